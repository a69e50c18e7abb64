def rm_X10_marked : Room := { frames := 2, cells := 0, slots := 0, locals := 46 }
set_option maxRecDepth 100000 in
set_option maxHeartbeats 4000000 in
theorem k_X10_marked {G : Gt} {l : Launch}  {h : Hp} {r0 : Nat} {x1 : Int32} {x2 : Int32} {x3 : Int32} {out : (Int32 × Hp)} (t_r0 : hpT h r0 = (1, 10))  (hf : f_X10_marked  h r0 x1 x2 x3 = some out) : Mt G l yX10_marked cX10_marked 4 (some .int) rm_X10_marked [.ref (G.2.2 + r0), .int x1, .int x2, .int x3] h (some (.int out.1)) out.2 0 0 0 := by
  refine r_met (by decide +kernel) (Nat.le_of_ble_eq_true rfl) ?_
  intro p e s m args below meth c ls C hr hlk hnm hR hS hl
  have hE : Ext h h := Ext.rf
  have hl : lv_has ls 4 [(0, .ref (G.2.2 + r0)), (1, .int x1), (2, .int x2), (3, .int x3)] := hl
  rw [f_X10_marked] at hf
  refine lv_aload_n C.x C.b dX10_marked_0 rfl (lv_at hl 0 rfl) ?_
  refine lv_iconst (v := (0 : Int32)) C.x C.b dX10_marked_1 (by decide) ?_
  refine r_puti C hR hS t_r0 fl_X10_103 fp_X10_10_0 rfl dX10_marked_2 (fun H locs hR hS => ?_)
  obtain ⟨h1, e_h1⟩ : ∃ y, y = upI h r0 0 (0 : Int32) := ⟨_, rfl⟩
  rw [← e_h1] at hR
  have hf := lt_e hf e_h1
  have hE := eI e_h1 hE
  have t_r0 := tI e_h1 t_r0
  refine lv_aload_n C.x C.b dX10_marked_5 rfl (lv_at hl 0 rfl) ?_
  refine lv_iload_n C.x C.b dX10_marked_6 rfl (lv_at hl 1 rfl) ?_
  obtain ⟨q2, h_q2, hf⟩ := bd_e hf
  refine r_callV (As := [.int x1]) (rest := []) C hR hS t_r0 rfl mk_X10_isCamp cl_X10_278 (k_X10_isCamp t_r0 h_q2) ⟨⟨Nat.le_of_ble_eq_true rfl, Nat.le_of_ble_eq_true rfl⟩, ⟨rfl, rfl⟩, Nat.le_of_ble_eq_true rfl, Nat.le_of_ble_eq_true rfl⟩ rfl hl.1 rfl (Nat.le_of_ble_eq_true rfl) dX10_marked_7 (fun H locs hR hS hE1 z_q2 => ?_)
  have z_q2 := z_q2 _ rfl
  refine lv_if_eq (tgt := 44) C.x C.b dX10_marked_10 (by decide) (fun c3 => ?_) (fun c3 => ?_)
  · have hf := it_t hf c3
    refine lv_iconst (v := (-1 : Int32)) C.x C.b dX10_marked_44 (by decide) ?_
    have hf := so_e hf
    subst hf
    exact r_iret C hr hlk hR hE hS dX10_marked_45
  · have hf := it_f hf c3
    refine lv_iload_n C.x C.b dX10_marked_13 rfl (lv_at hl 2 rfl) ?_
    refine lv_i2l C.x C.b dX10_marked_14 rfl ?_
    refine lv_lconst (v := (0 : Int64)) C.x C.b dX10_marked_15 (by decide) ?_
    refine lv_ldc2 C.x C.b C.ow (C.ts _ lk_X10_415) dX10_marked_16 ?_
    obtain ⟨q4, h_q4, hf⟩ := bd_e hf
    refine r_callS (As := [.long (x2.toInt64), .long (0 : Int64), .long (30 : Int64)]) (rest := []) C hR hS mk_X10_in cl_X10_117 (k_X10_in h_q4) ⟨⟨Nat.le_of_ble_eq_true rfl, Nat.le_of_ble_eq_true rfl⟩, ⟨rfl, rfl⟩, Nat.le_of_ble_eq_true rfl, Nat.le_of_ble_eq_true rfl⟩ rfl hl.1 rfl (Nat.le_of_ble_eq_true rfl) dX10_marked_19 (fun H locs hR hS hE1 z_q4 => ?_)
    have z_q4 := z_q4 _ rfl
    refine lv_if_eq (tgt := 44) C.x C.b dX10_marked_22 (by decide) (fun c5 => ?_) (fun c5 => ?_)
    · have hf := it_t hf c5
      refine lv_iconst (v := (-1 : Int32)) C.x C.b dX10_marked_44 (by decide) ?_
      have hf := so_e hf
      subst hf
      exact r_iret C hr hlk hR hE hS dX10_marked_45
    · have hf := it_f hf c5
      refine lv_iload_n C.x C.b dX10_marked_25 rfl (lv_at hl 3 rfl) ?_
      refine lv_i2l C.x C.b dX10_marked_26 rfl ?_
      refine lv_lconst (v := (0 : Int64)) C.x C.b dX10_marked_27 (by decide) ?_
      refine lv_lconst (v := (1 : Int64)) C.x C.b dX10_marked_28 (by decide) ?_
      obtain ⟨q6, h_q6, hf⟩ := bd_e hf
      refine r_callS (As := [.long (x3.toInt64), .long (0 : Int64), .long (1 : Int64)]) (rest := []) C hR hS mk_X10_in cl_X10_117 (k_X10_in h_q6) ⟨⟨Nat.le_of_ble_eq_true rfl, Nat.le_of_ble_eq_true rfl⟩, ⟨rfl, rfl⟩, Nat.le_of_ble_eq_true rfl, Nat.le_of_ble_eq_true rfl⟩ rfl hl.1 rfl (Nat.le_of_ble_eq_true rfl) dX10_marked_29 (fun H locs hR hS hE1 z_q6 => ?_)
      have z_q6 := z_q6 _ rfl
      refine lv_if_eq (tgt := 44) C.x C.b dX10_marked_32 (by decide) (fun c7 => ?_) (fun c7 => ?_)
      · have hf := it_t hf c7
        refine lv_iconst (v := (-1 : Int32)) C.x C.b dX10_marked_44 (by decide) ?_
        have hf := so_e hf
        subst hf
        exact r_iret C hr hlk hR hE hS dX10_marked_45
      · have hf := it_f hf c7
        refine lv_aload_n C.x C.b dX10_marked_35 rfl (lv_at hl 0 rfl) ?_
        refine r_geti C hR t_r0 fl_X10_197 rfl dX10_marked_36 ?_
        refine lv_bipush (v := (10 : Int32)) C.x C.b dX10_marked_39 (by decide) ?_
        refine lv_icmp_ne (tgt := 46) C.x C.b dX10_marked_41 (by decide) (fun c8 => ?_) (fun c8 => ?_)
        · have hf := it_f hf c8
          refine lv_aload_n C.x C.b dX10_marked_46 rfl (lv_at hl 0 rfl) ?_
          obtain ⟨g9, hf⟩ := gd_e hf
          refine r_getr C hR t_r0 fl_X10_66 (by decide) (nz_e g9) dX10_marked_47 (fun tq10 => ?_)
          have tg9 := okA tq10 rfl
          refine lv_aload_n C.x C.b dX10_marked_50 rfl (lv_at hl 0 rfl) ?_
          refine r_geti C hR t_r0 fl_X10_197 rfl dX10_marked_51 ?_
          refine lv_iload_n C.x C.b dX10_marked_54 rfl (lv_at hl 1 rfl) ?_
          obtain ⟨g11, hf⟩ := gd_e hf
          refine r_iast C hR hS tg9 g11 dX10_marked_55 (fun H locs hR hS => ?_)
          obtain ⟨h12, e_h12⟩ : ∃ y, y = upI h1 (hpR h1 r0 32) (ix (hpI h1 r0 31)) x1 := ⟨_, rfl⟩
          rw [← e_h12] at hR
          have hf := lt_e hf e_h12
          have hE := eI e_h12 hE
          have t_r0 := tI e_h12 t_r0
          refine lv_aload_n C.x C.b dX10_marked_56 rfl (lv_at hl 0 rfl) ?_
          obtain ⟨g13, hf⟩ := gd_e hf
          refine r_getr C hR t_r0 fl_X10_69 (by decide) (nz_e g13) dX10_marked_57 (fun tq14 => ?_)
          have tg13 := okA tq14 rfl
          refine lv_aload_n C.x C.b dX10_marked_60 rfl (lv_at hl 0 rfl) ?_
          refine r_geti C hR t_r0 fl_X10_197 rfl dX10_marked_61 ?_
          refine lv_iload_n C.x C.b dX10_marked_64 rfl (lv_at hl 2 rfl) ?_
          obtain ⟨g15, hf⟩ := gd_e hf
          refine r_iast C hR hS tg13 g15 dX10_marked_65 (fun H locs hR hS => ?_)
          obtain ⟨h16, e_h16⟩ : ∃ y, y = upI h12 (hpR h12 r0 33) (ix (hpI h12 r0 31)) x2 := ⟨_, rfl⟩
          rw [← e_h16] at hR
          have hf := lt_e hf e_h16
          have hE := eI e_h16 hE
          have t_r0 := tI e_h16 t_r0
          refine lv_aload_n C.x C.b dX10_marked_66 rfl (lv_at hl 0 rfl) ?_
          obtain ⟨g17, hf⟩ := gd_e hf
          refine r_getr C hR t_r0 fl_X10_72 (by decide) (nz_e g17) dX10_marked_67 (fun tq18 => ?_)
          have tg17 := okA tq18 rfl
          refine lv_aload_n C.x C.b dX10_marked_70 rfl (lv_at hl 0 rfl) ?_
          refine r_geti C hR t_r0 fl_X10_197 rfl dX10_marked_71 ?_
          refine lv_iload_n C.x C.b dX10_marked_74 rfl (lv_at hl 3 rfl) ?_
          obtain ⟨g19, hf⟩ := gd_e hf
          refine r_iast C hR hS tg17 g19 dX10_marked_75 (fun H locs hR hS => ?_)
          obtain ⟨h20, e_h20⟩ : ∃ y, y = upI h16 (hpR h16 r0 34) (ix (hpI h16 r0 31)) x3 := ⟨_, rfl⟩
          rw [← e_h20] at hR
          have hf := lt_e hf e_h20
          have hE := eI e_h20 hE
          have t_r0 := tI e_h20 t_r0
          refine lv_aload_n C.x C.b dX10_marked_76 rfl (lv_at hl 0 rfl) ?_
          refine lv_dup C.x C.b dX10_marked_77 rfl ?_
          refine r_geti C hR t_r0 fl_X10_197 rfl dX10_marked_78 ?_
          refine lv_iconst (v := (1 : Int32)) C.x C.b dX10_marked_81 (by decide) ?_
          refine lv_iadd C.x C.b dX10_marked_82 ?_
          refine r_puti C hR hS t_r0 fl_X10_197 fp_X10_10_31 rfl dX10_marked_83 (fun H locs hR hS => ?_)
          obtain ⟨h21, e_h21⟩ : ∃ y, y = upI h20 r0 31 ((hpI h20 r0 31) + (1 : Int32)) := ⟨_, rfl⟩
          rw [← e_h21] at hR
          have hf := lt_e hf e_h21
          have hE := eI e_h21 hE
          have t_r0 := tI e_h21 t_r0
          refine lv_aload_n C.x C.b dX10_marked_86 rfl (lv_at hl 0 rfl) ?_
          refine r_geti C hR t_r0 fl_X10_197 rfl dX10_marked_87 ?_
          have hf := so_e hf
          subst hf
          exact r_iret C hr hlk hR hE hS dX10_marked_90
        · have hf := it_t hf c8
          refine lv_iconst (v := (-1 : Int32)) C.x C.b dX10_marked_44 (by decide) ?_
          have hf := so_e hf
          subst hf
          exact r_iret C hr hlk hR hE hS dX10_marked_45

def rm_X10_wiped : Room := { frames := 0, cells := 0, slots := 0, locals := 0 }
set_option maxRecDepth 100000 in
set_option maxHeartbeats 4000000 in
theorem k_X10_wiped {G : Gt} {l : Launch}  {h : Hp} {r0 : Nat} {out : (Int32 × Hp)} (t_r0 : hpT h r0 = (1, 10))  (hf : f_X10_wiped  h r0 = some out) : Mt G l yX10_wiped cX10_wiped 2 (some .int) rm_X10_wiped [.ref (G.2.2 + r0)] h (some (.int out.1)) out.2 0 0 0 := by
  refine r_met (by decide +kernel) (Nat.le_of_ble_eq_true rfl) ?_
  intro p e s m args below meth c ls C hr hlk hnm hR hS hl
  have hE : Ext h h := Ext.rf
  have hl : lv_has ls 2 [(0, .ref (G.2.2 + r0))] := hl
  rw [f_X10_wiped] at hf
  refine lv_aload_n C.x C.b dX10_wiped_0 rfl (lv_at hl 0 rfl) ?_
  refine lv_iconst (v := (0 : Int32)) C.x C.b dX10_wiped_1 (by decide) ?_
  refine r_puti C hR hS t_r0 fl_X10_103 fp_X10_10_0 rfl dX10_wiped_2 (fun H locs hR hS => ?_)
  obtain ⟨h1, e_h1⟩ : ∃ y, y = upI h r0 0 (0 : Int32) := ⟨_, rfl⟩
  rw [← e_h1] at hR
  have hf := lt_e hf e_h1
  have hE := eI e_h1 hE
  have t_r0 := tI e_h1 t_r0
  refine lv_aload_n C.x C.b dX10_wiped_5 rfl (lv_at hl 0 rfl) ?_
  refine r_geti C hR t_r0 fl_X10_197 rfl dX10_wiped_6 ?_
  refine lv_topi (fun v2 e_v2 => ?_)
  have hf := lt_e hf e_v2
  refine lv_istore_n (lv' := [(1, .int v2), (0, .ref (G.2.2 + r0))]) C.x C.b dX10_wiped_9 rfl hl (by decide) rfl (fun ls hl => ?_)
  refine lv_aload_n C.x C.b dX10_wiped_10 rfl (lv_at hl 1 rfl) ?_
  refine lv_iconst (v := (0 : Int32)) C.x C.b dX10_wiped_11 (by decide) ?_
  refine r_puti C hR hS t_r0 fl_X10_197 fp_X10_10_31 rfl dX10_wiped_12 (fun H locs hR hS => ?_)
  obtain ⟨h3, e_h3⟩ : ∃ y, y = upI h1 r0 31 (0 : Int32) := ⟨_, rfl⟩
  rw [← e_h3] at hR
  have hf := lt_e hf e_h3
  have hE := eI e_h3 hE
  have t_r0 := tI e_h3 t_r0
  refine lv_iload_n C.x C.b dX10_wiped_15 rfl (lv_at hl 0 rfl) ?_
  have hf := so_e hf
  subst hf
  exact r_iret C hr hlk hR hE hS dX10_wiped_16

def rm_X10_isLaw : Room := { frames := 7, cells := 0, slots := 0, locals := 171 }
def P_X10_isLaw_113 (G : Gt) (l : Launch) (p : Program) (e : Env) (s : State) (m : MethodId) (args : Array Value) (below : List Frame) (meth : Method) (c : Code) (h0 : Hp) (out : (Int32 × Hp)) (r0 : Nat) (x1 : Int32) (k : Hp → Int32 → Int32 → Option (Int32 × Hp)) : Prop := ∀ (H : Heap) (locs : List Loc) (ls : Array Slot) (h : Hp) (s0 : Int32) (x3 : Int32), k h s0 x3 = some out → Ext h0 h → Rel G h H → va_S (AA G.2.2) s.heap H locs → hpT h r0 = (1, 10) → narrow .boolean (.int s0) = .int s0 → lv_has ls 4 [(0, .ref (G.2.2 + r0)), (1, .int x1), (3, .int x3)] → W p l e rm_X10_isLaw s m args below meth c H locs 0 0 (MQ below (Qm G h0 out.2 (some (.int out.1)) 1) args s 0 0 (AA G.2.2)) (F0 m 113 ls [.int s0])
def P_X10_isLaw_112 (G : Gt) (l : Launch) (p : Program) (e : Env) (s : State) (m : MethodId) (args : Array Value) (below : List Frame) (meth : Method) (c : Code) (h0 : Hp) (out : (Int32 × Hp)) (r0 : Nat) (x1 : Int32) (k : Hp → Int32 → Option (Int32 × Hp)) : Prop := ∀ (H : Heap) (locs : List Loc) (ls : Array Slot) (h : Hp) (x3 : Int32), k h x3 = some out → Ext h0 h → Rel G h H → va_S (AA G.2.2) s.heap H locs → hpT h r0 = (1, 10) → lv_has ls 4 [(0, .ref (G.2.2 + r0)), (1, .int x1), (3, .int x3)] → W p l e rm_X10_isLaw s m args below meth c H locs 0 0 (MQ below (Qm G h0 out.2 (some (.int out.1)) 1) args s 0 0 (AA G.2.2)) (F0 m 112 ls [])
def P_X10_isLaw_58 (G : Gt) (l : Launch) (p : Program) (e : Env) (s : State) (m : MethodId) (args : Array Value) (below : List Frame) (meth : Method) (c : Code) (h0 : Hp) (out : (Int32 × Hp)) (r0 : Nat) (x1 : Int32) (k : Hp → Int32 → Int32 → Option (Int32 × Hp)) : Prop := ∀ (H : Heap) (locs : List Loc) (ls : Array Slot) (h : Hp) (x2 : Int32) (x3 : Int32), k h x2 x3 = some out → Ext h0 h → Rel G h H → va_S (AA G.2.2) s.heap H locs → hpT h r0 = (1, 10) → narrow .boolean (.int x2) = .int x2 → lv_has ls 4 [(0, .ref (G.2.2 + r0)), (1, .int x1), (2, .int x2), (3, .int x3)] → W p l e rm_X10_isLaw s m args below meth c H locs 0 0 (MQ below (Qm G h0 out.2 (some (.int out.1)) 1) args s 0 0 (AA G.2.2)) (F0 m 58 ls [])
def P_X10_isLaw_11 (G : Gt) (l : Launch) (p : Program) (e : Env) (s : State) (m : MethodId) (args : Array Value) (below : List Frame) (meth : Method) (c : Code) (h0 : Hp) (out : (Int32 × Hp)) (r0 : Nat) (x1 : Int32) (k : Hp → Int32 → Option (Int32 × Hp)) : Prop := ∀ (H : Heap) (locs : List Loc) (ls : Array Slot) (h : Hp) (x2 : Int32), k h x2 = some out → Ext h0 h → Rel G h H → va_S (AA G.2.2) s.heap H locs → hpT h r0 = (1, 10) → lv_has ls 4 [(0, .ref (G.2.2 + r0)), (1, .int x1), (2, .int x2)] → W p l e rm_X10_isLaw s m args below meth c H locs 0 0 (MQ below (Qm G h0 out.2 (some (.int out.1)) 1) args s 0 0 (AA G.2.2)) (F0 m 11 ls [])
set_option maxRecDepth 100000 in
set_option maxHeartbeats 4000000 in
theorem w_X10_isLaw_113 {G : Gt} {l : Launch} {p : Program} {e : Env} {s : State} {m : MethodId} {args : Array Value} {below : List Frame} {meth : Method} {c : Code}  {h0 : Hp} {out : (Int32 × Hp)} {r0 : Nat} {x1 : Int32} {k58 : Hp → Int32 → Int32 → Option (Int32 × Hp)} (C : Cx G p m c cX10_isLaw 4 s args RX10) (hr : meth.sig.returnType = some .boolean) (hlk : meth.locks = false)  (hk58 : P_X10_isLaw_58 G l p e s m args below meth c h0 out r0 x1 k58) : P_X10_isLaw_113 G l p e s m args below meth c h0 out r0 x1 (f_X10_isLaw_113 r0 x1 k58) := by
  intro H locs ls h s0 x3 hf hE hR hS t_r0 z_s0 hl
  rw [f_X10_isLaw_113] at hf
  refine lv_istore_n (lv' := [(2, .int s0), (0, .ref (G.2.2 + r0)), (1, .int x1), (3, .int x3)]) C.x C.b dX10_isLaw_113 rfl hl (by decide) rfl (fun ls hl => ?_)
  obtain ⟨v33, e_v33⟩ : ∃ y : Int32, y = x3 + (1 : Int32) := ⟨_, rfl⟩
  have hf := lt_e hf e_v33
  refine lv_iinc (v := v33) (lv' := [(3, .int v33), (2, .int s0), (0, .ref (G.2.2 + r0)), (1, .int x1)]) C.x C.b dX10_isLaw_114 hl (k := 3) rfl (by rw [e_v33]; rfl) (by decide) rfl (fun ls hl => ?_)
  refine lv_goto (tgt := 58) C.x C.b dX10_isLaw_117 (by decide) ?_
  exact hk58 _ _ _ _ _ _ hf hE hR hS t_r0 z_s0 (lv_sub hl [2, 3, 1, 0] rfl)
set_option maxRecDepth 100000 in
set_option maxHeartbeats 4000000 in
theorem w_X10_isLaw_112 {G : Gt} {l : Launch} {p : Program} {e : Env} {s : State} {m : MethodId} {args : Array Value} {below : List Frame} {meth : Method} {c : Code}  {h0 : Hp} {out : (Int32 × Hp)} {r0 : Nat} {x1 : Int32} {k58 : Hp → Int32 → Int32 → Option (Int32 × Hp)} (C : Cx G p m c cX10_isLaw 4 s args RX10) (hr : meth.sig.returnType = some .boolean) (hlk : meth.locks = false)  (hk58 : P_X10_isLaw_58 G l p e s m args below meth c h0 out r0 x1 k58) : P_X10_isLaw_112 G l p e s m args below meth c h0 out r0 x1 (f_X10_isLaw_112 r0 x1 k58) := by
  intro H locs ls h x3 hf hE hR hS t_r0 hl
  rw [f_X10_isLaw_112] at hf
  refine lv_iconst (v := (0 : Int32)) C.x C.b dX10_isLaw_112 (by decide) ?_
  exact w_X10_isLaw_113 C hr hlk hk58 _ _ _ _ _ _ hf hE hR hS t_r0 z_0 (lv_sub hl [0, 1, 2] rfl)
set_option maxRecDepth 100000 in
set_option maxHeartbeats 4000000 in
theorem w_X10_isLaw_58 {G : Gt} {l : Launch} {p : Program} {e : Env} {s : State} {m : MethodId} {args : Array Value} {below : List Frame} {meth : Method} {c : Code}  {h0 : Hp} {out : (Int32 × Hp)} {r0 : Nat} {x1 : Int32}  (C : Cx G p m c cX10_isLaw 4 s args RX10) (hr : meth.sig.returnType = some .boolean) (hlk : meth.locks = false)   (n : Nat) : P_X10_isLaw_58 G l p e s m args below meth c h0 out r0 x1 (f_X10_isLaw_58 r0 x1 n) := by
  induction n with
  | zero => intro H locs ls h x2 x3 hf hE hR hS t_r0 z_x2 hl; cases hf
  | succ n hk58 =>
    intro H locs ls h x2 x3 hf hE hR hS t_r0 z_x2 hl
    rw [f_X10_isLaw_58] at hf
    obtain ⟨k58, e_k58⟩ : ∃ y, y = f_X10_isLaw_58 r0 x1 n := ⟨_, rfl⟩
    have hf := lt_e hf e_k58
    rw [← e_k58] at hk58
    refine lv_iload_n C.x C.b dX10_isLaw_58 rfl (lv_at hl 3 rfl) ?_
    refine lv_aload_n C.x C.b dX10_isLaw_59 rfl (lv_at hl 0 rfl) ?_
    refine r_geti C hR t_r0 fl_X10_197 rfl dX10_isLaw_60 ?_
    refine lv_icmp_ge (tgt := 120) C.x C.b dX10_isLaw_63 (by decide) (fun c16 => ?_) (fun c16 => ?_)
    · have hf := it_t hf c16
      refine lv_iload_n C.x C.b dX10_isLaw_120 rfl (lv_at hl 2 rfl) ?_
      have hf := so_e hf
      subst hf
      exact r_zret C hr hlk hR hE hS z_x2 dX10_isLaw_121
    · have hf := it_f hf c16
      refine lv_iload_n C.x C.b dX10_isLaw_66 rfl (lv_at hl 2 rfl) ?_
      refine lv_if_eq (tgt := 112) C.x C.b dX10_isLaw_67 (by decide) (fun c17 => ?_) (fun c17 => ?_)
      · have hf := it_t hf c17
        exact w_X10_isLaw_112 C hr hlk hk58 _ _ _ _ _ hf hE hR hS t_r0 (lv_sub hl [0, 1, 3] rfl)
      · have hf := it_f hf c17
        refine lv_aload_n C.x C.b dX10_isLaw_70 rfl (lv_at hl 0 rfl) ?_
        obtain ⟨g18, hf⟩ := gd_e hf
        refine r_getr C hR t_r0 fl_X10_75 (by decide) (nz_e g18) dX10_isLaw_71 (fun tq19 => ?_)
        have tg18 := okA tq19 rfl
        refine lv_iload_n C.x C.b dX10_isLaw_74 rfl (lv_at hl 1 rfl) ?_
        refine lv_bipush (v := (31 : Int32)) C.x C.b dX10_isLaw_75 (by decide) ?_
        refine lv_imul C.x C.b dX10_isLaw_77 ?_
        refine lv_aload_n C.x C.b dX10_isLaw_78 rfl (lv_at hl 0 rfl) ?_
        obtain ⟨g20, hf⟩ := gd_e hf
        refine r_getr C hR t_r0 fl_X10_69 (by decide) (nz_e g20) dX10_isLaw_79 (fun tq21 => ?_)
        have tg20 := okA tq21 rfl
        refine lv_iload_n C.x C.b dX10_isLaw_82 rfl (lv_at hl 3 rfl) ?_
        obtain ⟨g22, hf⟩ := gd_e hf
        refine r_iald C hR tg20 g22 dX10_isLaw_83 ?_
        refine lv_iadd C.x C.b dX10_isLaw_84 ?_
        obtain ⟨g23, hf⟩ := gd_e hf
        refine r_iald C hR tg18 g23 dX10_isLaw_85 ?_
        refine lv_i2l C.x C.b dX10_isLaw_86 rfl ?_
        refine lv_aload_n C.x C.b dX10_isLaw_87 rfl (lv_at hl 0 rfl) ?_
        obtain ⟨g24, hf⟩ := gd_e hf
        refine r_getr C hR t_r0 fl_X10_66 (by decide) (nz_e g24) dX10_isLaw_88 (fun tq25 => ?_)
        have tg24 := okA tq25 rfl
        refine lv_iload_n C.x C.b dX10_isLaw_91 rfl (lv_at hl 3 rfl) ?_
        obtain ⟨g26, hf⟩ := gd_e hf
        refine r_iald C hR tg24 g26 dX10_isLaw_92 ?_
        obtain ⟨q27, h_q27, hf⟩ := bd_e hf
        refine r_callS (As := [.long ((hpI h (hpR h r0 35) (ix ((x1 * (31 : Int32)) + (hpI h (hpR h r0 33) (ix x3))))).toInt64), .int (hpI h (hpR h r0 32) (ix x3))]) (rest := []) C hR hS mk_X10_has cl_X10_137 (k_X10_has h_q27) ⟨⟨Nat.le_of_ble_eq_true rfl, Nat.le_of_ble_eq_true rfl⟩, ⟨rfl, rfl⟩, Nat.le_of_ble_eq_true rfl, Nat.le_of_ble_eq_true rfl⟩ rfl hl.1 rfl (Nat.le_of_ble_eq_true rfl) dX10_isLaw_93 (fun H locs hR hS hE1 z_q27 => ?_)
        have z_q27 := z_q27 _ rfl
        obtain ⟨q28, h_q28, hf⟩ := bd_e hf
        refine r_callS (As := [.int q27]) (rest := []) C hR hS mk_X10_flag cl_X10_163 (k_X10_flag h_q28) ⟨⟨Nat.le_of_ble_eq_true rfl, Nat.le_of_ble_eq_true rfl⟩, ⟨rfl, rfl⟩, Nat.le_of_ble_eq_true rfl, Nat.le_of_ble_eq_true rfl⟩ rfl hl.1 rfl (Nat.le_of_ble_eq_true rfl) dX10_isLaw_96 (fun H locs hR hS hE1 z_q28 => ?_)
        refine lv_aload_n C.x C.b dX10_isLaw_99 rfl (lv_at hl 0 rfl) ?_
        obtain ⟨g29, hf⟩ := gd_e hf
        refine r_getr C hR t_r0 fl_X10_72 (by decide) (nz_e g29) dX10_isLaw_100 (fun tq30 => ?_)
        have tg29 := okA tq30 rfl
        refine lv_iload_n C.x C.b dX10_isLaw_103 rfl (lv_at hl 3 rfl) ?_
        obtain ⟨g31, hf⟩ := gd_e hf
        refine r_iald C hR tg29 g31 dX10_isLaw_104 ?_
        refine lv_icmp_ne (tgt := 112) C.x C.b dX10_isLaw_105 (by decide) (fun c32 => ?_) (fun c32 => ?_)
        · have hf := it_f hf c32
          exact w_X10_isLaw_112 C hr hlk hk58 _ _ _ _ _ hf hE hR hS t_r0 (lv_sub hl [0, 1, 3] rfl)
        · have hf := it_t hf c32
          refine lv_iconst (v := (1 : Int32)) C.x C.b dX10_isLaw_108 (by decide) ?_
          refine lv_goto (tgt := 113) C.x C.b dX10_isLaw_109 (by decide) ?_
          exact w_X10_isLaw_113 C hr hlk hk58 _ _ _ _ _ _ hf hE hR hS t_r0 z_1 (lv_sub hl [0, 1, 3] rfl)
set_option maxRecDepth 100000 in
set_option maxHeartbeats 4000000 in
theorem w_X10_isLaw_11 {G : Gt} {l : Launch} {p : Program} {e : Env} {s : State} {m : MethodId} {args : Array Value} {below : List Frame} {meth : Method} {c : Code}  {h0 : Hp} {out : (Int32 × Hp)} {r0 : Nat} {x1 : Int32}  (C : Cx G p m c cX10_isLaw 4 s args RX10) (hr : meth.sig.returnType = some .boolean) (hlk : meth.locks = false)   (n : Nat) : P_X10_isLaw_11 G l p e s m args below meth c h0 out r0 x1 (f_X10_isLaw_11 r0 x1 n) := by
  induction n with
  | zero => intro H locs ls h x2 hf hE hR hS t_r0 hl; cases hf
  | succ n hk11 =>
    intro H locs ls h x2 hf hE hR hS t_r0 hl
    rw [f_X10_isLaw_11] at hf
    obtain ⟨k11, e_k11⟩ : ∃ y, y = f_X10_isLaw_11 r0 x1 n := ⟨_, rfl⟩
    have hf := lt_e hf e_k11
    rw [← e_k11] at hk11
    refine lv_iload_n C.x C.b dX10_isLaw_11 rfl (lv_at hl 2 rfl) ?_
    refine lv_bipush (v := (30 : Int32)) C.x C.b dX10_isLaw_12 (by decide) ?_
    refine lv_icmp_gt (tgt := 49) C.x C.b dX10_isLaw_14 (by decide) (fun c3 => ?_) (fun c3 => ?_)
    · have hf := it_t hf c3
      refine lv_aload_n C.x C.b dX10_isLaw_49 rfl (lv_at hl 0 rfl) ?_
      refine lv_iconst (v := (-1 : Int32)) C.x C.b dX10_isLaw_50 (by decide) ?_
      refine r_puti C hR hS t_r0 fl_X10_45 fp_X10_10_21 rfl dX10_isLaw_51 (fun H locs hR hS => ?_)
      obtain ⟨h4, e_h4⟩ : ∃ y, y = upI h r0 21 (-1 : Int32) := ⟨_, rfl⟩
      rw [← e_h4] at hR
      have hf := lt_e hf e_h4
      have hE := eI e_h4 hE
      have t_r0 := tI e_h4 t_r0
      refine lv_iconst (v := (1 : Int32)) C.x C.b dX10_isLaw_54 (by decide) ?_
      refine lv_istore_n (lv' := [(2, .int (1 : Int32)), (0, .ref (G.2.2 + r0)), (1, .int x1)]) C.x C.b dX10_isLaw_55 rfl hl (by decide) rfl (fun ls hl => ?_)
      refine lv_iconst (v := (0 : Int32)) C.x C.b dX10_isLaw_56 (by decide) ?_
      refine lv_istore_n (lv' := [(3, .int (0 : Int32)), (2, .int (1 : Int32)), (0, .ref (G.2.2 + r0)), (1, .int x1)]) C.x C.b dX10_isLaw_57 rfl hl (by decide) rfl (fun ls hl => ?_)
      exact w_X10_isLaw_58 C hr hlk FU _ _ _ _ _ _ hf hE hR hS t_r0 z_1 (lv_sub hl [2, 3, 1, 0] rfl)
    · have hf := it_f hf c3
      refine lv_aload_n C.x C.b dX10_isLaw_17 rfl (lv_at hl 0 rfl) ?_
      obtain ⟨g5, hf⟩ := gd_e hf
      refine r_getr C hR t_r0 fl_X10_75 (by decide) (nz_e g5) dX10_isLaw_18 (fun tq6 => ?_)
      have tg5 := okA tq6 rfl
      refine lv_iload_n C.x C.b dX10_isLaw_21 rfl (lv_at hl 1 rfl) ?_
      refine lv_bipush (v := (31 : Int32)) C.x C.b dX10_isLaw_22 (by decide) ?_
      refine lv_imul C.x C.b dX10_isLaw_24 ?_
      refine lv_iload_n C.x C.b dX10_isLaw_25 rfl (lv_at hl 2 rfl) ?_
      refine lv_iadd C.x C.b dX10_isLaw_26 ?_
      refine lv_aload_n C.x C.b dX10_isLaw_27 rfl (lv_at hl 0 rfl) ?_
      obtain ⟨g7, hf⟩ := gd_e hf
      refine r_getr C hR t_r0 fl_X10_24 (by decide) (nz_e g7) dX10_isLaw_28 (fun tq8 => ?_)
      have tg7 := okA tq8 rfl
      obtain ⟨q9, h_q9, hf⟩ := bd_e hf
      refine r_callS (As := [.ref (G.2.2 + (hpR h r0 7))]) (rest := [.int ((x1 * (31 : Int32)) + x2), .ref (G.2.2 + (hpR h r0 35))]) C hR hS mk_X10_on cl_X10_311 (k_X10_on tg7 h_q9) ⟨⟨Nat.le_of_ble_eq_true rfl, Nat.le_of_ble_eq_true rfl⟩, ⟨rfl, rfl⟩, Nat.le_of_ble_eq_true rfl, Nat.le_of_ble_eq_true rfl⟩ rfl hl.1 rfl (Nat.le_of_ble_eq_true rfl) dX10_isLaw_31 (fun H locs hR hS hE1 z_q9 => ?_)
      obtain ⟨g10, hf⟩ := gd_e hf
      refine r_iast C hR hS tg5 g10 dX10_isLaw_34 (fun H locs hR hS => ?_)
      obtain ⟨h11, e_h11⟩ : ∃ y, y = upI h (hpR h r0 35) (ix ((x1 * (31 : Int32)) + x2)) q9 := ⟨_, rfl⟩
      rw [← e_h11] at hR
      have hf := lt_e hf e_h11
      have hE := eI e_h11 hE
      have t_r0 := tI e_h11 t_r0
      refine lv_aload_n C.x C.b dX10_isLaw_35 rfl (lv_at hl 0 rfl) ?_
      refine lv_aload_n C.x C.b dX10_isLaw_36 rfl (lv_at hl 0 rfl) ?_
      obtain ⟨g12, hf⟩ := gd_e hf
      refine r_getr C hR t_r0 fl_X10_24 (by decide) (nz_e g12) dX10_isLaw_37 (fun tq13 => ?_)
      have tg12 := okA tq13 rfl
      obtain ⟨q14, h_q14, hf⟩ := bd_e hf
      refine r_callV (As := [.ref (G.2.2 + (hpR h11 r0 7))]) (rest := []) C hR hS t_r0 rfl mk_X10_yearGoes cl_X10_318 (k_X10_yearGoes t_r0 tg12 h_q14) ⟨⟨Nat.le_of_ble_eq_true rfl, Nat.le_of_ble_eq_true rfl⟩, ⟨rfl, rfl⟩, Nat.le_of_ble_eq_true rfl, Nat.le_of_ble_eq_true rfl⟩ rfl hl.1 rfl (Nat.le_of_ble_eq_true rfl) dX10_isLaw_40 (fun H locs hR hS hE1 z_q14 => ?_)
      have hE := hE.tr hE1
      have t_r0 := hE1.at t_r0 (by decide)
      obtain ⟨v15, e_v15⟩ : ∃ y : Int32, y = x2 + (1 : Int32) := ⟨_, rfl⟩
      have hf := lt_e hf e_v15
      refine lv_iinc (v := v15) (lv' := [(2, .int v15), (0, .ref (G.2.2 + r0)), (1, .int x1)]) C.x C.b dX10_isLaw_43 hl (k := 2) rfl (by rw [e_v15]; rfl) (by decide) rfl (fun ls hl => ?_)
      refine lv_goto (tgt := 11) C.x C.b dX10_isLaw_46 (by decide) ?_
      exact hk11 _ _ _ _ _ hf hE hR hS t_r0 (lv_sub hl [1, 2, 0] rfl)
set_option maxRecDepth 100000 in
set_option maxHeartbeats 4000000 in
theorem k_X10_isLaw {G : Gt} {l : Launch}  {h : Hp} {r0 : Nat} {x1 : Int32} {out : (Int32 × Hp)} (t_r0 : hpT h r0 = (1, 10))  (hf : f_X10_isLaw  h r0 x1 = some out) : Mt G l yX10_isLaw cX10_isLaw 4 (some .boolean) rm_X10_isLaw [.ref (G.2.2 + r0), .int x1] h (some (.int out.1)) out.2 1 0 0 := by
  refine r_met (by decide +kernel) (Nat.le_of_ble_eq_true rfl) ?_
  intro p e s m args below meth c ls C hr hlk hnm hR hS hl
  have hE : Ext h h := Ext.rf
  have hl : lv_has ls 4 [(0, .ref (G.2.2 + r0)), (1, .int x1)] := hl
  rw [f_X10_isLaw] at hf
  refine lv_aload_n C.x C.b dX10_isLaw_0 rfl (lv_at hl 0 rfl) ?_
  obtain ⟨q1, h_q1, hf⟩ := bd_e hf
  refine r_callV (As := []) (rest := []) C hR hS t_r0 rfl mk_X10_copies cl_X10_379 (k_X10_copies t_r0 h_q1) ⟨⟨Nat.le_of_ble_eq_true rfl, Nat.le_of_ble_eq_true rfl⟩, ⟨rfl, rfl⟩, Nat.le_of_ble_eq_true rfl, Nat.le_of_ble_eq_true rfl⟩ rfl hl.1 rfl (Nat.le_of_ble_eq_true rfl) dX10_isLaw_1 (fun H locs hR hS hE1 z_q1 => ?_)
  have hE := hE.tr hE1
  have t_r0 := hE1.at t_r0 (by decide)
  refine lv_aload_n C.x C.b dX10_isLaw_4 rfl (lv_at hl 0 rfl) ?_
  refine lv_iload_n C.x C.b dX10_isLaw_5 rfl (lv_at hl 1 rfl) ?_
  refine r_puti C hR hS t_r0 fl_X10_45 fp_X10_10_21 rfl dX10_isLaw_6 (fun H locs hR hS => ?_)
  obtain ⟨h2, e_h2⟩ : ∃ y, y = upI q1 r0 21 x1 := ⟨_, rfl⟩
  rw [← e_h2] at hR
  have hf := lt_e hf e_h2
  have hE := eI e_h2 hE
  have t_r0 := tI e_h2 t_r0
  refine lv_iconst (v := (0 : Int32)) C.x C.b dX10_isLaw_9 (by decide) ?_
  refine lv_istore_n (lv' := [(2, .int (0 : Int32)), (0, .ref (G.2.2 + r0)), (1, .int x1)]) C.x C.b dX10_isLaw_10 rfl hl (by decide) rfl (fun ls hl => ?_)
  exact w_X10_isLaw_11 C hr hlk FU _ _ _ _ _ hf hE hR hS t_r0 (lv_sub hl [1, 2, 0] rfl)

def rm_X10_laws : Room := { frames := 8, cells := 0, slots := 0, locals := 194 }
def P_X10_laws_50 (G : Gt) (l : Launch) (p : Program) (e : Env) (s : State) (m : MethodId) (args : Array Value) (below : List Frame) (meth : Method) (c : Code) (h0 : Hp) (out : (Int32 × Hp)) (r0 : Nat) (k : Hp → Int32 → Int32 → Int32 → Option (Int32 × Hp)) : Prop := ∀ (H : Heap) (locs : List Loc) (ls : Array Slot) (h : Hp) (x1 : Int32) (x2 : Int32) (x3 : Int32), k h x1 x2 x3 = some out → Ext h0 h → Rel G h H → va_S (AA G.2.2) s.heap H locs → hpT h r0 = (1, 10) → narrow .boolean (.int x3) = .int x3 → lv_has ls 4 [(0, .ref (G.2.2 + r0)), (1, .int x1), (2, .int x2), (3, .int x3)] → W p l e rm_X10_laws s m args below meth c H locs 0 0 (MQ below (Qm G h0 out.2 (some (.int out.1)) 0) args s 0 0 (AA G.2.2)) (F0 m 50 ls [])
def P_X10_laws_14 (G : Gt) (l : Launch) (p : Program) (e : Env) (s : State) (m : MethodId) (args : Array Value) (below : List Frame) (meth : Method) (c : Code) (h0 : Hp) (out : (Int32 × Hp)) (r0 : Nat) (k : Hp → Int32 → Int32 → Option (Int32 × Hp)) : Prop := ∀ (H : Heap) (locs : List Loc) (ls : Array Slot) (h : Hp) (x1 : Int32) (x2 : Int32), k h x1 x2 = some out → Ext h0 h → Rel G h H → va_S (AA G.2.2) s.heap H locs → hpT h r0 = (1, 10) → lv_has ls 4 [(0, .ref (G.2.2 + r0)), (1, .int x1), (2, .int x2)] → W p l e rm_X10_laws s m args below meth c H locs 0 0 (MQ below (Qm G h0 out.2 (some (.int out.1)) 0) args s 0 0 (AA G.2.2)) (F0 m 14 ls [])
set_option maxRecDepth 100000 in
set_option maxHeartbeats 4000000 in
theorem w_X10_laws_50 {G : Gt} {l : Launch} {p : Program} {e : Env} {s : State} {m : MethodId} {args : Array Value} {below : List Frame} {meth : Method} {c : Code}  {h0 : Hp} {out : (Int32 × Hp)} {r0 : Nat} {k14 : Hp → Int32 → Int32 → Option (Int32 × Hp)} (C : Cx G p m c cX10_laws 4 s args RX10) (hr : meth.sig.returnType = some .int) (hlk : meth.locks = false)  (hk14 : P_X10_laws_14 G l p e s m args below meth c h0 out r0 k14) : P_X10_laws_50 G l p e s m args below meth c h0 out r0 (f_X10_laws_50 r0 k14) := by
  intro H locs ls h x1 x2 x3 hf hE hR hS t_r0 z_x3 hl
  rw [f_X10_laws_50] at hf
  refine lv_iload_n C.x C.b dX10_laws_50 rfl (lv_at hl 1 rfl) ?_
  refine lv_iload_n C.x C.b dX10_laws_51 rfl (lv_at hl 3 rfl) ?_
  obtain ⟨q10, h_q10, hf⟩ := bd_e hf
  refine r_callS (As := [.int x3]) (rest := [.int x1]) C hR hS mk_X10_flag cl_X10_163 (k_X10_flag h_q10) ⟨⟨Nat.le_of_ble_eq_true rfl, Nat.le_of_ble_eq_true rfl⟩, ⟨rfl, rfl⟩, Nat.le_of_ble_eq_true rfl, Nat.le_of_ble_eq_true rfl⟩ rfl hl.1 rfl (Nat.le_of_ble_eq_true rfl) dX10_laws_52 (fun H locs hR hS hE1 z_q10 => ?_)
  refine lv_iadd C.x C.b dX10_laws_55 ?_
  refine lv_topi (fun v11 e_v11 => ?_)
  have hf := lt_e hf e_v11
  refine lv_istore_n (lv' := [(1, .int v11), (0, .ref (G.2.2 + r0)), (2, .int x2), (3, .int x3)]) C.x C.b dX10_laws_56 rfl hl (by decide) rfl (fun ls hl => ?_)
  obtain ⟨v12, e_v12⟩ : ∃ y : Int32, y = x2 + (1 : Int32) := ⟨_, rfl⟩
  have hf := lt_e hf e_v12
  refine lv_iinc (v := v12) (lv' := [(2, .int v12), (1, .int v11), (0, .ref (G.2.2 + r0)), (3, .int x3)]) C.x C.b dX10_laws_57 hl (k := 2) rfl (by rw [e_v12]; rfl) (by decide) rfl (fun ls hl => ?_)
  refine lv_goto (tgt := 14) C.x C.b dX10_laws_60 (by decide) ?_
  exact hk14 _ _ _ _ _ _ hf hE hR hS t_r0 (lv_sub hl [2, 1, 0] rfl)
set_option maxRecDepth 100000 in
set_option maxHeartbeats 4000000 in
theorem w_X10_laws_14 {G : Gt} {l : Launch} {p : Program} {e : Env} {s : State} {m : MethodId} {args : Array Value} {below : List Frame} {meth : Method} {c : Code}  {h0 : Hp} {out : (Int32 × Hp)} {r0 : Nat}  (C : Cx G p m c cX10_laws 4 s args RX10) (hr : meth.sig.returnType = some .int) (hlk : meth.locks = false)   (n : Nat) : P_X10_laws_14 G l p e s m args below meth c h0 out r0 (f_X10_laws_14 r0 n) := by
  induction n with
  | zero => intro H locs ls h x1 x2 hf hE hR hS t_r0 hl; cases hf
  | succ n hk14 =>
    intro H locs ls h x1 x2 hf hE hR hS t_r0 hl
    rw [f_X10_laws_14] at hf
    obtain ⟨k14, e_k14⟩ : ∃ y, y = f_X10_laws_14 r0 n := ⟨_, rfl⟩
    have hf := lt_e hf e_k14
    rw [← e_k14] at hk14
    refine lv_iload_n C.x C.b dX10_laws_14 rfl (lv_at hl 2 rfl) ?_
    refine lv_bipush (v := (16 : Int32)) C.x C.b dX10_laws_15 (by decide) ?_
    refine lv_icmp_ge (tgt := 63) C.x C.b dX10_laws_17 (by decide) (fun c3 => ?_) (fun c3 => ?_)
    · have hf := it_t hf c3
      refine lv_iload_n C.x C.b dX10_laws_63 rfl (lv_at hl 1 rfl) ?_
      have hf := so_e hf
      subst hf
      exact r_iret C hr hlk hR hE hS dX10_laws_64
    · have hf := it_f hf c3
      refine lv_aload_n C.x C.b dX10_laws_20 rfl (lv_at hl 0 rfl) ?_
      refine lv_iload_n C.x C.b dX10_laws_21 rfl (lv_at hl 2 rfl) ?_
      obtain ⟨q4, h_q4, hf⟩ := bd_e hf
      refine r_callV (As := [.int x2]) (rest := []) C hR hS t_r0 rfl mk_X10_isLaw cl_X10_417 (k_X10_isLaw t_r0 h_q4) ⟨⟨Nat.le_of_ble_eq_true rfl, Nat.le_of_ble_eq_true rfl⟩, ⟨rfl, rfl⟩, Nat.le_of_ble_eq_true rfl, Nat.le_of_ble_eq_true rfl⟩ rfl hl.1 rfl (Nat.le_of_ble_eq_true rfl) dX10_laws_22 (fun H locs hR hS hE1 z_q4 => ?_)
      have hE := hE.tr hE1
      have t_r0 := hE1.at t_r0 (by decide)
      have z_q4 := z_q4 _ rfl
      refine lv_istore_n (lv' := [(3, .int q4.1), (0, .ref (G.2.2 + r0)), (1, .int x1), (2, .int x2)]) C.x C.b dX10_laws_25 rfl hl (by decide) rfl (fun ls hl => ?_)
      refine lv_iload_n C.x C.b dX10_laws_26 rfl (lv_at hl 0 rfl) ?_
      refine lv_if_eq (tgt := 50) C.x C.b dX10_laws_27 (by decide) (fun c5 => ?_) (fun c5 => ?_)
      · have hf := it_t hf c5
        exact w_X10_laws_50 C hr hlk hk14 _ _ _ _ _ _ _ hf hE hR hS t_r0 z_q4 (lv_sub hl [1, 2, 3, 0] rfl)
      · have hf := it_f hf c5
        refine lv_iload_n C.x C.b dX10_laws_30 rfl (lv_at hl 2 rfl) ?_
        refine lv_if_ne (tgt := 50) C.x C.b dX10_laws_31 (by decide) (fun c6 => ?_) (fun c6 => ?_)
        · have hf := it_f hf c6
          exact w_X10_laws_50 C hr hlk hk14 _ _ _ _ _ _ _ hf hE hR hS t_r0 z_q4 (lv_sub hl [1, 2, 3, 0] rfl)
        · have hf := it_t hf c6
          refine lv_aload_n C.x C.b dX10_laws_34 rfl (lv_at hl 1 rfl) ?_
          refine lv_iload_n C.x C.b dX10_laws_35 rfl (lv_at hl 3 rfl) ?_
          refine lv_iconst (v := (4 : Int32)) C.x C.b dX10_laws_36 (by decide) ?_
          refine lv_idiv C.x C.b dX10_laws_37 (by decide) ?_
          refine lv_i2l C.x C.b dX10_laws_38 rfl ?_
          obtain ⟨q7, h_q7, hf⟩ := bd_e hf
          refine r_callV (As := [.long ((x2 / (4 : Int32)).toInt64)]) (rest := []) C hR hS t_r0 rfl mk_X10_enters cl_X10_339 (k_X10_enters t_r0 h_q7) ⟨⟨Nat.le_of_ble_eq_true rfl, Nat.le_of_ble_eq_true rfl⟩, ⟨rfl, rfl⟩, Nat.le_of_ble_eq_true rfl, Nat.le_of_ble_eq_true rfl⟩ rfl hl.1 rfl (Nat.le_of_ble_eq_true rfl) dX10_laws_39 (fun H locs hR hS hE1 z_q7 => ?_)
          have hE := hE.tr hE1
          have t_r0 := hE1.at t_r0 (by decide)
          refine lv_aload_n C.x C.b dX10_laws_42 rfl (lv_at hl 1 rfl) ?_
          refine lv_iload_n C.x C.b dX10_laws_43 rfl (lv_at hl 3 rfl) ?_
          refine lv_iconst (v := (4 : Int32)) C.x C.b dX10_laws_44 (by decide) ?_
          refine lv_irem C.x C.b dX10_laws_45 (by decide) ?_
          refine lv_topi (fun v8 e_v8 => ?_)
          have hf := lt_e hf e_v8
          refine lv_i2l C.x C.b dX10_laws_46 rfl ?_
          obtain ⟨q9, h_q9, hf⟩ := bd_e hf
          refine r_callV (As := [.long (v8.toInt64)]) (rest := []) C hR hS t_r0 rfl mk_X10_enters cl_X10_339 (k_X10_enters t_r0 h_q9) ⟨⟨Nat.le_of_ble_eq_true rfl, Nat.le_of_ble_eq_true rfl⟩, ⟨rfl, rfl⟩, Nat.le_of_ble_eq_true rfl, Nat.le_of_ble_eq_true rfl⟩ rfl hl.1 rfl (Nat.le_of_ble_eq_true rfl) dX10_laws_47 (fun H locs hR hS hE1 z_q9 => ?_)
          have hE := hE.tr hE1
          have t_r0 := hE1.at t_r0 (by decide)
          exact w_X10_laws_50 C hr hlk hk14 _ _ _ _ _ _ _ hf hE hR hS t_r0 z_q4 (lv_sub hl [1, 2, 3, 0] rfl)
set_option maxRecDepth 100000 in
set_option maxHeartbeats 4000000 in
theorem k_X10_laws {G : Gt} {l : Launch}  {h : Hp} {r0 : Nat} {out : (Int32 × Hp)} (t_r0 : hpT h r0 = (1, 10))  (hf : f_X10_laws  h r0 = some out) : Mt G l yX10_laws cX10_laws 4 (some .int) rm_X10_laws [.ref (G.2.2 + r0)] h (some (.int out.1)) out.2 0 0 0 := by
  refine r_met (by decide +kernel) (Nat.le_of_ble_eq_true rfl) ?_
  intro p e s m args below meth c ls C hr hlk hnm hR hS hl
  have hE : Ext h h := Ext.rf
  have hl : lv_has ls 4 [(0, .ref (G.2.2 + r0))] := hl
  rw [f_X10_laws] at hf
  refine lv_aload_n C.x C.b dX10_laws_0 rfl (lv_at hl 0 rfl) ?_
  refine lv_iconst (v := (0 : Int32)) C.x C.b dX10_laws_1 (by decide) ?_
  refine r_puti C hR hS t_r0 fl_X10_103 fp_X10_10_0 rfl dX10_laws_2 (fun H locs hR hS => ?_)
  obtain ⟨h1, e_h1⟩ : ∃ y, y = upI h r0 0 (0 : Int32) := ⟨_, rfl⟩
  rw [← e_h1] at hR
  have hf := lt_e hf e_h1
  have hE := eI e_h1 hE
  have t_r0 := tI e_h1 t_r0
  refine lv_iconst (v := (0 : Int32)) C.x C.b dX10_laws_5 (by decide) ?_
  refine lv_istore_n (lv' := [(1, .int (0 : Int32)), (0, .ref (G.2.2 + r0))]) C.x C.b dX10_laws_6 rfl hl (by decide) rfl (fun ls hl => ?_)
  refine lv_aload_n C.x C.b dX10_laws_7 rfl (lv_at hl 1 rfl) ?_
  refine lv_iconst (v := (0 : Int32)) C.x C.b dX10_laws_8 (by decide) ?_
  refine r_puti C hR hS t_r0 fl_X10_110 fp_X10_10_1 rfl dX10_laws_9 (fun H locs hR hS => ?_)
  obtain ⟨h2, e_h2⟩ : ∃ y, y = upI h1 r0 1 (0 : Int32) := ⟨_, rfl⟩
  rw [← e_h2] at hR
  have hf := lt_e hf e_h2
  have hE := eI e_h2 hE
  have t_r0 := tI e_h2 t_r0
  refine lv_iconst (v := (0 : Int32)) C.x C.b dX10_laws_12 (by decide) ?_
  refine lv_istore_n (lv' := [(2, .int (0 : Int32)), (1, .int (0 : Int32)), (0, .ref (G.2.2 + r0))]) C.x C.b dX10_laws_13 rfl hl (by decide) rfl (fun ls hl => ?_)
  exact w_X10_laws_14 C hr hlk FU _ _ _ _ _ _ hf hE hR hS t_r0 (lv_sub hl [2, 1, 0] rfl)

def rm_X10_watch : Room := { frames := 8, cells := 0, slots := 0, locals := 194 }
def P_X10_watch_31 (G : Gt) (l : Launch) (p : Program) (e : Env) (s : State) (m : MethodId) (args : Array Value) (below : List Frame) (meth : Method) (c : Code) (h0 : Hp) (out : (Int32 × Hp)) (r0 : Nat) (k : Hp → Int32 → Int32 → Int32 → Option (Int32 × Hp)) : Prop := ∀ (H : Heap) (locs : List Loc) (ls : Array Slot) (h : Hp) (s0 : Int32) (s1 : Int32) (x2 : Int32), k h s0 s1 x2 = some out → Ext h0 h → Rel G h H → va_S (AA G.2.2) s.heap H locs → hpT h r0 = (1, 10) → lv_has ls 8 [(0, .ref (G.2.2 + r0)), (2, .int x2)] → W p l e rm_X10_watch s m args below meth c H locs 0 0 (MQ below (Qm G h0 out.2 (some (.int out.1)) 0) args s 0 0 (AA G.2.2)) (F0 m 31 ls [.int s1, .int s0])
def P_X10_watch_191 (G : Gt) (l : Launch) (p : Program) (e : Env) (s : State) (m : MethodId) (args : Array Value) (below : List Frame) (meth : Method) (c : Code) (h0 : Hp) (out : (Int32 × Hp)) (r0 : Nat) (k : Hp → Int32 → Int32 → Option (Int32 × Hp)) : Prop := ∀ (H : Heap) (locs : List Loc) (ls : Array Slot) (h : Hp) (x2 : Int32) (x3 : Int32), k h x2 x3 = some out → Ext h0 h → Rel G h H → va_S (AA G.2.2) s.heap H locs → hpT h r0 = (1, 10) → lv_has ls 8 [(0, .ref (G.2.2 + r0)), (2, .int x2), (3, .int x3)] → W p l e rm_X10_watch s m args below meth c H locs 0 0 (MQ below (Qm G h0 out.2 (some (.int out.1)) 0) args s 0 0 (AA G.2.2)) (F0 m 191 ls [])
def P_X10_watch_127 (G : Gt) (l : Launch) (p : Program) (e : Env) (s : State) (m : MethodId) (args : Array Value) (below : List Frame) (meth : Method) (c : Code) (h0 : Hp) (out : (Int32 × Hp)) (r0 : Nat) (k : Hp → Int32 → Int32 → Int32 → Int32 → Int32 → Int32 → Int32 → Int32 → Option (Int32 × Hp)) : Prop := ∀ (H : Heap) (locs : List Loc) (ls : Array Slot) (h : Hp) (s0 : Int32) (s1 : Int32) (x1 : Int32) (x2 : Int32) (x3 : Int32) (x4 : Int32) (x5 : Int32) (x7 : Int32), k h s0 s1 x1 x2 x3 x4 x5 x7 = some out → Ext h0 h → Rel G h H → va_S (AA G.2.2) s.heap H locs → hpT h r0 = (1, 10) → narrow .boolean (.int s1) = .int s1 → lv_has ls 8 [(0, .ref (G.2.2 + r0)), (1, .int x1), (2, .int x2), (3, .int x3), (4, .int x4), (5, .int x5), (7, .int x7)] → W p l e rm_X10_watch s m args below meth c H locs 0 0 (MQ below (Qm G h0 out.2 (some (.int out.1)) 0) args s 0 0 (AA G.2.2)) (F0 m 127 ls [.int s1, .int s0])
def P_X10_watch_126 (G : Gt) (l : Launch) (p : Program) (e : Env) (s : State) (m : MethodId) (args : Array Value) (below : List Frame) (meth : Method) (c : Code) (h0 : Hp) (out : (Int32 × Hp)) (r0 : Nat) (k : Hp → Int32 → Int32 → Int32 → Int32 → Int32 → Int32 → Int32 → Option (Int32 × Hp)) : Prop := ∀ (H : Heap) (locs : List Loc) (ls : Array Slot) (h : Hp) (s0 : Int32) (x1 : Int32) (x2 : Int32) (x3 : Int32) (x4 : Int32) (x5 : Int32) (x7 : Int32), k h s0 x1 x2 x3 x4 x5 x7 = some out → Ext h0 h → Rel G h H → va_S (AA G.2.2) s.heap H locs → hpT h r0 = (1, 10) → lv_has ls 8 [(0, .ref (G.2.2 + r0)), (1, .int x1), (2, .int x2), (3, .int x3), (4, .int x4), (5, .int x5), (7, .int x7)] → W p l e rm_X10_watch s m args below meth c H locs 0 0 (MQ below (Qm G h0 out.2 (some (.int out.1)) 0) args s 0 0 (AA G.2.2)) (F0 m 126 ls [.int s0])
def P_X10_watch_171 (G : Gt) (l : Launch) (p : Program) (e : Env) (s : State) (m : MethodId) (args : Array Value) (below : List Frame) (meth : Method) (c : Code) (h0 : Hp) (out : (Int32 × Hp)) (r0 : Nat) (k : Hp → Int32 → Int32 → Int32 → Int32 → Int32 → Int32 → Option (Int32 × Hp)) : Prop := ∀ (H : Heap) (locs : List Loc) (ls : Array Slot) (h : Hp) (s0 : Int32) (x1 : Int32) (x3 : Int32) (x4 : Int32) (x5 : Int32) (x7 : Int32), k h s0 x1 x3 x4 x5 x7 = some out → Ext h0 h → Rel G h H → va_S (AA G.2.2) s.heap H locs → hpT h r0 = (1, 10) → lv_has ls 8 [(0, .ref (G.2.2 + r0)), (1, .int x1), (3, .int x3), (4, .int x4), (5, .int x5), (7, .int x7)] → W p l e rm_X10_watch s m args below meth c H locs 0 0 (MQ below (Qm G h0 out.2 (some (.int out.1)) 0) args s 0 0 (AA G.2.2)) (F0 m 171 ls [.int s0])
def P_X10_watch_81 (G : Gt) (l : Launch) (p : Program) (e : Env) (s : State) (m : MethodId) (args : Array Value) (below : List Frame) (meth : Method) (c : Code) (h0 : Hp) (out : (Int32 × Hp)) (r0 : Nat) (k : Hp → Int32 → Int32 → Int32 → Int32 → Int32 → Int32 → Int32 → Option (Int32 × Hp)) : Prop := ∀ (H : Heap) (locs : List Loc) (ls : Array Slot) (h : Hp) (x1 : Int32) (x2 : Int32) (x3 : Int32) (x4 : Int32) (x5 : Int32) (x6 : Int32) (x7 : Int32), k h x1 x2 x3 x4 x5 x6 x7 = some out → Ext h0 h → Rel G h H → va_S (AA G.2.2) s.heap H locs → hpT h r0 = (1, 10) → lv_has ls 8 [(0, .ref (G.2.2 + r0)), (1, .int x1), (2, .int x2), (3, .int x3), (4, .int x4), (5, .int x5), (6, .int x6), (7, .int x7)] → W p l e rm_X10_watch s m args below meth c H locs 0 0 (MQ below (Qm G h0 out.2 (some (.int out.1)) 0) args s 0 0 (AA G.2.2)) (F0 m 81 ls [])
def P_X10_watch_68 (G : Gt) (l : Launch) (p : Program) (e : Env) (s : State) (m : MethodId) (args : Array Value) (below : List Frame) (meth : Method) (c : Code) (h0 : Hp) (out : (Int32 × Hp)) (r0 : Nat) (k : Hp → Int32 → Int32 → Int32 → Int32 → Int32 → Option (Int32 × Hp)) : Prop := ∀ (H : Heap) (locs : List Loc) (ls : Array Slot) (h : Hp) (x1 : Int32) (x2 : Int32) (x3 : Int32) (x4 : Int32) (x5 : Int32), k h x1 x2 x3 x4 x5 = some out → Ext h0 h → Rel G h H → va_S (AA G.2.2) s.heap H locs → hpT h r0 = (1, 10) → lv_has ls 8 [(0, .ref (G.2.2 + r0)), (1, .int x1), (2, .int x2), (3, .int x3), (4, .int x4), (5, .int x5)] → W p l e rm_X10_watch s m args below meth c H locs 0 0 (MQ below (Qm G h0 out.2 (some (.int out.1)) 0) args s 0 0 (AA G.2.2)) (F0 m 68 ls [])
def P_X10_watch_49 (G : Gt) (l : Launch) (p : Program) (e : Env) (s : State) (m : MethodId) (args : Array Value) (below : List Frame) (meth : Method) (c : Code) (h0 : Hp) (out : (Int32 × Hp)) (r0 : Nat) (k : Hp → Int32 → Int32 → Int32 → Int32 → Option (Int32 × Hp)) : Prop := ∀ (H : Heap) (locs : List Loc) (ls : Array Slot) (h : Hp) (x1 : Int32) (x2 : Int32) (x3 : Int32) (x4 : Int32), k h x1 x2 x3 x4 = some out → Ext h0 h → Rel G h H → va_S (AA G.2.2) s.heap H locs → hpT h r0 = (1, 10) → lv_has ls 8 [(0, .ref (G.2.2 + r0)), (1, .int x1), (2, .int x2), (3, .int x3), (4, .int x4)] → W p l e rm_X10_watch s m args below meth c H locs 0 0 (MQ below (Qm G h0 out.2 (some (.int out.1)) 0) args s 0 0 (AA G.2.2)) (F0 m 49 ls [])
def P_X10_watch_9 (G : Gt) (l : Launch) (p : Program) (e : Env) (s : State) (m : MethodId) (args : Array Value) (below : List Frame) (meth : Method) (c : Code) (h0 : Hp) (out : (Int32 × Hp)) (r0 : Nat) (k : Hp → Int32 → Int32 → Option (Int32 × Hp)) : Prop := ∀ (H : Heap) (locs : List Loc) (ls : Array Slot) (h : Hp) (x1 : Int32) (x2 : Int32), k h x1 x2 = some out → Ext h0 h → Rel G h H → va_S (AA G.2.2) s.heap H locs → hpT h r0 = (1, 10) → lv_has ls 8 [(0, .ref (G.2.2 + r0)), (1, .int x1), (2, .int x2)] → W p l e rm_X10_watch s m args below meth c H locs 0 0 (MQ below (Qm G h0 out.2 (some (.int out.1)) 0) args s 0 0 (AA G.2.2)) (F0 m 9 ls [])
set_option maxRecDepth 100000 in
set_option maxHeartbeats 4000000 in
theorem w_X10_watch_31 {G : Gt} {l : Launch} {p : Program} {e : Env} {s : State} {m : MethodId} {args : Array Value} {below : List Frame} {meth : Method} {c : Code}  {h0 : Hp} {out : (Int32 × Hp)} {r0 : Nat} {k9 : Hp → Int32 → Int32 → Option (Int32 × Hp)} (C : Cx G p m c cX10_watch 8 s args RX10) (hr : meth.sig.returnType = some .int) (hlk : meth.locks = false)  (hk9 : P_X10_watch_9 G l p e s m args below meth c h0 out r0 k9) : P_X10_watch_31 G l p e s m args below meth c h0 out r0 (f_X10_watch_31 r0 k9) := by
  intro H locs ls h s0 s1 x2 hf hE hR hS t_r0 hl
  rw [f_X10_watch_31] at hf
  refine lv_ior C.x C.b dX10_watch_31 ?_
  refine lv_topi (fun v6 e_v6 => ?_)
  have hf := lt_e hf e_v6
  refine lv_istore_n (lv' := [(1, .int v6), (0, .ref (G.2.2 + r0)), (2, .int x2)]) C.x C.b dX10_watch_32 rfl hl (by decide) rfl (fun ls hl => ?_)
  obtain ⟨v7, e_v7⟩ : ∃ y : Int32, y = x2 + (1 : Int32) := ⟨_, rfl⟩
  have hf := lt_e hf e_v7
  refine lv_iinc (v := v7) (lv' := [(2, .int v7), (1, .int v6), (0, .ref (G.2.2 + r0))]) C.x C.b dX10_watch_33 hl (k := 2) rfl (by rw [e_v7]; rfl) (by decide) rfl (fun ls hl => ?_)
  refine lv_goto (tgt := 9) C.x C.b dX10_watch_36 (by decide) ?_
  exact hk9 _ _ _ _ _ _ hf hE hR hS t_r0 (lv_sub hl [2, 1, 0] rfl)
set_option maxRecDepth 100000 in
set_option maxHeartbeats 4000000 in
theorem w_X10_watch_191 {G : Gt} {l : Launch} {p : Program} {e : Env} {s : State} {m : MethodId} {args : Array Value} {below : List Frame} {meth : Method} {c : Code}  {h0 : Hp} {out : (Int32 × Hp)} {r0 : Nat}  (C : Cx G p m c cX10_watch 8 s args RX10) (hr : meth.sig.returnType = some .int) (hlk : meth.locks = false)   : P_X10_watch_191 G l p e s m args below meth c h0 out r0 (f_X10_watch_191 r0) := by
  intro H locs ls h x2 x3 hf hE hR hS t_r0 hl
  rw [f_X10_watch_191] at hf
  refine lv_iload_n C.x C.b dX10_watch_191 rfl (lv_at hl 1 rfl) ?_
  refine lv_if_lt (tgt := 206) C.x C.b dX10_watch_192 (by decide) (fun c31 => ?_) (fun c31 => ?_)
  · have hf := it_t hf c31
    refine lv_iload_n C.x C.b dX10_watch_206 rfl (lv_at hl 1 rfl) ?_
    have hf := so_e hf
    subst hf
    exact r_iret C hr hlk hR hE hS dX10_watch_207
  · have hf := it_f hf c31
    refine lv_aload_n C.x C.b dX10_watch_195 rfl (lv_at hl 0 rfl) ?_
    refine lv_iconst (v := (0 : Int32)) C.x C.b dX10_watch_196 (by decide) ?_
    refine r_puti C hR hS t_r0 fl_X10_110 fp_X10_10_1 rfl dX10_watch_197 (fun H locs hR hS => ?_)
    obtain ⟨h32, e_h32⟩ : ∃ y, y = upI h r0 1 (0 : Int32) := ⟨_, rfl⟩
    rw [← e_h32] at hR
    have hf := lt_e hf e_h32
    have hE := eI e_h32 hE
    have t_r0 := tI e_h32 t_r0
    refine lv_aload_n C.x C.b dX10_watch_200 rfl (lv_at hl 0 rfl) ?_
    refine lv_iload_n C.x C.b dX10_watch_201 rfl (lv_at hl 2 rfl) ?_
    refine lv_i2l C.x C.b dX10_watch_202 rfl ?_
    obtain ⟨q33, h_q33, hf⟩ := bd_e hf
    refine r_callV (As := [.long (x3.toInt64)]) (rest := []) C hR hS t_r0 rfl mk_X10_enters cl_X10_339 (k_X10_enters t_r0 h_q33) ⟨⟨Nat.le_of_ble_eq_true rfl, Nat.le_of_ble_eq_true rfl⟩, ⟨rfl, rfl⟩, Nat.le_of_ble_eq_true rfl, Nat.le_of_ble_eq_true rfl⟩ rfl hl.1 rfl (Nat.le_of_ble_eq_true rfl) dX10_watch_203 (fun H locs hR hS hE1 z_q33 => ?_)
    have hE := hE.tr hE1
    have t_r0 := hE1.at t_r0 (by decide)
    refine lv_iload_n C.x C.b dX10_watch_206 rfl (lv_at hl 1 rfl) ?_
    have hf := so_e hf
    subst hf
    exact r_iret C hr hlk hR hE hS dX10_watch_207
set_option maxRecDepth 100000 in
set_option maxHeartbeats 4000000 in
theorem w_X10_watch_127 {G : Gt} {l : Launch} {p : Program} {e : Env} {s : State} {m : MethodId} {args : Array Value} {below : List Frame} {meth : Method} {c : Code}  {h0 : Hp} {out : (Int32 × Hp)} {r0 : Nat} {k49 : Hp → Int32 → Int32 → Int32 → Int32 → Option (Int32 × Hp)} {k68 : Hp → Int32 → Int32 → Int32 → Int32 → Int32 → Option (Int32 × Hp)} {k81 : Hp → Int32 → Int32 → Int32 → Int32 → Int32 → Int32 → Int32 → Option (Int32 × Hp)} (C : Cx G p m c cX10_watch 8 s args RX10) (hr : meth.sig.returnType = some .int) (hlk : meth.locks = false)  (hk49 : P_X10_watch_49 G l p e s m args below meth c h0 out r0 k49) (hk68 : P_X10_watch_68 G l p e s m args below meth c h0 out r0 k68) (hk81 : P_X10_watch_81 G l p e s m args below meth c h0 out r0 k81) : P_X10_watch_127 G l p e s m args below meth c h0 out r0 (f_X10_watch_127 r0 k49 k68 k81) := by
  intro H locs ls h s0 s1 x1 x2 x3 x4 x5 x7 hf hE hR hS t_r0 z_s1 hl
  rw [f_X10_watch_127] at hf
  obtain ⟨q26, h_q26, hf⟩ := bd_e hf
  refine r_callS (As := [.int s1]) (rest := [.int s0]) C hR hS mk_X10_flag cl_X10_163 (k_X10_flag h_q26) ⟨⟨Nat.le_of_ble_eq_true rfl, Nat.le_of_ble_eq_true rfl⟩, ⟨rfl, rfl⟩, Nat.le_of_ble_eq_true rfl, Nat.le_of_ble_eq_true rfl⟩ rfl hl.1 rfl (Nat.le_of_ble_eq_true rfl) dX10_watch_127 (fun H locs hR hS hE1 z_q26 => ?_)
  refine lv_iadd C.x C.b dX10_watch_130 ?_
  refine lv_topi (fun v27 e_v27 => ?_)
  have hf := lt_e hf e_v27
  refine lv_istore (lv' := [(6, .int v27), (0, .ref (G.2.2 + r0)), (1, .int x1), (2, .int x2), (3, .int x3), (4, .int x4), (5, .int x5), (7, .int x7)]) C.x C.b dX10_watch_131 hl (by decide) rfl (fun ls hl => ?_)
  obtain ⟨v28, e_v28⟩ : ∃ y : Int32, y = x7 + (1 : Int32) := ⟨_, rfl⟩
  have hf := lt_e hf e_v28
  refine lv_iinc (v := v28) (lv' := [(7, .int v28), (6, .int v27), (0, .ref (G.2.2 + r0)), (1, .int x1), (2, .int x2), (3, .int x3), (4, .int x4), (5, .int x5)]) C.x C.b dX10_watch_133 hl (k := 7) rfl (by rw [e_v28]; rfl) (by decide) rfl (fun ls hl => ?_)
  refine lv_goto (tgt := 81) C.x C.b dX10_watch_136 (by decide) ?_
  exact hk81 _ _ _ _ _ _ _ _ _ _ _ hf hE hR hS t_r0 (lv_sub hl [2, 3, 4, 5, 6, 7, 1, 0] rfl)
set_option maxRecDepth 100000 in
set_option maxHeartbeats 4000000 in
theorem w_X10_watch_126 {G : Gt} {l : Launch} {p : Program} {e : Env} {s : State} {m : MethodId} {args : Array Value} {below : List Frame} {meth : Method} {c : Code}  {h0 : Hp} {out : (Int32 × Hp)} {r0 : Nat} {k49 : Hp → Int32 → Int32 → Int32 → Int32 → Option (Int32 × Hp)} {k68 : Hp → Int32 → Int32 → Int32 → Int32 → Int32 → Option (Int32 × Hp)} {k81 : Hp → Int32 → Int32 → Int32 → Int32 → Int32 → Int32 → Int32 → Option (Int32 × Hp)} (C : Cx G p m c cX10_watch 8 s args RX10) (hr : meth.sig.returnType = some .int) (hlk : meth.locks = false)  (hk49 : P_X10_watch_49 G l p e s m args below meth c h0 out r0 k49) (hk68 : P_X10_watch_68 G l p e s m args below meth c h0 out r0 k68) (hk81 : P_X10_watch_81 G l p e s m args below meth c h0 out r0 k81) : P_X10_watch_126 G l p e s m args below meth c h0 out r0 (f_X10_watch_126 r0 k49 k68 k81) := by
  intro H locs ls h s0 x1 x2 x3 x4 x5 x7 hf hE hR hS t_r0 hl
  rw [f_X10_watch_126] at hf
  refine lv_iconst (v := (0 : Int32)) C.x C.b dX10_watch_126 (by decide) ?_
  exact w_X10_watch_127 C hr hlk hk49 hk68 hk81 _ _ _ _ _ _ _ _ _ _ _ _ hf hE hR hS t_r0 z_0 (lv_sub hl [0, 1, 2, 3, 4, 5, 6] rfl)
set_option maxRecDepth 100000 in
set_option maxHeartbeats 4000000 in
theorem w_X10_watch_171 {G : Gt} {l : Launch} {p : Program} {e : Env} {s : State} {m : MethodId} {args : Array Value} {below : List Frame} {meth : Method} {c : Code}  {h0 : Hp} {out : (Int32 × Hp)} {r0 : Nat} {k49 : Hp → Int32 → Int32 → Int32 → Int32 → Option (Int32 × Hp)} {k68 : Hp → Int32 → Int32 → Int32 → Int32 → Int32 → Option (Int32 × Hp)} (C : Cx G p m c cX10_watch 8 s args RX10) (hr : meth.sig.returnType = some .int) (hlk : meth.locks = false)  (hk49 : P_X10_watch_49 G l p e s m args below meth c h0 out r0 k49) (hk68 : P_X10_watch_68 G l p e s m args below meth c h0 out r0 k68) : P_X10_watch_171 G l p e s m args below meth c h0 out r0 (f_X10_watch_171 r0 k49 k68) := by
  intro H locs ls h s0 x1 x3 x4 x5 x7 hf hE hR hS t_r0 hl
  rw [f_X10_watch_171] at hf
  refine lv_istore_n (lv' := [(2, .int s0), (0, .ref (G.2.2 + r0)), (1, .int x1), (3, .int x3), (4, .int x4), (5, .int x5), (7, .int x7)]) C.x C.b dX10_watch_171 rfl hl (by decide) rfl (fun ls hl => ?_)
  refine lv_iload_n C.x C.b dX10_watch_172 rfl (lv_at hl 3 rfl) ?_
  refine lv_iload C.x C.b dX10_watch_173 (lv_at hl 6 rfl) ?_
  refine va_mmin C.x C.b (C.ml.trans hl.1.symm) C.ow (C.ts _ lk_X10_154) (C.ts _ lk_Mmin_s) (C.ts _ lk_Math) (C.ts _ lk_Mmin_c) (Nat.le_of_ble_eq_true rfl) (Nat.le_of_ble_eq_true rfl) (Nat.le_of_ble_eq_true rfl) (Nat.le_of_ble_eq_true rfl) dX10_watch_175 ?_
  refine lv_topi (fun v29 e_v29 => ?_)
  have hf := lt_e hf e_v29
  refine lv_istore_n (lv' := [(3, .int v29), (2, .int s0), (0, .ref (G.2.2 + r0)), (1, .int x1), (4, .int x4), (5, .int x5), (7, .int x7)]) C.x C.b dX10_watch_178 rfl hl (by decide) rfl (fun ls hl => ?_)
  obtain ⟨v30, e_v30⟩ : ∃ y : Int32, y = x5 + (1 : Int32) := ⟨_, rfl⟩
  have hf := lt_e hf e_v30
  refine lv_iinc (v := v30) (lv' := [(5, .int v30), (3, .int v29), (2, .int s0), (0, .ref (G.2.2 + r0)), (1, .int x1), (4, .int x4), (7, .int x7)]) C.x C.b dX10_watch_179 hl (k := 5) rfl (by rw [e_v30]; rfl) (by decide) rfl (fun ls hl => ?_)
  refine lv_goto (tgt := 68) C.x C.b dX10_watch_182 (by decide) ?_
  exact hk68 _ _ _ _ _ _ _ _ _ hf hE hR hS t_r0 (lv_sub hl [3, 4, 2, 1, 5, 0] rfl)
set_option maxRecDepth 100000 in
set_option maxHeartbeats 4000000 in
theorem w_X10_watch_81 {G : Gt} {l : Launch} {p : Program} {e : Env} {s : State} {m : MethodId} {args : Array Value} {below : List Frame} {meth : Method} {c : Code}  {h0 : Hp} {out : (Int32 × Hp)} {r0 : Nat} {k49 : Hp → Int32 → Int32 → Int32 → Int32 → Option (Int32 × Hp)} {k68 : Hp → Int32 → Int32 → Int32 → Int32 → Int32 → Option (Int32 × Hp)} (C : Cx G p m c cX10_watch 8 s args RX10) (hr : meth.sig.returnType = some .int) (hlk : meth.locks = false)  (hk49 : P_X10_watch_49 G l p e s m args below meth c h0 out r0 k49) (hk68 : P_X10_watch_68 G l p e s m args below meth c h0 out r0 k68) (n : Nat) : P_X10_watch_81 G l p e s m args below meth c h0 out r0 (f_X10_watch_81 r0 k49 k68 n) := by
  induction n with
  | zero => intro H locs ls h x1 x2 x3 x4 x5 x6 x7 hf hE hR hS t_r0 hl; cases hf
  | succ n hk81 =>
    intro H locs ls h x1 x2 x3 x4 x5 x6 x7 hf hE hR hS t_r0 hl
    rw [f_X10_watch_81] at hf
    obtain ⟨k81, e_k81⟩ : ∃ y, y = f_X10_watch_81 r0 k49 k68 n := ⟨_, rfl⟩
    have hf := lt_e hf e_k81
    rw [← e_k81] at hk81
    refine lv_iload C.x C.b dX10_watch_81 (lv_at hl 7 rfl) ?_
    refine lv_bipush (v := (16 : Int32)) C.x C.b dX10_watch_83 (by decide) ?_
    refine lv_icmp_ge (tgt := 139) C.x C.b dX10_watch_85 (by decide) (fun c15 => ?_) (fun c15 => ?_)
    · have hf := it_t hf c15
      refine lv_iload C.x C.b dX10_watch_139 (lv_at hl 6 rfl) ?_
      refine lv_iload_n C.x C.b dX10_watch_141 rfl (lv_at hl 1 rfl) ?_
      obtain ⟨q16, h_q16, hf⟩ := bd_e hf
      refine r_callS (As := [.int x1]) (rest := [.int x6]) C hR hS mk_J6_bitCount_0f7a4 cl_X10_264 (k_J6_bitCount_0f7a4 h_q16) ⟨⟨Nat.le_of_ble_eq_true rfl, Nat.le_of_ble_eq_true rfl⟩, ⟨rfl, rfl⟩, Nat.le_of_ble_eq_true rfl, Nat.le_of_ble_eq_true rfl⟩ rfl hl.1 rfl (Nat.le_of_ble_eq_true rfl) dX10_watch_142 (fun H locs hR hS hE1 z_q16 => ?_)
      refine lv_iload C.x C.b dX10_watch_145 (lv_at hl 6 rfl) ?_
      refine lv_isub C.x C.b dX10_watch_147 ?_
      refine va_mmax C.x C.b (C.ml.trans hl.1.symm) C.ow (C.ts _ lk_X10_272) (C.ts _ lk_Mmax_s) (C.ts _ lk_Math) (C.ts _ lk_Mmax_c) (Nat.le_of_ble_eq_true rfl) (Nat.le_of_ble_eq_true rfl) (Nat.le_of_ble_eq_true rfl) (Nat.le_of_ble_eq_true rfl) dX10_watch_148 ?_
      refine lv_topi (fun v17 e_v17 => ?_)
      have hf := lt_e hf e_v17
      refine lv_istore (lv' := [(7, .int v17), (0, .ref (G.2.2 + r0)), (1, .int x1), (2, .int x2), (3, .int x3), (4, .int x4), (5, .int x5), (6, .int x6)]) C.x C.b dX10_watch_151 hl (by decide) rfl (fun ls hl => ?_)
      refine lv_iload C.x C.b dX10_watch_153 (lv_at hl 0 rfl) ?_
      refine lv_iload_n C.x C.b dX10_watch_155 rfl (lv_at hl 4 rfl) ?_
      refine lv_icmp_ge (tgt := 170) C.x C.b dX10_watch_156 (by decide) (fun c18 => ?_) (fun c18 => ?_)
      · simp only [if_pos c18] at hf
        refine lv_iload_n C.x C.b dX10_watch_170 rfl (lv_at hl 3 rfl) ?_
        exact w_X10_watch_171 C hr hlk hk49 hk68 _ _ _ _ _ _ _ _ _ _ hf hE hR hS t_r0 (lv_sub hl [1, 2, 4, 5, 6, 0] rfl)
      · simp only [if_neg c18] at hf
        refine lv_bipush (v := (31 : Int32)) C.x C.b dX10_watch_159 (by decide) ?_
        refine lv_iload C.x C.b dX10_watch_161 (lv_at hl 5 rfl) ?_
        refine lv_imul C.x C.b dX10_watch_163 ?_
        refine lv_iload C.x C.b dX10_watch_164 (lv_at hl 6 rfl) ?_
        refine lv_iadd C.x C.b dX10_watch_166 ?_
        refine lv_goto (tgt := 171) C.x C.b dX10_watch_167 (by decide) ?_
        exact w_X10_watch_171 C hr hlk hk49 hk68 _ _ _ _ _ _ _ _ _ _ hf hE hR hS t_r0 (lv_sub hl [1, 2, 4, 5, 6, 0] rfl)
    · have hf := it_f hf c15
      refine lv_iload C.x C.b dX10_watch_88 (lv_at hl 6 rfl) ?_
      refine lv_iload_n C.x C.b dX10_watch_90 rfl (lv_at hl 1 rfl) ?_
      refine lv_i2l C.x C.b dX10_watch_91 rfl ?_
      refine lv_iload C.x C.b dX10_watch_92 (lv_at hl 7 rfl) ?_
      obtain ⟨q19, h_q19, hf⟩ := bd_e hf
      refine r_callS (As := [.long (x1.toInt64), .int x7]) (rest := [.int x6]) C hR hS mk_X10_has cl_X10_137 (k_X10_has h_q19) ⟨⟨Nat.le_of_ble_eq_true rfl, Nat.le_of_ble_eq_true rfl⟩, ⟨rfl, rfl⟩, Nat.le_of_ble_eq_true rfl, Nat.le_of_ble_eq_true rfl⟩ rfl hl.1 rfl (Nat.le_of_ble_eq_true rfl) dX10_watch_94 (fun H locs hR hS hE1 z_q19 => ?_)
      have z_q19 := z_q19 _ rfl
      refine lv_if_eq (tgt := 126) C.x C.b dX10_watch_97 (by decide) (fun c20 => ?_) (fun c20 => ?_)
      · have hf := it_t hf c20
        exact w_X10_watch_126 C hr hlk hk49 hk68 hk81 _ _ _ _ _ _ _ _ _ _ _ hf hE hR hS t_r0 (lv_sub hl [0, 1, 2, 3, 4, 5, 7] rfl)
      · have hf := it_f hf c20
        refine lv_aload_n C.x C.b dX10_watch_100 rfl (lv_at hl 0 rfl) ?_
        obtain ⟨g21, hf⟩ := gd_e hf
        refine r_getr C hR t_r0 fl_X10_75 (by decide) (nz_e g21) dX10_watch_101 (fun tq22 => ?_)
        have tg21 := okA tq22 rfl
        refine lv_iload C.x C.b dX10_watch_104 (lv_at hl 7 rfl) ?_
        refine lv_bipush (v := (31 : Int32)) C.x C.b dX10_watch_106 (by decide) ?_
        refine lv_imul C.x C.b dX10_watch_108 ?_
        refine lv_iload C.x C.b dX10_watch_109 (lv_at hl 5 rfl) ?_
        refine lv_iadd C.x C.b dX10_watch_111 ?_
        obtain ⟨g23, hf⟩ := gd_e hf
        refine r_iald C hR tg21 g23 dX10_watch_112 ?_
        refine lv_i2l C.x C.b dX10_watch_113 rfl ?_
        refine lv_iload C.x C.b dX10_watch_114 (lv_at hl 4 rfl) ?_
        obtain ⟨q24, h_q24, hf⟩ := bd_e hf
        refine r_callS (As := [.long ((hpI h (hpR h r0 35) (ix ((x7 * (31 : Int32)) + x5))).toInt64), .int x4]) (rest := [.int x6]) C hR hS mk_X10_has cl_X10_137 (k_X10_has h_q24) ⟨⟨Nat.le_of_ble_eq_true rfl, Nat.le_of_ble_eq_true rfl⟩, ⟨rfl, rfl⟩, Nat.le_of_ble_eq_true rfl, Nat.le_of_ble_eq_true rfl⟩ rfl hl.1 rfl (Nat.le_of_ble_eq_true rfl) dX10_watch_116 (fun H locs hR hS hE1 z_q24 => ?_)
        have z_q24 := z_q24 _ rfl
        refine lv_if_eq (tgt := 126) C.x C.b dX10_watch_119 (by decide) (fun c25 => ?_) (fun c25 => ?_)
        · have hf := it_t hf c25
          exact w_X10_watch_126 C hr hlk hk49 hk68 hk81 _ _ _ _ _ _ _ _ _ _ _ hf hE hR hS t_r0 (lv_sub hl [0, 1, 2, 3, 4, 5, 7] rfl)
        · have hf := it_f hf c25
          refine lv_iconst (v := (1 : Int32)) C.x C.b dX10_watch_122 (by decide) ?_
          refine lv_goto (tgt := 127) C.x C.b dX10_watch_123 (by decide) ?_
          exact w_X10_watch_127 C hr hlk hk49 hk68 hk81 _ _ _ _ _ _ _ _ _ _ _ _ hf hE hR hS t_r0 z_1 (lv_sub hl [0, 1, 2, 3, 4, 5, 7] rfl)
set_option maxRecDepth 100000 in
set_option maxHeartbeats 4000000 in
theorem w_X10_watch_68 {G : Gt} {l : Launch} {p : Program} {e : Env} {s : State} {m : MethodId} {args : Array Value} {below : List Frame} {meth : Method} {c : Code}  {h0 : Hp} {out : (Int32 × Hp)} {r0 : Nat} {k49 : Hp → Int32 → Int32 → Int32 → Int32 → Option (Int32 × Hp)} (C : Cx G p m c cX10_watch 8 s args RX10) (hr : meth.sig.returnType = some .int) (hlk : meth.locks = false)  (hk49 : P_X10_watch_49 G l p e s m args below meth c h0 out r0 k49) (n : Nat) : P_X10_watch_68 G l p e s m args below meth c h0 out r0 (f_X10_watch_68 r0 k49 n) := by
  induction n with
  | zero => intro H locs ls h x1 x2 x3 x4 x5 hf hE hR hS t_r0 hl; cases hf
  | succ n hk68 =>
    intro H locs ls h x1 x2 x3 x4 x5 hf hE hR hS t_r0 hl
    rw [f_X10_watch_68] at hf
    obtain ⟨k68, e_k68⟩ : ∃ y, y = f_X10_watch_68 r0 k49 n := ⟨_, rfl⟩
    have hf := lt_e hf e_k68
    rw [← e_k68] at hk68
    refine lv_iload C.x C.b dX10_watch_68 (lv_at hl 5 rfl) ?_
    refine lv_bipush (v := (30 : Int32)) C.x C.b dX10_watch_70 (by decide) ?_
    refine lv_icmp_gt (tgt := 185) C.x C.b dX10_watch_72 (by decide) (fun c13 => ?_) (fun c13 => ?_)
    · have hf := it_t hf c13
      obtain ⟨v14, e_v14⟩ : ∃ y : Int32, y = x4 + (1 : Int32) := ⟨_, rfl⟩
      have hf := lt_e hf e_v14
      refine lv_iinc (v := v14) (lv' := [(4, .int v14), (0, .ref (G.2.2 + r0)), (1, .int x1), (2, .int x2), (3, .int x3), (5, .int x5)]) C.x C.b dX10_watch_185 hl (k := 4) rfl (by rw [e_v14]; rfl) (by decide) rfl (fun ls hl => ?_)
      refine lv_goto (tgt := 49) C.x C.b dX10_watch_188 (by decide) ?_
      exact hk49 _ _ _ _ _ _ _ _ hf hE hR hS t_r0 (lv_sub hl [1, 2, 3, 4, 0] rfl)
    · have hf := it_f hf c13
      refine lv_iconst (v := (0 : Int32)) C.x C.b dX10_watch_75 (by decide) ?_
      refine lv_istore (lv' := [(6, .int (0 : Int32)), (0, .ref (G.2.2 + r0)), (1, .int x1), (2, .int x2), (3, .int x3), (4, .int x4), (5, .int x5)]) C.x C.b dX10_watch_76 hl (by decide) rfl (fun ls hl => ?_)
      refine lv_iconst (v := (0 : Int32)) C.x C.b dX10_watch_78 (by decide) ?_
      refine lv_istore (lv' := [(7, .int (0 : Int32)), (6, .int (0 : Int32)), (0, .ref (G.2.2 + r0)), (1, .int x1), (2, .int x2), (3, .int x3), (4, .int x4), (5, .int x5)]) C.x C.b dX10_watch_79 hl (by decide) rfl (fun ls hl => ?_)
      exact w_X10_watch_81 C hr hlk hk49 hk68 FU _ _ _ _ _ _ _ _ _ _ _ hf hE hR hS t_r0 (lv_sub hl [2, 3, 4, 5, 6, 7, 1, 0] rfl)
set_option maxRecDepth 100000 in
set_option maxHeartbeats 4000000 in
theorem w_X10_watch_49 {G : Gt} {l : Launch} {p : Program} {e : Env} {s : State} {m : MethodId} {args : Array Value} {below : List Frame} {meth : Method} {c : Code}  {h0 : Hp} {out : (Int32 × Hp)} {r0 : Nat}  (C : Cx G p m c cX10_watch 8 s args RX10) (hr : meth.sig.returnType = some .int) (hlk : meth.locks = false)   (n : Nat) : P_X10_watch_49 G l p e s m args below meth c h0 out r0 (f_X10_watch_49 r0 n) := by
  induction n with
  | zero => intro H locs ls h x1 x2 x3 x4 hf hE hR hS t_r0 hl; cases hf
  | succ n hk49 =>
    intro H locs ls h x1 x2 x3 x4 hf hE hR hS t_r0 hl
    rw [f_X10_watch_49] at hf
    obtain ⟨k49, e_k49⟩ : ∃ y, y = f_X10_watch_49 r0 n := ⟨_, rfl⟩
    have hf := lt_e hf e_k49
    rw [← e_k49] at hk49
    refine lv_iload C.x C.b dX10_watch_49 (lv_at hl 4 rfl) ?_
    refine lv_aload_n C.x C.b dX10_watch_51 rfl (lv_at hl 0 rfl) ?_
    obtain ⟨g8, hf⟩ := gd_e hf
    refine r_getr C hR t_r0 fl_X10_20 (by decide) (nz_e g8) dX10_watch_52 (fun tq9 => ?_)
    have tg8 := okA tq9 rfl
    refine lv_bipush (v := (48 : Int32)) C.x C.b dX10_watch_55 (by decide) ?_
    obtain ⟨g10, hf⟩ := gd_e hf
    refine r_iald C hR tg8 g10 dX10_watch_57 ?_
    refine lv_icmp_ge (tgt := 191) C.x C.b dX10_watch_58 (by decide) (fun c11 => ?_) (fun c11 => ?_)
    · have hf := it_t hf c11
      exact w_X10_watch_191 C hr hlk _ _ _ _ _ _ hf hE hR hS t_r0 (lv_sub hl [0, 2, 3] rfl)
    · have hf := it_f hf c11
      refine lv_iload_n C.x C.b dX10_watch_61 rfl (lv_at hl 1 rfl) ?_
      refine lv_if_eq (tgt := 191) C.x C.b dX10_watch_62 (by decide) (fun c12 => ?_) (fun c12 => ?_)
      · have hf := it_t hf c12
        exact w_X10_watch_191 C hr hlk _ _ _ _ _ _ hf hE hR hS t_r0 (lv_sub hl [0, 2, 3] rfl)
      · have hf := it_f hf c12
        refine lv_iconst (v := (0 : Int32)) C.x C.b dX10_watch_65 (by decide) ?_
        refine lv_istore (lv' := [(5, .int (0 : Int32)), (0, .ref (G.2.2 + r0)), (1, .int x1), (2, .int x2), (3, .int x3), (4, .int x4)]) C.x C.b dX10_watch_66 hl (by decide) rfl (fun ls hl => ?_)
        exact w_X10_watch_68 C hr hlk hk49 FU _ _ _ _ _ _ _ _ _ hf hE hR hS t_r0 (lv_sub hl [1, 2, 3, 4, 5, 0] rfl)
set_option maxRecDepth 100000 in
set_option maxHeartbeats 4000000 in
theorem w_X10_watch_9 {G : Gt} {l : Launch} {p : Program} {e : Env} {s : State} {m : MethodId} {args : Array Value} {below : List Frame} {meth : Method} {c : Code}  {h0 : Hp} {out : (Int32 × Hp)} {r0 : Nat}  (C : Cx G p m c cX10_watch 8 s args RX10) (hr : meth.sig.returnType = some .int) (hlk : meth.locks = false)   (n : Nat) : P_X10_watch_9 G l p e s m args below meth c h0 out r0 (f_X10_watch_9 r0 n) := by
  induction n with
  | zero => intro H locs ls h x1 x2 hf hE hR hS t_r0 hl; cases hf
  | succ n hk9 =>
    intro H locs ls h x1 x2 hf hE hR hS t_r0 hl
    rw [f_X10_watch_9] at hf
    obtain ⟨k9, e_k9⟩ : ∃ y, y = f_X10_watch_9 r0 n := ⟨_, rfl⟩
    have hf := lt_e hf e_k9
    rw [← e_k9] at hk9
    refine lv_iload_n C.x C.b dX10_watch_9 rfl (lv_at hl 2 rfl) ?_
    refine lv_bipush (v := (16 : Int32)) C.x C.b dX10_watch_10 (by decide) ?_
    refine lv_icmp_ge (tgt := 39) C.x C.b dX10_watch_12 (by decide) (fun c2 => ?_) (fun c2 => ?_)
    · have hf := it_t hf c2
      refine lv_bipush (v := (-2 : Int32)) C.x C.b dX10_watch_39 (by decide) ?_
      refine lv_istore_n (lv' := [(2, .int (-2 : Int32)), (0, .ref (G.2.2 + r0)), (1, .int x1)]) C.x C.b dX10_watch_41 rfl hl (by decide) rfl (fun ls hl => ?_)
      refine lv_ldcw C.x C.b C.ow (C.ts _ lk_X10_392) dX10_watch_42 ?_
      refine lv_istore_n (lv' := [(3, .int (1000000 : Int32)), (2, .int (-2 : Int32)), (0, .ref (G.2.2 + r0)), (1, .int x1)]) C.x C.b dX10_watch_45 rfl hl (by decide) rfl (fun ls hl => ?_)
      refine lv_iconst (v := (0 : Int32)) C.x C.b dX10_watch_46 (by decide) ?_
      refine lv_istore (lv' := [(4, .int (0 : Int32)), (3, .int (1000000 : Int32)), (2, .int (-2 : Int32)), (0, .ref (G.2.2 + r0)), (1, .int x1)]) C.x C.b dX10_watch_47 hl (by decide) rfl (fun ls hl => ?_)
      exact w_X10_watch_49 C hr hlk FU _ _ _ _ _ _ _ _ hf hE hR hS t_r0 (lv_sub hl [3, 4, 2, 1, 0] rfl)
    · have hf := it_f hf c2
      refine lv_iload_n C.x C.b dX10_watch_15 rfl (lv_at hl 1 rfl) ?_
      refine lv_aload_n C.x C.b dX10_watch_16 rfl (lv_at hl 0 rfl) ?_
      refine lv_iload_n C.x C.b dX10_watch_17 rfl (lv_at hl 2 rfl) ?_
      obtain ⟨q3, h_q3, hf⟩ := bd_e hf
      refine r_callV (As := [.int x2]) (rest := [.int x1]) C hR hS t_r0 rfl mk_X10_isLaw cl_X10_417 (k_X10_isLaw t_r0 h_q3) ⟨⟨Nat.le_of_ble_eq_true rfl, Nat.le_of_ble_eq_true rfl⟩, ⟨rfl, rfl⟩, Nat.le_of_ble_eq_true rfl, Nat.le_of_ble_eq_true rfl⟩ rfl hl.1 rfl (Nat.le_of_ble_eq_true rfl) dX10_watch_18 (fun H locs hR hS hE1 z_q3 => ?_)
      have hE := hE.tr hE1
      have t_r0 := hE1.at t_r0 (by decide)
      have z_q3 := z_q3 _ rfl
      refine lv_if_eq (tgt := 30) C.x C.b dX10_watch_21 (by decide) (fun c4 => ?_) (fun c4 => ?_)
      · have hf := it_t hf c4
        refine lv_iconst (v := (0 : Int32)) C.x C.b dX10_watch_30 (by decide) ?_
        exact w_X10_watch_31 C hr hlk hk9 _ _ _ _ _ _ _ hf hE hR hS t_r0 (lv_sub hl [0, 2] rfl)
      · have hf := it_f hf c4
        refine lv_iconst (v := (1 : Int32)) C.x C.b dX10_watch_24 (by decide) ?_
        refine lv_iload_n C.x C.b dX10_watch_25 rfl (lv_at hl 2 rfl) ?_
        refine lv_ishl C.x C.b dX10_watch_26 ?_
        refine lv_topi (fun v5 e_v5 => ?_)
        have hf := lt_e hf e_v5
        refine lv_goto (tgt := 31) C.x C.b dX10_watch_27 (by decide) ?_
        exact w_X10_watch_31 C hr hlk hk9 _ _ _ _ _ _ _ hf hE hR hS t_r0 (lv_sub hl [0, 2] rfl)
set_option maxRecDepth 100000 in
set_option maxHeartbeats 4000000 in
theorem k_X10_watch {G : Gt} {l : Launch}  {h : Hp} {r0 : Nat} {out : (Int32 × Hp)} (t_r0 : hpT h r0 = (1, 10))  (hf : f_X10_watch  h r0 = some out) : Mt G l yX10_watch cX10_watch 8 (some .int) rm_X10_watch [.ref (G.2.2 + r0)] h (some (.int out.1)) out.2 0 0 0 := by
  refine r_met (by decide +kernel) (Nat.le_of_ble_eq_true rfl) ?_
  intro p e s m args below meth c ls C hr hlk hnm hR hS hl
  have hE : Ext h h := Ext.rf
  have hl : lv_has ls 8 [(0, .ref (G.2.2 + r0))] := hl
  rw [f_X10_watch] at hf
  refine lv_aload_n C.x C.b dX10_watch_0 rfl (lv_at hl 0 rfl) ?_
  refine lv_iconst (v := (0 : Int32)) C.x C.b dX10_watch_1 (by decide) ?_
  refine r_puti C hR hS t_r0 fl_X10_103 fp_X10_10_0 rfl dX10_watch_2 (fun H locs hR hS => ?_)
  obtain ⟨h1, e_h1⟩ : ∃ y, y = upI h r0 0 (0 : Int32) := ⟨_, rfl⟩
  rw [← e_h1] at hR
  have hf := lt_e hf e_h1
  have hE := eI e_h1 hE
  have t_r0 := tI e_h1 t_r0
  refine lv_iconst (v := (0 : Int32)) C.x C.b dX10_watch_5 (by decide) ?_
  refine lv_istore_n (lv' := [(1, .int (0 : Int32)), (0, .ref (G.2.2 + r0))]) C.x C.b dX10_watch_6 rfl hl (by decide) rfl (fun ls hl => ?_)
  refine lv_iconst (v := (0 : Int32)) C.x C.b dX10_watch_7 (by decide) ?_
  refine lv_istore_n (lv' := [(2, .int (0 : Int32)), (1, .int (0 : Int32)), (0, .ref (G.2.2 + r0))]) C.x C.b dX10_watch_8 rfl hl (by decide) rfl (fun ls hl => ?_)
  exact w_X10_watch_9 C hr hlk FU _ _ _ _ _ _ hf hE hR hS t_r0 (lv_sub hl [2, 1, 0] rfl)

def rm_X10_heard : Room := { frames := 1, cells := 0, slots := 0, locals := 25 }
def P_X10_heard_35 (G : Gt) (l : Launch) (p : Program) (e : Env) (s : State) (m : MethodId) (args : Array Value) (below : List Frame) (meth : Method) (c : Code) (h0 : Hp) (out : (Int32 × Hp)) (r0 : Nat) (x1 : Int32) (x2 : Int32) (k : Hp → Int32 → Option (Int32 × Hp)) : Prop := ∀ (H : Heap) (locs : List Loc) (ls : Array Slot) (h : Hp) (s0 : Int32), k h s0 = some out → Ext h0 h → Rel G h H → va_S (AA G.2.2) s.heap H locs → hpT h r0 = (1, 10) → lv_has ls 4 [(0, .ref (G.2.2 + r0)), (1, .int x1), (2, .int x2)] → W p l e rm_X10_heard s m args below meth c H locs 0 0 (MQ below (Qm G h0 out.2 (some (.int out.1)) 0) args s 0 0 (AA G.2.2)) (F0 m 35 ls [.int s0])
set_option maxRecDepth 100000 in
set_option maxHeartbeats 4000000 in
theorem w_X10_heard_35 {G : Gt} {l : Launch} {p : Program} {e : Env} {s : State} {m : MethodId} {args : Array Value} {below : List Frame} {meth : Method} {c : Code}  {h0 : Hp} {out : (Int32 × Hp)} {r0 : Nat} {x1 : Int32} {x2 : Int32}  (C : Cx G p m c cX10_heard 4 s args RX10) (hr : meth.sig.returnType = some .int) (hlk : meth.locks = false)   : P_X10_heard_35 G l p e s m args below meth c h0 out r0 x1 x2 (f_X10_heard_35 r0 x1 x2) := by
  intro H locs ls h s0 hf hE hR hS t_r0 hl
  rw [f_X10_heard_35] at hf
  refine lv_istore_n (lv' := [(3, .int s0), (0, .ref (G.2.2 + r0)), (1, .int x1), (2, .int x2)]) C.x C.b dX10_heard_35 rfl hl (by decide) rfl (fun ls hl => ?_)
  refine lv_iload_n C.x C.b dX10_heard_36 rfl (lv_at hl 2 rfl) ?_
  refine lv_i2l C.x C.b dX10_heard_37 rfl ?_
  refine lv_lconst (v := (0 : Int64)) C.x C.b dX10_heard_38 (by decide) ?_
  refine lv_ldc2 C.x C.b C.ow (C.ts _ lk_X10_420) dX10_heard_39 ?_
  obtain ⟨q5, h_q5, hf⟩ := bd_e hf
  refine r_callS (As := [.long (x1.toInt64), .long (0 : Int64), .long (4 : Int64)]) (rest := []) C hR hS mk_X10_in cl_X10_117 (k_X10_in h_q5) ⟨⟨Nat.le_of_ble_eq_true rfl, Nat.le_of_ble_eq_true rfl⟩, ⟨rfl, rfl⟩, Nat.le_of_ble_eq_true rfl, Nat.le_of_ble_eq_true rfl⟩ rfl hl.1 rfl (Nat.le_of_ble_eq_true rfl) dX10_heard_42 (fun H locs hR hS hE1 z_q5 => ?_)
  have z_q5 := z_q5 _ rfl
  refine lv_if_eq (tgt := 68) C.x C.b dX10_heard_45 (by decide) (fun c6 => ?_) (fun c6 => ?_)
  · have hf := it_t hf c6
    refine lv_iconst (v := (-1 : Int32)) C.x C.b dX10_heard_68 (by decide) ?_
    have hf := so_e hf
    subst hf
    exact r_iret C hr hlk hR hE hS dX10_heard_69
  · have hf := it_f hf c6
    refine lv_iload_n C.x C.b dX10_heard_48 rfl (lv_at hl 3 rfl) ?_
    refine lv_i2l C.x C.b dX10_heard_49 rfl ?_
    refine lv_lconst (v := (0 : Int64)) C.x C.b dX10_heard_50 (by decide) ?_
    refine lv_iload_n C.x C.b dX10_heard_51 rfl (lv_at hl 0 rfl) ?_
    refine lv_i2l C.x C.b dX10_heard_52 rfl ?_
    obtain ⟨q7, h_q7, hf⟩ := bd_e hf
    refine r_callS (As := [.long (x2.toInt64), .long (0 : Int64), .long (s0.toInt64)]) (rest := []) C hR hS mk_X10_in cl_X10_117 (k_X10_in h_q7) ⟨⟨Nat.le_of_ble_eq_true rfl, Nat.le_of_ble_eq_true rfl⟩, ⟨rfl, rfl⟩, Nat.le_of_ble_eq_true rfl, Nat.le_of_ble_eq_true rfl⟩ rfl hl.1 rfl (Nat.le_of_ble_eq_true rfl) dX10_heard_53 (fun H locs hR hS hE1 z_q7 => ?_)
    have z_q7 := z_q7 _ rfl
    refine lv_if_eq (tgt := 68) C.x C.b dX10_heard_56 (by decide) (fun c8 => ?_) (fun c8 => ?_)
    · have hf := it_t hf c8
      refine lv_iconst (v := (-1 : Int32)) C.x C.b dX10_heard_68 (by decide) ?_
      have hf := so_e hf
      subst hf
      exact r_iret C hr hlk hR hE hS dX10_heard_69
    · have hf := it_f hf c8
      refine lv_aload_n C.x C.b dX10_heard_59 rfl (lv_at hl 1 rfl) ?_
      refine r_geti C hR t_r0 fl_X10_422 rfl dX10_heard_60 ?_
      refine lv_bipush (v := (12 : Int32)) C.x C.b dX10_heard_63 (by decide) ?_
      refine lv_icmp_ne (tgt := 70) C.x C.b dX10_heard_65 (by decide) (fun c9 => ?_) (fun c9 => ?_)
      · have hf := it_f hf c9
        refine lv_aload_n C.x C.b dX10_heard_70 rfl (lv_at hl 1 rfl) ?_
        obtain ⟨g10, hf⟩ := gd_e hf
        refine r_getr C hR t_r0 fl_X10_78 (by decide) (nz_e g10) dX10_heard_71 (fun tq11 => ?_)
        have tg10 := okA tq11 rfl
        refine lv_aload_n C.x C.b dX10_heard_74 rfl (lv_at hl 1 rfl) ?_
        refine r_geti C hR t_r0 fl_X10_422 rfl dX10_heard_75 ?_
        refine lv_iload_n C.x C.b dX10_heard_78 rfl (lv_at hl 2 rfl) ?_
        obtain ⟨g12, hf⟩ := gd_e hf
        refine r_iast C hR hS tg10 g12 dX10_heard_79 (fun H locs hR hS => ?_)
        obtain ⟨h13, e_h13⟩ : ∃ y, y = upI h (hpR h r0 37) (ix (hpI h r0 36)) x1 := ⟨_, rfl⟩
        rw [← e_h13] at hR
        have hf := lt_e hf e_h13
        have hE := eI e_h13 hE
        have t_r0 := tI e_h13 t_r0
        refine lv_aload_n C.x C.b dX10_heard_80 rfl (lv_at hl 1 rfl) ?_
        obtain ⟨g14, hf⟩ := gd_e hf
        refine r_getr C hR t_r0 fl_X10_81 (by decide) (nz_e g14) dX10_heard_81 (fun tq15 => ?_)
        have tg14 := okA tq15 rfl
        refine lv_aload_n C.x C.b dX10_heard_84 rfl (lv_at hl 1 rfl) ?_
        refine r_geti C hR t_r0 fl_X10_422 rfl dX10_heard_85 ?_
        refine lv_iload_n C.x C.b dX10_heard_88 rfl (lv_at hl 3 rfl) ?_
        obtain ⟨g16, hf⟩ := gd_e hf
        refine r_iast C hR hS tg14 g16 dX10_heard_89 (fun H locs hR hS => ?_)
        obtain ⟨h17, e_h17⟩ : ∃ y, y = upI h13 (hpR h13 r0 38) (ix (hpI h13 r0 36)) x2 := ⟨_, rfl⟩
        rw [← e_h17] at hR
        have hf := lt_e hf e_h17
        have hE := eI e_h17 hE
        have t_r0 := tI e_h17 t_r0
        refine lv_aload_n C.x C.b dX10_heard_90 rfl (lv_at hl 1 rfl) ?_
        refine lv_dup C.x C.b dX10_heard_91 rfl ?_
        refine r_geti C hR t_r0 fl_X10_422 rfl dX10_heard_92 ?_
        refine lv_iconst (v := (1 : Int32)) C.x C.b dX10_heard_95 (by decide) ?_
        refine lv_iadd C.x C.b dX10_heard_96 ?_
        refine r_puti C hR hS t_r0 fl_X10_422 fp_X10_10_36 rfl dX10_heard_97 (fun H locs hR hS => ?_)
        obtain ⟨h18, e_h18⟩ : ∃ y, y = upI h17 r0 36 ((hpI h17 r0 36) + (1 : Int32)) := ⟨_, rfl⟩
        rw [← e_h18] at hR
        have hf := lt_e hf e_h18
        have hE := eI e_h18 hE
        have t_r0 := tI e_h18 t_r0
        refine lv_aload_n C.x C.b dX10_heard_100 rfl (lv_at hl 1 rfl) ?_
        refine r_geti C hR t_r0 fl_X10_422 rfl dX10_heard_101 ?_
        have hf := so_e hf
        subst hf
        exact r_iret C hr hlk hR hE hS dX10_heard_104
      · have hf := it_t hf c9
        refine lv_iconst (v := (-1 : Int32)) C.x C.b dX10_heard_68 (by decide) ?_
        have hf := so_e hf
        subst hf
        exact r_iret C hr hlk hR hE hS dX10_heard_69
set_option maxRecDepth 100000 in
set_option maxHeartbeats 4000000 in
theorem k_X10_heard {G : Gt} {l : Launch}  {h : Hp} {r0 : Nat} {x1 : Int32} {x2 : Int32} {out : (Int32 × Hp)} (t_r0 : hpT h r0 = (1, 10))  (hf : f_X10_heard  h r0 x1 x2 = some out) : Mt G l yX10_heard cX10_heard 4 (some .int) rm_X10_heard [.ref (G.2.2 + r0), .int x1, .int x2] h (some (.int out.1)) out.2 0 0 0 := by
  refine r_met (by decide +kernel) (Nat.le_of_ble_eq_true rfl) ?_
  intro p e s m args below meth c ls C hr hlk hnm hR hS hl
  have hE : Ext h h := Ext.rf
  have hl : lv_has ls 4 [(0, .ref (G.2.2 + r0)), (1, .int x1), (2, .int x2)] := hl
  rw [f_X10_heard] at hf
  refine lv_aload_n C.x C.b dX10_heard_0 rfl (lv_at hl 0 rfl) ?_
  refine lv_iconst (v := (0 : Int32)) C.x C.b dX10_heard_1 (by decide) ?_
  refine r_puti C hR hS t_r0 fl_X10_103 fp_X10_10_0 rfl dX10_heard_2 (fun H locs hR hS => ?_)
  obtain ⟨h1, e_h1⟩ : ∃ y, y = upI h r0 0 (0 : Int32) := ⟨_, rfl⟩
  rw [← e_h1] at hR
  have hf := lt_e hf e_h1
  have hE := eI e_h1 hE
  have t_r0 := tI e_h1 t_r0
  refine lv_iload_n C.x C.b dX10_heard_5 rfl (lv_at hl 1 rfl) ?_
  refine lv_if_ne (tgt := 14) C.x C.b dX10_heard_6 (by decide) (fun c2 => ?_) (fun c2 => ?_)
  · simp only [if_neg c2] at hf
    refine lv_iload_n C.x C.b dX10_heard_14 rfl (lv_at hl 1 rfl) ?_
    refine lv_iconst (v := (3 : Int32)) C.x C.b dX10_heard_15 (by decide) ?_
    refine lv_icmp_ne (tgt := 24) C.x C.b dX10_heard_16 (by decide) (fun c3 => ?_) (fun c3 => ?_)
    · simp only [if_neg c3] at hf
      refine lv_iload_n C.x C.b dX10_heard_24 rfl (lv_at hl 1 rfl) ?_
      refine lv_iconst (v := (4 : Int32)) C.x C.b dX10_heard_25 (by decide) ?_
      refine lv_icmp_ne (tgt := 34) C.x C.b dX10_heard_26 (by decide) (fun c4 => ?_) (fun c4 => ?_)
      · simp only [if_neg c4] at hf
        refine lv_iconst (v := (5 : Int32)) C.x C.b dX10_heard_34 (by decide) ?_
        exact w_X10_heard_35 C hr hlk _ _ _ _ _ hf hE hR hS t_r0 (lv_sub hl [0, 1, 2] rfl)
      · simp only [if_pos c4] at hf
        refine lv_bipush (v := (7 : Int32)) C.x C.b dX10_heard_29 (by decide) ?_
        refine lv_goto (tgt := 35) C.x C.b dX10_heard_31 (by decide) ?_
        exact w_X10_heard_35 C hr hlk _ _ _ _ _ hf hE hR hS t_r0 (lv_sub hl [0, 1, 2] rfl)
    · simp only [if_pos c3] at hf
      refine lv_bipush (v := (99 : Int32)) C.x C.b dX10_heard_19 (by decide) ?_
      refine lv_goto (tgt := 35) C.x C.b dX10_heard_21 (by decide) ?_
      exact w_X10_heard_35 C hr hlk _ _ _ _ _ hf hE hR hS t_r0 (lv_sub hl [0, 1, 2] rfl)
  · simp only [if_pos c2] at hf
    refine lv_bipush (v := (9 : Int32)) C.x C.b dX10_heard_9 (by decide) ?_
    refine lv_goto (tgt := 35) C.x C.b dX10_heard_11 (by decide) ?_
    exact w_X10_heard_35 C hr hlk _ _ _ _ _ hf hE hR hS t_r0 (lv_sub hl [0, 1, 2] rfl)

def rm_X10_forget : Room := { frames := 0, cells := 0, slots := 0, locals := 0 }
set_option maxRecDepth 100000 in
set_option maxHeartbeats 4000000 in
theorem k_X10_forget {G : Gt} {l : Launch}  {h : Hp} {r0 : Nat} {out : (Int32 × Hp)} (t_r0 : hpT h r0 = (1, 10))  (hf : f_X10_forget  h r0 = some out) : Mt G l yX10_forget cX10_forget 2 (some .int) rm_X10_forget [.ref (G.2.2 + r0)] h (some (.int out.1)) out.2 0 0 0 := by
  refine r_met (by decide +kernel) (Nat.le_of_ble_eq_true rfl) ?_
  intro p e s m args below meth c ls C hr hlk hnm hR hS hl
  have hE : Ext h h := Ext.rf
  have hl : lv_has ls 2 [(0, .ref (G.2.2 + r0))] := hl
  rw [f_X10_forget] at hf
  refine lv_aload_n C.x C.b dX10_forget_0 rfl (lv_at hl 0 rfl) ?_
  refine lv_iconst (v := (0 : Int32)) C.x C.b dX10_forget_1 (by decide) ?_
  refine r_puti C hR hS t_r0 fl_X10_103 fp_X10_10_0 rfl dX10_forget_2 (fun H locs hR hS => ?_)
  obtain ⟨h1, e_h1⟩ : ∃ y, y = upI h r0 0 (0 : Int32) := ⟨_, rfl⟩
  rw [← e_h1] at hR
  have hf := lt_e hf e_h1
  have hE := eI e_h1 hE
  have t_r0 := tI e_h1 t_r0
  refine lv_aload_n C.x C.b dX10_forget_5 rfl (lv_at hl 0 rfl) ?_
  refine r_geti C hR t_r0 fl_X10_422 rfl dX10_forget_6 ?_
  refine lv_topi (fun v2 e_v2 => ?_)
  have hf := lt_e hf e_v2
  refine lv_istore_n (lv' := [(1, .int v2), (0, .ref (G.2.2 + r0))]) C.x C.b dX10_forget_9 rfl hl (by decide) rfl (fun ls hl => ?_)
  refine lv_aload_n C.x C.b dX10_forget_10 rfl (lv_at hl 1 rfl) ?_
  refine lv_iconst (v := (0 : Int32)) C.x C.b dX10_forget_11 (by decide) ?_
  refine r_puti C hR hS t_r0 fl_X10_422 fp_X10_10_36 rfl dX10_forget_12 (fun H locs hR hS => ?_)
  obtain ⟨h3, e_h3⟩ : ∃ y, y = upI h1 r0 36 (0 : Int32) := ⟨_, rfl⟩
  rw [← e_h3] at hR
  have hf := lt_e hf e_h3
  have hE := eI e_h3 hE
  have t_r0 := tI e_h3 t_r0
  refine lv_iload_n C.x C.b dX10_forget_15 rfl (lv_at hl 0 rfl) ?_
  have hf := so_e hf
  subst hf
  exact r_iret C hr hlk hR hE hS dX10_forget_16

def rm_X10_isSo : Room := { frames := 5, cells := 0, slots := 0, locals := 124 }
set_option maxRecDepth 100000 in
set_option maxHeartbeats 4000000 in
theorem k_X10_isSo {G : Gt} {l : Launch}  {h : Hp} {r0 : Nat} {x1 : Int32} {x2 : Int32} {x3 : Int32} {out : Int32} (t_r0 : hpT h r0 = (1, 10))  (hf : f_X10_isSo  h r0 x1 x2 x3 = some out) : Mt G l yX10_isSo cX10_isSo 4 (some .boolean) rm_X10_isSo [.ref (G.2.2 + r0), .int x1, .int x2, .int x3] h (some (.int out)) h 1 0 0 := by
  refine r_met (by decide +kernel) (Nat.le_of_ble_eq_true rfl) ?_
  intro p e s m args below meth c ls C hr hlk hnm hR hS hl
  have hl : lv_has ls 4 [(0, .ref (G.2.2 + r0)), (1, .int x1), (2, .int x2), (3, .int x3)] := hl
  rw [f_X10_isSo] at hf
  refine lv_iload_n C.x C.b dX10_isSo_0 rfl (lv_at hl 2 rfl) ?_
  by_cases c29_0 : x2 = (0 : Int32)
  · have hf := it_t hf c29_0
    refine lv_tableIn (tgt := 32) C.x C.b dX10_isSo_1 (by rw [c29_0]; decide) (by rw [c29_0]; decide) (by rw [c29_0]; rfl) (by decide) ?_
    refine lv_aload_n C.x C.b dX10_isSo_32 rfl (lv_at hl 0 rfl) ?_
    obtain ⟨g1, hf⟩ := gd_e hf
    refine r_getr C hR t_r0 fl_X10_20 (by decide) (nz_e g1) dX10_isSo_33 (fun tq2 => ?_)
    have tg1 := okA tq2 rfl
    refine lv_bipush (v := (24 : Int32)) C.x C.b dX10_isSo_36 (by decide) ?_
    refine lv_iload_n C.x C.b dX10_isSo_38 rfl (lv_at hl 1 rfl) ?_
    refine lv_iadd C.x C.b dX10_isSo_39 ?_
    obtain ⟨g3, hf⟩ := gd_e hf
    refine r_iald C hR tg1 g3 dX10_isSo_40 ?_
    refine lv_iload_n C.x C.b dX10_isSo_41 rfl (lv_at hl 3 rfl) ?_
    refine lv_icmp_gt (tgt := 49) C.x C.b dX10_isSo_42 (by decide) (fun c4 => ?_) (fun c4 => ?_)
    · have hf := it_t hf c4
      refine lv_iconst (v := (0 : Int32)) C.x C.b dX10_isSo_49 (by decide) ?_
      have hf := so_e hf
      subst hf
      exact r_zret C hr hlk hR Ext.rf hS z_0 dX10_isSo_50
    · have hf := it_f hf c4
      refine lv_iconst (v := (1 : Int32)) C.x C.b dX10_isSo_45 (by decide) ?_
      refine lv_goto (tgt := 50) C.x C.b dX10_isSo_46 (by decide) ?_
      have hf := so_e hf
      subst hf
      exact r_zret C hr hlk hR Ext.rf hS z_1 dX10_isSo_50
  have hf := it_f hf c29_0
  by_cases c29_1 : x2 = (1 : Int32)
  · have hf := it_t hf c29_1
    refine lv_tableIn (tgt := 51) C.x C.b dX10_isSo_1 (by rw [c29_1]; decide) (by rw [c29_1]; decide) (by rw [c29_1]; rfl) (by decide) ?_
    refine lv_iload_n C.x C.b dX10_isSo_51 rfl (lv_at hl 3 rfl) ?_
    refine lv_aload_n C.x C.b dX10_isSo_52 rfl (lv_at hl 0 rfl) ?_
    obtain ⟨g5, hf⟩ := gd_e hf
    refine r_getr C hR t_r0 fl_X10_20 (by decide) (nz_e g5) dX10_isSo_53 (fun tq6 => ?_)
    have tg5 := okA tq6 rfl
    refine lv_iload_n C.x C.b dX10_isSo_56 rfl (lv_at hl 1 rfl) ?_
    obtain ⟨g7, hf⟩ := gd_e hf
    refine r_iald C hR tg5 g7 dX10_isSo_57 ?_
    refine lv_aload_n C.x C.b dX10_isSo_58 rfl (lv_at hl 0 rfl) ?_
    refine r_geti C hR t_r0 fl_X10_17 rfl dX10_isSo_59 ?_
    obtain ⟨g8, hf⟩ := gd_e hf
    refine lv_idiv C.x C.b dX10_isSo_62 (nz32_e g8) ?_
    refine lv_isub C.x C.b dX10_isSo_63 ?_
    refine lv_i2l C.x C.b dX10_isSo_64 rfl ?_
    refine lv_lconst (v := (0 : Int64)) C.x C.b dX10_isSo_65 (by decide) ?_
    refine lv_aload_n C.x C.b dX10_isSo_66 rfl (lv_at hl 0 rfl) ?_
    refine r_getr C hR t_r0 fl_X10_20 (by decide) (nz_e g5) dX10_isSo_67 (fun tq9 => ?_)
    refine lv_bipush (v := (8 : Int32)) C.x C.b dX10_isSo_70 (by decide) ?_
    refine lv_iload_n C.x C.b dX10_isSo_72 rfl (lv_at hl 1 rfl) ?_
    refine lv_iadd C.x C.b dX10_isSo_73 ?_
    obtain ⟨g10, hf⟩ := gd_e hf
    refine r_iald C hR tg5 g10 dX10_isSo_74 ?_
    refine lv_iconst (v := (1 : Int32)) C.x C.b dX10_isSo_75 (by decide) ?_
    refine lv_isub C.x C.b dX10_isSo_76 ?_
    refine lv_i2l C.x C.b dX10_isSo_77 rfl ?_
    obtain ⟨q11, h_q11, hf⟩ := bd_e hf
    refine r_callS (As := [.long ((x3 - ((hpI h (hpR h r0 6) (ix x1)) / (hpI h r0 4))).toInt64), .long (0 : Int64), .long (((hpI h (hpR h r0 6) (ix ((8 : Int32) + x1))) - (1 : Int32)).toInt64)]) (rest := []) C hR hS mk_X10_in cl_X10_117 (k_X10_in h_q11) ⟨⟨Nat.le_of_ble_eq_true rfl, Nat.le_of_ble_eq_true rfl⟩, ⟨rfl, rfl⟩, Nat.le_of_ble_eq_true rfl, Nat.le_of_ble_eq_true rfl⟩ rfl hl.1 rfl (Nat.le_of_ble_eq_true rfl) dX10_isSo_78 (fun H locs hR hS hE1 z_q11 => ?_)
    have z_q11 := z_q11 _ rfl
    have hf := so_e hf
    subst hf
    exact r_zret C hr hlk hR Ext.rf hS z_q11 dX10_isSo_81
  have hf := it_f hf c29_1
  by_cases c29_2 : x2 = (2 : Int32)
  · have hf := it_t hf c29_2
    refine lv_tableIn (tgt := 82) C.x C.b dX10_isSo_1 (by rw [c29_2]; decide) (by rw [c29_2]; decide) (by rw [c29_2]; rfl) (by decide) ?_
    refine lv_iload_n C.x C.b dX10_isSo_82 rfl (lv_at hl 3 rfl) ?_
    refine lv_aload_n C.x C.b dX10_isSo_83 rfl (lv_at hl 0 rfl) ?_
    obtain ⟨g12, hf⟩ := gd_e hf
    refine r_getr C hR t_r0 fl_X10_20 (by decide) (nz_e g12) dX10_isSo_84 (fun tq13 => ?_)
    have tg12 := okA tq13 rfl
    refine lv_iload_n C.x C.b dX10_isSo_87 rfl (lv_at hl 1 rfl) ?_
    obtain ⟨g14, hf⟩ := gd_e hf
    refine r_iald C hR tg12 g14 dX10_isSo_88 ?_
    refine lv_aload_n C.x C.b dX10_isSo_89 rfl (lv_at hl 0 rfl) ?_
    refine r_geti C hR t_r0 fl_X10_17 rfl dX10_isSo_90 ?_
    obtain ⟨g15, hf⟩ := gd_e hf
    refine lv_irem C.x C.b dX10_isSo_93 (nz32_e g15) ?_
    refine lv_topi (fun v16 e_v16 => ?_)
    have hf := lt_e hf e_v16
    refine lv_isub C.x C.b dX10_isSo_94 ?_
    refine lv_i2l C.x C.b dX10_isSo_95 rfl ?_
    refine lv_lconst (v := (0 : Int64)) C.x C.b dX10_isSo_96 (by decide) ?_
    refine lv_aload_n C.x C.b dX10_isSo_97 rfl (lv_at hl 0 rfl) ?_
    refine r_getr C hR t_r0 fl_X10_20 (by decide) (nz_e g12) dX10_isSo_98 (fun tq17 => ?_)
    refine lv_bipush (v := (16 : Int32)) C.x C.b dX10_isSo_101 (by decide) ?_
    refine lv_iload_n C.x C.b dX10_isSo_103 rfl (lv_at hl 1 rfl) ?_
    refine lv_iadd C.x C.b dX10_isSo_104 ?_
    obtain ⟨g18, hf⟩ := gd_e hf
    refine r_iald C hR tg12 g18 dX10_isSo_105 ?_
    refine lv_iconst (v := (1 : Int32)) C.x C.b dX10_isSo_106 (by decide) ?_
    refine lv_isub C.x C.b dX10_isSo_107 ?_
    refine lv_i2l C.x C.b dX10_isSo_108 rfl ?_
    obtain ⟨q19, h_q19, hf⟩ := bd_e hf
    refine r_callS (As := [.long ((x3 - v16).toInt64), .long (0 : Int64), .long (((hpI h (hpR h r0 6) (ix ((16 : Int32) + x1))) - (1 : Int32)).toInt64)]) (rest := []) C hR hS mk_X10_in cl_X10_117 (k_X10_in h_q19) ⟨⟨Nat.le_of_ble_eq_true rfl, Nat.le_of_ble_eq_true rfl⟩, ⟨rfl, rfl⟩, Nat.le_of_ble_eq_true rfl, Nat.le_of_ble_eq_true rfl⟩ rfl hl.1 rfl (Nat.le_of_ble_eq_true rfl) dX10_isSo_109 (fun H locs hR hS hE1 z_q19 => ?_)
    have z_q19 := z_q19 _ rfl
    have hf := so_e hf
    subst hf
    exact r_zret C hr hlk hR Ext.rf hS z_q19 dX10_isSo_112
  have hf := it_f hf c29_2
  by_cases c29_3 : x2 = (3 : Int32)
  · have hf := it_t hf c29_3
    refine lv_tableIn (tgt := 113) C.x C.b dX10_isSo_1 (by rw [c29_3]; decide) (by rw [c29_3]; decide) (by rw [c29_3]; rfl) (by decide) ?_
    refine lv_aload_n C.x C.b dX10_isSo_113 rfl (lv_at hl 0 rfl) ?_
    obtain ⟨g20, hf⟩ := gd_e hf
    refine r_getr C hR t_r0 fl_X10_20 (by decide) (nz_e g20) dX10_isSo_114 (fun tq21 => ?_)
    have tg20 := okA tq21 rfl
    refine lv_bipush (v := (40 : Int32)) C.x C.b dX10_isSo_117 (by decide) ?_
    refine lv_iload_n C.x C.b dX10_isSo_119 rfl (lv_at hl 1 rfl) ?_
    refine lv_iadd C.x C.b dX10_isSo_120 ?_
    obtain ⟨g22, hf⟩ := gd_e hf
    refine r_iald C hR tg20 g22 dX10_isSo_121 ?_
    refine lv_iload_n C.x C.b dX10_isSo_122 rfl (lv_at hl 3 rfl) ?_
    refine lv_icmp_lt (tgt := 130) C.x C.b dX10_isSo_123 (by decide) (fun c23 => ?_) (fun c23 => ?_)
    · have hf := it_t hf c23
      refine lv_iconst (v := (0 : Int32)) C.x C.b dX10_isSo_130 (by decide) ?_
      have hf := so_e hf
      subst hf
      exact r_zret C hr hlk hR Ext.rf hS z_0 dX10_isSo_131
    · have hf := it_f hf c23
      refine lv_iconst (v := (1 : Int32)) C.x C.b dX10_isSo_126 (by decide) ?_
      refine lv_goto (tgt := 131) C.x C.b dX10_isSo_127 (by decide) ?_
      have hf := so_e hf
      subst hf
      exact r_zret C hr hlk hR Ext.rf hS z_1 dX10_isSo_131
  have hf := it_f hf c29_3
  refine lv_tableOut (tgt := 132) C.x C.b dX10_isSo_1 (tb_out 4 (by decide) (fun j hj => match j, hj with | 0, _ => fun q => c29_0 (q.trans (by decide)) | 1, _ => fun q => c29_1 (q.trans (by decide)) | 2, _ => fun q => c29_2 (q.trans (by decide)) | 3, _ => fun q => c29_3 (q.trans (by decide)) | n + 4, hn => absurd hn (by omega))) (by decide) ?_
  refine lv_aload_n C.x C.b dX10_isSo_132 rfl (lv_at hl 0 rfl) ?_
  refine lv_aload_n C.x C.b dX10_isSo_133 rfl (lv_at hl 0 rfl) ?_
  obtain ⟨g24, hf⟩ := gd_e hf
  refine r_getr C hR t_r0 fl_X10_20 (by decide) (nz_e g24) dX10_isSo_134 (fun tq25 => ?_)
  have tg24 := okA tq25 rfl
  refine lv_iload_n C.x C.b dX10_isSo_137 rfl (lv_at hl 1 rfl) ?_
  obtain ⟨q26, h_q26, hf⟩ := bd_e hf
  refine r_callV (As := [.ref (G.2.2 + (hpR h r0 6)), .int x1]) (rest := []) C hR hS t_r0 rfl mk_X10_crossing cl_X10_260 (k_X10_crossing t_r0 tg24 h_q26) ⟨⟨Nat.le_of_ble_eq_true rfl, Nat.le_of_ble_eq_true rfl⟩, ⟨rfl, rfl⟩, Nat.le_of_ble_eq_true rfl, Nat.le_of_ble_eq_true rfl⟩ rfl hl.1 rfl (Nat.le_of_ble_eq_true rfl) dX10_isSo_138 (fun H locs hR hS hE1 z_q26 => ?_)
  obtain ⟨q27, h_q27, hf⟩ := bd_e hf
  refine r_callS (As := [.int q26]) (rest := []) C hR hS mk_J6_bitCount_0f7a4 cl_X10_264 (k_J6_bitCount_0f7a4 h_q27) ⟨⟨Nat.le_of_ble_eq_true rfl, Nat.le_of_ble_eq_true rfl⟩, ⟨rfl, rfl⟩, Nat.le_of_ble_eq_true rfl, Nat.le_of_ble_eq_true rfl⟩ rfl hl.1 rfl (Nat.le_of_ble_eq_true rfl) dX10_isSo_141 (fun H locs hR hS hE1 z_q27 => ?_)
  refine lv_iload_n C.x C.b dX10_isSo_144 rfl (lv_at hl 3 rfl) ?_
  refine lv_icmp_lt (tgt := 152) C.x C.b dX10_isSo_145 (by decide) (fun c28 => ?_) (fun c28 => ?_)
  · have hf := it_t hf c28
    refine lv_iconst (v := (0 : Int32)) C.x C.b dX10_isSo_152 (by decide) ?_
    have hf := so_e hf
    subst hf
    exact r_zret C hr hlk hR Ext.rf hS z_0 dX10_isSo_153
  · have hf := it_f hf c28
    refine lv_iconst (v := (1 : Int32)) C.x C.b dX10_isSo_148 (by decide) ?_
    refine lv_goto (tgt := 153) C.x C.b dX10_isSo_149 (by decide) ?_
    have hf := so_e hf
    subst hf
    exact r_zret C hr hlk hR Ext.rf hS z_1 dX10_isSo_153

def rm_X10_fits : Room := { frames := 6, cells := 0, slots := 0, locals := 147 }
def P_X10_fits_72 (G : Gt) (l : Launch) (p : Program) (e : Env) (s : State) (m : MethodId) (args : Array Value) (below : List Frame) (meth : Method) (c : Code) (h0 : Hp) (out : (Int32 × Hp)) (r0 : Nat) (k : Hp → Int32 → Int32 → Int32 → Int32 → Option (Int32 × Hp)) : Prop := ∀ (H : Heap) (locs : List Loc) (ls : Array Slot) (h : Hp) (s0 : Int32) (x1 : Int32) (x2 : Int32) (x4 : Int32), k h s0 x1 x2 x4 = some out → Ext h0 h → Rel G h H → va_S (AA G.2.2) s.heap H locs → hpT h r0 = (1, 10) → narrow .boolean (.int s0) = .int s0 → lv_has ls 5 [(0, .ref (G.2.2 + r0)), (1, .int x1), (2, .int x2), (4, .int x4)] → W p l e rm_X10_fits s m args below meth c H locs 0 0 (MQ below (Qm G h0 out.2 (some (.int out.1)) 0) args s 0 0 (AA G.2.2)) (F0 m 72 ls [.int s0])
def P_X10_fits_71 (G : Gt) (l : Launch) (p : Program) (e : Env) (s : State) (m : MethodId) (args : Array Value) (below : List Frame) (meth : Method) (c : Code) (h0 : Hp) (out : (Int32 × Hp)) (r0 : Nat) (k : Hp → Int32 → Int32 → Int32 → Option (Int32 × Hp)) : Prop := ∀ (H : Heap) (locs : List Loc) (ls : Array Slot) (h : Hp) (x1 : Int32) (x2 : Int32) (x4 : Int32), k h x1 x2 x4 = some out → Ext h0 h → Rel G h H → va_S (AA G.2.2) s.heap H locs → hpT h r0 = (1, 10) → lv_has ls 5 [(0, .ref (G.2.2 + r0)), (1, .int x1), (2, .int x2), (4, .int x4)] → W p l e rm_X10_fits s m args below meth c H locs 0 0 (MQ below (Qm G h0 out.2 (some (.int out.1)) 0) args s 0 0 (AA G.2.2)) (F0 m 71 ls [])
def P_X10_fits_91 (G : Gt) (l : Launch) (p : Program) (e : Env) (s : State) (m : MethodId) (args : Array Value) (below : List Frame) (meth : Method) (c : Code) (h0 : Hp) (out : (Int32 × Hp)) (r0 : Nat) (k : Hp → Int32 → Int32 → Int32 → Option (Int32 × Hp)) : Prop := ∀ (H : Heap) (locs : List Loc) (ls : Array Slot) (h : Hp) (s0 : Int32) (s1 : Int32) (x2 : Int32), k h s0 s1 x2 = some out → Ext h0 h → Rel G h H → va_S (AA G.2.2) s.heap H locs → hpT h r0 = (1, 10) → lv_has ls 5 [(0, .ref (G.2.2 + r0)), (2, .int x2)] → W p l e rm_X10_fits s m args below meth c H locs 0 0 (MQ below (Qm G h0 out.2 (some (.int out.1)) 0) args s 0 0 (AA G.2.2)) (F0 m 91 ls [.int s1, .int s0])
def P_X10_fits_32 (G : Gt) (l : Launch) (p : Program) (e : Env) (s : State) (m : MethodId) (args : Array Value) (below : List Frame) (meth : Method) (c : Code) (h0 : Hp) (out : (Int32 × Hp)) (r0 : Nat) (k : Hp → Int32 → Int32 → Int32 → Int32 → Option (Int32 × Hp)) : Prop := ∀ (H : Heap) (locs : List Loc) (ls : Array Slot) (h : Hp) (x1 : Int32) (x2 : Int32) (x3 : Int32) (x4 : Int32), k h x1 x2 x3 x4 = some out → Ext h0 h → Rel G h H → va_S (AA G.2.2) s.heap H locs → hpT h r0 = (1, 10) → narrow .boolean (.int x3) = .int x3 → lv_has ls 5 [(0, .ref (G.2.2 + r0)), (1, .int x1), (2, .int x2), (3, .int x3), (4, .int x4)] → W p l e rm_X10_fits s m args below meth c H locs 0 0 (MQ below (Qm G h0 out.2 (some (.int out.1)) 0) args s 0 0 (AA G.2.2)) (F0 m 32 ls [])
def P_X10_fits_9 (G : Gt) (l : Launch) (p : Program) (e : Env) (s : State) (m : MethodId) (args : Array Value) (below : List Frame) (meth : Method) (c : Code) (h0 : Hp) (out : (Int32 × Hp)) (r0 : Nat) (k : Hp → Int32 → Int32 → Option (Int32 × Hp)) : Prop := ∀ (H : Heap) (locs : List Loc) (ls : Array Slot) (h : Hp) (x1 : Int32) (x2 : Int32), k h x1 x2 = some out → Ext h0 h → Rel G h H → va_S (AA G.2.2) s.heap H locs → hpT h r0 = (1, 10) → lv_has ls 5 [(0, .ref (G.2.2 + r0)), (1, .int x1), (2, .int x2)] → W p l e rm_X10_fits s m args below meth c H locs 0 0 (MQ below (Qm G h0 out.2 (some (.int out.1)) 0) args s 0 0 (AA G.2.2)) (F0 m 9 ls [])
set_option maxRecDepth 100000 in
set_option maxHeartbeats 4000000 in
theorem w_X10_fits_72 {G : Gt} {l : Launch} {p : Program} {e : Env} {s : State} {m : MethodId} {args : Array Value} {below : List Frame} {meth : Method} {c : Code}  {h0 : Hp} {out : (Int32 × Hp)} {r0 : Nat} {k9 : Hp → Int32 → Int32 → Option (Int32 × Hp)} {k32 : Hp → Int32 → Int32 → Int32 → Int32 → Option (Int32 × Hp)} (C : Cx G p m c cX10_fits 5 s args RX10) (hr : meth.sig.returnType = some .int) (hlk : meth.locks = false)  (hk9 : P_X10_fits_9 G l p e s m args below meth c h0 out r0 k9) (hk32 : P_X10_fits_32 G l p e s m args below meth c h0 out r0 k32) : P_X10_fits_72 G l p e s m args below meth c h0 out r0 (f_X10_fits_72 r0 k9 k32) := by
  intro H locs ls h s0 x1 x2 x4 hf hE hR hS t_r0 z_s0 hl
  rw [f_X10_fits_72] at hf
  refine lv_istore_n (lv' := [(3, .int s0), (0, .ref (G.2.2 + r0)), (1, .int x1), (2, .int x2), (4, .int x4)]) C.x C.b dX10_fits_72 rfl hl (by decide) rfl (fun ls hl => ?_)
  obtain ⟨v23, e_v23⟩ : ∃ y : Int32, y = x4 + (1 : Int32) := ⟨_, rfl⟩
  have hf := lt_e hf e_v23
  refine lv_iinc (v := v23) (lv' := [(4, .int v23), (3, .int s0), (0, .ref (G.2.2 + r0)), (1, .int x1), (2, .int x2)]) C.x C.b dX10_fits_73 hl (k := 4) rfl (by rw [e_v23]; rfl) (by decide) rfl (fun ls hl => ?_)
  refine lv_goto (tgt := 32) C.x C.b dX10_fits_76 (by decide) ?_
  exact hk32 _ _ _ _ _ _ _ _ hf hE hR hS t_r0 z_s0 (lv_sub hl [2, 3, 4, 1, 0] rfl)
set_option maxRecDepth 100000 in
set_option maxHeartbeats 4000000 in
theorem w_X10_fits_71 {G : Gt} {l : Launch} {p : Program} {e : Env} {s : State} {m : MethodId} {args : Array Value} {below : List Frame} {meth : Method} {c : Code}  {h0 : Hp} {out : (Int32 × Hp)} {r0 : Nat} {k9 : Hp → Int32 → Int32 → Option (Int32 × Hp)} {k32 : Hp → Int32 → Int32 → Int32 → Int32 → Option (Int32 × Hp)} (C : Cx G p m c cX10_fits 5 s args RX10) (hr : meth.sig.returnType = some .int) (hlk : meth.locks = false)  (hk9 : P_X10_fits_9 G l p e s m args below meth c h0 out r0 k9) (hk32 : P_X10_fits_32 G l p e s m args below meth c h0 out r0 k32) : P_X10_fits_71 G l p e s m args below meth c h0 out r0 (f_X10_fits_71 r0 k9 k32) := by
  intro H locs ls h x1 x2 x4 hf hE hR hS t_r0 hl
  rw [f_X10_fits_71] at hf
  refine lv_iconst (v := (0 : Int32)) C.x C.b dX10_fits_71 (by decide) ?_
  exact w_X10_fits_72 C hr hlk hk9 hk32 _ _ _ _ _ _ _ _ hf hE hR hS t_r0 z_0 (lv_sub hl [0, 1, 2, 3] rfl)
set_option maxRecDepth 100000 in
set_option maxHeartbeats 4000000 in
theorem w_X10_fits_91 {G : Gt} {l : Launch} {p : Program} {e : Env} {s : State} {m : MethodId} {args : Array Value} {below : List Frame} {meth : Method} {c : Code}  {h0 : Hp} {out : (Int32 × Hp)} {r0 : Nat} {k9 : Hp → Int32 → Int32 → Option (Int32 × Hp)} (C : Cx G p m c cX10_fits 5 s args RX10) (hr : meth.sig.returnType = some .int) (hlk : meth.locks = false)  (hk9 : P_X10_fits_9 G l p e s m args below meth c h0 out r0 k9) : P_X10_fits_91 G l p e s m args below meth c h0 out r0 (f_X10_fits_91 r0 k9) := by
  intro H locs ls h s0 s1 x2 hf hE hR hS t_r0 hl
  rw [f_X10_fits_91] at hf
  refine lv_ior C.x C.b dX10_fits_91 ?_
  refine lv_topi (fun v24 e_v24 => ?_)
  have hf := lt_e hf e_v24
  refine lv_istore_n (lv' := [(1, .int v24), (0, .ref (G.2.2 + r0)), (2, .int x2)]) C.x C.b dX10_fits_92 rfl hl (by decide) rfl (fun ls hl => ?_)
  obtain ⟨v25, e_v25⟩ : ∃ y : Int32, y = x2 + (1 : Int32) := ⟨_, rfl⟩
  have hf := lt_e hf e_v25
  refine lv_iinc (v := v25) (lv' := [(2, .int v25), (1, .int v24), (0, .ref (G.2.2 + r0))]) C.x C.b dX10_fits_93 hl (k := 2) rfl (by rw [e_v25]; rfl) (by decide) rfl (fun ls hl => ?_)
  refine lv_goto (tgt := 9) C.x C.b dX10_fits_96 (by decide) ?_
  exact hk9 _ _ _ _ _ _ hf hE hR hS t_r0 (lv_sub hl [2, 1, 0] rfl)
set_option maxRecDepth 100000 in
set_option maxHeartbeats 4000000 in
theorem w_X10_fits_32 {G : Gt} {l : Launch} {p : Program} {e : Env} {s : State} {m : MethodId} {args : Array Value} {below : List Frame} {meth : Method} {c : Code}  {h0 : Hp} {out : (Int32 × Hp)} {r0 : Nat} {k9 : Hp → Int32 → Int32 → Option (Int32 × Hp)} (C : Cx G p m c cX10_fits 5 s args RX10) (hr : meth.sig.returnType = some .int) (hlk : meth.locks = false)  (hk9 : P_X10_fits_9 G l p e s m args below meth c h0 out r0 k9) (n : Nat) : P_X10_fits_32 G l p e s m args below meth c h0 out r0 (f_X10_fits_32 r0 k9 n) := by
  induction n with
  | zero => intro H locs ls h x1 x2 x3 x4 hf hE hR hS t_r0 z_x3 hl; cases hf
  | succ n hk32 =>
    intro H locs ls h x1 x2 x3 x4 hf hE hR hS t_r0 z_x3 hl
    rw [f_X10_fits_32] at hf
    obtain ⟨k32, e_k32⟩ : ∃ y, y = f_X10_fits_32 r0 k9 n := ⟨_, rfl⟩
    have hf := lt_e hf e_k32
    rw [← e_k32] at hk32
    refine lv_iload C.x C.b dX10_fits_32 (lv_at hl 4 rfl) ?_
    refine lv_aload_n C.x C.b dX10_fits_34 rfl (lv_at hl 0 rfl) ?_
    refine r_geti C hR t_r0 fl_X10_422 rfl dX10_fits_35 ?_
    refine lv_icmp_ge (tgt := 79) C.x C.b dX10_fits_38 (by decide) (fun c11 => ?_) (fun c11 => ?_)
    · have hf := it_t hf c11
      refine lv_iload_n C.x C.b dX10_fits_79 rfl (lv_at hl 1 rfl) ?_
      refine lv_iload_n C.x C.b dX10_fits_80 rfl (lv_at hl 3 rfl) ?_
      refine lv_if_eq (tgt := 90) C.x C.b dX10_fits_81 (by decide) (fun c12 => ?_) (fun c12 => ?_)
      · have hf := it_t hf c12
        refine lv_iconst (v := (0 : Int32)) C.x C.b dX10_fits_90 (by decide) ?_
        exact w_X10_fits_91 C hr hlk hk9 _ _ _ _ _ _ _ hf hE hR hS t_r0 (lv_sub hl [0, 2] rfl)
      · have hf := it_f hf c12
        refine lv_iconst (v := (1 : Int32)) C.x C.b dX10_fits_84 (by decide) ?_
        refine lv_iload_n C.x C.b dX10_fits_85 rfl (lv_at hl 2 rfl) ?_
        refine lv_ishl C.x C.b dX10_fits_86 ?_
        refine lv_topi (fun v13 e_v13 => ?_)
        have hf := lt_e hf e_v13
        refine lv_goto (tgt := 91) C.x C.b dX10_fits_87 (by decide) ?_
        exact w_X10_fits_91 C hr hlk hk9 _ _ _ _ _ _ _ hf hE hR hS t_r0 (lv_sub hl [0, 2] rfl)
    · have hf := it_f hf c11
      refine lv_iload_n C.x C.b dX10_fits_41 rfl (lv_at hl 3 rfl) ?_
      refine lv_if_eq (tgt := 71) C.x C.b dX10_fits_42 (by decide) (fun c14 => ?_) (fun c14 => ?_)
      · have hf := it_t hf c14
        exact w_X10_fits_71 C hr hlk hk9 hk32 _ _ _ _ _ _ _ hf hE hR hS t_r0 (lv_sub hl [0, 1, 2, 4] rfl)
      · have hf := it_f hf c14
        refine lv_aload_n C.x C.b dX10_fits_45 rfl (lv_at hl 0 rfl) ?_
        refine lv_iload_n C.x C.b dX10_fits_46 rfl (lv_at hl 2 rfl) ?_
        refine lv_aload_n C.x C.b dX10_fits_47 rfl (lv_at hl 0 rfl) ?_
        obtain ⟨g15, hf⟩ := gd_e hf
        refine r_getr C hR t_r0 fl_X10_78 (by decide) (nz_e g15) dX10_fits_48 (fun tq16 => ?_)
        have tg15 := okA tq16 rfl
        refine lv_iload C.x C.b dX10_fits_51 (lv_at hl 4 rfl) ?_
        obtain ⟨g17, hf⟩ := gd_e hf
        refine r_iald C hR tg15 g17 dX10_fits_53 ?_
        refine lv_aload_n C.x C.b dX10_fits_54 rfl (lv_at hl 0 rfl) ?_
        obtain ⟨g18, hf⟩ := gd_e hf
        refine r_getr C hR t_r0 fl_X10_81 (by decide) (nz_e g18) dX10_fits_55 (fun tq19 => ?_)
        have tg18 := okA tq19 rfl
        refine lv_iload C.x C.b dX10_fits_58 (lv_at hl 4 rfl) ?_
        obtain ⟨g20, hf⟩ := gd_e hf
        refine r_iald C hR tg18 g20 dX10_fits_60 ?_
        obtain ⟨q21, h_q21, hf⟩ := bd_e hf
        refine r_callV (As := [.int x2, .int (hpI h (hpR h r0 37) (ix x4)), .int (hpI h (hpR h r0 38) (ix x4))]) (rest := []) C hR hS t_r0 rfl mk_X10_isSo cl_X10_425 (k_X10_isSo t_r0 h_q21) ⟨⟨Nat.le_of_ble_eq_true rfl, Nat.le_of_ble_eq_true rfl⟩, ⟨rfl, rfl⟩, Nat.le_of_ble_eq_true rfl, Nat.le_of_ble_eq_true rfl⟩ rfl hl.1 rfl (Nat.le_of_ble_eq_true rfl) dX10_fits_61 (fun H locs hR hS hE1 z_q21 => ?_)
        have z_q21 := z_q21 _ rfl
        refine lv_if_eq (tgt := 71) C.x C.b dX10_fits_64 (by decide) (fun c22 => ?_) (fun c22 => ?_)
        · have hf := it_t hf c22
          exact w_X10_fits_71 C hr hlk hk9 hk32 _ _ _ _ _ _ _ hf hE hR hS t_r0 (lv_sub hl [0, 1, 2, 4] rfl)
        · have hf := it_f hf c22
          refine lv_iconst (v := (1 : Int32)) C.x C.b dX10_fits_67 (by decide) ?_
          refine lv_goto (tgt := 72) C.x C.b dX10_fits_68 (by decide) ?_
          exact w_X10_fits_72 C hr hlk hk9 hk32 _ _ _ _ _ _ _ _ hf hE hR hS t_r0 z_1 (lv_sub hl [0, 1, 2, 4] rfl)
set_option maxRecDepth 100000 in
set_option maxHeartbeats 4000000 in
theorem w_X10_fits_9 {G : Gt} {l : Launch} {p : Program} {e : Env} {s : State} {m : MethodId} {args : Array Value} {below : List Frame} {meth : Method} {c : Code}  {h0 : Hp} {out : (Int32 × Hp)} {r0 : Nat}  (C : Cx G p m c cX10_fits 5 s args RX10) (hr : meth.sig.returnType = some .int) (hlk : meth.locks = false)   (n : Nat) : P_X10_fits_9 G l p e s m args below meth c h0 out r0 (f_X10_fits_9 r0 n) := by
  induction n with
  | zero => intro H locs ls h x1 x2 hf hE hR hS t_r0 hl; cases hf
  | succ n hk9 =>
    intro H locs ls h x1 x2 hf hE hR hS t_r0 hl
    rw [f_X10_fits_9] at hf
    obtain ⟨k9, e_k9⟩ : ∃ y, y = f_X10_fits_9 r0 n := ⟨_, rfl⟩
    have hf := lt_e hf e_k9
    rw [← e_k9] at hk9
    refine lv_iload_n C.x C.b dX10_fits_9 rfl (lv_at hl 2 rfl) ?_
    refine lv_aload_n C.x C.b dX10_fits_10 rfl (lv_at hl 0 rfl) ?_
    obtain ⟨g2, hf⟩ := gd_e hf
    refine r_getr C hR t_r0 fl_X10_20 (by decide) (nz_e g2) dX10_fits_11 (fun tq3 => ?_)
    have tg2 := okA tq3 rfl
    refine lv_bipush (v := (48 : Int32)) C.x C.b dX10_fits_14 (by decide) ?_
    obtain ⟨g4, hf⟩ := gd_e hf
    refine r_iald C hR tg2 g4 dX10_fits_16 ?_
    refine lv_icmp_ge (tgt := 99) C.x C.b dX10_fits_17 (by decide) (fun c5 => ?_) (fun c5 => ?_)
    · have hf := it_t hf c5
      refine lv_aload_n C.x C.b dX10_fits_99 rfl (lv_at hl 0 rfl) ?_
      refine lv_iconst (v := (0 : Int32)) C.x C.b dX10_fits_100 (by decide) ?_
      refine r_puti C hR hS t_r0 fl_X10_110 fp_X10_10_1 rfl dX10_fits_101 (fun H locs hR hS => ?_)
      obtain ⟨h6, e_h6⟩ : ∃ y, y = upI h r0 1 (0 : Int32) := ⟨_, rfl⟩
      rw [← e_h6] at hR
      have hf := lt_e hf e_h6
      have hE := eI e_h6 hE
      have t_r0 := tI e_h6 t_r0
      refine lv_aload_n C.x C.b dX10_fits_104 rfl (lv_at hl 0 rfl) ?_
      refine lv_iload_n C.x C.b dX10_fits_105 rfl (lv_at hl 1 rfl) ?_
      obtain ⟨q7, h_q7, hf⟩ := bd_e hf
      refine r_callS (As := [.int x1]) (rest := [.ref (G.2.2 + r0)]) C hR hS mk_J6_bitCount_0f7a4 cl_X10_264 (k_J6_bitCount_0f7a4 h_q7) ⟨⟨Nat.le_of_ble_eq_true rfl, Nat.le_of_ble_eq_true rfl⟩, ⟨rfl, rfl⟩, Nat.le_of_ble_eq_true rfl, Nat.le_of_ble_eq_true rfl⟩ rfl hl.1 rfl (Nat.le_of_ble_eq_true rfl) dX10_fits_106 (fun H locs hR hS hE1 z_q7 => ?_)
      refine lv_i2l C.x C.b dX10_fits_109 rfl ?_
      obtain ⟨q8, h_q8, hf⟩ := bd_e hf
      refine r_callV (As := [.long (q7.toInt64)]) (rest := []) C hR hS t_r0 rfl mk_X10_enters cl_X10_339 (k_X10_enters t_r0 h_q8) ⟨⟨Nat.le_of_ble_eq_true rfl, Nat.le_of_ble_eq_true rfl⟩, ⟨rfl, rfl⟩, Nat.le_of_ble_eq_true rfl, Nat.le_of_ble_eq_true rfl⟩ rfl hl.1 rfl (Nat.le_of_ble_eq_true rfl) dX10_fits_110 (fun H locs hR hS hE1 z_q8 => ?_)
      have hE := hE.tr hE1
      have t_r0 := hE1.at t_r0 (by decide)
      refine lv_iload_n C.x C.b dX10_fits_113 rfl (lv_at hl 1 rfl) ?_
      have hf := so_e hf
      subst hf
      exact r_iret C hr hlk hR hE hS dX10_fits_114
    · have hf := it_f hf c5
      refine lv_aload_n C.x C.b dX10_fits_20 rfl (lv_at hl 0 rfl) ?_
      refine r_getr C hR t_r0 fl_X10_20 (by decide) (nz_e g2) dX10_fits_21 (fun tq9 => ?_)
      refine lv_iload_n C.x C.b dX10_fits_24 rfl (lv_at hl 2 rfl) ?_
      obtain ⟨q10, h_q10, hf⟩ := bd_e hf
      refine r_callS (As := [.ref (G.2.2 + (hpR h r0 6)), .int x2]) (rest := []) C hR hS mk_X10_isOn cl_X10_129 (k_X10_isOn tg2 h_q10) ⟨⟨Nat.le_of_ble_eq_true rfl, Nat.le_of_ble_eq_true rfl⟩, ⟨rfl, rfl⟩, Nat.le_of_ble_eq_true rfl, Nat.le_of_ble_eq_true rfl⟩ rfl hl.1 rfl (Nat.le_of_ble_eq_true rfl) dX10_fits_25 (fun H locs hR hS hE1 z_q10 => ?_)
      have z_q10 := z_q10 _ rfl
      refine lv_istore_n (lv' := [(3, .int q10), (0, .ref (G.2.2 + r0)), (1, .int x1), (2, .int x2)]) C.x C.b dX10_fits_28 rfl hl (by decide) rfl (fun ls hl => ?_)
      refine lv_iconst (v := (0 : Int32)) C.x C.b dX10_fits_29 (by decide) ?_
      refine lv_istore (lv' := [(4, .int (0 : Int32)), (3, .int q10), (0, .ref (G.2.2 + r0)), (1, .int x1), (2, .int x2)]) C.x C.b dX10_fits_30 hl (by decide) rfl (fun ls hl => ?_)
      exact w_X10_fits_32 C hr hlk hk9 FU _ _ _ _ _ _ _ _ hf hE hR hS t_r0 z_q10 (lv_sub hl [2, 3, 4, 1, 0] rfl)
set_option maxRecDepth 100000 in
set_option maxHeartbeats 4000000 in
theorem k_X10_fits {G : Gt} {l : Launch}  {h : Hp} {r0 : Nat} {out : (Int32 × Hp)} (t_r0 : hpT h r0 = (1, 10))  (hf : f_X10_fits  h r0 = some out) : Mt G l yX10_fits cX10_fits 5 (some .int) rm_X10_fits [.ref (G.2.2 + r0)] h (some (.int out.1)) out.2 0 0 0 := by
  refine r_met (by decide +kernel) (Nat.le_of_ble_eq_true rfl) ?_
  intro p e s m args below meth c ls C hr hlk hnm hR hS hl
  have hE : Ext h h := Ext.rf
  have hl : lv_has ls 5 [(0, .ref (G.2.2 + r0))] := hl
  rw [f_X10_fits] at hf
  refine lv_aload_n C.x C.b dX10_fits_0 rfl (lv_at hl 0 rfl) ?_
  refine lv_iconst (v := (0 : Int32)) C.x C.b dX10_fits_1 (by decide) ?_
  refine r_puti C hR hS t_r0 fl_X10_103 fp_X10_10_0 rfl dX10_fits_2 (fun H locs hR hS => ?_)
  obtain ⟨h1, e_h1⟩ : ∃ y, y = upI h r0 0 (0 : Int32) := ⟨_, rfl⟩
  rw [← e_h1] at hR
  have hf := lt_e hf e_h1
  have hE := eI e_h1 hE
  have t_r0 := tI e_h1 t_r0
  refine lv_iconst (v := (0 : Int32)) C.x C.b dX10_fits_5 (by decide) ?_
  refine lv_istore_n (lv' := [(1, .int (0 : Int32)), (0, .ref (G.2.2 + r0))]) C.x C.b dX10_fits_6 rfl hl (by decide) rfl (fun ls hl => ?_)
  refine lv_iconst (v := (0 : Int32)) C.x C.b dX10_fits_7 (by decide) ?_
  refine lv_istore_n (lv' := [(2, .int (0 : Int32)), (1, .int (0 : Int32)), (0, .ref (G.2.2 + r0))]) C.x C.b dX10_fits_8 rfl hl (by decide) rfl (fun ls hl => ?_)
  exact w_X10_fits_9 C hr hlk FU _ _ _ _ _ _ hf hE hR hS t_r0 (lv_sub hl [2, 1, 0] rfl)

def rm_X10_sung : Room := { frames := 72, cells := 0, slots := 0, locals := 1634 }
def P_X10_sung_148 (G : Gt) (l : Launch) (p : Program) (e : Env) (s : State) (m : MethodId) (args : Array Value) (below : List Frame) (meth : Method) (c : Code) (h0 : Hp) (out : (Int32 × Hp)) (r0 : Nat) (x1 : Int32) (x2 : Int32) (x3 : Int32) (k : Hp → Int64 → Int64 → Int32 → Int64 → Int64 → Int32 → Int32 → Option (Int32 × Hp)) : Prop := ∀ (H : Heap) (locs : List Loc) (ls : Array Slot) (h : Hp) (s0 : Int64) (s1 : Int64) (x4 : Int32) (y5 : Int64) (y7 : Int64) (x9 : Int32) (x12 : Int32), k h s0 s1 x4 y5 y7 x9 x12 = some out → Ext h0 h → Rel G h H → va_S (AA G.2.2) s.heap H locs → hpT h r0 = (1, 10) → lv_has ls 13 [(0, .ref (G.2.2 + r0)), (1, .int x1), (2, .int x2), (3, .int x3), (4, .int x4), (5, .long y5), (7, .long y7), (9, .int x9), (12, .int x12)] → W p l e rm_X10_sung s m args below meth c H locs 0 0 (MQ below (Qm G h0 out.2 (some (.int out.1)) 0) args s 0 0 (AA G.2.2)) (F0 m 148 ls [.long s1, .long s0])
def P_X10_sung_118 (G : Gt) (l : Launch) (p : Program) (e : Env) (s : State) (m : MethodId) (args : Array Value) (below : List Frame) (meth : Method) (c : Code) (h0 : Hp) (out : (Int32 × Hp)) (r0 : Nat) (x1 : Int32) (x2 : Int32) (x3 : Int32) (k : Hp → Int32 → Int64 → Int64 → Int32 → Int64 → Int32 → Option (Int32 × Hp)) : Prop := ∀ (H : Heap) (locs : List Loc) (ls : Array Slot) (h : Hp) (x4 : Int32) (y5 : Int64) (y7 : Int64) (x9 : Int32) (y10 : Int64) (x12 : Int32), k h x4 y5 y7 x9 y10 x12 = some out → Ext h0 h → Rel G h H → va_S (AA G.2.2) s.heap H locs → hpT h r0 = (1, 10) → lv_has ls 13 [(0, .ref (G.2.2 + r0)), (1, .int x1), (2, .int x2), (3, .int x3), (4, .int x4), (5, .long y5), (7, .long y7), (9, .int x9), (10, .long y10), (12, .int x12)] → W p l e rm_X10_sung s m args below meth c H locs 0 0 (MQ below (Qm G h0 out.2 (some (.int out.1)) 0) args s 0 0 (AA G.2.2)) (F0 m 118 ls [])
def P_X10_sung_109 (G : Gt) (l : Launch) (p : Program) (e : Env) (s : State) (m : MethodId) (args : Array Value) (below : List Frame) (meth : Method) (c : Code) (h0 : Hp) (out : (Int32 × Hp)) (r0 : Nat) (x1 : Int32) (x2 : Int32) (x3 : Int32) (k : Hp → Int32 → Int32 → Int64 → Int64 → Int32 → Option (Int32 × Hp)) : Prop := ∀ (H : Heap) (locs : List Loc) (ls : Array Slot) (h : Hp) (s0 : Int32) (x4 : Int32) (y5 : Int64) (y7 : Int64) (x9 : Int32), k h s0 x4 y5 y7 x9 = some out → Ext h0 h → Rel G h H → va_S (AA G.2.2) s.heap H locs → hpT h r0 = (1, 10) → narrow .boolean (.int s0) = .int s0 → lv_has ls 13 [(0, .ref (G.2.2 + r0)), (1, .int x1), (2, .int x2), (3, .int x3), (4, .int x4), (5, .long y5), (7, .long y7), (9, .int x9)] → W p l e rm_X10_sung s m args below meth c H locs 0 0 (MQ below (Qm G h0 out.2 (some (.int out.1)) 0) args s 0 0 (AA G.2.2)) (F0 m 109 ls [.int s0])
def P_X10_sung_86 (G : Gt) (l : Launch) (p : Program) (e : Env) (s : State) (m : MethodId) (args : Array Value) (below : List Frame) (meth : Method) (c : Code) (h0 : Hp) (out : (Int32 × Hp)) (r0 : Nat) (x1 : Int32) (x2 : Int32) (x3 : Int32) (k : Hp → Int32 → Int64 → Int64 → Int32 → Option (Int32 × Hp)) : Prop := ∀ (H : Heap) (locs : List Loc) (ls : Array Slot) (h : Hp) (x4 : Int32) (y5 : Int64) (y7 : Int64) (x9 : Int32), k h x4 y5 y7 x9 = some out → Ext h0 h → Rel G h H → va_S (AA G.2.2) s.heap H locs → hpT h r0 = (1, 10) → lv_has ls 13 [(0, .ref (G.2.2 + r0)), (1, .int x1), (2, .int x2), (3, .int x3), (4, .int x4), (5, .long y5), (7, .long y7), (9, .int x9)] → W p l e rm_X10_sung s m args below meth c H locs 0 0 (MQ below (Qm G h0 out.2 (some (.int out.1)) 0) args s 0 0 (AA G.2.2)) (F0 m 86 ls [])
def P_X10_sung_62 (G : Gt) (l : Launch) (p : Program) (e : Env) (s : State) (m : MethodId) (args : Array Value) (below : List Frame) (meth : Method) (c : Code) (h0 : Hp) (out : (Int32 × Hp)) (r0 : Nat) (x1 : Int32) (x2 : Int32) (x3 : Int32) (k : Hp → Int32 → Int64 → Int64 → Int32 → Option (Int32 × Hp)) : Prop := ∀ (H : Heap) (locs : List Loc) (ls : Array Slot) (h : Hp) (x4 : Int32) (y5 : Int64) (y7 : Int64) (x9 : Int32), k h x4 y5 y7 x9 = some out → Ext h0 h → Rel G h H → va_S (AA G.2.2) s.heap H locs → hpT h r0 = (1, 10) → lv_has ls 13 [(0, .ref (G.2.2 + r0)), (1, .int x1), (2, .int x2), (3, .int x3), (4, .int x4), (5, .long y5), (7, .long y7), (9, .int x9)] → W p l e rm_X10_sung s m args below meth c H locs 0 0 (MQ below (Qm G h0 out.2 (some (.int out.1)) 0) args s 0 0 (AA G.2.2)) (F0 m 62 ls [])
set_option maxRecDepth 100000 in
set_option maxHeartbeats 4000000 in
theorem w_X10_sung_148 {G : Gt} {l : Launch} {p : Program} {e : Env} {s : State} {m : MethodId} {args : Array Value} {below : List Frame} {meth : Method} {c : Code}  {h0 : Hp} {out : (Int32 × Hp)} {r0 : Nat} {x1 : Int32} {x2 : Int32} {x3 : Int32} {k86 : Hp → Int32 → Int64 → Int64 → Int32 → Option (Int32 × Hp)} {k118 : Hp → Int32 → Int64 → Int64 → Int32 → Int64 → Int32 → Option (Int32 × Hp)} (C : Cx G p m c cX10_sung 13 s args RX10) (hr : meth.sig.returnType = some .int) (hlk : meth.locks = false)  (hk86 : P_X10_sung_86 G l p e s m args below meth c h0 out r0 x1 x2 x3 k86) (hk118 : P_X10_sung_118 G l p e s m args below meth c h0 out r0 x1 x2 x3 k118) : P_X10_sung_148 G l p e s m args below meth c h0 out r0 x1 x2 x3 (f_X10_sung_148 r0 x1 x2 x3 k86 k118) := by
  intro H locs ls h s0 s1 x4 y5 y7 x9 x12 hf hE hR hS t_r0 hl
  rw [f_X10_sung_148] at hf
  refine lv_lmul C.x C.b dX10_sung_148 ?_
  refine lv_topl (fun v32 e_v32 => ?_)
  have hf := lt_e hf e_v32
  refine lv_lstore (lv' := [(10, .long v32), (0, .ref (G.2.2 + r0)), (1, .int x1), (2, .int x2), (3, .int x3), (4, .int x4), (5, .long y5), (7, .long y7), (9, .int x9), (12, .int x12)]) C.x C.b dX10_sung_149 hl (by decide) rfl (fun ls hl => ?_)
  obtain ⟨v33, e_v33⟩ : ∃ y : Int32, y = x12 + (1 : Int32) := ⟨_, rfl⟩
  have hf := lt_e hf e_v33
  refine lv_iinc (v := v33) (lv' := [(12, .int v33), (10, .long v32), (0, .ref (G.2.2 + r0)), (1, .int x1), (2, .int x2), (3, .int x3), (4, .int x4), (5, .long y5), (7, .long y7), (9, .int x9)]) C.x C.b dX10_sung_151 hl (k := 9) rfl (by rw [e_v33]; rfl) (by decide) rfl (fun ls hl => ?_)
  refine lv_goto (tgt := 118) C.x C.b dX10_sung_154 (by decide) ?_
  exact hk118 _ _ _ _ _ _ _ _ _ _ hf hE hR hS t_r0 (lv_sub hl [2, 3, 4, 5, 6, 7, 8, 9, 1, 0] rfl)
set_option maxRecDepth 100000 in
set_option maxHeartbeats 4000000 in
theorem w_X10_sung_118 {G : Gt} {l : Launch} {p : Program} {e : Env} {s : State} {m : MethodId} {args : Array Value} {below : List Frame} {meth : Method} {c : Code}  {h0 : Hp} {out : (Int32 × Hp)} {r0 : Nat} {x1 : Int32} {x2 : Int32} {x3 : Int32} {k86 : Hp → Int32 → Int64 → Int64 → Int32 → Option (Int32 × Hp)} (C : Cx G p m c cX10_sung 13 s args RX10) (hr : meth.sig.returnType = some .int) (hlk : meth.locks = false)  (hk86 : P_X10_sung_86 G l p e s m args below meth c h0 out r0 x1 x2 x3 k86) (n : Nat) : P_X10_sung_118 G l p e s m args below meth c h0 out r0 x1 x2 x3 (f_X10_sung_118 r0 x1 x2 x3 k86 n) := by
  induction n with
  | zero => intro H locs ls h x4 y5 y7 x9 y10 x12 hf hE hR hS t_r0 hl; cases hf
  | succ n hk118 =>
    intro H locs ls h x4 y5 y7 x9 y10 x12 hf hE hR hS t_r0 hl
    rw [f_X10_sung_118] at hf
    obtain ⟨k118, e_k118⟩ : ∃ y, y = f_X10_sung_118 r0 x1 x2 x3 k86 n := ⟨_, rfl⟩
    have hf := lt_e hf e_k118
    rw [← e_k118] at hk118
    refine lv_iload C.x C.b dX10_sung_118 (lv_at hl 9 rfl) ?_
    refine lv_iload C.x C.b dX10_sung_120 (lv_at hl 4 rfl) ?_
    refine lv_icmp_ge (tgt := 157) C.x C.b dX10_sung_122 (by decide) (fun c27 => ?_) (fun c27 => ?_)
    · have hf := it_t hf c27
      refine lv_lload C.x C.b dX10_sung_157 (lv_at hl 5 rfl) ?_
      refine lv_lload C.x C.b dX10_sung_159 (lv_at hl 8 rfl) ?_
      refine lv_ladd C.x C.b dX10_sung_161 ?_
      refine lv_topl (fun v28 e_v28 => ?_)
      have hf := lt_e hf e_v28
      refine lv_lstore (lv' := [(5, .long v28), (0, .ref (G.2.2 + r0)), (1, .int x1), (2, .int x2), (3, .int x3), (4, .int x4), (7, .long y7), (9, .int x9), (10, .long y10), (12, .int x12)]) C.x C.b dX10_sung_162 hl (by decide) rfl (fun ls hl => ?_)
      obtain ⟨v29, e_v29⟩ : ∃ y : Int32, y = x9 + (1 : Int32) := ⟨_, rfl⟩
      have hf := lt_e hf e_v29
      refine lv_iinc (v := v29) (lv' := [(9, .int v29), (5, .long v28), (0, .ref (G.2.2 + r0)), (1, .int x1), (2, .int x2), (3, .int x3), (4, .int x4), (7, .long y7), (10, .long y10), (12, .int x12)]) C.x C.b dX10_sung_164 hl (k := 7) rfl (by rw [e_v29]; rfl) (by decide) rfl (fun ls hl => ?_)
      refine lv_goto (tgt := 86) C.x C.b dX10_sung_167 (by decide) ?_
      exact hk86 _ _ _ _ _ _ _ _ hf hE hR hS t_r0 (lv_sub hl [2, 3, 4, 5, 6, 1, 7, 0] rfl)
    · have hf := it_f hf c27
      refine lv_lload C.x C.b dX10_sung_125 (lv_at hl 8 rfl) ?_
      refine lv_iload C.x C.b dX10_sung_127 (lv_at hl 7 rfl) ?_
      refine lv_i2l C.x C.b dX10_sung_129 rfl ?_
      refine lv_iload C.x C.b dX10_sung_130 (lv_at hl 9 rfl) ?_
      obtain ⟨q30, h_q30, hf⟩ := bd_e hf
      refine r_callS (As := [.long (x9.toInt64), .int x12]) (rest := [.long y10]) C hR hS mk_X10_has cl_X10_137 (k_X10_has h_q30) ⟨⟨Nat.le_of_ble_eq_true rfl, Nat.le_of_ble_eq_true rfl⟩, ⟨rfl, rfl⟩, Nat.le_of_ble_eq_true rfl, Nat.le_of_ble_eq_true rfl⟩ rfl hl.1 rfl (Nat.le_of_ble_eq_true rfl) dX10_sung_132 (fun H locs hR hS hE1 z_q30 => ?_)
      have z_q30 := z_q30 _ rfl
      refine lv_if_eq (tgt := 143) C.x C.b dX10_sung_135 (by decide) (fun c31 => ?_) (fun c31 => ?_)
      · simp only [if_pos c31] at hf
        refine lv_bipush (v := (10 : Int32)) C.x C.b dX10_sung_143 (by decide) ?_
        refine lv_iload_n C.x C.b dX10_sung_145 rfl (lv_at hl 3 rfl) ?_
        refine lv_isub C.x C.b dX10_sung_146 ?_
        refine lv_i2l C.x C.b dX10_sung_147 rfl ?_
        exact w_X10_sung_148 C hr hlk hk86 hk118 _ _ _ _ _ _ _ _ _ _ _ hf hE hR hS t_r0 (lv_sub hl [0, 1, 2, 3, 4, 5, 6, 7, 9] rfl)
      · simp only [if_neg c31] at hf
        refine lv_iload_n C.x C.b dX10_sung_138 rfl (lv_at hl 3 rfl) ?_
        refine lv_i2l C.x C.b dX10_sung_139 rfl ?_
        refine lv_goto (tgt := 148) C.x C.b dX10_sung_140 (by decide) ?_
        exact w_X10_sung_148 C hr hlk hk86 hk118 _ _ _ _ _ _ _ _ _ _ _ hf hE hR hS t_r0 (lv_sub hl [0, 1, 2, 3, 4, 5, 6, 7, 9] rfl)
set_option maxRecDepth 100000 in
set_option maxHeartbeats 4000000 in
theorem w_X10_sung_109 {G : Gt} {l : Launch} {p : Program} {e : Env} {s : State} {m : MethodId} {args : Array Value} {below : List Frame} {meth : Method} {c : Code}  {h0 : Hp} {out : (Int32 × Hp)} {r0 : Nat} {x1 : Int32} {x2 : Int32} {x3 : Int32} {k86 : Hp → Int32 → Int64 → Int64 → Int32 → Option (Int32 × Hp)} (C : Cx G p m c cX10_sung 13 s args RX10) (hr : meth.sig.returnType = some .int) (hlk : meth.locks = false)  (hk86 : P_X10_sung_86 G l p e s m args below meth c h0 out r0 x1 x2 x3 k86) : P_X10_sung_109 G l p e s m args below meth c h0 out r0 x1 x2 x3 (f_X10_sung_109 r0 x1 x2 x3 k86) := by
  intro H locs ls h s0 x4 y5 y7 x9 hf hE hR hS t_r0 z_s0 hl
  rw [f_X10_sung_109] at hf
  obtain ⟨q25, h_q25, hf⟩ := bd_e hf
  refine r_callS (As := [.int s0]) (rest := []) C hR hS mk_X10_flag cl_X10_163 (k_X10_flag h_q25) ⟨⟨Nat.le_of_ble_eq_true rfl, Nat.le_of_ble_eq_true rfl⟩, ⟨rfl, rfl⟩, Nat.le_of_ble_eq_true rfl, Nat.le_of_ble_eq_true rfl⟩ rfl hl.1 rfl (Nat.le_of_ble_eq_true rfl) dX10_sung_109 (fun H locs hR hS hE1 z_q25 => ?_)
  refine lv_i2l C.x C.b dX10_sung_112 rfl ?_
  refine lv_topl (fun v26 e_v26 => ?_)
  have hf := lt_e hf e_v26
  refine lv_lstore (lv' := [(10, .long v26), (0, .ref (G.2.2 + r0)), (1, .int x1), (2, .int x2), (3, .int x3), (4, .int x4), (5, .long y5), (7, .long y7), (9, .int x9)]) C.x C.b dX10_sung_113 hl (by decide) rfl (fun ls hl => ?_)
  refine lv_iconst (v := (0 : Int32)) C.x C.b dX10_sung_115 (by decide) ?_
  refine lv_istore (lv' := [(12, .int (0 : Int32)), (10, .long v26), (0, .ref (G.2.2 + r0)), (1, .int x1), (2, .int x2), (3, .int x3), (4, .int x4), (5, .long y5), (7, .long y7), (9, .int x9)]) C.x C.b dX10_sung_116 hl (by decide) rfl (fun ls hl => ?_)
  exact w_X10_sung_118 C hr hlk hk86 FU _ _ _ _ _ _ _ _ _ _ hf hE hR hS t_r0 (lv_sub hl [2, 3, 4, 5, 6, 7, 8, 9, 1, 0] rfl)
set_option maxRecDepth 100000 in
set_option maxHeartbeats 4000000 in
theorem w_X10_sung_86 {G : Gt} {l : Launch} {p : Program} {e : Env} {s : State} {m : MethodId} {args : Array Value} {below : List Frame} {meth : Method} {c : Code}  {h0 : Hp} {out : (Int32 × Hp)} {r0 : Nat} {x1 : Int32} {x2 : Int32} {x3 : Int32}  (C : Cx G p m c cX10_sung 13 s args RX10) (hr : meth.sig.returnType = some .int) (hlk : meth.locks = false)   (n : Nat) : P_X10_sung_86 G l p e s m args below meth c h0 out r0 x1 x2 x3 (f_X10_sung_86 r0 x1 x2 x3 n) := by
  induction n with
  | zero => intro H locs ls h x4 y5 y7 x9 hf hE hR hS t_r0 hl; cases hf
  | succ n hk86 =>
    intro H locs ls h x4 y5 y7 x9 hf hE hR hS t_r0 hl
    rw [f_X10_sung_86] at hf
    obtain ⟨k86, e_k86⟩ : ∃ y, y = f_X10_sung_86 r0 x1 x2 x3 n := ⟨_, rfl⟩
    have hf := lt_e hf e_k86
    rw [← e_k86] at hk86
    refine lv_iload C.x C.b dX10_sung_86 (lv_at hl 7 rfl) ?_
    refine lv_iconst (v := (1 : Int32)) C.x C.b dX10_sung_88 (by decide) ?_
    refine lv_iload C.x C.b dX10_sung_89 (lv_at hl 4 rfl) ?_
    refine lv_ishl C.x C.b dX10_sung_91 ?_
    refine lv_topi (fun v15 e_v15 => ?_)
    have hf := lt_e hf e_v15
    refine lv_icmp_ge (tgt := 170) C.x C.b dX10_sung_92 (by decide) (fun c16 => ?_) (fun c16 => ?_)
    · have hf := it_t hf c16
      refine lv_lload C.x C.b dX10_sung_170 (lv_at hl 5 rfl) ?_
      refine lv_lload C.x C.b dX10_sung_172 (lv_at hl 6 rfl) ?_
      obtain ⟨q17, h_q17, hf⟩ := bd_e hf
      refine r_callS (As := [.long y5, .long y7]) (rest := []) C hR hS mk_X10_common cl_X10_106 (k_X10_common h_q17) ⟨⟨Nat.le_of_ble_eq_true rfl, Nat.le_of_ble_eq_true rfl⟩, ⟨rfl, rfl⟩, Nat.le_of_ble_eq_true rfl, Nat.le_of_ble_eq_true rfl⟩ rfl hl.1 rfl (Nat.le_of_ble_eq_true rfl) dX10_sung_174 (fun H locs hR hS hE1 z_q17 => ?_)
      refine lv_lstore (lv' := [(9, .long q17), (0, .ref (G.2.2 + r0)), (1, .int x1), (2, .int x2), (3, .int x3), (4, .int x4), (5, .long y5), (7, .long y7)]) C.x C.b dX10_sung_177 hl (by decide) rfl (fun ls hl => ?_)
      refine lv_aload_n C.x C.b dX10_sung_179 rfl (lv_at hl 1 rfl) ?_
      refine lv_iconst (v := (0 : Int32)) C.x C.b dX10_sung_180 (by decide) ?_
      refine r_puti C hR hS t_r0 fl_X10_110 fp_X10_10_1 rfl dX10_sung_181 (fun H locs hR hS => ?_)
      obtain ⟨h18, e_h18⟩ : ∃ y, y = upI h r0 1 (0 : Int32) := ⟨_, rfl⟩
      rw [← e_h18] at hR
      have hf := lt_e hf e_h18
      have hE := eI e_h18 hE
      have t_r0 := tI e_h18 t_r0
      refine lv_aload_n C.x C.b dX10_sung_184 rfl (lv_at hl 1 rfl) ?_
      refine lv_lload C.x C.b dX10_sung_185 (lv_at hl 6 rfl) ?_
      refine lv_lload C.x C.b dX10_sung_187 (lv_at hl 0 rfl) ?_
      obtain ⟨g19, hf⟩ := gd_e hf
      refine lv_ldiv C.x C.b dX10_sung_189 (nz64_e g19) ?_
      obtain ⟨q20, h_q20, hf⟩ := bd_e hf
      refine r_callV (As := [.long (y5 / q17)]) (rest := []) C hR hS t_r0 rfl mk_X10_enters cl_X10_339 (k_X10_enters t_r0 h_q20) ⟨⟨Nat.le_of_ble_eq_true rfl, Nat.le_of_ble_eq_true rfl⟩, ⟨rfl, rfl⟩, Nat.le_of_ble_eq_true rfl, Nat.le_of_ble_eq_true rfl⟩ rfl hl.1 rfl (Nat.le_of_ble_eq_true rfl) dX10_sung_190 (fun H locs hR hS hE1 z_q20 => ?_)
      have hE := hE.tr hE1
      have t_r0 := hE1.at t_r0 (by decide)
      refine lv_aload_n C.x C.b dX10_sung_193 rfl (lv_at hl 1 rfl) ?_
      refine lv_lload C.x C.b dX10_sung_194 (lv_at hl 7 rfl) ?_
      refine lv_lload C.x C.b dX10_sung_196 (lv_at hl 0 rfl) ?_
      obtain ⟨g21, hf⟩ := gd_e hf
      refine lv_ldiv C.x C.b dX10_sung_198 (nz64_e g21) ?_
      obtain ⟨q22, h_q22, hf⟩ := bd_e hf
      refine r_callV (As := [.long (y7 / q17)]) (rest := []) C hR hS t_r0 rfl mk_X10_enters cl_X10_339 (k_X10_enters t_r0 h_q22) ⟨⟨Nat.le_of_ble_eq_true rfl, Nat.le_of_ble_eq_true rfl⟩, ⟨rfl, rfl⟩, Nat.le_of_ble_eq_true rfl, Nat.le_of_ble_eq_true rfl⟩ rfl hl.1 rfl (Nat.le_of_ble_eq_true rfl) dX10_sung_199 (fun H locs hR hS hE1 z_q22 => ?_)
      have hE := hE.tr hE1
      have t_r0 := hE1.at t_r0 (by decide)
      refine lv_iconst (v := (0 : Int32)) C.x C.b dX10_sung_202 (by decide) ?_
      have hf := so_e hf
      subst hf
      exact r_iret C hr hlk hR hE hS dX10_sung_203
    · have hf := it_f hf c16
      refine lv_iload C.x C.b dX10_sung_95 (lv_at hl 7 rfl) ?_
      obtain ⟨q23, h_q23, hf⟩ := bd_e hf
      refine r_callS (As := [.int x9]) (rest := []) C hR hS mk_J6_bitCount_0f7a4 cl_X10_264 (k_J6_bitCount_0f7a4 h_q23) ⟨⟨Nat.le_of_ble_eq_true rfl, Nat.le_of_ble_eq_true rfl⟩, ⟨rfl, rfl⟩, Nat.le_of_ble_eq_true rfl, Nat.le_of_ble_eq_true rfl⟩ rfl hl.1 rfl (Nat.le_of_ble_eq_true rfl) dX10_sung_97 (fun H locs hR hS hE1 z_q23 => ?_)
      refine lv_iload_n C.x C.b dX10_sung_100 rfl (lv_at hl 2 rfl) ?_
      refine lv_icmp_lt (tgt := 108) C.x C.b dX10_sung_101 (by decide) (fun c24 => ?_) (fun c24 => ?_)
      · simp only [if_pos c24] at hf
        refine lv_iconst (v := (0 : Int32)) C.x C.b dX10_sung_108 (by decide) ?_
        exact w_X10_sung_109 C hr hlk hk86 _ _ _ _ _ _ _ _ _ hf hE hR hS t_r0 z_0 (lv_sub hl [0, 1, 2, 3, 4, 5, 6, 7] rfl)
      · simp only [if_neg c24] at hf
        refine lv_iconst (v := (1 : Int32)) C.x C.b dX10_sung_104 (by decide) ?_
        refine lv_goto (tgt := 109) C.x C.b dX10_sung_105 (by decide) ?_
        exact w_X10_sung_109 C hr hlk hk86 _ _ _ _ _ _ _ _ _ hf hE hR hS t_r0 z_1 (lv_sub hl [0, 1, 2, 3, 4, 5, 6, 7] rfl)
set_option maxRecDepth 100000 in
set_option maxHeartbeats 4000000 in
theorem w_X10_sung_62 {G : Gt} {l : Launch} {p : Program} {e : Env} {s : State} {m : MethodId} {args : Array Value} {below : List Frame} {meth : Method} {c : Code}  {h0 : Hp} {out : (Int32 × Hp)} {r0 : Nat} {x1 : Int32} {x2 : Int32} {x3 : Int32}  (C : Cx G p m c cX10_sung 13 s args RX10) (hr : meth.sig.returnType = some .int) (hlk : meth.locks = false)   (n : Nat) : P_X10_sung_62 G l p e s m args below meth c h0 out r0 x1 x2 x3 (f_X10_sung_62 r0 x1 x2 x3 n) := by
  induction n with
  | zero => intro H locs ls h x4 y5 y7 x9 hf hE hR hS t_r0 hl; cases hf
  | succ n hk62 =>
    intro H locs ls h x4 y5 y7 x9 hf hE hR hS t_r0 hl
    rw [f_X10_sung_62] at hf
    obtain ⟨k62, e_k62⟩ : ∃ y, y = f_X10_sung_62 r0 x1 x2 x3 n := ⟨_, rfl⟩
    have hf := lt_e hf e_k62
    rw [← e_k62] at hk62
    refine lv_iload C.x C.b dX10_sung_62 (lv_at hl 7 rfl) ?_
    refine lv_iload C.x C.b dX10_sung_64 (lv_at hl 4 rfl) ?_
    refine lv_icmp_ge (tgt := 83) C.x C.b dX10_sung_66 (by decide) (fun c12 => ?_) (fun c12 => ?_)
    · have hf := it_t hf c12
      refine lv_iconst (v := (0 : Int32)) C.x C.b dX10_sung_83 (by decide) ?_
      refine lv_istore (lv' := [(9, .int (0 : Int32)), (0, .ref (G.2.2 + r0)), (1, .int x1), (2, .int x2), (3, .int x3), (4, .int x4), (5, .long y5), (7, .long y7)]) C.x C.b dX10_sung_84 hl (by decide) rfl (fun ls hl => ?_)
      exact w_X10_sung_86 C hr hlk FU _ _ _ _ _ _ _ _ hf hE hR hS t_r0 (lv_sub hl [1, 2, 3, 4, 5, 6, 7, 0] rfl)
    · have hf := it_f hf c12
      refine lv_lload C.x C.b dX10_sung_69 (lv_at hl 6 rfl) ?_
      refine lv_ldc2 C.x C.b C.ow (C.ts _ lk_X10_430) dX10_sung_71 ?_
      refine lv_lmul C.x C.b dX10_sung_74 ?_
      refine lv_topl (fun v13 e_v13 => ?_)
      have hf := lt_e hf e_v13
      refine lv_lstore (lv' := [(7, .long v13), (0, .ref (G.2.2 + r0)), (1, .int x1), (2, .int x2), (3, .int x3), (4, .int x4), (5, .long y5), (9, .int x9)]) C.x C.b dX10_sung_75 hl (by decide) rfl (fun ls hl => ?_)
      obtain ⟨v14, e_v14⟩ : ∃ y : Int32, y = x9 + (1 : Int32) := ⟨_, rfl⟩
      have hf := lt_e hf e_v14
      refine lv_iinc (v := v14) (lv' := [(9, .int v14), (7, .long v13), (0, .ref (G.2.2 + r0)), (1, .int x1), (2, .int x2), (3, .int x3), (4, .int x4), (5, .long y5)]) C.x C.b dX10_sung_77 hl (k := 7) rfl (by rw [e_v14]; rfl) (by decide) rfl (fun ls hl => ?_)
      refine lv_goto (tgt := 62) C.x C.b dX10_sung_80 (by decide) ?_
      exact hk62 _ _ _ _ _ _ _ _ hf hE hR hS t_r0 (lv_sub hl [2, 3, 4, 5, 6, 7, 1, 0] rfl)
set_option maxRecDepth 100000 in
set_option maxHeartbeats 4000000 in
theorem k_X10_sung {G : Gt} {l : Launch}  {h : Hp} {r0 : Nat} {x1 : Int32} {x2 : Int32} {x3 : Int32} {out : (Int32 × Hp)} (t_r0 : hpT h r0 = (1, 10))  (hf : f_X10_sung  h r0 x1 x2 x3 = some out) : Mt G l yX10_sung cX10_sung 13 (some .int) rm_X10_sung [.ref (G.2.2 + r0), .int x1, .int x2, .int x3] h (some (.int out.1)) out.2 0 0 0 := by
  refine r_met (by decide +kernel) (Nat.le_of_ble_eq_true rfl) ?_
  intro p e s m args below meth c ls C hr hlk hnm hR hS hl
  have hE : Ext h h := Ext.rf
  have hl : lv_has ls 13 [(0, .ref (G.2.2 + r0)), (1, .int x1), (2, .int x2), (3, .int x3)] := hl
  rw [f_X10_sung] at hf
  refine lv_aload_n C.x C.b dX10_sung_0 rfl (lv_at hl 0 rfl) ?_
  refine lv_iconst (v := (0 : Int32)) C.x C.b dX10_sung_1 (by decide) ?_
  refine r_puti C hR hS t_r0 fl_X10_103 fp_X10_10_0 rfl dX10_sung_2 (fun H locs hR hS => ?_)
  obtain ⟨h1, e_h1⟩ : ∃ y, y = upI h r0 0 (0 : Int32) := ⟨_, rfl⟩
  rw [← e_h1] at hR
  have hf := lt_e hf e_h1
  have hE := eI e_h1 hE
  have t_r0 := tI e_h1 t_r0
  refine lv_aload_n C.x C.b dX10_sung_5 rfl (lv_at hl 0 rfl) ?_
  refine lv_iload_n C.x C.b dX10_sung_6 rfl (lv_at hl 1 rfl) ?_
  obtain ⟨q2, h_q2, hf⟩ := bd_e hf
  refine r_callV (As := [.int x1]) (rest := []) C hR hS t_r0 rfl mk_X10_isCell cl_X10_289 (k_X10_isCell t_r0 h_q2) ⟨⟨Nat.le_of_ble_eq_true rfl, Nat.le_of_ble_eq_true rfl⟩, ⟨rfl, rfl⟩, Nat.le_of_ble_eq_true rfl, Nat.le_of_ble_eq_true rfl⟩ rfl hl.1 rfl (Nat.le_of_ble_eq_true rfl) dX10_sung_7 (fun H locs hR hS hE1 z_q2 => ?_)
  have z_q2 := z_q2 _ rfl
  refine lv_if_eq (tgt := 37) C.x C.b dX10_sung_10 (by decide) (fun c3 => ?_) (fun c3 => ?_)
  · have hf := it_t hf c3
    refine lv_iconst (v := (-1 : Int32)) C.x C.b dX10_sung_37 (by decide) ?_
    have hf := so_e hf
    subst hf
    exact r_iret C hr hlk hR hE hS dX10_sung_38
  · have hf := it_f hf c3
    refine lv_iload_n C.x C.b dX10_sung_13 rfl (lv_at hl 2 rfl) ?_
    refine lv_i2l C.x C.b dX10_sung_14 rfl ?_
    refine lv_lconst (v := (0 : Int64)) C.x C.b dX10_sung_15 (by decide) ?_
    refine lv_ldc2 C.x C.b C.ow (C.ts _ lk_X10_428) dX10_sung_16 ?_
    obtain ⟨q4, h_q4, hf⟩ := bd_e hf
    refine r_callS (As := [.long (x2.toInt64), .long (0 : Int64), .long (8 : Int64)]) (rest := []) C hR hS mk_X10_in cl_X10_117 (k_X10_in h_q4) ⟨⟨Nat.le_of_ble_eq_true rfl, Nat.le_of_ble_eq_true rfl⟩, ⟨rfl, rfl⟩, Nat.le_of_ble_eq_true rfl, Nat.le_of_ble_eq_true rfl⟩ rfl hl.1 rfl (Nat.le_of_ble_eq_true rfl) dX10_sung_19 (fun H locs hR hS hE1 z_q4 => ?_)
    have z_q4 := z_q4 _ rfl
    refine lv_if_eq (tgt := 37) C.x C.b dX10_sung_22 (by decide) (fun c5 => ?_) (fun c5 => ?_)
    · have hf := it_t hf c5
      refine lv_iconst (v := (-1 : Int32)) C.x C.b dX10_sung_37 (by decide) ?_
      have hf := so_e hf
      subst hf
      exact r_iret C hr hlk hR hE hS dX10_sung_38
    · have hf := it_f hf c5
      refine lv_iload_n C.x C.b dX10_sung_25 rfl (lv_at hl 3 rfl) ?_
      refine lv_i2l C.x C.b dX10_sung_26 rfl ?_
      refine lv_lconst (v := (0 : Int64)) C.x C.b dX10_sung_27 (by decide) ?_
      refine lv_ldc2 C.x C.b C.ow (C.ts _ lk_X10_430) dX10_sung_28 ?_
      obtain ⟨q6, h_q6, hf⟩ := bd_e hf
      refine r_callS (As := [.long (x3.toInt64), .long (0 : Int64), .long (10 : Int64)]) (rest := []) C hR hS mk_X10_in cl_X10_117 (k_X10_in h_q6) ⟨⟨Nat.le_of_ble_eq_true rfl, Nat.le_of_ble_eq_true rfl⟩, ⟨rfl, rfl⟩, Nat.le_of_ble_eq_true rfl, Nat.le_of_ble_eq_true rfl⟩ rfl hl.1 rfl (Nat.le_of_ble_eq_true rfl) dX10_sung_31 (fun H locs hR hS hE1 z_q6 => ?_)
      have z_q6 := z_q6 _ rfl
      refine lv_if_ne (tgt := 39) C.x C.b dX10_sung_34 (by decide) (fun c7 => ?_) (fun c7 => ?_)
      · have hf := it_f hf c7
        refine lv_aload_n C.x C.b dX10_sung_39 rfl (lv_at hl 0 rfl) ?_
        refine lv_aload_n C.x C.b dX10_sung_40 rfl (lv_at hl 0 rfl) ?_
        obtain ⟨g8, hf⟩ := gd_e hf
        refine r_getr C hR t_r0 fl_X10_20 (by decide) (nz_e g8) dX10_sung_41 (fun tq9 => ?_)
        have tg8 := okA tq9 rfl
        refine lv_iload_n C.x C.b dX10_sung_44 rfl (lv_at hl 1 rfl) ?_
        obtain ⟨q10, h_q10, hf⟩ := bd_e hf
        refine r_callV (As := [.ref (G.2.2 + (hpR h1 r0 6)), .int x1]) (rest := []) C hR hS t_r0 rfl mk_X10_campsOver cl_X10_294 (k_X10_campsOver t_r0 tg8 h_q10) ⟨⟨Nat.le_of_ble_eq_true rfl, Nat.le_of_ble_eq_true rfl⟩, ⟨rfl, rfl⟩, Nat.le_of_ble_eq_true rfl, Nat.le_of_ble_eq_true rfl⟩ rfl hl.1 rfl (Nat.le_of_ble_eq_true rfl) dX10_sung_45 (fun H locs hR hS hE1 z_q10 => ?_)
        obtain ⟨q11, h_q11, hf⟩ := bd_e hf
        refine r_callS (As := [.int q10]) (rest := []) C hR hS mk_J6_bitCount_0f7a4 cl_X10_264 (k_J6_bitCount_0f7a4 h_q11) ⟨⟨Nat.le_of_ble_eq_true rfl, Nat.le_of_ble_eq_true rfl⟩, ⟨rfl, rfl⟩, Nat.le_of_ble_eq_true rfl, Nat.le_of_ble_eq_true rfl⟩ rfl hl.1 rfl (Nat.le_of_ble_eq_true rfl) dX10_sung_48 (fun H locs hR hS hE1 z_q11 => ?_)
        refine lv_istore (lv' := [(4, .int q11), (0, .ref (G.2.2 + r0)), (1, .int x1), (2, .int x2), (3, .int x3)]) C.x C.b dX10_sung_51 hl (by decide) rfl (fun ls hl => ?_)
        refine lv_lconst (v := (0 : Int64)) C.x C.b dX10_sung_53 (by decide) ?_
        refine lv_lstore (lv' := [(5, .long (0 : Int64)), (4, .int q11), (0, .ref (G.2.2 + r0)), (1, .int x1), (2, .int x2), (3, .int x3)]) C.x C.b dX10_sung_54 hl (by decide) rfl (fun ls hl => ?_)
        refine lv_lconst (v := (1 : Int64)) C.x C.b dX10_sung_56 (by decide) ?_
        refine lv_lstore (lv' := [(7, .long (1 : Int64)), (5, .long (0 : Int64)), (4, .int q11), (0, .ref (G.2.2 + r0)), (1, .int x1), (2, .int x2), (3, .int x3)]) C.x C.b dX10_sung_57 hl (by decide) rfl (fun ls hl => ?_)
        refine lv_iconst (v := (0 : Int32)) C.x C.b dX10_sung_59 (by decide) ?_
        refine lv_istore (lv' := [(9, .int (0 : Int32)), (7, .long (1 : Int64)), (5, .long (0 : Int64)), (4, .int q11), (0, .ref (G.2.2 + r0)), (1, .int x1), (2, .int x2), (3, .int x3)]) C.x C.b dX10_sung_60 hl (by decide) rfl (fun ls hl => ?_)
        exact w_X10_sung_62 C hr hlk FU _ _ _ _ _ _ _ _ hf hE hR hS t_r0 (lv_sub hl [4, 5, 6, 7, 3, 2, 1, 0] rfl)
      · have hf := it_t hf c7
        refine lv_iconst (v := (-1 : Int32)) C.x C.b dX10_sung_37 (by decide) ?_
        have hf := so_e hf
        subst hf
        exact r_iret C hr hlk hR hE hS dX10_sung_38

