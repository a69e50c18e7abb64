def rm_X8_improve : Room := { frames := 2, cells := 0, slots := 0, locals := 47 }
def P_X8_improve_91 (G : Gt) (l : Launch) (p : Program) (e : Env) (s : State) (m : MethodId) (args : Array Value) (below : List Frame) (meth : Method) (c : Code) (h0 : Hp) (out : (Int32 × Hp)) (r0 : Nat) (r1 : Nat) (x2 : Int32) (k : Hp → Int32 → Int32 → Int32 → Option (Int32 × Hp)) : Prop := ∀ (H : Heap) (locs : List Loc) (ls : Array Slot) (h : Hp) (x3 : Int32) (x4 : Int32) (x5 : Int32), k h x3 x4 x5 = some out → Ext h0 h → Rel G h H → va_S (AA G.2.2) s.heap H locs → hpT h r0 = (1, 8) → hpT h r1 = (1, 0) → narrow .boolean (.int x3) = .int x3 → lv_has ls 7 [(0, .ref (G.2.2 + r0)), (1, .ref (G.2.2 + r1)), (2, .int x2), (3, .int x3), (4, .int x4), (5, .int x5)] → W p l e rm_X8_improve s m args below meth c H locs 0 0 (MQ below (Qm G h0 out.2 (some (.int out.1)) true) args s 0 0 (AA G.2.2)) (F0 m 91 ls [])
def P_X8_improve_14 (G : Gt) (l : Launch) (p : Program) (e : Env) (s : State) (m : MethodId) (args : Array Value) (below : List Frame) (meth : Method) (c : Code) (h0 : Hp) (out : (Int32 × Hp)) (r0 : Nat) (r1 : Nat) (x2 : Int32) (k : Hp → Int32 → Int32 → Int32 → Option (Int32 × Hp)) : Prop := ∀ (H : Heap) (locs : List Loc) (ls : Array Slot) (h : Hp) (x3 : Int32) (x4 : Int32) (x5 : Int32), k h x3 x4 x5 = some out → Ext h0 h → Rel G h H → va_S (AA G.2.2) s.heap H locs → hpT h r0 = (1, 8) → hpT h r1 = (1, 0) → narrow .boolean (.int x3) = .int x3 → lv_has ls 7 [(0, .ref (G.2.2 + r0)), (1, .ref (G.2.2 + r1)), (2, .int x2), (3, .int x3), (4, .int x4), (5, .int x5)] → W p l e rm_X8_improve s m args below meth c H locs 0 0 (MQ below (Qm G h0 out.2 (some (.int out.1)) true) args s 0 0 (AA G.2.2)) (F0 m 14 ls [])
def P_X8_improve_5 (G : Gt) (l : Launch) (p : Program) (e : Env) (s : State) (m : MethodId) (args : Array Value) (below : List Frame) (meth : Method) (c : Code) (h0 : Hp) (out : (Int32 × Hp)) (r0 : Nat) (r1 : Nat) (x2 : Int32) (k : Hp → Int32 → Int32 → Option (Int32 × Hp)) : Prop := ∀ (H : Heap) (locs : List Loc) (ls : Array Slot) (h : Hp) (x3 : Int32) (x4 : Int32), k h x3 x4 = some out → Ext h0 h → Rel G h H → va_S (AA G.2.2) s.heap H locs → hpT h r0 = (1, 8) → hpT h r1 = (1, 0) → narrow .boolean (.int x3) = .int x3 → lv_has ls 7 [(0, .ref (G.2.2 + r0)), (1, .ref (G.2.2 + r1)), (2, .int x2), (3, .int x3), (4, .int x4)] → W p l e rm_X8_improve s m args below meth c H locs 0 0 (MQ below (Qm G h0 out.2 (some (.int out.1)) true) args s 0 0 (AA G.2.2)) (F0 m 5 ls [])
set_option maxRecDepth 100000 in
set_option maxHeartbeats 4000000 in
theorem w_X8_improve_91 {G : Gt} {l : Launch} {p : Program} {e : Env} {s : State} {m : MethodId} {args : Array Value} {below : List Frame} {meth : Method} {c : Code} {h0 : Hp} {out : (Int32 × Hp)} {r0 : Nat} {r1 : Nat} {x2 : Int32} {k5 : Hp → Int32 → Int32 → Option (Int32 × Hp)} {k14 : Hp → Int32 → Int32 → Int32 → Option (Int32 × Hp)} (C : Cx G p m c cX8_improve 7 s args RX8) (hr : meth.sig.returnType = some .boolean) (hlk : meth.locks = false) (hk5 : P_X8_improve_5 G l p e s m args below meth c h0 out r0 r1 x2 k5) (hk14 : P_X8_improve_14 G l p e s m args below meth c h0 out r0 r1 x2 k14) : P_X8_improve_91 G l p e s m args below meth c h0 out r0 r1 x2 (f_X8_improve_91 r0 r1 x2 k5 k14) := by
  intro H locs ls h x3 x4 x5 hf hE hR hS t_r0 t_r1 z_x3 hl
  rw [f_X8_improve_91] at hf
  obtain ⟨v23, e_v23⟩ : ∃ y : Int32, y = x5 + (1 : Int32) := ⟨_, rfl⟩
  have hf := lt_e hf e_v23
  refine lv_iinc (v := v23) (lv' := [(5, .int v23), (0, .ref (G.2.2 + r0)), (1, .ref (G.2.2 + r1)), (2, .int x2), (3, .int x3), (4, .int x4)]) C.x C.b dX8_improve_91 hl (k := 5) rfl (by rw [e_v23]; rfl) (by decide) rfl (fun ls hl => ?_)
  refine lv_goto (tgt := 14) C.x C.b dX8_improve_94 (by decide) ?_
  exact hk14 _ _ _ _ _ _ _ hf hE hR hS t_r0 t_r1 z_x3 (lv_sub hl [1, 2, 3, 4, 5, 0] rfl)
set_option maxRecDepth 100000 in
set_option maxHeartbeats 4000000 in
theorem w_X8_improve_14 {G : Gt} {l : Launch} {p : Program} {e : Env} {s : State} {m : MethodId} {args : Array Value} {below : List Frame} {meth : Method} {c : Code} {h0 : Hp} {out : (Int32 × Hp)} {r0 : Nat} {r1 : Nat} {x2 : Int32} {k5 : Hp → Int32 → Int32 → Option (Int32 × Hp)} (C : Cx G p m c cX8_improve 7 s args RX8) (hr : meth.sig.returnType = some .boolean) (hlk : meth.locks = false) (hk5 : P_X8_improve_5 G l p e s m args below meth c h0 out r0 r1 x2 k5) (n : Nat) : P_X8_improve_14 G l p e s m args below meth c h0 out r0 r1 x2 (f_X8_improve_14 r0 r1 x2 k5 n) := by
  induction n with
  | zero => intro H locs ls h x3 x4 x5 hf hE hR hS t_r0 t_r1 z_x3 hl; cases hf
  | succ n hk14 =>
    intro H locs ls h x3 x4 x5 hf hE hR hS t_r0 t_r1 z_x3 hl
    rw [f_X8_improve_14] at hf
    obtain ⟨k14, e_k14⟩ : ∃ y, y = f_X8_improve_14 r0 r1 x2 k5 n := ⟨_, rfl⟩
    have hf := lt_e hf e_k14
    rw [← e_k14] at hk14
    refine lv_iload C.x C.b dX8_improve_14 (lv_at hl 5 rfl) ?_
    refine lv_iconst (v := (4 : Int32)) C.x C.b dX8_improve_16 (by decide) ?_
    refine lv_icmp_ge (tgt := 97) C.x C.b dX8_improve_17 (by decide) (fun c2 => ?_) (fun c2 => ?_)
    · have hf := it_t hf c2
      obtain ⟨v3, e_v3⟩ : ∃ y : Int32, y = x4 + (1 : Int32) := ⟨_, rfl⟩
      have hf := lt_e hf e_v3
      refine lv_iinc (v := v3) (lv' := [(4, .int v3), (0, .ref (G.2.2 + r0)), (1, .ref (G.2.2 + r1)), (2, .int x2), (3, .int x3), (5, .int x5)]) C.x C.b dX8_improve_97 hl (k := 4) rfl (by rw [e_v3]; rfl) (by decide) rfl (fun ls hl => ?_)
      refine lv_goto (tgt := 5) C.x C.b dX8_improve_100 (by decide) ?_
      exact hk5 _ _ _ _ _ _ hf hE hR hS t_r0 t_r1 z_x3 (lv_sub hl [1, 2, 3, 4, 0] rfl)
    · have hf := it_f hf c2
      refine lv_aload_n C.x C.b dX8_improve_20 rfl (lv_at hl 1 rfl) ?_
      refine lv_iload C.x C.b dX8_improve_21 (lv_at hl 4 rfl) ?_
      refine lv_iload C.x C.b dX8_improve_23 (lv_at hl 5 rfl) ?_
      obtain ⟨q4, h_q4, hf⟩ := bd_e hf
      refine r_callV (As := [.int x4, .int x5]) (rest := []) C hR hS t_r1 rfl mk_X0_beside cl_X8_52 (k_X0_beside t_r1 h_q4) ⟨⟨Nat.le_of_ble_eq_true rfl, Nat.le_of_ble_eq_true rfl⟩, ⟨rfl, rfl⟩, Nat.le_of_ble_eq_true rfl, Nat.le_of_ble_eq_true rfl⟩ rfl hl.1 rfl (Nat.le_of_ble_eq_true rfl) dX8_improve_25 (fun H locs hR hS hE1 z_q4 => ?_)
      refine lv_istore (lv' := [(6, .int q4), (0, .ref (G.2.2 + r0)), (1, .ref (G.2.2 + r1)), (2, .int x2), (3, .int x3), (4, .int x4), (5, .int x5)]) C.x C.b dX8_improve_28 hl (by decide) rfl (fun ls hl => ?_)
      refine lv_iload C.x C.b dX8_improve_30 (lv_at hl 0 rfl) ?_
      refine lv_if_lt (tgt := 91) C.x C.b dX8_improve_32 (by decide) (fun c5 => ?_) (fun c5 => ?_)
      · have hf := it_t hf c5
        exact w_X8_improve_91 C hr hlk hk5 hk14 _ _ _ _ _ _ _ hf hE hR hS t_r0 t_r1 z_x3 (lv_sub hl [1, 2, 3, 4, 5, 6] rfl)
      · have hf := it_f hf c5
        refine lv_iload C.x C.b dX8_improve_35 (lv_at hl 0 rfl) ?_
        refine lv_bipush (v := (36 : Int32)) C.x C.b dX8_improve_37 (by decide) ?_
        refine lv_icmp_ge (tgt := 91) C.x C.b dX8_improve_39 (by decide) (fun c6 => ?_) (fun c6 => ?_)
        · have hf := it_t hf c6
          exact w_X8_improve_91 C hr hlk hk5 hk14 _ _ _ _ _ _ _ hf hE hR hS t_r0 t_r1 z_x3 (lv_sub hl [1, 2, 3, 4, 5, 6] rfl)
        · have hf := it_f hf c6
          refine lv_aload_n C.x C.b dX8_improve_42 rfl (lv_at hl 1 rfl) ?_
          obtain ⟨g7, hf⟩ := gd_e hf
          refine r_getr C hR t_r0 fl_X8_22 (by decide) (nz_e g7) dX8_improve_43 (fun tq8 => ?_)
          have tg7 := okA tq8 rfl
          refine lv_iload C.x C.b dX8_improve_46 (lv_at hl 5 rfl) ?_
          obtain ⟨g9, hf⟩ := gd_e hf
          refine r_iald C hR tg7 g9 dX8_improve_48 ?_
          refine lv_aload_n C.x C.b dX8_improve_49 rfl (lv_at hl 1 rfl) ?_
          obtain ⟨g10, hf⟩ := gd_e hf
          refine r_getr C hR t_r0 fl_X8_25 (by decide) (nz_e g10) dX8_improve_50 (fun tq11 => ?_)
          have tg10 := okA tq11 rfl
          refine lv_iload C.x C.b dX8_improve_53 (lv_at hl 0 rfl) ?_
          obtain ⟨g12, hf⟩ := gd_e hf
          refine r_iald C hR tg10 g12 dX8_improve_55 ?_
          refine lv_iadd C.x C.b dX8_improve_56 ?_
          refine lv_aload_n C.x C.b dX8_improve_57 rfl (lv_at hl 1 rfl) ?_
          refine r_getr C hR t_r0 fl_X8_25 (by decide) (nz_e g10) dX8_improve_58 (fun tq13 => ?_)
          refine lv_iload C.x C.b dX8_improve_61 (lv_at hl 5 rfl) ?_
          obtain ⟨g14, hf⟩ := gd_e hf
          refine r_iald C hR tg10 g14 dX8_improve_63 ?_
          refine lv_icmp_ge (tgt := 91) C.x C.b dX8_improve_64 (by decide) (fun c15 => ?_) (fun c15 => ?_)
          · have hf := it_t hf c15
            exact w_X8_improve_91 C hr hlk hk5 hk14 _ _ _ _ _ _ _ hf hE hR hS t_r0 t_r1 z_x3 (lv_sub hl [1, 2, 3, 4, 5, 6] rfl)
          · have hf := it_f hf c15
            refine lv_aload_n C.x C.b dX8_improve_67 rfl (lv_at hl 1 rfl) ?_
            refine r_getr C hR t_r0 fl_X8_25 (by decide) (nz_e g10) dX8_improve_68 (fun tq16 => ?_)
            refine lv_iload C.x C.b dX8_improve_71 (lv_at hl 5 rfl) ?_
            refine lv_aload_n C.x C.b dX8_improve_73 rfl (lv_at hl 1 rfl) ?_
            refine r_getr C hR t_r0 fl_X8_22 (by decide) (nz_e g7) dX8_improve_74 (fun tq17 => ?_)
            refine lv_iload C.x C.b dX8_improve_77 (lv_at hl 5 rfl) ?_
            obtain ⟨g18, hf⟩ := gd_e hf
            refine r_iald C hR tg7 g18 dX8_improve_79 ?_
            refine lv_aload_n C.x C.b dX8_improve_80 rfl (lv_at hl 1 rfl) ?_
            refine r_getr C hR t_r0 fl_X8_25 (by decide) (nz_e g10) dX8_improve_81 (fun tq19 => ?_)
            refine lv_iload C.x C.b dX8_improve_84 (lv_at hl 0 rfl) ?_
            obtain ⟨g20, hf⟩ := gd_e hf
            refine r_iald C hR tg10 g20 dX8_improve_86 ?_
            refine lv_iadd C.x C.b dX8_improve_87 ?_
            obtain ⟨g21, hf⟩ := gd_e hf
            refine r_iast C hR hS tg10 g21 dX8_improve_88 (fun H locs hR hS => ?_)
            obtain ⟨h22, e_h22⟩ : ∃ y, y = upI h (hpR h r0 4) (ix x4) ((hpI h (hpR h r0 3) (ix x4)) + (hpI h (hpR h r0 4) (ix q4))) := ⟨_, rfl⟩
            rw [← e_h22] at hR
            have hf := lt_e hf e_h22
            have hE := eI e_h22 hE
            have t_r0 := tI e_h22 t_r0
            have t_r1 := tI e_h22 t_r1
            refine lv_iconst (v := (1 : Int32)) C.x C.b dX8_improve_89 (by decide) ?_
            refine lv_istore_n (lv' := [(3, .int (1 : Int32)), (6, .int q4), (0, .ref (G.2.2 + r0)), (1, .ref (G.2.2 + r1)), (2, .int x2), (4, .int x4), (5, .int x5)]) C.x C.b dX8_improve_90 rfl hl (by decide) rfl (fun ls hl => ?_)
            exact w_X8_improve_91 C hr hlk hk5 hk14 _ _ _ _ _ _ _ hf hE hR hS t_r0 t_r1 z_1 (lv_sub hl [2, 3, 4, 0, 5, 6] rfl)
set_option maxRecDepth 100000 in
set_option maxHeartbeats 4000000 in
theorem w_X8_improve_5 {G : Gt} {l : Launch} {p : Program} {e : Env} {s : State} {m : MethodId} {args : Array Value} {below : List Frame} {meth : Method} {c : Code} {h0 : Hp} {out : (Int32 × Hp)} {r0 : Nat} {r1 : Nat} {x2 : Int32}  (C : Cx G p m c cX8_improve 7 s args RX8) (hr : meth.sig.returnType = some .boolean) (hlk : meth.locks = false)  (n : Nat) : P_X8_improve_5 G l p e s m args below meth c h0 out r0 r1 x2 (f_X8_improve_5 r0 r1 x2 n) := by
  induction n with
  | zero => intro H locs ls h x3 x4 hf hE hR hS t_r0 t_r1 z_x3 hl; cases hf
  | succ n hk5 =>
    intro H locs ls h x3 x4 hf hE hR hS t_r0 t_r1 z_x3 hl
    rw [f_X8_improve_5] at hf
    obtain ⟨k5, e_k5⟩ : ∃ y, y = f_X8_improve_5 r0 r1 x2 n := ⟨_, rfl⟩
    have hf := lt_e hf e_k5
    rw [← e_k5] at hk5
    refine lv_iload C.x C.b dX8_improve_5 (lv_at hl 4 rfl) ?_
    refine lv_iload_n C.x C.b dX8_improve_7 rfl (lv_at hl 2 rfl) ?_
    refine lv_icmp_ge (tgt := 103) C.x C.b dX8_improve_8 (by decide) (fun c1 => ?_) (fun c1 => ?_)
    · have hf := it_t hf c1
      refine lv_iload_n C.x C.b dX8_improve_103 rfl (lv_at hl 3 rfl) ?_
      have hf := so_e hf
      subst hf
      exact r_zret C hr hlk hR hE hS z_x3 dX8_improve_104
    · have hf := it_f hf c1
      refine lv_iconst (v := (0 : Int32)) C.x C.b dX8_improve_11 (by decide) ?_
      refine lv_istore (lv' := [(5, .int (0 : Int32)), (0, .ref (G.2.2 + r0)), (1, .ref (G.2.2 + r1)), (2, .int x2), (3, .int x3), (4, .int x4)]) C.x C.b dX8_improve_12 hl (by decide) rfl (fun ls hl => ?_)
      exact w_X8_improve_14 C hr hlk hk5 FU _ _ _ _ _ _ _ hf hE hR hS t_r0 t_r1 z_x3 (lv_sub hl [1, 2, 3, 4, 5, 0] rfl)
set_option maxRecDepth 100000 in
set_option maxHeartbeats 4000000 in
theorem k_X8_improve {G : Gt} {l : Launch} {h : Hp} {r0 : Nat} {r1 : Nat} {x2 : Int32} {out : (Int32 × Hp)} (t_r0 : hpT h r0 = (1, 8)) (t_r1 : hpT h r1 = (1, 0))  (hf : f_X8_improve h r0 r1 x2 = some out) : Mt G l yX8_improve cX8_improve 7 (some .boolean) rm_X8_improve [.ref (G.2.2 + r0), .ref (G.2.2 + r1), .int x2] h (some (.int out.1)) out.2 true 0 0 := by
  refine r_met (by decide +kernel) (Nat.le_of_ble_eq_true rfl) ?_
  intro p e s m args below meth c ls C hr hlk hnm hR hS hl
  have hE : Ext h h := Ext.rf
  have hl : lv_has ls 7 [(0, .ref (G.2.2 + r0)), (1, .ref (G.2.2 + r1)), (2, .int x2)] := hl
  rw [f_X8_improve] at hf
  refine lv_iconst (v := (0 : Int32)) C.x C.b dX8_improve_0 (by decide) ?_
  refine lv_istore_n (lv' := [(3, .int (0 : Int32)), (0, .ref (G.2.2 + r0)), (1, .ref (G.2.2 + r1)), (2, .int x2)]) C.x C.b dX8_improve_1 rfl hl (by decide) rfl (fun ls hl => ?_)
  refine lv_iconst (v := (0 : Int32)) C.x C.b dX8_improve_2 (by decide) ?_
  refine lv_istore (lv' := [(4, .int (0 : Int32)), (3, .int (0 : Int32)), (0, .ref (G.2.2 + r0)), (1, .ref (G.2.2 + r1)), (2, .int x2)]) C.x C.b dX8_improve_3 hl (by decide) rfl (fun ls hl => ?_)
  exact w_X8_improve_5 C hr hlk FU _ _ _ _ _ _ hf hE hR hS t_r0 t_r1 z_0 (lv_sub hl [2, 3, 4, 1, 0] rfl)

def rm_X8_softStep : Room := { frames := 2, cells := 0, slots := 0, locals := 47 }
def P_X8_softStep_53 (G : Gt) (l : Launch) (p : Program) (e : Env) (s : State) (m : MethodId) (args : Array Value) (below : List Frame) (meth : Method) (c : Code) (h : Hp) (out : Int32) (r0 : Nat) (r1 : Nat) (x2 : Int32) (k : Int32 → Option Int32) : Prop := ∀ (H : Heap) (locs : List Loc) (ls : Array Slot) (x3 : Int32), k x3 = some out → Rel G h H → va_S (AA G.2.2) s.heap H locs → hpT h r0 = (1, 8) → hpT h r1 = (1, 0) → lv_has ls 5 [(0, .ref (G.2.2 + r0)), (1, .ref (G.2.2 + r1)), (2, .int x2), (3, .int x3)] → W p l e rm_X8_softStep s m args below meth c H locs 0 0 (MQ below (Qm G h h (some (.int out)) false) args s 0 0 (AA G.2.2)) (F0 m 53 ls [])
def P_X8_softStep_2 (G : Gt) (l : Launch) (p : Program) (e : Env) (s : State) (m : MethodId) (args : Array Value) (below : List Frame) (meth : Method) (c : Code) (h : Hp) (out : Int32) (r0 : Nat) (r1 : Nat) (x2 : Int32) (k : Int32 → Option Int32) : Prop := ∀ (H : Heap) (locs : List Loc) (ls : Array Slot) (x3 : Int32), k x3 = some out → Rel G h H → va_S (AA G.2.2) s.heap H locs → hpT h r0 = (1, 8) → hpT h r1 = (1, 0) → lv_has ls 5 [(0, .ref (G.2.2 + r0)), (1, .ref (G.2.2 + r1)), (2, .int x2), (3, .int x3)] → W p l e rm_X8_softStep s m args below meth c H locs 0 0 (MQ below (Qm G h h (some (.int out)) false) args s 0 0 (AA G.2.2)) (F0 m 2 ls [])
set_option maxRecDepth 100000 in
set_option maxHeartbeats 4000000 in
theorem w_X8_softStep_53 {G : Gt} {l : Launch} {p : Program} {e : Env} {s : State} {m : MethodId} {args : Array Value} {below : List Frame} {meth : Method} {c : Code} {h : Hp} {out : Int32} {r0 : Nat} {r1 : Nat} {x2 : Int32} {k2 : Int32 → Option Int32} (C : Cx G p m c cX8_softStep 5 s args RX8) (hr : meth.sig.returnType = some .int) (hlk : meth.locks = false) (hk2 : P_X8_softStep_2 G l p e s m args below meth c h out r0 r1 x2 k2) : P_X8_softStep_53 G l p e s m args below meth c h out r0 r1 x2 (f_X8_softStep_53 h r0 r1 x2 k2) := by
  intro H locs ls x3 hf hR hS t_r0 t_r1 hl
  rw [f_X8_softStep_53] at hf
  obtain ⟨v14, e_v14⟩ : ∃ y : Int32, y = x3 + (1 : Int32) := ⟨_, rfl⟩
  have hf := lt_e hf e_v14
  refine lv_iinc (v := v14) (lv' := [(3, .int v14), (0, .ref (G.2.2 + r0)), (1, .ref (G.2.2 + r1)), (2, .int x2)]) C.x C.b dX8_softStep_53 hl (k := 3) rfl (by rw [e_v14]; rfl) (by decide) rfl (fun ls hl => ?_)
  refine lv_goto (tgt := 2) C.x C.b dX8_softStep_56 (by decide) ?_
  exact hk2 _ _ _ _ hf hR hS t_r0 t_r1 (lv_sub hl [1, 2, 3, 0] rfl)
set_option maxRecDepth 100000 in
set_option maxHeartbeats 4000000 in
theorem w_X8_softStep_2 {G : Gt} {l : Launch} {p : Program} {e : Env} {s : State} {m : MethodId} {args : Array Value} {below : List Frame} {meth : Method} {c : Code} {h : Hp} {out : Int32} {r0 : Nat} {r1 : Nat} {x2 : Int32}  (C : Cx G p m c cX8_softStep 5 s args RX8) (hr : meth.sig.returnType = some .int) (hlk : meth.locks = false)  (n : Nat) : P_X8_softStep_2 G l p e s m args below meth c h out r0 r1 x2 (f_X8_softStep_2 h r0 r1 x2 n) := by
  induction n with
  | zero => intro H locs ls x3 hf hR hS t_r0 t_r1 hl; cases hf
  | succ n hk2 =>
    intro H locs ls x3 hf hR hS t_r0 t_r1 hl
    rw [f_X8_softStep_2] at hf
    obtain ⟨k2, e_k2⟩ : ∃ y, y = f_X8_softStep_2 h r0 r1 x2 n := ⟨_, rfl⟩
    have hf := lt_e hf e_k2
    rw [← e_k2] at hk2
    refine lv_iload_n C.x C.b dX8_softStep_2 rfl (lv_at hl 3 rfl) ?_
    refine lv_iconst (v := (4 : Int32)) C.x C.b dX8_softStep_3 (by decide) ?_
    refine lv_icmp_ge (tgt := 59) C.x C.b dX8_softStep_4 (by decide) (fun c1 => ?_) (fun c1 => ?_)
    · have hf := it_t hf c1
      refine lv_iload_n C.x C.b dX8_softStep_59 rfl (lv_at hl 2 rfl) ?_
      have hf := so_e hf
      subst hf
      exact r_iret C hr hlk hR Ext.rf hS dX8_softStep_60
    · have hf := it_f hf c1
      refine lv_aload_n C.x C.b dX8_softStep_7 rfl (lv_at hl 1 rfl) ?_
      refine lv_iload_n C.x C.b dX8_softStep_8 rfl (lv_at hl 2 rfl) ?_
      refine lv_iload_n C.x C.b dX8_softStep_9 rfl (lv_at hl 3 rfl) ?_
      obtain ⟨q2, h_q2, hf⟩ := bd_e hf
      refine r_callV (As := [.int x2, .int x3]) (rest := []) C hR hS t_r1 rfl mk_X0_beside cl_X8_52 (k_X0_beside t_r1 h_q2) ⟨⟨Nat.le_of_ble_eq_true rfl, Nat.le_of_ble_eq_true rfl⟩, ⟨rfl, rfl⟩, Nat.le_of_ble_eq_true rfl, Nat.le_of_ble_eq_true rfl⟩ rfl hl.1 rfl (Nat.le_of_ble_eq_true rfl) dX8_softStep_10 (fun H locs hR hS hE1 z_q2 => ?_)
      refine lv_istore (lv' := [(4, .int q2), (0, .ref (G.2.2 + r0)), (1, .ref (G.2.2 + r1)), (2, .int x2), (3, .int x3)]) C.x C.b dX8_softStep_13 hl (by decide) rfl (fun ls hl => ?_)
      refine lv_iload C.x C.b dX8_softStep_15 (lv_at hl 0 rfl) ?_
      refine lv_if_lt (tgt := 53) C.x C.b dX8_softStep_17 (by decide) (fun c3 => ?_) (fun c3 => ?_)
      · have hf := it_t hf c3
        exact w_X8_softStep_53 C hr hlk hk2 _ _ _ _ hf hR hS t_r0 t_r1 (lv_sub hl [1, 2, 3, 4] rfl)
      · have hf := it_f hf c3
        refine lv_iload C.x C.b dX8_softStep_20 (lv_at hl 0 rfl) ?_
        refine lv_bipush (v := (36 : Int32)) C.x C.b dX8_softStep_22 (by decide) ?_
        refine lv_icmp_ge (tgt := 53) C.x C.b dX8_softStep_24 (by decide) (fun c4 => ?_) (fun c4 => ?_)
        · have hf := it_t hf c4
          exact w_X8_softStep_53 C hr hlk hk2 _ _ _ _ hf hR hS t_r0 t_r1 (lv_sub hl [1, 2, 3, 4] rfl)
        · have hf := it_f hf c4
          refine lv_aload_n C.x C.b dX8_softStep_27 rfl (lv_at hl 1 rfl) ?_
          obtain ⟨g5, hf⟩ := gd_e hf
          refine r_getr C hR t_r0 fl_X8_25 (by decide) (nz_e g5) dX8_softStep_28 (fun tq6 => ?_)
          have tg5 := okA tq6 rfl
          refine lv_iload_n C.x C.b dX8_softStep_31 rfl (lv_at hl 3 rfl) ?_
          obtain ⟨g7, hf⟩ := gd_e hf
          refine r_iald C hR tg5 g7 dX8_softStep_32 ?_
          refine lv_aload_n C.x C.b dX8_softStep_33 rfl (lv_at hl 1 rfl) ?_
          obtain ⟨g8, hf⟩ := gd_e hf
          refine r_getr C hR t_r0 fl_X8_22 (by decide) (nz_e g8) dX8_softStep_34 (fun tq9 => ?_)
          have tg8 := okA tq9 rfl
          refine lv_iload_n C.x C.b dX8_softStep_37 rfl (lv_at hl 3 rfl) ?_
          obtain ⟨g10, hf⟩ := gd_e hf
          refine r_iald C hR tg8 g10 dX8_softStep_38 ?_
          refine lv_aload_n C.x C.b dX8_softStep_39 rfl (lv_at hl 1 rfl) ?_
          refine r_getr C hR t_r0 fl_X8_25 (by decide) (nz_e g5) dX8_softStep_40 (fun tq11 => ?_)
          refine lv_iload C.x C.b dX8_softStep_43 (lv_at hl 0 rfl) ?_
          obtain ⟨g12, hf⟩ := gd_e hf
          refine r_iald C hR tg5 g12 dX8_softStep_45 ?_
          refine lv_iadd C.x C.b dX8_softStep_46 ?_
          refine lv_icmp_ne (tgt := 53) C.x C.b dX8_softStep_47 (by decide) (fun c13 => ?_) (fun c13 => ?_)
          · have hf := it_f hf c13
            exact w_X8_softStep_53 C hr hlk hk2 _ _ _ _ hf hR hS t_r0 t_r1 (lv_sub hl [1, 2, 3, 4] rfl)
          · have hf := it_t hf c13
            refine lv_iload C.x C.b dX8_softStep_50 (lv_at hl 0 rfl) ?_
            have hf := so_e hf
            subst hf
            exact r_iret C hr hlk hR Ext.rf hS dX8_softStep_52
set_option maxRecDepth 100000 in
set_option maxHeartbeats 4000000 in
theorem k_X8_softStep {G : Gt} {l : Launch} {h : Hp} {r0 : Nat} {r1 : Nat} {x2 : Int32} {out : Int32} (t_r0 : hpT h r0 = (1, 8)) (t_r1 : hpT h r1 = (1, 0))  (hf : f_X8_softStep h r0 r1 x2 = some out) : Mt G l yX8_softStep cX8_softStep 5 (some .int) rm_X8_softStep [.ref (G.2.2 + r0), .ref (G.2.2 + r1), .int x2] h (some (.int out)) h false 0 0 := by
  refine r_met (by decide +kernel) (Nat.le_of_ble_eq_true rfl) ?_
  intro p e s m args below meth c ls C hr hlk hnm hR hS hl
  have hl : lv_has ls 5 [(0, .ref (G.2.2 + r0)), (1, .ref (G.2.2 + r1)), (2, .int x2)] := hl
  rw [f_X8_softStep] at hf
  refine lv_iconst (v := (0 : Int32)) C.x C.b dX8_softStep_0 (by decide) ?_
  refine lv_istore_n (lv' := [(3, .int (0 : Int32)), (0, .ref (G.2.2 + r0)), (1, .ref (G.2.2 + r1)), (2, .int x2)]) C.x C.b dX8_softStep_1 rfl hl (by decide) rfl (fun ls hl => ?_)
  exact w_X8_softStep_2 C hr hlk FU _ _ _ _ hf hR hS t_r0 t_r1 (lv_sub hl [1, 2, 3, 0] rfl)

def rm_X8_softest : Room := { frames := 5, cells := 0, slots := 0, locals := 109 }
def P_X8_softest_175 (G : Gt) (l : Launch) (p : Program) (e : Env) (s : State) (m : MethodId) (args : Array Value) (below : List Frame) (meth : Method) (c : Code) (h0 : Hp) (out : (Int32 × Hp)) (r0 : Nat) (r1 : Nat) (x2 : Int32) (x3 : Int32) (r4 : Nat) (k : Hp → Option (Int32 × Hp)) : Prop := ∀ (H : Heap) (locs : List Loc) (ls : Array Slot) (h : Hp), k h = some out → Ext h0 h → Rel G h H → va_S (AA G.2.2) s.heap H locs → hpT h r0 = (1, 8) → hpT h r1 = (1, 0) → hpT h r4 = (1, 7) → lv_has ls 9 [(0, .ref (G.2.2 + r0)), (1, .ref (G.2.2 + r1)), (2, .int x2), (3, .int x3), (4, .ref (G.2.2 + r4))] → W p l e rm_X8_softest s m args below meth c H locs 0 0 (MQ below (Qm G h0 out.2 (some (.int out.1)) false) args s 0 0 (AA G.2.2)) (F0 m 175 ls [])
def P_X8_softest_139 (G : Gt) (l : Launch) (p : Program) (e : Env) (s : State) (m : MethodId) (args : Array Value) (below : List Frame) (meth : Method) (c : Code) (h0 : Hp) (out : (Int32 × Hp)) (r0 : Nat) (r1 : Nat) (x2 : Int32) (x3 : Int32) (r4 : Nat) (k : Hp → Int32 → Int32 → Int32 → Option (Int32 × Hp)) : Prop := ∀ (H : Heap) (locs : List Loc) (ls : Array Slot) (h : Hp) (x5 : Int32) (x7 : Int32) (x8 : Int32), k h x5 x7 x8 = some out → Ext h0 h → Rel G h H → va_S (AA G.2.2) s.heap H locs → hpT h r0 = (1, 8) → hpT h r1 = (1, 0) → hpT h r4 = (1, 7) → lv_has ls 9 [(0, .ref (G.2.2 + r0)), (1, .ref (G.2.2 + r1)), (2, .int x2), (3, .int x3), (4, .ref (G.2.2 + r4)), (5, .int x5), (7, .int x7), (8, .int x8)] → W p l e rm_X8_softest s m args below meth c H locs 0 0 (MQ below (Qm G h0 out.2 (some (.int out.1)) false) args s 0 0 (AA G.2.2)) (F0 m 139 ls [])
def P_X8_softest_121 (G : Gt) (l : Launch) (p : Program) (e : Env) (s : State) (m : MethodId) (args : Array Value) (below : List Frame) (meth : Method) (c : Code) (h0 : Hp) (out : (Int32 × Hp)) (r0 : Nat) (r1 : Nat) (x2 : Int32) (x3 : Int32) (r4 : Nat) (k : Hp → Int32 → Option (Int32 × Hp)) : Prop := ∀ (H : Heap) (locs : List Loc) (ls : Array Slot) (h : Hp) (x5 : Int32), k h x5 = some out → Ext h0 h → Rel G h H → va_S (AA G.2.2) s.heap H locs → hpT h r0 = (1, 8) → hpT h r1 = (1, 0) → hpT h r4 = (1, 7) → lv_has ls 9 [(0, .ref (G.2.2 + r0)), (1, .ref (G.2.2 + r1)), (2, .int x2), (3, .int x3), (4, .ref (G.2.2 + r4)), (5, .int x5)] → W p l e rm_X8_softest s m args below meth c H locs 0 0 (MQ below (Qm G h0 out.2 (some (.int out.1)) false) args s 0 0 (AA G.2.2)) (F0 m 121 ls [])
def P_X8_softest_94 (G : Gt) (l : Launch) (p : Program) (e : Env) (s : State) (m : MethodId) (args : Array Value) (below : List Frame) (meth : Method) (c : Code) (h0 : Hp) (out : (Int32 × Hp)) (r0 : Nat) (r1 : Nat) (x2 : Int32) (x3 : Int32) (r4 : Nat) (k : Hp → Int32 → Int32 → Int32 → Option (Int32 × Hp)) : Prop := ∀ (H : Heap) (locs : List Loc) (ls : Array Slot) (h : Hp) (x5 : Int32) (x6 : Int32) (x7 : Int32), k h x5 x6 x7 = some out → Ext h0 h → Rel G h H → va_S (AA G.2.2) s.heap H locs → hpT h r0 = (1, 8) → hpT h r1 = (1, 0) → hpT h r4 = (1, 7) → lv_has ls 9 [(0, .ref (G.2.2 + r0)), (1, .ref (G.2.2 + r1)), (2, .int x2), (3, .int x3), (4, .ref (G.2.2 + r4)), (5, .int x5), (6, .int x6), (7, .int x7)] → W p l e rm_X8_softest s m args below meth c H locs 0 0 (MQ below (Qm G h0 out.2 (some (.int out.1)) false) args s 0 0 (AA G.2.2)) (F0 m 94 ls [])
def P_X8_softest_36 (G : Gt) (l : Launch) (p : Program) (e : Env) (s : State) (m : MethodId) (args : Array Value) (below : List Frame) (meth : Method) (c : Code) (h0 : Hp) (out : (Int32 × Hp)) (r0 : Nat) (r1 : Nat) (x2 : Int32) (x3 : Int32) (r4 : Nat) (k : Hp → Int32 → Int32 → Option (Int32 × Hp)) : Prop := ∀ (H : Heap) (locs : List Loc) (ls : Array Slot) (h : Hp) (x5 : Int32) (x6 : Int32), k h x5 x6 = some out → Ext h0 h → Rel G h H → va_S (AA G.2.2) s.heap H locs → hpT h r0 = (1, 8) → hpT h r1 = (1, 0) → hpT h r4 = (1, 7) → lv_has ls 9 [(0, .ref (G.2.2 + r0)), (1, .ref (G.2.2 + r1)), (2, .int x2), (3, .int x3), (4, .ref (G.2.2 + r4)), (5, .int x5), (6, .int x6)] → W p l e rm_X8_softest s m args below meth c H locs 0 0 (MQ below (Qm G h0 out.2 (some (.int out.1)) false) args s 0 0 (AA G.2.2)) (F0 m 36 ls [])
set_option maxRecDepth 100000 in
set_option maxHeartbeats 4000000 in
theorem w_X8_softest_175 {G : Gt} {l : Launch} {p : Program} {e : Env} {s : State} {m : MethodId} {args : Array Value} {below : List Frame} {meth : Method} {c : Code} {h0 : Hp} {out : (Int32 × Hp)} {r0 : Nat} {r1 : Nat} {x2 : Int32} {x3 : Int32} {r4 : Nat}  (C : Cx G p m c cX8_softest 9 s args RX8) (hr : meth.sig.returnType = some .int) (hlk : meth.locks = false)  : P_X8_softest_175 G l p e s m args below meth c h0 out r0 r1 x2 x3 r4 (f_X8_softest_175 r0 r1 x2 x3 r4) := by
  intro H locs ls h hf hE hR hS t_r0 t_r1 t_r4 hl
  rw [f_X8_softest_175] at hf
  refine lv_aload_n C.x C.b dX8_softest_175 rfl (lv_at hl 0 rfl) ?_
  obtain ⟨g36, hf⟩ := gd_e hf
  refine r_getr C hR t_r0 fl_X8_25 (by decide) (nz_e g36) dX8_softest_176 (fun tq37 => ?_)
  have tg36 := okA tq37 rfl
  refine lv_iload_n C.x C.b dX8_softest_179 rfl (lv_at hl 2 rfl) ?_
  obtain ⟨g38, hf⟩ := gd_e hf
  refine r_iald C hR tg36 g38 dX8_softest_180 ?_
  refine lv_bipush (v := (64 : Int32)) C.x C.b dX8_softest_181 (by decide) ?_
  refine lv_idiv C.x C.b dX8_softest_183 (by decide) ?_
  have hf := so_e hf
  subst hf
  exact r_iret C hr hlk hR hE hS dX8_softest_184
set_option maxRecDepth 100000 in
set_option maxHeartbeats 4000000 in
theorem w_X8_softest_139 {G : Gt} {l : Launch} {p : Program} {e : Env} {s : State} {m : MethodId} {args : Array Value} {below : List Frame} {meth : Method} {c : Code} {h0 : Hp} {out : (Int32 × Hp)} {r0 : Nat} {r1 : Nat} {x2 : Int32} {x3 : Int32} {r4 : Nat}  (C : Cx G p m c cX8_softest 9 s args RX8) (hr : meth.sig.returnType = some .int) (hlk : meth.locks = false)  (n : Nat) : P_X8_softest_139 G l p e s m args below meth c h0 out r0 r1 x2 x3 r4 (f_X8_softest_139 r0 r1 x2 x3 r4 n) := by
  induction n with
  | zero => intro H locs ls h x5 x7 x8 hf hE hR hS t_r0 t_r1 t_r4 hl; cases hf
  | succ n hk139 =>
    intro H locs ls h x5 x7 x8 hf hE hR hS t_r0 t_r1 t_r4 hl
    rw [f_X8_softest_139] at hf
    obtain ⟨k139, e_k139⟩ : ∃ y, y = f_X8_softest_139 r0 r1 x2 x3 r4 n := ⟨_, rfl⟩
    have hf := lt_e hf e_k139
    rw [← e_k139] at hk139
    refine lv_iload C.x C.b dX8_softest_139 (lv_at hl 7 rfl) ?_
    refine lv_iload C.x C.b dX8_softest_141 (lv_at hl 5 rfl) ?_
    refine lv_icmp_ge (tgt := 175) C.x C.b dX8_softest_143 (by decide) (fun c31 => ?_) (fun c31 => ?_)
    · have hf := it_t hf c31
      exact w_X8_softest_175 C hr hlk _ _ _ _ hf hE hR hS t_r0 t_r1 t_r4 (lv_sub hl [0, 1, 2, 3, 4] rfl)
    · have hf := it_f hf c31
      refine lv_iload C.x C.b dX8_softest_146 (lv_at hl 6 rfl) ?_
      refine lv_iload_n C.x C.b dX8_softest_148 rfl (lv_at hl 3 rfl) ?_
      refine lv_icmp_eq (tgt := 175) C.x C.b dX8_softest_149 (by decide) (fun c32 => ?_) (fun c32 => ?_)
      · have hf := it_t hf c32
        exact w_X8_softest_175 C hr hlk _ _ _ _ hf hE hR hS t_r0 t_r1 t_r4 (lv_sub hl [0, 1, 2, 3, 4] rfl)
      · have hf := it_f hf c32
        refine lv_aload_n C.x C.b dX8_softest_152 rfl (lv_at hl 0 rfl) ?_
        refine lv_aload_n C.x C.b dX8_softest_153 rfl (lv_at hl 1 rfl) ?_
        refine lv_iload C.x C.b dX8_softest_154 (lv_at hl 6 rfl) ?_
        obtain ⟨q33, h_q33, hf⟩ := bd_e hf
        refine r_callV (As := [.ref (G.2.2 + r1), .int x7]) (rest := []) C hR hS t_r0 rfl mk_X8_softStep cl_X8_85 (k_X8_softStep t_r0 t_r1 h_q33) ⟨⟨Nat.le_of_ble_eq_true rfl, Nat.le_of_ble_eq_true rfl⟩, ⟨rfl, rfl⟩, Nat.le_of_ble_eq_true rfl, Nat.le_of_ble_eq_true rfl⟩ rfl hl.1 rfl (Nat.le_of_ble_eq_true rfl) dX8_softest_156 (fun H locs hR hS hE1 z_q33 => ?_)
        refine lv_istore (lv' := [(7, .int q33), (0, .ref (G.2.2 + r0)), (1, .ref (G.2.2 + r1)), (2, .int x2), (3, .int x3), (4, .ref (G.2.2 + r4)), (5, .int x5), (8, .int x8)]) C.x C.b dX8_softest_159 hl (by decide) rfl (fun ls hl => ?_)
        refine lv_aload C.x C.b dX8_softest_161 (lv_at hl 5 rfl) ?_
        refine lv_iload C.x C.b dX8_softest_163 (lv_at hl 0 rfl) ?_
        refine lv_i2l C.x C.b dX8_softest_165 rfl ?_
        obtain ⟨q34, h_q34, hf⟩ := bd_e hf
        refine r_callV (As := [.long (q33.toInt64)]) (rest := []) C hR hS t_r4 rfl mk_X7_add cl_X8_61 (k_X7_add t_r4 h_q34) ⟨⟨Nat.le_of_ble_eq_true rfl, Nat.le_of_ble_eq_true rfl⟩, ⟨rfl, rfl⟩, Nat.le_of_ble_eq_true rfl, Nat.le_of_ble_eq_true rfl⟩ rfl hl.1 rfl (Nat.le_of_ble_eq_true rfl) dX8_softest_166 (fun H locs hR hS hE1 z_q34 => ?_)
        have hE := hE.tr hE1
        have t_r0 := hE1.at t_r0 (by decide)
        have t_r1 := hE1.at t_r1 (by decide)
        have t_r4 := hE1.at t_r4 (by decide)
        obtain ⟨v35, e_v35⟩ : ∃ y : Int32, y = x8 + (1 : Int32) := ⟨_, rfl⟩
        have hf := lt_e hf e_v35
        refine lv_iinc (v := v35) (lv' := [(8, .int v35), (7, .int q33), (0, .ref (G.2.2 + r0)), (1, .ref (G.2.2 + r1)), (2, .int x2), (3, .int x3), (4, .ref (G.2.2 + r4)), (5, .int x5)]) C.x C.b dX8_softest_169 hl (k := 7) rfl (by rw [e_v35]; rfl) (by decide) rfl (fun ls hl => ?_)
        refine lv_goto (tgt := 139) C.x C.b dX8_softest_172 (by decide) ?_
        exact hk139 _ _ _ _ _ _ _ hf hE hR hS t_r0 t_r1 t_r4 (lv_sub hl [2, 3, 4, 5, 6, 7, 1, 0] rfl)
set_option maxRecDepth 100000 in
set_option maxHeartbeats 4000000 in
theorem w_X8_softest_121 {G : Gt} {l : Launch} {p : Program} {e : Env} {s : State} {m : MethodId} {args : Array Value} {below : List Frame} {meth : Method} {c : Code} {h0 : Hp} {out : (Int32 × Hp)} {r0 : Nat} {r1 : Nat} {x2 : Int32} {x3 : Int32} {r4 : Nat}  (C : Cx G p m c cX8_softest 9 s args RX8) (hr : meth.sig.returnType = some .int) (hlk : meth.locks = false)  : P_X8_softest_121 G l p e s m args below meth c h0 out r0 r1 x2 x3 r4 (f_X8_softest_121 r0 r1 x2 x3 r4) := by
  intro H locs ls h x5 hf hE hR hS t_r0 t_r1 t_r4 hl
  rw [f_X8_softest_121] at hf
  refine lv_aload C.x C.b dX8_softest_121 (lv_at hl 4 rfl) ?_
  obtain ⟨q29, h_q29, hf⟩ := bd_e hf
  refine r_callV (As := []) (rest := []) C hR hS t_r4 rfl mk_X7_start cl_X8_56 (k_X7_start t_r4 h_q29) ⟨⟨Nat.le_of_ble_eq_true rfl, Nat.le_of_ble_eq_true rfl⟩, ⟨rfl, rfl⟩, Nat.le_of_ble_eq_true rfl, Nat.le_of_ble_eq_true rfl⟩ rfl hl.1 rfl (Nat.le_of_ble_eq_true rfl) dX8_softest_123 (fun H locs hR hS hE1 z_q29 => ?_)
  have hE := hE.tr hE1
  have t_r0 := hE1.at t_r0 (by decide)
  have t_r1 := hE1.at t_r1 (by decide)
  have t_r4 := hE1.at t_r4 (by decide)
  refine lv_aload C.x C.b dX8_softest_126 (lv_at hl 4 rfl) ?_
  refine lv_iload_n C.x C.b dX8_softest_128 rfl (lv_at hl 2 rfl) ?_
  refine lv_i2l C.x C.b dX8_softest_129 rfl ?_
  obtain ⟨q30, h_q30, hf⟩ := bd_e hf
  refine r_callV (As := [.long (x2.toInt64)]) (rest := []) C hR hS t_r4 rfl mk_X7_add cl_X8_61 (k_X7_add t_r4 h_q30) ⟨⟨Nat.le_of_ble_eq_true rfl, Nat.le_of_ble_eq_true rfl⟩, ⟨rfl, rfl⟩, Nat.le_of_ble_eq_true rfl, Nat.le_of_ble_eq_true rfl⟩ rfl hl.1 rfl (Nat.le_of_ble_eq_true rfl) dX8_softest_130 (fun H locs hR hS hE1 z_q30 => ?_)
  have hE := hE.tr hE1
  have t_r0 := hE1.at t_r0 (by decide)
  have t_r1 := hE1.at t_r1 (by decide)
  have t_r4 := hE1.at t_r4 (by decide)
  refine lv_iload_n C.x C.b dX8_softest_133 rfl (lv_at hl 2 rfl) ?_
  refine lv_istore (lv' := [(7, .int x2), (0, .ref (G.2.2 + r0)), (1, .ref (G.2.2 + r1)), (2, .int x2), (3, .int x3), (4, .ref (G.2.2 + r4)), (5, .int x5)]) C.x C.b dX8_softest_134 hl (by decide) rfl (fun ls hl => ?_)
  refine lv_iconst (v := (0 : Int32)) C.x C.b dX8_softest_136 (by decide) ?_
  refine lv_istore (lv' := [(8, .int (0 : Int32)), (7, .int x2), (0, .ref (G.2.2 + r0)), (1, .ref (G.2.2 + r1)), (2, .int x2), (3, .int x3), (4, .ref (G.2.2 + r4)), (5, .int x5)]) C.x C.b dX8_softest_137 hl (by decide) rfl (fun ls hl => ?_)
  exact w_X8_softest_139 C hr hlk FU _ _ _ _ _ _ _ hf hE hR hS t_r0 t_r1 t_r4 (lv_sub hl [2, 3, 4, 5, 6, 7, 1, 0] rfl)
set_option maxRecDepth 100000 in
set_option maxHeartbeats 4000000 in
theorem w_X8_softest_94 {G : Gt} {l : Launch} {p : Program} {e : Env} {s : State} {m : MethodId} {args : Array Value} {below : List Frame} {meth : Method} {c : Code} {h0 : Hp} {out : (Int32 × Hp)} {r0 : Nat} {r1 : Nat} {x2 : Int32} {x3 : Int32} {r4 : Nat}  (C : Cx G p m c cX8_softest 9 s args RX8) (hr : meth.sig.returnType = some .int) (hlk : meth.locks = false)  (n : Nat) : P_X8_softest_94 G l p e s m args below meth c h0 out r0 r1 x2 x3 r4 (f_X8_softest_94 r0 r1 x2 x3 r4 n) := by
  induction n with
  | zero => intro H locs ls h x5 x6 x7 hf hE hR hS t_r0 t_r1 t_r4 hl; cases hf
  | succ n hk94 =>
    intro H locs ls h x5 x6 x7 hf hE hR hS t_r0 t_r1 t_r4 hl
    rw [f_X8_softest_94] at hf
    obtain ⟨k94, e_k94⟩ : ∃ y, y = f_X8_softest_94 r0 r1 x2 x3 r4 n := ⟨_, rfl⟩
    have hf := lt_e hf e_k94
    rw [← e_k94] at hk94
    refine lv_iload C.x C.b dX8_softest_94 (lv_at hl 7 rfl) ?_
    refine lv_iload C.x C.b dX8_softest_96 (lv_at hl 5 rfl) ?_
    refine lv_icmp_ge (tgt := 121) C.x C.b dX8_softest_98 (by decide) (fun c25 => ?_) (fun c25 => ?_)
    · have hf := it_t hf c25
      exact w_X8_softest_121 C hr hlk _ _ _ _ _ hf hE hR hS t_r0 t_r1 t_r4 (lv_sub hl [0, 1, 2, 3, 4, 5] rfl)
    · have hf := it_f hf c25
      refine lv_iload C.x C.b dX8_softest_101 (lv_at hl 6 rfl) ?_
      refine lv_if_eq (tgt := 121) C.x C.b dX8_softest_103 (by decide) (fun c26 => ?_) (fun c26 => ?_)
      · have hf := it_t hf c26
        exact w_X8_softest_121 C hr hlk _ _ _ _ _ hf hE hR hS t_r0 t_r1 t_r4 (lv_sub hl [0, 1, 2, 3, 4, 5] rfl)
      · have hf := it_f hf c26
        refine lv_aload_n C.x C.b dX8_softest_106 rfl (lv_at hl 0 rfl) ?_
        refine lv_aload_n C.x C.b dX8_softest_107 rfl (lv_at hl 1 rfl) ?_
        refine lv_iload C.x C.b dX8_softest_108 (lv_at hl 5 rfl) ?_
        obtain ⟨q27, h_q27, hf⟩ := bd_e hf
        refine r_callV (As := [.ref (G.2.2 + r1), .int x5]) (rest := []) C hR hS t_r0 rfl mk_X8_improve cl_X8_81 (k_X8_improve t_r0 t_r1 h_q27) ⟨⟨Nat.le_of_ble_eq_true rfl, Nat.le_of_ble_eq_true rfl⟩, ⟨rfl, rfl⟩, Nat.le_of_ble_eq_true rfl, Nat.le_of_ble_eq_true rfl⟩ rfl hl.1 rfl (Nat.le_of_ble_eq_true rfl) dX8_softest_110 (fun H locs hR hS hE1 z_q27 => ?_)
        have hE := hE.tr hE1
        have t_r0 := hE1.at t_r0 (by decide)
        have t_r1 := hE1.at t_r1 (by decide)
        have t_r4 := hE1.at t_r4 (by decide)
        have z_q27 := z_q27 rfl _ rfl
        refine lv_istore (lv' := [(6, .int q27.1), (0, .ref (G.2.2 + r0)), (1, .ref (G.2.2 + r1)), (2, .int x2), (3, .int x3), (4, .ref (G.2.2 + r4)), (5, .int x5), (7, .int x7)]) C.x C.b dX8_softest_113 hl (by decide) rfl (fun ls hl => ?_)
        obtain ⟨v28, e_v28⟩ : ∃ y : Int32, y = x7 + (1 : Int32) := ⟨_, rfl⟩
        have hf := lt_e hf e_v28
        refine lv_iinc (v := v28) (lv' := [(7, .int v28), (6, .int q27.1), (0, .ref (G.2.2 + r0)), (1, .ref (G.2.2 + r1)), (2, .int x2), (3, .int x3), (4, .ref (G.2.2 + r4)), (5, .int x5)]) C.x C.b dX8_softest_115 hl (k := 7) rfl (by rw [e_v28]; rfl) (by decide) rfl (fun ls hl => ?_)
        refine lv_goto (tgt := 94) C.x C.b dX8_softest_118 (by decide) ?_
        exact hk94 _ _ _ _ _ _ _ hf hE hR hS t_r0 t_r1 t_r4 (lv_sub hl [2, 3, 4, 5, 6, 7, 1, 0] rfl)
set_option maxRecDepth 100000 in
set_option maxHeartbeats 4000000 in
theorem w_X8_softest_36 {G : Gt} {l : Launch} {p : Program} {e : Env} {s : State} {m : MethodId} {args : Array Value} {below : List Frame} {meth : Method} {c : Code} {h0 : Hp} {out : (Int32 × Hp)} {r0 : Nat} {r1 : Nat} {x2 : Int32} {x3 : Int32} {r4 : Nat}  (C : Cx G p m c cX8_softest 9 s args RX8) (hr : meth.sig.returnType = some .int) (hlk : meth.locks = false)  (n : Nat) : P_X8_softest_36 G l p e s m args below meth c h0 out r0 r1 x2 x3 r4 (f_X8_softest_36 r0 r1 x2 x3 r4 n) := by
  induction n with
  | zero => intro H locs ls h x5 x6 hf hE hR hS t_r0 t_r1 t_r4 hl; cases hf
  | succ n hk36 =>
    intro H locs ls h x5 x6 hf hE hR hS t_r0 t_r1 t_r4 hl
    rw [f_X8_softest_36] at hf
    obtain ⟨k36, e_k36⟩ : ∃ y, y = f_X8_softest_36 r0 r1 x2 x3 r4 n := ⟨_, rfl⟩
    have hf := lt_e hf e_k36
    rw [← e_k36] at hk36
    refine lv_iload C.x C.b dX8_softest_36 (lv_at hl 6 rfl) ?_
    refine lv_iload C.x C.b dX8_softest_38 (lv_at hl 5 rfl) ?_
    refine lv_icmp_ge (tgt := 76) C.x C.b dX8_softest_40 (by decide) (fun c7 => ?_) (fun c7 => ?_)
    · have hf := it_t hf c7
      refine lv_aload_n C.x C.b dX8_softest_76 rfl (lv_at hl 0 rfl) ?_
      obtain ⟨g8, hf⟩ := gd_e hf
      refine r_getr C hR t_r0 fl_X8_25 (by decide) (nz_e g8) dX8_softest_77 (fun tq9 => ?_)
      have tg8 := okA tq9 rfl
      refine lv_iload_n C.x C.b dX8_softest_80 rfl (lv_at hl 3 rfl) ?_
      refine lv_aload_n C.x C.b dX8_softest_81 rfl (lv_at hl 0 rfl) ?_
      obtain ⟨g10, hf⟩ := gd_e hf
      refine r_getr C hR t_r0 fl_X8_22 (by decide) (nz_e g10) dX8_softest_82 (fun tq11 => ?_)
      have tg10 := okA tq11 rfl
      refine lv_iload_n C.x C.b dX8_softest_85 rfl (lv_at hl 3 rfl) ?_
      obtain ⟨g12, hf⟩ := gd_e hf
      refine r_iald C hR tg10 g12 dX8_softest_86 ?_
      obtain ⟨g13, hf⟩ := gd_e hf
      refine r_iast C hR hS tg8 g13 dX8_softest_87 (fun H locs hR hS => ?_)
      obtain ⟨h14, e_h14⟩ : ∃ y, y = upI h (hpR h r0 4) (ix x3) (hpI h (hpR h r0 3) (ix x3)) := ⟨_, rfl⟩
      rw [← e_h14] at hR
      have hf := lt_e hf e_h14
      have hE := eI e_h14 hE
      have t_r0 := tI e_h14 t_r0
      have t_r1 := tI e_h14 t_r1
      have t_r4 := tI e_h14 t_r4
      refine lv_iconst (v := (1 : Int32)) C.x C.b dX8_softest_88 (by decide) ?_
      refine lv_istore (lv' := [(6, .int (1 : Int32)), (0, .ref (G.2.2 + r0)), (1, .ref (G.2.2 + r1)), (2, .int x2), (3, .int x3), (4, .ref (G.2.2 + r4)), (5, .int x5)]) C.x C.b dX8_softest_89 hl (by decide) rfl (fun ls hl => ?_)
      refine lv_iconst (v := (0 : Int32)) C.x C.b dX8_softest_91 (by decide) ?_
      refine lv_istore (lv' := [(7, .int (0 : Int32)), (6, .int (1 : Int32)), (0, .ref (G.2.2 + r0)), (1, .ref (G.2.2 + r1)), (2, .int x2), (3, .int x3), (4, .ref (G.2.2 + r4)), (5, .int x5)]) C.x C.b dX8_softest_92 hl (by decide) rfl (fun ls hl => ?_)
      exact w_X8_softest_94 C hr hlk FU _ _ _ _ _ _ _ hf hE hR hS t_r0 t_r1 t_r4 (lv_sub hl [2, 3, 4, 5, 6, 7, 1, 0] rfl)
    · have hf := it_f hf c7
      refine lv_aload_n C.x C.b dX8_softest_43 rfl (lv_at hl 0 rfl) ?_
      obtain ⟨g15, hf⟩ := gd_e hf
      refine r_getr C hR t_r0 fl_X8_22 (by decide) (nz_e g15) dX8_softest_44 (fun tq16 => ?_)
      have tg15 := okA tq16 rfl
      refine lv_iload C.x C.b dX8_softest_47 (lv_at hl 6 rfl) ?_
      refine lv_aload_n C.x C.b dX8_softest_49 rfl (lv_at hl 1 rfl) ?_
      refine lv_iload C.x C.b dX8_softest_50 (lv_at hl 6 rfl) ?_
      obtain ⟨q17, h_q17, hf⟩ := bd_e hf
      refine r_callV (As := [.int x6]) (rest := [.int x6, .ref (G.2.2 + (hpR h r0 3))]) C hR hS t_r1 rfl mk_X0_strengthOver cl_X8_77 (k_X0_strengthOver t_r1 h_q17) ⟨⟨Nat.le_of_ble_eq_true rfl, Nat.le_of_ble_eq_true rfl⟩, ⟨rfl, rfl⟩, Nat.le_of_ble_eq_true rfl, Nat.le_of_ble_eq_true rfl⟩ rfl hl.1 rfl (Nat.le_of_ble_eq_true rfl) dX8_softest_52 (fun H locs hR hS hE1 z_q17 => ?_)
      refine lv_bipush (v := (64 : Int32)) C.x C.b dX8_softest_55 (by decide) ?_
      refine lv_imul C.x C.b dX8_softest_57 ?_
      refine lv_iconst (v := (1 : Int32)) C.x C.b dX8_softest_58 (by decide) ?_
      refine lv_iadd C.x C.b dX8_softest_59 ?_
      obtain ⟨g18, hf⟩ := gd_e hf
      refine r_iast C hR hS tg15 g18 dX8_softest_60 (fun H locs hR hS => ?_)
      obtain ⟨h19, e_h19⟩ : ∃ y, y = upI h (hpR h r0 3) (ix x6) ((q17 * (64 : Int32)) + (1 : Int32)) := ⟨_, rfl⟩
      rw [← e_h19] at hR
      have hf := lt_e hf e_h19
      have hE := eI e_h19 hE
      have t_r0 := tI e_h19 t_r0
      have t_r1 := tI e_h19 t_r1
      have t_r4 := tI e_h19 t_r4
      refine lv_aload_n C.x C.b dX8_softest_61 rfl (lv_at hl 0 rfl) ?_
      obtain ⟨g20, hf⟩ := gd_e hf
      refine r_getr C hR t_r0 fl_X8_25 (by decide) (nz_e g20) dX8_softest_62 (fun tq21 => ?_)
      have tg20 := okA tq21 rfl
      refine lv_iload C.x C.b dX8_softest_65 (lv_at hl 6 rfl) ?_
      refine lv_ldc C.x C.b C.ow (C.ts _ lk_X8_80) dX8_softest_67 ?_
      obtain ⟨g22, hf⟩ := gd_e hf
      refine r_iast C hR hS tg20 g22 dX8_softest_69 (fun H locs hR hS => ?_)
      obtain ⟨h23, e_h23⟩ : ∃ y, y = upI h19 (hpR h19 r0 4) (ix x6) (268435456 : Int32) := ⟨_, rfl⟩
      rw [← e_h23] at hR
      have hf := lt_e hf e_h23
      have hE := eI e_h23 hE
      have t_r0 := tI e_h23 t_r0
      have t_r1 := tI e_h23 t_r1
      have t_r4 := tI e_h23 t_r4
      obtain ⟨v24, e_v24⟩ : ∃ y : Int32, y = x6 + (1 : Int32) := ⟨_, rfl⟩
      have hf := lt_e hf e_v24
      refine lv_iinc (v := v24) (lv' := [(6, .int v24), (0, .ref (G.2.2 + r0)), (1, .ref (G.2.2 + r1)), (2, .int x2), (3, .int x3), (4, .ref (G.2.2 + r4)), (5, .int x5)]) C.x C.b dX8_softest_70 hl (k := 6) rfl (by rw [e_v24]; rfl) (by decide) rfl (fun ls hl => ?_)
      refine lv_goto (tgt := 36) C.x C.b dX8_softest_73 (by decide) ?_
      exact hk36 _ _ _ _ _ _ hf hE hR hS t_r0 t_r1 t_r4 (lv_sub hl [1, 2, 3, 4, 5, 6, 0] rfl)
set_option maxRecDepth 100000 in
set_option maxHeartbeats 4000000 in
theorem k_X8_softest {G : Gt} {l : Launch} {h : Hp} {r0 : Nat} {r1 : Nat} {x2 : Int32} {x3 : Int32} {r4 : Nat} {out : (Int32 × Hp)} (t_r0 : hpT h r0 = (1, 8)) (t_r1 : hpT h r1 = (1, 0)) (t_r4 : hpT h r4 = (1, 7))  (hf : f_X8_softest h r0 r1 x2 x3 r4 = some out) : Mt G l yX8_softest cX8_softest 9 (some .int) rm_X8_softest [.ref (G.2.2 + r0), .ref (G.2.2 + r1), .int x2, .int x3, .ref (G.2.2 + r4)] h (some (.int out.1)) out.2 false 0 0 := by
  refine r_met (by decide +kernel) (Nat.le_of_ble_eq_true rfl) ?_
  intro p e s m args below meth c ls C hr hlk hnm hR hS hl
  have hE : Ext h h := Ext.rf
  have hl : lv_has ls 9 [(0, .ref (G.2.2 + r0)), (1, .ref (G.2.2 + r1)), (2, .int x2), (3, .int x3), (4, .ref (G.2.2 + r4))] := hl
  rw [f_X8_softest] at hf
  refine lv_iload_n C.x C.b dX8_softest_0 rfl (lv_at hl 2 rfl) ?_
  refine lv_if_lt (tgt := 20) C.x C.b dX8_softest_1 (by decide) (fun c1 => ?_) (fun c1 => ?_)
  · have hf := it_t hf c1
    refine lv_iconst (v := (-1 : Int32)) C.x C.b dX8_softest_20 (by decide) ?_
    have hf := so_e hf
    subst hf
    exact r_iret C hr hlk hR hE hS dX8_softest_21
  · have hf := it_f hf c1
    refine lv_iload_n C.x C.b dX8_softest_4 rfl (lv_at hl 2 rfl) ?_
    refine lv_bipush (v := (36 : Int32)) C.x C.b dX8_softest_5 (by decide) ?_
    refine lv_icmp_ge (tgt := 20) C.x C.b dX8_softest_7 (by decide) (fun c2 => ?_) (fun c2 => ?_)
    · have hf := it_t hf c2
      refine lv_iconst (v := (-1 : Int32)) C.x C.b dX8_softest_20 (by decide) ?_
      have hf := so_e hf
      subst hf
      exact r_iret C hr hlk hR hE hS dX8_softest_21
    · have hf := it_f hf c2
      refine lv_iload_n C.x C.b dX8_softest_10 rfl (lv_at hl 3 rfl) ?_
      refine lv_if_lt (tgt := 20) C.x C.b dX8_softest_11 (by decide) (fun c3 => ?_) (fun c3 => ?_)
      · have hf := it_t hf c3
        refine lv_iconst (v := (-1 : Int32)) C.x C.b dX8_softest_20 (by decide) ?_
        have hf := so_e hf
        subst hf
        exact r_iret C hr hlk hR hE hS dX8_softest_21
      · have hf := it_f hf c3
        refine lv_iload_n C.x C.b dX8_softest_14 rfl (lv_at hl 3 rfl) ?_
        refine lv_bipush (v := (36 : Int32)) C.x C.b dX8_softest_15 (by decide) ?_
        refine lv_icmp_lt (tgt := 22) C.x C.b dX8_softest_17 (by decide) (fun c4 => ?_) (fun c4 => ?_)
        · have hf := it_t hf c4
          refine lv_aload_n C.x C.b dX8_softest_22 rfl (lv_at hl 1 rfl) ?_
          obtain ⟨q5, h_q5, hf⟩ := bd_e hf
          refine r_callV (As := []) (rest := []) C hR hS t_r1 rfl mk_X0_cells cl_X8_34 (k_X0_cells t_r1 h_q5) ⟨⟨Nat.le_of_ble_eq_true rfl, Nat.le_of_ble_eq_true rfl⟩, ⟨rfl, rfl⟩, Nat.le_of_ble_eq_true rfl, Nat.le_of_ble_eq_true rfl⟩ rfl hl.1 rfl (Nat.le_of_ble_eq_true rfl) dX8_softest_23 (fun H locs hR hS hE1 z_q5 => ?_)
          refine lv_bipush (v := (36 : Int32)) C.x C.b dX8_softest_26 (by decide) ?_
          refine va_mmin C.x C.b (C.ml.trans hl.1.symm) C.ow (C.ts _ lk_X8_72) (C.ts _ lk_Mmin_s) (C.ts _ lk_Math) (C.ts _ lk_Mmin_c) (Nat.le_of_ble_eq_true rfl) (Nat.le_of_ble_eq_true rfl) (Nat.le_of_ble_eq_true rfl) (Nat.le_of_ble_eq_true rfl) dX8_softest_28 ?_
          refine lv_topi (fun v6 e_v6 => ?_)
          have hf := lt_e hf e_v6
          refine lv_istore (lv' := [(5, .int v6), (0, .ref (G.2.2 + r0)), (1, .ref (G.2.2 + r1)), (2, .int x2), (3, .int x3), (4, .ref (G.2.2 + r4))]) C.x C.b dX8_softest_31 hl (by decide) rfl (fun ls hl => ?_)
          refine lv_iconst (v := (0 : Int32)) C.x C.b dX8_softest_33 (by decide) ?_
          refine lv_istore (lv' := [(6, .int (0 : Int32)), (5, .int v6), (0, .ref (G.2.2 + r0)), (1, .ref (G.2.2 + r1)), (2, .int x2), (3, .int x3), (4, .ref (G.2.2 + r4))]) C.x C.b dX8_softest_34 hl (by decide) rfl (fun ls hl => ?_)
          exact w_X8_softest_36 C hr hlk FU _ _ _ _ _ _ hf hE hR hS t_r0 t_r1 t_r4 (lv_sub hl [2, 3, 4, 5, 6, 1, 0] rfl)
        · have hf := it_f hf c4
          refine lv_iconst (v := (-1 : Int32)) C.x C.b dX8_softest_20 (by decide) ?_
          have hf := so_e hf
          subst hf
          exact r_iret C hr hlk hR hE hS dX8_softest_21

def rm_X9_sign : Room := { frames := 1, cells := 0, slots := 0, locals := 21 }
def P_X9_sign_19 (G : Gt) (l : Launch) (p : Program) (e : Env) (s : State) (m : MethodId) (args : Array Value) (below : List Frame) (meth : Method) (c : Code) (h0 : Hp) (out : (Int32 × Hp)) (r0 : Nat) (x1 : Int32) (k : Hp → Int32 → Option (Int32 × Hp)) : Prop := ∀ (H : Heap) (locs : List Loc) (ls : Array Slot) (h : Hp) (x2 : Int32), k h x2 = some out → Ext h0 h → Rel G h H → va_S (AA G.2.2) s.heap H locs → hpT h r0 = (1, 9) → lv_has ls 3 [(0, .ref (G.2.2 + r0)), (1, .int x1), (2, .int x2)] → W p l e rm_X9_sign s m args below meth c H locs 0 0 (MQ below (Qm G h0 out.2 (some (.int out.1)) false) args s 0 0 (AA G.2.2)) (F0 m 19 ls [])
set_option maxRecDepth 100000 in
set_option maxHeartbeats 4000000 in
theorem w_X9_sign_19 {G : Gt} {l : Launch} {p : Program} {e : Env} {s : State} {m : MethodId} {args : Array Value} {below : List Frame} {meth : Method} {c : Code} {h0 : Hp} {out : (Int32 × Hp)} {r0 : Nat} {x1 : Int32}  (C : Cx G p m c cX9_sign 3 s args RX9) (hr : meth.sig.returnType = some .int) (hlk : meth.locks = false)  (n : Nat) : P_X9_sign_19 G l p e s m args below meth c h0 out r0 x1 (f_X9_sign_19 r0 x1 n) := by
  induction n with
  | zero => intro H locs ls h x2 hf hE hR hS t_r0 hl; cases hf
  | succ n hk19 =>
    intro H locs ls h x2 hf hE hR hS t_r0 hl
    rw [f_X9_sign_19] at hf
    obtain ⟨k19, e_k19⟩ : ∃ y, y = f_X9_sign_19 r0 x1 n := ⟨_, rfl⟩
    have hf := lt_e hf e_k19
    rw [← e_k19] at hk19
    refine lv_iload_n C.x C.b dX9_sign_19 rfl (lv_at hl 2 rfl) ?_
    refine lv_if_lt (tgt := 43) C.x C.b dX9_sign_20 (by decide) (fun c4 => ?_) (fun c4 => ?_)
    · have hf := it_t hf c4
      refine lv_aload_n C.x C.b dX9_sign_43 rfl (lv_at hl 0 rfl) ?_
      obtain ⟨g5, hf⟩ := gd_e hf
      refine r_getr C hR t_r0 fl_X9_10 (by decide) (nz_e g5) dX9_sign_44 (fun tq6 => ?_)
      have tg5 := okO tq6 rfl
      refine r_geti C hR tg5 fl_X9_93 rfl dX9_sign_47 ?_
      have hf := so_e hf
      subst hf
      exact r_iret C hr hlk hR hE hS dX9_sign_50
    · have hf := it_f hf c4
      refine lv_aload_n C.x C.b dX9_sign_23 rfl (lv_at hl 0 rfl) ?_
      obtain ⟨g7, hf⟩ := gd_e hf
      refine r_getr C hR t_r0 fl_X9_10 (by decide) (nz_e g7) dX9_sign_24 (fun tq8 => ?_)
      have tg7 := okO tq8 rfl
      refine lv_iload_n C.x C.b dX9_sign_27 rfl (lv_at hl 1 rfl) ?_
      refine lv_iload_n C.x C.b dX9_sign_28 rfl (lv_at hl 2 rfl) ?_
      refine lv_iushr C.x C.b dX9_sign_29 rfl ?_
      refine lv_topi (fun v9 e_v9 => ?_)
      have hf := lt_e hf e_v9
      refine lv_sipush (v := (255 : Int32)) C.x C.b dX9_sign_30 (by decide) ?_
      refine lv_iand C.x C.b dX9_sign_33 ?_
      obtain ⟨q10, h_q10, hf⟩ := bd_e hf
      refine r_callV (As := [.int (v9 &&& (255 : Int32))]) (rest := []) C hR hS tg7 rfl mk_X6_add cl_X9_97 (k_X6_add tg7 h_q10) ⟨⟨Nat.le_of_ble_eq_true rfl, Nat.le_of_ble_eq_true rfl⟩, ⟨rfl, rfl⟩, Nat.le_of_ble_eq_true rfl, Nat.le_of_ble_eq_true rfl⟩ rfl hl.1 rfl (Nat.le_of_ble_eq_true rfl) dX9_sign_34 (fun H locs hR hS hE1 z_q10 => ?_)
      have hE := hE.tr hE1
      have t_r0 := hE1.at t_r0 (by decide)
      obtain ⟨v11, e_v11⟩ : ∃ y : Int32, y = x2 + (-8 : Int32) := ⟨_, rfl⟩
      have hf := lt_e hf e_v11
      refine lv_iinc (v := v11) (lv' := [(2, .int v11), (0, .ref (G.2.2 + r0)), (1, .int x1)]) C.x C.b dX9_sign_37 hl (k := 2) rfl (by rw [e_v11]; rfl) (by decide) rfl (fun ls hl => ?_)
      refine lv_goto (tgt := 19) C.x C.b dX9_sign_40 (by decide) ?_
      exact hk19 _ _ _ _ _ hf hE hR hS t_r0 (lv_sub hl [1, 2, 0] rfl)
set_option maxRecDepth 100000 in
set_option maxHeartbeats 4000000 in
theorem k_X9_sign {G : Gt} {l : Launch} {h : Hp} {r0 : Nat} {x1 : Int32} {out : (Int32 × Hp)} (t_r0 : hpT h r0 = (1, 9))  (hf : f_X9_sign h r0 x1 = some out) : Mt G l yX9_sign cX9_sign 3 (some .int) rm_X9_sign [.ref (G.2.2 + r0), .int x1] h (some (.int out.1)) out.2 false 0 0 := by
  refine r_met (by decide +kernel) (Nat.le_of_ble_eq_true rfl) ?_
  intro p e s m args below meth c ls C hr hlk hnm hR hS hl
  have hE : Ext h h := Ext.rf
  have hl : lv_has ls 3 [(0, .ref (G.2.2 + r0)), (1, .int x1)] := hl
  rw [f_X9_sign] at hf
  refine lv_aload_n C.x C.b dX9_sign_0 rfl (lv_at hl 0 rfl) ?_
  obtain ⟨g1, hf⟩ := gd_e hf
  refine r_getr C hR t_r0 fl_X9_10 (by decide) (nz_e g1) dX9_sign_1 (fun tq2 => ?_)
  have tg1 := okO tq2 rfl
  refine r_geti C hR tg1 fl_X9_93 rfl dX9_sign_4 ?_
  refine lv_iconst (v := (4 : Int32)) C.x C.b dX9_sign_7 (by decide) ?_
  refine lv_iadd C.x C.b dX9_sign_8 ?_
  refine lv_bipush (v := (80 : Int32)) C.x C.b dX9_sign_9 (by decide) ?_
  refine lv_icmp_le (tgt := 16) C.x C.b dX9_sign_11 (by decide) (fun c3 => ?_) (fun c3 => ?_)
  · have hf := it_t hf c3
    refine lv_bipush (v := (24 : Int32)) C.x C.b dX9_sign_16 (by decide) ?_
    refine lv_istore_n (lv' := [(2, .int (24 : Int32)), (0, .ref (G.2.2 + r0)), (1, .int x1)]) C.x C.b dX9_sign_18 rfl hl (by decide) rfl (fun ls hl => ?_)
    exact w_X9_sign_19 C hr hlk FU _ _ _ _ _ hf hE hR hS t_r0 (lv_sub hl [1, 2, 0] rfl)
  · have hf := it_f hf c3
    refine lv_iconst (v := (-1 : Int32)) C.x C.b dX9_sign_14 (by decide) ?_
    have hf := so_e hf
    subst hf
    exact r_iret C hr hlk hR hE hS dX9_sign_15

def rm_X9_end : Room := { frames := 0, cells := 0, slots := 0, locals := 0 }
set_option maxRecDepth 100000 in
set_option maxHeartbeats 4000000 in
theorem k_X9_end {G : Gt} {l : Launch} {h : Hp} {r0 : Nat} {x1 : Int32} {out : (Int32 × Hp)} (t_r0 : hpT h r0 = (1, 9))  (hf : f_X9_end h r0 x1 = some out) : Mt G l yX9_end cX9_end 2 (some .boolean) rm_X9_end [.ref (G.2.2 + r0), .int x1] h (some (.int out.1)) out.2 true 0 0 := by
  refine r_met (by decide +kernel) (Nat.le_of_ble_eq_true rfl) ?_
  intro p e s m args below meth c ls C hr hlk hnm hR hS hl
  have hE : Ext h h := Ext.rf
  have hl : lv_has ls 2 [(0, .ref (G.2.2 + r0)), (1, .int x1)] := hl
  rw [f_X9_end] at hf
  refine lv_iload_n C.x C.b dX9_end_0 rfl (lv_at hl 1 rfl) ?_
  refine lv_if_lt (tgt := 15) C.x C.b dX9_end_1 (by decide) (fun c1 => ?_) (fun c1 => ?_)
  · have hf := it_t hf c1
    refine lv_iconst (v := (0 : Int32)) C.x C.b dX9_end_15 (by decide) ?_
    have hf := so_e hf
    subst hf
    exact r_zret C hr hlk hR hE hS z_0 dX9_end_16
  · have hf := it_f hf c1
    refine lv_iload_n C.x C.b dX9_end_4 rfl (lv_at hl 1 rfl) ?_
    refine lv_aload_n C.x C.b dX9_end_5 rfl (lv_at hl 0 rfl) ?_
    obtain ⟨g2, hf⟩ := gd_e hf
    refine r_getr C hR t_r0 fl_X9_10 (by decide) (nz_e g2) dX9_end_6 (fun tq3 => ?_)
    have tg2 := okO tq3 rfl
    refine r_geti C hR tg2 fl_X9_93 rfl dX9_end_9 ?_
    refine lv_icmp_le (tgt := 17) C.x C.b dX9_end_12 (by decide) (fun c4 => ?_) (fun c4 => ?_)
    · have hf := it_t hf c4
      refine lv_aload_n C.x C.b dX9_end_17 rfl (lv_at hl 0 rfl) ?_
      refine r_getr C hR t_r0 fl_X9_10 (by decide) (nz_e g2) dX9_end_18 (fun tq5 => ?_)
      refine lv_iload_n C.x C.b dX9_end_21 rfl (lv_at hl 1 rfl) ?_
      refine r_puti C hR hS tg2 fl_X9_93 fp_X9_6_1 rfl dX9_end_22 (fun H locs hR hS => ?_)
      obtain ⟨h6, e_h6⟩ : ∃ y, y = upI h (hpR h r0 0) 1 x1 := ⟨_, rfl⟩
      rw [← e_h6] at hR
      have hf := lt_e hf e_h6
      have hE := eI e_h6 hE
      have t_r0 := tI e_h6 t_r0
      refine lv_iconst (v := (1 : Int32)) C.x C.b dX9_end_25 (by decide) ?_
      have hf := so_e hf
      subst hf
      exact r_zret C hr hlk hR hE hS z_1 dX9_end_26
    · have hf := it_f hf c4
      refine lv_iconst (v := (0 : Int32)) C.x C.b dX9_end_15 (by decide) ?_
      have hf := so_e hf
      subst hf
      exact r_zret C hr hlk hR hE hS z_0 dX9_end_16

def rm_X9_forgetStates : Room := { frames := 1, cells := 0, slots := 0, locals := 20 }
set_option maxRecDepth 100000 in
set_option maxHeartbeats 4000000 in
theorem k_X9_forgetStates {G : Gt} {l : Launch} {h : Hp} {r0 : Nat} {out : Hp} (t_r0 : hpT h r0 = (1, 9))  (hf : f_X9_forgetStates h r0 = some out) : Mt G l yX9_forgetStates cX9_forgetStates 1 (none) rm_X9_forgetStates [.ref (G.2.2 + r0)] h (none) out false 0 0 := by
  refine r_met (by decide +kernel) (Nat.le_of_ble_eq_true rfl) ?_
  intro p e s m args below meth c ls C hr hlk hnm hR hS hl
  have hE : Ext h h := Ext.rf
  have hl : lv_has ls 1 [(0, .ref (G.2.2 + r0))] := hl
  rw [f_X9_forgetStates] at hf
  refine lv_aload_n C.x C.b dX9_forgetStates_0 rfl (lv_at hl 0 rfl) ?_
  obtain ⟨g1, hf⟩ := gd_e hf
  refine r_getr C hR t_r0 fl_X9_39 (by decide) (nz_e g1) dX9_forgetStates_1 (fun tq2 => ?_)
  have tg1 := okO tq2 rfl
  obtain ⟨q3, h_q3, hf⟩ := bd_e hf
  refine r_callV (As := []) (rest := []) C hR hS tg1 rfl mk_X3_wipe cl_X9_121 (k_X3_wipe tg1 h_q3) ⟨⟨Nat.le_of_ble_eq_true rfl, Nat.le_of_ble_eq_true rfl⟩, ⟨rfl, rfl⟩, Nat.le_of_ble_eq_true rfl, Nat.le_of_ble_eq_true rfl⟩ rfl hl.1 rfl (Nat.le_of_ble_eq_true rfl) dX9_forgetStates_4 (fun H locs hR hS hE1 z_q3 => ?_)
  have hE := hE.tr hE1
  have t_r0 := hE1.at t_r0 (by decide)
  refine lv_aload_n C.x C.b dX9_forgetStates_7 rfl (lv_at hl 0 rfl) ?_
  refine lv_iconst (v := (0 : Int32)) C.x C.b dX9_forgetStates_8 (by decide) ?_
  refine r_puti C hR hS t_r0 fl_X9_123 fp_X9_9_7 rfl dX9_forgetStates_9 (fun H locs hR hS => ?_)
  obtain ⟨h4, e_h4⟩ : ∃ y, y = upI q3 r0 7 (0 : Int32) := ⟨_, rfl⟩
  rw [← e_h4] at hR
  have hf := lt_e hf e_h4
  have hE := eI e_h4 hE
  have t_r0 := tI e_h4 t_r0
  have hf := so_e hf
  subst hf
  exact r_vret C hr hlk hR hE hS dX9_forgetStates_12

def rm_X9_fieldTold : Room := { frames := 2, cells := 0, slots := 0, locals := 44 }
def P_X9_fieldTold_34 (G : Gt) (l : Launch) (p : Program) (e : Env) (s : State) (m : MethodId) (args : Array Value) (below : List Frame) (meth : Method) (c : Code) (h0 : Hp) (out : (Int32 × Hp)) (r0 : Nat) (k : Hp → Int32 → Option (Int32 × Hp)) : Prop := ∀ (H : Heap) (locs : List Loc) (ls : Array Slot) (h : Hp) (x1 : Int32), k h x1 = some out → Ext h0 h → Rel G h H → va_S (AA G.2.2) s.heap H locs → hpT h r0 = (1, 9) → lv_has ls 3 [(0, .ref (G.2.2 + r0)), (1, .int x1)] → W p l e rm_X9_fieldTold s m args below meth c H locs 0 0 (MQ below (Qm G h0 out.2 (some (.int out.1)) false) args s 0 0 (AA G.2.2)) (F0 m 34 ls [])
def P_X9_fieldTold_2 (G : Gt) (l : Launch) (p : Program) (e : Env) (s : State) (m : MethodId) (args : Array Value) (below : List Frame) (meth : Method) (c : Code) (h0 : Hp) (out : (Int32 × Hp)) (r0 : Nat) (k : Hp → Int32 → Option (Int32 × Hp)) : Prop := ∀ (H : Heap) (locs : List Loc) (ls : Array Slot) (h : Hp) (x1 : Int32), k h x1 = some out → Ext h0 h → Rel G h H → va_S (AA G.2.2) s.heap H locs → hpT h r0 = (1, 9) → lv_has ls 3 [(0, .ref (G.2.2 + r0)), (1, .int x1)] → W p l e rm_X9_fieldTold s m args below meth c H locs 0 0 (MQ below (Qm G h0 out.2 (some (.int out.1)) false) args s 0 0 (AA G.2.2)) (F0 m 2 ls [])
set_option maxRecDepth 100000 in
set_option maxHeartbeats 4000000 in
theorem w_X9_fieldTold_34 {G : Gt} {l : Launch} {p : Program} {e : Env} {s : State} {m : MethodId} {args : Array Value} {below : List Frame} {meth : Method} {c : Code} {h0 : Hp} {out : (Int32 × Hp)} {r0 : Nat}  (C : Cx G p m c cX9_fieldTold 3 s args RX9) (hr : meth.sig.returnType = some .int) (hlk : meth.locks = false)  : P_X9_fieldTold_34 G l p e s m args below meth c h0 out r0 (f_X9_fieldTold_34 r0) := by
  intro H locs ls h x1 hf hE hR hS t_r0 hl
  rw [f_X9_fieldTold_34] at hf
  refine lv_iconst (v := (-1 : Int32)) C.x C.b dX9_fieldTold_34 (by decide) ?_
  refine lv_iload_n C.x C.b dX9_fieldTold_35 rfl (lv_at hl 1 rfl) ?_
  refine lv_isub C.x C.b dX9_fieldTold_36 ?_
  have hf := so_e hf
  subst hf
  exact r_iret C hr hlk hR hE hS dX9_fieldTold_37
set_option maxRecDepth 100000 in
set_option maxHeartbeats 4000000 in
theorem w_X9_fieldTold_2 {G : Gt} {l : Launch} {p : Program} {e : Env} {s : State} {m : MethodId} {args : Array Value} {below : List Frame} {meth : Method} {c : Code} {h0 : Hp} {out : (Int32 × Hp)} {r0 : Nat}  (C : Cx G p m c cX9_fieldTold 3 s args RX9) (hr : meth.sig.returnType = some .int) (hlk : meth.locks = false)  (n : Nat) : P_X9_fieldTold_2 G l p e s m args below meth c h0 out r0 (f_X9_fieldTold_2 r0 n) := by
  induction n with
  | zero => intro H locs ls h x1 hf hE hR hS t_r0 hl; cases hf
  | succ n hk2 =>
    intro H locs ls h x1 hf hE hR hS t_r0 hl
    rw [f_X9_fieldTold_2] at hf
    obtain ⟨k2, e_k2⟩ : ∃ y, y = f_X9_fieldTold_2 r0 n := ⟨_, rfl⟩
    have hf := lt_e hf e_k2
    rw [← e_k2] at hk2
    refine lv_iload_n C.x C.b dX9_fieldTold_2 rfl (lv_at hl 1 rfl) ?_
    refine lv_iconst (v := (2 : Int32)) C.x C.b dX9_fieldTold_3 (by decide) ?_
    refine lv_icmp_ge (tgt := 44) C.x C.b dX9_fieldTold_4 (by decide) (fun c1 => ?_) (fun c1 => ?_)
    · have hf := it_t hf c1
      refine lv_aload_n C.x C.b dX9_fieldTold_44 rfl (lv_at hl 0 rfl) ?_
      obtain ⟨g2, hf⟩ := gd_e hf
      refine r_getr C hR t_r0 fl_X9_10 (by decide) (nz_e g2) dX9_fieldTold_45 (fun tq3 => ?_)
      have tg2 := okO tq3 rfl
      refine r_geti C hR tg2 fl_X9_93 rfl dX9_fieldTold_48 ?_
      refine lv_iconst (v := (2 : Int32)) C.x C.b dX9_fieldTold_51 (by decide) ?_
      refine lv_icmp_le (tgt := 58) C.x C.b dX9_fieldTold_52 (by decide) (fun c4 => ?_) (fun c4 => ?_)
      · have hf := it_t hf c4
        refine lv_aload_n C.x C.b dX9_fieldTold_58 rfl (lv_at hl 0 rfl) ?_
        obtain ⟨g5, hf⟩ := gd_e hf
        refine r_getr C hR t_r0 fl_X9_26 (by decide) (nz_e g5) dX9_fieldTold_59 (fun tq6 => ?_)
        have tg5 := okO tq6 rfl
        refine lv_aload_n C.x C.b dX9_fieldTold_62 rfl (lv_at hl 0 rfl) ?_
        refine r_getr C hR t_r0 fl_X9_10 (by decide) (nz_e g2) dX9_fieldTold_63 (fun tq7 => ?_)
        refine lv_iconst (v := (0 : Int32)) C.x C.b dX9_fieldTold_66 (by decide) ?_
        refine lv_aload_n C.x C.b dX9_fieldTold_67 rfl (lv_at hl 0 rfl) ?_
        refine r_getr C hR t_r0 fl_X9_10 (by decide) (nz_e g2) dX9_fieldTold_68 (fun tq8 => ?_)
        refine r_geti C hR tg2 fl_X9_93 rfl dX9_fieldTold_71 ?_
        obtain ⟨q9, h_q9, hf⟩ := bd_e hf
        refine r_callV (As := [.int (0 : Int32), .int (hpI h (hpR h r0 0) 1)]) (rest := [.ref (G.2.2 + (hpR h r0 2))]) C hR hS tg2 rfl mk_X6_digit cl_X9_104 (k_X6_digit tg2 h_q9) ⟨⟨Nat.le_of_ble_eq_true rfl, Nat.le_of_ble_eq_true rfl⟩, ⟨rfl, rfl⟩, Nat.le_of_ble_eq_true rfl, Nat.le_of_ble_eq_true rfl⟩ rfl hl.1 rfl (Nat.le_of_ble_eq_true rfl) dX9_fieldTold_74 (fun H locs hR hS hE1 z_q9 => ?_)
        refine lv_aload_n C.x C.b dX9_fieldTold_77 rfl (lv_at hl 0 rfl) ?_
        refine r_getr C hR t_r0 fl_X9_10 (by decide) (nz_e g2) dX9_fieldTold_78 (fun tq10 => ?_)
        refine lv_iconst (v := (1 : Int32)) C.x C.b dX9_fieldTold_81 (by decide) ?_
        refine lv_aload_n C.x C.b dX9_fieldTold_82 rfl (lv_at hl 0 rfl) ?_
        refine r_getr C hR t_r0 fl_X9_10 (by decide) (nz_e g2) dX9_fieldTold_83 (fun tq11 => ?_)
        refine r_geti C hR tg2 fl_X9_93 rfl dX9_fieldTold_86 ?_
        obtain ⟨q12, h_q12, hf⟩ := bd_e hf
        refine r_callV (As := [.int (1 : Int32), .int (hpI h (hpR h r0 0) 1)]) (rest := [.int q9, .ref (G.2.2 + (hpR h r0 2))]) C hR hS tg2 rfl mk_X6_digit cl_X9_104 (k_X6_digit tg2 h_q12) ⟨⟨Nat.le_of_ble_eq_true rfl, Nat.le_of_ble_eq_true rfl⟩, ⟨rfl, rfl⟩, Nat.le_of_ble_eq_true rfl, Nat.le_of_ble_eq_true rfl⟩ rfl hl.1 rfl (Nat.le_of_ble_eq_true rfl) dX9_fieldTold_89 (fun H locs hR hS hE1 z_q12 => ?_)
        obtain ⟨q13, h_q13, hf⟩ := bd_e hf
        refine r_callV (As := [.int q9, .int q12]) (rest := []) C hR hS tg5 rfl mk_X0_layOut cl_X9_108 (k_X0_layOut tg5 h_q13) ⟨⟨Nat.le_of_ble_eq_true rfl, Nat.le_of_ble_eq_true rfl⟩, ⟨rfl, rfl⟩, Nat.le_of_ble_eq_true rfl, Nat.le_of_ble_eq_true rfl⟩ rfl hl.1 rfl (Nat.le_of_ble_eq_true rfl) dX9_fieldTold_92 (fun H locs hR hS hE1 z_q13 => ?_)
        have hE := hE.tr hE1
        have t_r0 := hE1.at t_r0 (by decide)
        refine lv_aload_n C.x C.b dX9_fieldTold_95 rfl (lv_at hl 0 rfl) ?_
        obtain ⟨q14, h_q14, hf⟩ := bd_e hf
        refine r_callV (As := []) (rest := []) C hR hS t_r0 rfl mk_X9_forgetStates cl_X9_112 (k_X9_forgetStates t_r0 h_q14) ⟨⟨Nat.le_of_ble_eq_true rfl, Nat.le_of_ble_eq_true rfl⟩, ⟨rfl, rfl⟩, Nat.le_of_ble_eq_true rfl, Nat.le_of_ble_eq_true rfl⟩ rfl hl.1 rfl (Nat.le_of_ble_eq_true rfl) dX9_fieldTold_96 (fun H locs hR hS hE1 z_q14 => ?_)
        have hE := hE.tr hE1
        have t_r0 := hE1.at t_r0 (by decide)
        refine lv_aload_n C.x C.b dX9_fieldTold_99 rfl (lv_at hl 0 rfl) ?_
        obtain ⟨g15, hf⟩ := gd_e hf
        refine r_getr C hR t_r0 fl_X9_69 (by decide) (nz_e g15) dX9_fieldTold_100 (fun tq16 => ?_)
        have tg15 := okO tq16 rfl
        obtain ⟨q17, h_q17, hf⟩ := bd_e hf
        refine r_callV (As := []) (rest := []) C hR hS tg15 rfl mk_X2_wipe cl_X9_115 (k_X2_wipe tg15 h_q17) ⟨⟨Nat.le_of_ble_eq_true rfl, Nat.le_of_ble_eq_true rfl⟩, ⟨rfl, rfl⟩, Nat.le_of_ble_eq_true rfl, Nat.le_of_ble_eq_true rfl⟩ rfl hl.1 rfl (Nat.le_of_ble_eq_true rfl) dX9_fieldTold_103 (fun H locs hR hS hE1 z_q17 => ?_)
        have hE := hE.tr hE1
        have t_r0 := hE1.at t_r0 (by decide)
        refine lv_pop C.x C.b dX9_fieldTold_106 rfl ?_
        refine lv_aload_n C.x C.b dX9_fieldTold_107 rfl (lv_at hl 0 rfl) ?_
        obtain ⟨g18, hf⟩ := gd_e hf
        refine r_getr C hR t_r0 fl_X9_26 (by decide) (nz_e g18) dX9_fieldTold_108 (fun tq19 => ?_)
        have tg18 := okO tq19 rfl
        obtain ⟨q20, h_q20, hf⟩ := bd_e hf
        refine r_callV (As := []) (rest := []) C hR hS tg18 rfl mk_X0_cells cl_X9_118 (k_X0_cells tg18 h_q20) ⟨⟨Nat.le_of_ble_eq_true rfl, Nat.le_of_ble_eq_true rfl⟩, ⟨rfl, rfl⟩, Nat.le_of_ble_eq_true rfl, Nat.le_of_ble_eq_true rfl⟩ rfl hl.1 rfl (Nat.le_of_ble_eq_true rfl) dX9_fieldTold_111 (fun H locs hR hS hE1 z_q20 => ?_)
        have hf := so_e hf
        subst hf
        exact r_iret C hr hlk hR hE hS dX9_fieldTold_114
      · have hf := it_f hf c4
        refine lv_bipush (v := (-3 : Int32)) C.x C.b dX9_fieldTold_55 (by decide) ?_
        have hf := so_e hf
        subst hf
        exact r_iret C hr hlk hR hE hS dX9_fieldTold_57
    · have hf := it_f hf c1
      refine lv_aload_n C.x C.b dX9_fieldTold_7 rfl (lv_at hl 0 rfl) ?_
      obtain ⟨g21, hf⟩ := gd_e hf
      refine r_getr C hR t_r0 fl_X9_10 (by decide) (nz_e g21) dX9_fieldTold_8 (fun tq22 => ?_)
      have tg21 := okO tq22 rfl
      refine lv_iload_n C.x C.b dX9_fieldTold_11 rfl (lv_at hl 1 rfl) ?_
      refine lv_aload_n C.x C.b dX9_fieldTold_12 rfl (lv_at hl 0 rfl) ?_
      refine r_getr C hR t_r0 fl_X9_10 (by decide) (nz_e g21) dX9_fieldTold_13 (fun tq23 => ?_)
      refine r_geti C hR tg21 fl_X9_93 rfl dX9_fieldTold_16 ?_
      obtain ⟨q24, h_q24, hf⟩ := bd_e hf
      refine r_callV (As := [.int x1, .int (hpI h (hpR h r0 0) 1)]) (rest := []) C hR hS tg21 rfl mk_X6_digit cl_X9_104 (k_X6_digit tg21 h_q24) ⟨⟨Nat.le_of_ble_eq_true rfl, Nat.le_of_ble_eq_true rfl⟩, ⟨rfl, rfl⟩, Nat.le_of_ble_eq_true rfl, Nat.le_of_ble_eq_true rfl⟩ rfl hl.1 rfl (Nat.le_of_ble_eq_true rfl) dX9_fieldTold_19 (fun H locs hR hS hE1 z_q24 => ?_)
      refine lv_istore_n (lv' := [(2, .int q24), (0, .ref (G.2.2 + r0)), (1, .int x1)]) C.x C.b dX9_fieldTold_22 rfl hl (by decide) rfl (fun ls hl => ?_)
      refine lv_iload_n C.x C.b dX9_fieldTold_23 rfl (lv_at hl 0 rfl) ?_
      refine lv_iconst (v := (3 : Int32)) C.x C.b dX9_fieldTold_24 (by decide) ?_
      refine lv_icmp_lt (tgt := 34) C.x C.b dX9_fieldTold_25 (by decide) (fun c25 => ?_) (fun c25 => ?_)
      · have hf := it_t hf c25
        exact w_X9_fieldTold_34 C hr hlk _ _ _ _ _ hf hE hR hS t_r0 (lv_sub hl [1, 2] rfl)
      · have hf := it_f hf c25
        refine lv_iload_n C.x C.b dX9_fieldTold_28 rfl (lv_at hl 0 rfl) ?_
        refine lv_bipush (v := (6 : Int32)) C.x C.b dX9_fieldTold_29 (by decide) ?_
        refine lv_icmp_le (tgt := 38) C.x C.b dX9_fieldTold_31 (by decide) (fun c26 => ?_) (fun c26 => ?_)
        · have hf := it_t hf c26
          obtain ⟨v27, e_v27⟩ : ∃ y : Int32, y = x1 + (1 : Int32) := ⟨_, rfl⟩
          have hf := lt_e hf e_v27
          refine lv_iinc (v := v27) (lv' := [(1, .int v27), (2, .int q24), (0, .ref (G.2.2 + r0))]) C.x C.b dX9_fieldTold_38 hl (k := 2) rfl (by rw [e_v27]; rfl) (by decide) rfl (fun ls hl => ?_)
          refine lv_goto (tgt := 2) C.x C.b dX9_fieldTold_41 (by decide) ?_
          exact hk2 _ _ _ _ _ hf hE hR hS t_r0 (lv_sub hl [2, 0] rfl)
        · have hf := it_f hf c26
          exact w_X9_fieldTold_34 C hr hlk _ _ _ _ _ hf hE hR hS t_r0 (lv_sub hl [1, 2] rfl)
set_option maxRecDepth 100000 in
set_option maxHeartbeats 4000000 in
theorem k_X9_fieldTold {G : Gt} {l : Launch} {h : Hp} {r0 : Nat} {out : (Int32 × Hp)} (t_r0 : hpT h r0 = (1, 9))  (hf : f_X9_fieldTold h r0 = some out) : Mt G l yX9_fieldTold cX9_fieldTold 3 (some .int) rm_X9_fieldTold [.ref (G.2.2 + r0)] h (some (.int out.1)) out.2 false 0 0 := by
  refine r_met (by decide +kernel) (Nat.le_of_ble_eq_true rfl) ?_
  intro p e s m args below meth c ls C hr hlk hnm hR hS hl
  have hE : Ext h h := Ext.rf
  have hl : lv_has ls 3 [(0, .ref (G.2.2 + r0))] := hl
  rw [f_X9_fieldTold] at hf
  refine lv_iconst (v := (0 : Int32)) C.x C.b dX9_fieldTold_0 (by decide) ?_
  refine lv_istore_n (lv' := [(1, .int (0 : Int32)), (0, .ref (G.2.2 + r0))]) C.x C.b dX9_fieldTold_1 rfl hl (by decide) rfl (fun ls hl => ?_)
  exact w_X9_fieldTold_2 C hr hlk FU _ _ _ _ _ hf hE hR hS t_r0 (lv_sub hl [1, 0] rfl)

def rm_X9_field : Room := { frames := 3, cells := 0, slots := 0, locals := 66 }
set_option maxRecDepth 100000 in
set_option maxHeartbeats 4000000 in
theorem k_X9_field {G : Gt} {l : Launch} {h : Hp} {r0 : Nat} {out : (Int32 × Hp)} (t_r0 : hpT h r0 = (1, 9))  (hf : f_X9_field h r0 = some out) : Mt G l yX9_field cX9_field 2 (some .int) rm_X9_field [.ref (G.2.2 + r0)] h (some (.int out.1)) out.2 false 0 0 := by
  refine r_met (by decide +kernel) (Nat.le_of_ble_eq_true rfl) ?_
  intro p e s m args below meth c ls C hr hlk hnm hR hS hl
  have hE : Ext h h := Ext.rf
  have hl : lv_has ls 2 [(0, .ref (G.2.2 + r0))] := hl
  rw [f_X9_field] at hf
  refine lv_aload_n C.x C.b dX9_field_0 rfl (lv_at hl 0 rfl) ?_
  obtain ⟨q1, h_q1, hf⟩ := bd_e hf
  refine r_callV (As := []) (rest := []) C hR hS t_r0 rfl mk_X9_fieldTold cl_X9_100 (k_X9_fieldTold t_r0 h_q1) ⟨⟨Nat.le_of_ble_eq_true rfl, Nat.le_of_ble_eq_true rfl⟩, ⟨rfl, rfl⟩, Nat.le_of_ble_eq_true rfl, Nat.le_of_ble_eq_true rfl⟩ rfl hl.1 rfl (Nat.le_of_ble_eq_true rfl) dX9_field_1 (fun H locs hR hS hE1 z_q1 => ?_)
  have hE := hE.tr hE1
  have t_r0 := hE1.at t_r0 (by decide)
  refine lv_istore_n (lv' := [(1, .int q1.1), (0, .ref (G.2.2 + r0))]) C.x C.b dX9_field_4 rfl hl (by decide) rfl (fun ls hl => ?_)
  refine lv_aload_n C.x C.b dX9_field_5 rfl (lv_at hl 1 rfl) ?_
  obtain ⟨g2, hf⟩ := gd_e hf
  refine r_getr C hR t_r0 fl_X9_10 (by decide) (nz_e g2) dX9_field_6 (fun tq3 => ?_)
  have tg2 := okO tq3 rfl
  refine lv_iconst (v := (0 : Int32)) C.x C.b dX9_field_9 (by decide) ?_
  refine r_puti C hR hS tg2 fl_X9_93 fp_X9_6_1 rfl dX9_field_10 (fun H locs hR hS => ?_)
  obtain ⟨h4, e_h4⟩ : ∃ y, y = upI q1.2 (hpR q1.2 r0 0) 1 (0 : Int32) := ⟨_, rfl⟩
  rw [← e_h4] at hR
  have hf := lt_e hf e_h4
  have hE := eI e_h4 hE
  have t_r0 := tI e_h4 t_r0
  refine lv_iload_n C.x C.b dX9_field_13 rfl (lv_at hl 0 rfl) ?_
  have hf := so_e hf
  subst hf
  exact r_iret C hr hlk hR hE hS dX9_field_14

def rm_X9_entry : Room := { frames := 0, cells := 0, slots := 0, locals := 0 }
set_option maxRecDepth 100000 in
set_option maxHeartbeats 4000000 in
theorem k_X9_entry {G : Gt} {l : Launch} {h : Hp} {x0 : Int32} {x1 : Int32} {out : Int32}   (hf : f_X9_entry h x0 x1 = some out) : Mt G l yX9_entry cX9_entry 2 (some .int) rm_X9_entry [.int x0, .int x1] h (some (.int out)) h false 0 0 := by
  refine r_met (by decide +kernel) (Nat.le_of_ble_eq_true rfl) ?_
  intro p e s m args below meth c ls C hr hlk hnm hR hS hl
  have hl : lv_has ls 2 [(0, .int x0), (1, .int x1)] := hl
  rw [f_X9_entry] at hf
  refine lv_iload_n C.x C.b dX9_entry_0 rfl (lv_at hl 0 rfl) ?_
  refine lv_if_ne (tgt := 7) C.x C.b dX9_entry_1 (by decide) (fun c1 => ?_) (fun c1 => ?_)
  · have hf := it_f hf c1
    refine lv_iload_n C.x C.b dX9_entry_7 rfl (lv_at hl 0 rfl) ?_
    refine lv_iconst (v := (1 : Int32)) C.x C.b dX9_entry_8 (by decide) ?_
    refine lv_icmp_ne (tgt := 17) C.x C.b dX9_entry_9 (by decide) (fun c2 => ?_) (fun c2 => ?_)
    · have hf := it_f hf c2
      refine lv_iload_n C.x C.b dX9_entry_17 rfl (lv_at hl 1 rfl) ?_
      have hf := so_e hf
      subst hf
      exact r_iret C hr hlk hR Ext.rf hS dX9_entry_18
    · have hf := it_t hf c2
      refine lv_iload_n C.x C.b dX9_entry_12 rfl (lv_at hl 1 rfl) ?_
      refine lv_i2s C.x C.b dX9_entry_13 rfl ?_
      refine lv_goto (tgt := 18) C.x C.b dX9_entry_14 (by decide) ?_
      have hf := so_e hf
      subst hf
      exact r_iret C hr hlk hR Ext.rf hS dX9_entry_18
  · have hf := it_t hf c1
    refine lv_iload_n C.x C.b dX9_entry_4 rfl (lv_at hl 1 rfl) ?_
    refine lv_i2b C.x C.b dX9_entry_5 rfl ?_
    have hf := so_e hf
    subst hf
    exact r_iret C hr hlk hR Ext.rf hS dX9_entry_6

def rm_X9_sheet : Room := { frames := 2, cells := 0, slots := 0, locals := 35 }
def P_X9_sheet_91 (G : Gt) (l : Launch) (p : Program) (e : Env) (s : State) (m : MethodId) (args : Array Value) (below : List Frame) (meth : Method) (c : Code) (h0 : Hp) (out : (Int32 × Hp)) (r0 : Nat) (x1 : Int32) (x2 : Int32) (x3 : Int32) (x4 : Int32) (k : Hp → Option (Int32 × Hp)) : Prop := ∀ (H : Heap) (locs : List Loc) (ls : Array Slot) (h : Hp), k h = some out → Ext h0 h → Rel G h H → va_S (AA G.2.2) s.heap H locs → hpT h r0 = (1, 9) → lv_has ls 6 [(0, .ref (G.2.2 + r0)), (1, .int x1), (2, .int x2), (3, .int x3), (4, .int x4)] → W p l e rm_X9_sheet s m args below meth c H locs 0 0 (MQ below (Qm G h0 out.2 (some (.int out.1)) false) args s 0 0 (AA G.2.2)) (F0 m 91 ls [])
def P_X9_sheet_43 (G : Gt) (l : Launch) (p : Program) (e : Env) (s : State) (m : MethodId) (args : Array Value) (below : List Frame) (meth : Method) (c : Code) (h0 : Hp) (out : (Int32 × Hp)) (r0 : Nat) (x1 : Int32) (x2 : Int32) (x3 : Int32) (x4 : Int32) (k : Hp → Int32 → Option (Int32 × Hp)) : Prop := ∀ (H : Heap) (locs : List Loc) (ls : Array Slot) (h : Hp) (x5 : Int32), k h x5 = some out → Ext h0 h → Rel G h H → va_S (AA G.2.2) s.heap H locs → hpT h r0 = (1, 9) → lv_has ls 6 [(0, .ref (G.2.2 + r0)), (1, .int x1), (2, .int x2), (3, .int x3), (4, .int x4), (5, .int x5)] → W p l e rm_X9_sheet s m args below meth c H locs 0 0 (MQ below (Qm G h0 out.2 (some (.int out.1)) false) args s 0 0 (AA G.2.2)) (F0 m 43 ls [])
set_option maxRecDepth 100000 in
set_option maxHeartbeats 4000000 in
theorem w_X9_sheet_91 {G : Gt} {l : Launch} {p : Program} {e : Env} {s : State} {m : MethodId} {args : Array Value} {below : List Frame} {meth : Method} {c : Code} {h0 : Hp} {out : (Int32 × Hp)} {r0 : Nat} {x1 : Int32} {x2 : Int32} {x3 : Int32} {x4 : Int32}  (C : Cx G p m c cX9_sheet 6 s args RX9) (hr : meth.sig.returnType = some .int) (hlk : meth.locks = false)  : P_X9_sheet_91 G l p e s m args below meth c h0 out r0 x1 x2 x3 x4 (f_X9_sheet_91 r0 x1 x2 x3 x4) := by
  intro H locs ls h hf hE hR hS t_r0 hl
  rw [f_X9_sheet_91] at hf
  refine lv_aload_n C.x C.b dX9_sheet_91 rfl (lv_at hl 0 rfl) ?_
  obtain ⟨g21, hf⟩ := gd_e hf
  refine r_getr C hR t_r0 fl_X9_26 (by decide) (nz_e g21) dX9_sheet_92 (fun tq22 => ?_)
  have tg21 := okO tq22 rfl
  refine lv_iload_n C.x C.b dX9_sheet_95 rfl (lv_at hl 2 rfl) ?_
  obtain ⟨q23, h_q23, hf⟩ := bd_e hf
  refine r_callV (As := [.int x2]) (rest := []) C hR hS tg21 rfl mk_X0_weaken cl_X9_198 (k_X0_weaken tg21 h_q23) ⟨⟨Nat.le_of_ble_eq_true rfl, Nat.le_of_ble_eq_true rfl⟩, ⟨rfl, rfl⟩, Nat.le_of_ble_eq_true rfl, Nat.le_of_ble_eq_true rfl⟩ rfl hl.1 rfl (Nat.le_of_ble_eq_true rfl) dX9_sheet_96 (fun H locs hR hS hE1 z_q23 => ?_)
  have hE := hE.tr hE1
  have t_r0 := hE1.at t_r0 (by decide)
  refine lv_aload_n C.x C.b dX9_sheet_99 rfl (lv_at hl 0 rfl) ?_
  obtain ⟨g24, hf⟩ := gd_e hf
  refine r_getr C hR t_r0 fl_X9_26 (by decide) (nz_e g24) dX9_sheet_100 (fun tq25 => ?_)
  have tg24 := okO tq25 rfl
  obtain ⟨q26, h_q26, hf⟩ := bd_e hf
  refine r_callV (As := []) (rest := []) C hR hS tg24 rfl mk_X0_strengthOfAll cl_X9_207 (k_X0_strengthOfAll tg24 h_q26) ⟨⟨Nat.le_of_ble_eq_true rfl, Nat.le_of_ble_eq_true rfl⟩, ⟨rfl, rfl⟩, Nat.le_of_ble_eq_true rfl, Nat.le_of_ble_eq_true rfl⟩ rfl hl.1 rfl (Nat.le_of_ble_eq_true rfl) dX9_sheet_103 (fun H locs hR hS hE1 z_q26 => ?_)
  have hf := so_e hf
  subst hf
  exact r_iret C hr hlk hR hE hS dX9_sheet_106
set_option maxRecDepth 100000 in
set_option maxHeartbeats 4000000 in
theorem w_X9_sheet_43 {G : Gt} {l : Launch} {p : Program} {e : Env} {s : State} {m : MethodId} {args : Array Value} {below : List Frame} {meth : Method} {c : Code} {h0 : Hp} {out : (Int32 × Hp)} {r0 : Nat} {x1 : Int32} {x2 : Int32} {x3 : Int32} {x4 : Int32}  (C : Cx G p m c cX9_sheet 6 s args RX9) (hr : meth.sig.returnType = some .int) (hlk : meth.locks = false)  (n : Nat) : P_X9_sheet_43 G l p e s m args below meth c h0 out r0 x1 x2 x3 x4 (f_X9_sheet_43 r0 x1 x2 x3 x4 n) := by
  induction n with
  | zero => intro H locs ls h x5 hf hE hR hS t_r0 hl; cases hf
  | succ n hk43 =>
    intro H locs ls h x5 hf hE hR hS t_r0 hl
    rw [f_X9_sheet_43] at hf
    obtain ⟨k43, e_k43⟩ : ∃ y, y = f_X9_sheet_43 r0 x1 x2 x3 x4 n := ⟨_, rfl⟩
    have hf := lt_e hf e_k43
    rw [← e_k43] at hk43
    refine lv_iload C.x C.b dX9_sheet_43 (lv_at hl 5 rfl) ?_
    refine lv_iload_n C.x C.b dX9_sheet_45 rfl (lv_at hl 2 rfl) ?_
    refine lv_icmp_ge (tgt := 91) C.x C.b dX9_sheet_46 (by decide) (fun c9 => ?_) (fun c9 => ?_)
    · have hf := it_t hf c9
      exact w_X9_sheet_91 C hr hlk _ _ _ _ hf hE hR hS t_r0 (lv_sub hl [0, 1, 2, 3, 4] rfl)
    · have hf := it_f hf c9
      refine lv_iload C.x C.b dX9_sheet_49 (lv_at hl 5 rfl) ?_
      refine lv_aload_n C.x C.b dX9_sheet_51 rfl (lv_at hl 0 rfl) ?_
      obtain ⟨g10, hf⟩ := gd_e hf
      refine r_getr C hR t_r0 fl_X9_26 (by decide) (nz_e g10) dX9_sheet_52 (fun tq11 => ?_)
      have tg10 := okO tq11 rfl
      refine r_geti C hR tg10 fl_X9_146 rfl dX9_sheet_55 ?_
      refine lv_icmp_ge (tgt := 91) C.x C.b dX9_sheet_58 (by decide) (fun c12 => ?_) (fun c12 => ?_)
      · have hf := it_t hf c12
        exact w_X9_sheet_91 C hr hlk _ _ _ _ hf hE hR hS t_r0 (lv_sub hl [0, 1, 2, 3, 4] rfl)
      · have hf := it_f hf c12
        refine lv_aload_n C.x C.b dX9_sheet_61 rfl (lv_at hl 0 rfl) ?_
        refine r_getr C hR t_r0 fl_X9_26 (by decide) (nz_e g10) dX9_sheet_62 (fun tq13 => ?_)
        obtain ⟨g14, hf⟩ := gd_e hf
        refine r_getr C hR tg10 fl_X9_170 (by decide) (nz_e g14) dX9_sheet_65 (fun tq15 => ?_)
        have tg14 := okA tq15 rfl
        refine lv_iload C.x C.b dX9_sheet_68 (lv_at hl 5 rfl) ?_
        refine lv_iload_n C.x C.b dX9_sheet_70 rfl (lv_at hl 1 rfl) ?_
        refine lv_iload_n C.x C.b dX9_sheet_71 rfl (lv_at hl 3 rfl) ?_
        refine lv_iload C.x C.b dX9_sheet_72 (lv_at hl 5 rfl) ?_
        refine lv_iload C.x C.b dX9_sheet_74 (lv_at hl 4 rfl) ?_
        refine lv_imul C.x C.b dX9_sheet_76 ?_
        refine lv_iadd C.x C.b dX9_sheet_77 ?_
        obtain ⟨q16, h_q16, hf⟩ := bd_e hf
        refine r_callS (As := [.int x1, .int (x3 + (x5 * x4))]) (rest := [.int x5, .ref (G.2.2 + (hpR h (hpR h r0 2) 9))]) C hR hS mk_X9_entry cl_X9_201 (k_X9_entry h_q16) ⟨⟨Nat.le_of_ble_eq_true rfl, Nat.le_of_ble_eq_true rfl⟩, ⟨rfl, rfl⟩, Nat.le_of_ble_eq_true rfl, Nat.le_of_ble_eq_true rfl⟩ rfl hl.1 rfl (Nat.le_of_ble_eq_true rfl) dX9_sheet_78 (fun H locs hR hS hE1 z_q16 => ?_)
        obtain ⟨q17, h_q17, hf⟩ := bd_e hf
        refine r_callS (As := [.int q16]) (rest := [.int x5, .ref (G.2.2 + (hpR h (hpR h r0 2) 9))]) C hR hS mk_X9_digitOf cl_X9_204 (k_X9_digitOf h_q17) ⟨⟨Nat.le_of_ble_eq_true rfl, Nat.le_of_ble_eq_true rfl⟩, ⟨rfl, rfl⟩, Nat.le_of_ble_eq_true rfl, Nat.le_of_ble_eq_true rfl⟩ rfl hl.1 rfl (Nat.le_of_ble_eq_true rfl) dX9_sheet_81 (fun H locs hR hS hE1 z_q17 => ?_)
        obtain ⟨g18, hf⟩ := gd_e hf
        refine r_iast C hR hS tg14 g18 dX9_sheet_84 (fun H locs hR hS => ?_)
        obtain ⟨h19, e_h19⟩ : ∃ y, y = upI h (hpR h (hpR h r0 2) 9) (ix x5) q17 := ⟨_, rfl⟩
        rw [← e_h19] at hR
        have hf := lt_e hf e_h19
        have hE := eI e_h19 hE
        have t_r0 := tI e_h19 t_r0
        obtain ⟨v20, e_v20⟩ : ∃ y : Int32, y = x5 + (1 : Int32) := ⟨_, rfl⟩
        have hf := lt_e hf e_v20
        refine lv_iinc (v := v20) (lv' := [(5, .int v20), (0, .ref (G.2.2 + r0)), (1, .int x1), (2, .int x2), (3, .int x3), (4, .int x4)]) C.x C.b dX9_sheet_85 hl (k := 5) rfl (by rw [e_v20]; rfl) (by decide) rfl (fun ls hl => ?_)
        refine lv_goto (tgt := 43) C.x C.b dX9_sheet_88 (by decide) ?_
        exact hk43 _ _ _ _ _ hf hE hR hS t_r0 (lv_sub hl [1, 2, 3, 4, 5, 0] rfl)
set_option maxRecDepth 100000 in
set_option maxHeartbeats 4000000 in
theorem k_X9_sheet {G : Gt} {l : Launch} {h : Hp} {r0 : Nat} {x1 : Int32} {x2 : Int32} {x3 : Int32} {x4 : Int32} {out : (Int32 × Hp)} (t_r0 : hpT h r0 = (1, 9))  (hf : f_X9_sheet h r0 x1 x2 x3 x4 = some out) : Mt G l yX9_sheet cX9_sheet 6 (some .int) rm_X9_sheet [.ref (G.2.2 + r0), .int x1, .int x2, .int x3, .int x4] h (some (.int out.1)) out.2 false 0 0 := by
  refine r_met (by decide +kernel) (Nat.le_of_ble_eq_true rfl) ?_
  intro p e s m args below meth c ls C hr hlk hnm hR hS hl
  have hE : Ext h h := Ext.rf
  have hl : lv_has ls 6 [(0, .ref (G.2.2 + r0)), (1, .int x1), (2, .int x2), (3, .int x3), (4, .int x4)] := hl
  rw [f_X9_sheet] at hf
  refine lv_iload_n C.x C.b dX9_sheet_0 rfl (lv_at hl 1 rfl) ?_
  refine lv_if_lt (tgt := 15) C.x C.b dX9_sheet_1 (by decide) (fun c1 => ?_) (fun c1 => ?_)
  · have hf := it_t hf c1
    refine lv_iconst (v := (-1 : Int32)) C.x C.b dX9_sheet_15 (by decide) ?_
    have hf := so_e hf
    subst hf
    exact r_iret C hr hlk hR hE hS dX9_sheet_16
  · have hf := it_f hf c1
    refine lv_iload_n C.x C.b dX9_sheet_4 rfl (lv_at hl 1 rfl) ?_
    refine lv_iconst (v := (3 : Int32)) C.x C.b dX9_sheet_5 (by decide) ?_
    refine lv_icmp_gt (tgt := 15) C.x C.b dX9_sheet_6 (by decide) (fun c2 => ?_) (fun c2 => ?_)
    · have hf := it_t hf c2
      refine lv_iconst (v := (-1 : Int32)) C.x C.b dX9_sheet_15 (by decide) ?_
      have hf := so_e hf
      subst hf
      exact r_iret C hr hlk hR hE hS dX9_sheet_16
    · have hf := it_f hf c2
      refine lv_iload_n C.x C.b dX9_sheet_9 rfl (lv_at hl 2 rfl) ?_
      refine lv_bipush (v := (8 : Int32)) C.x C.b dX9_sheet_10 (by decide) ?_
      refine lv_icmp_le (tgt := 17) C.x C.b dX9_sheet_12 (by decide) (fun c3 => ?_) (fun c3 => ?_)
      · have hf := it_t hf c3
        refine lv_iload_n C.x C.b dX9_sheet_17 rfl (lv_at hl 1 rfl) ?_
        refine lv_iconst (v := (3 : Int32)) C.x C.b dX9_sheet_18 (by decide) ?_
        refine lv_icmp_ne (tgt := 33) C.x C.b dX9_sheet_19 (by decide) (fun c4 => ?_) (fun c4 => ?_)
        · have hf := it_f hf c4
          refine lv_iload_n C.x C.b dX9_sheet_33 rfl (lv_at hl 2 rfl) ?_
          refine lv_if_ge (tgt := 40) C.x C.b dX9_sheet_34 (by decide) (fun c5 => ?_) (fun c5 => ?_)
          · have hf := it_t hf c5
            refine lv_iconst (v := (0 : Int32)) C.x C.b dX9_sheet_40 (by decide) ?_
            refine lv_istore (lv' := [(5, .int (0 : Int32)), (0, .ref (G.2.2 + r0)), (1, .int x1), (2, .int x2), (3, .int x3), (4, .int x4)]) C.x C.b dX9_sheet_41 hl (by decide) rfl (fun ls hl => ?_)
            exact w_X9_sheet_43 C hr hlk FU _ _ _ _ _ hf hE hR hS t_r0 (lv_sub hl [1, 2, 3, 4, 5, 0] rfl)
          · have hf := it_f hf c5
            refine lv_bipush (v := (-2 : Int32)) C.x C.b dX9_sheet_37 (by decide) ?_
            have hf := so_e hf
            subst hf
            exact r_iret C hr hlk hR hE hS dX9_sheet_39
        · have hf := it_t hf c4
          refine lv_aload_n C.x C.b dX9_sheet_22 rfl (lv_at hl 0 rfl) ?_
          obtain ⟨g6, hf⟩ := gd_e hf
          refine r_getr C hR t_r0 fl_X9_26 (by decide) (nz_e g6) dX9_sheet_23 (fun tq7 => ?_)
          have tg6 := okO tq7 rfl
          refine lv_iconst (v := (0 : Int32)) C.x C.b dX9_sheet_26 (by decide) ?_
          obtain ⟨q8, h_q8, hf⟩ := bd_e hf
          refine r_callV (As := [.int (0 : Int32)]) (rest := []) C hR hS tg6 rfl mk_X0_weaken cl_X9_198 (k_X0_weaken tg6 h_q8) ⟨⟨Nat.le_of_ble_eq_true rfl, Nat.le_of_ble_eq_true rfl⟩, ⟨rfl, rfl⟩, Nat.le_of_ble_eq_true rfl, Nat.le_of_ble_eq_true rfl⟩ rfl hl.1 rfl (Nat.le_of_ble_eq_true rfl) dX9_sheet_27 (fun H locs hR hS hE1 z_q8 => ?_)
          have hE := hE.tr hE1
          have t_r0 := hE1.at t_r0 (by decide)
          refine lv_bipush (v := (-3 : Int32)) C.x C.b dX9_sheet_30 (by decide) ?_
          have hf := so_e hf
          subst hf
          exact r_iret C hr hlk hR hE hS dX9_sheet_32
      · have hf := it_f hf c3
        refine lv_iconst (v := (-1 : Int32)) C.x C.b dX9_sheet_15 (by decide) ?_
        have hf := so_e hf
        subst hf
        exact r_iret C hr hlk hR hE hS dX9_sheet_16

def rm_X9_digitsBehind : Room := { frames := 0, cells := 0, slots := 0, locals := 0 }
set_option maxRecDepth 100000 in
set_option maxHeartbeats 4000000 in
theorem k_X9_digitsBehind {G : Gt} {l : Launch} {h : Hp} {x0 : Int32} {out : Int32}   (hf : f_X9_digitsBehind h x0 = some out) : Mt G l yX9_digitsBehind cX9_digitsBehind 1 (some .int) rm_X9_digitsBehind [.int x0] h (some (.int out)) h false 0 0 := by
  refine r_met (by decide +kernel) (Nat.le_of_ble_eq_true rfl) ?_
  intro p e s m args below meth c ls C hr hlk hnm hR hS hl
  have hl : lv_has ls 1 [(0, .int x0)] := hl
  rw [f_X9_digitsBehind] at hf
  refine lv_iload_n C.x C.b dX9_digitsBehind_0 rfl (lv_at hl 0 rfl) ?_
  by_cases c1_0 : x0 = (109 : Int32)
  · have hf := it_t hf c1_0
    refine lv_tableIn (tgt := 53) C.x C.b dX9_digitsBehind_1 (by rw [c1_0]; decide) (by rw [c1_0]; decide) (by rw [c1_0]; rfl) (by decide) ?_
    refine lv_iconst (v := (2 : Int32)) C.x C.b dX9_digitsBehind_53 (by decide) ?_
    have hf := so_e hf
    subst hf
    exact r_iret C hr hlk hR Ext.rf hS dX9_digitsBehind_54
  have hf := it_f hf c1_0
  by_cases c1_1 : x0 = (110 : Int32)
  · have hf := it_t hf c1_1
    refine lv_tableIn (tgt := 48) C.x C.b dX9_digitsBehind_1 (by rw [c1_1]; decide) (by rw [c1_1]; decide) (by rw [c1_1]; rfl) (by decide) ?_
    refine lv_iconst (v := (1 : Int32)) C.x C.b dX9_digitsBehind_48 (by decide) ?_
    have hf := so_e hf
    subst hf
    exact r_iret C hr hlk hR Ext.rf hS dX9_digitsBehind_49
  have hf := it_f hf c1_1
  by_cases c1_2 : x0 = (111 : Int32)
  · have hf := it_t hf c1_2
    refine lv_tableIn (tgt := 55) C.x C.b dX9_digitsBehind_1 (by rw [c1_2]; decide) (by rw [c1_2]; decide) (by rw [c1_2]; rfl) (by decide) ?_
    refine lv_iconst (v := (0 : Int32)) C.x C.b dX9_digitsBehind_55 (by decide) ?_
    have hf := so_e hf
    subst hf
    exact r_iret C hr hlk hR Ext.rf hS dX9_digitsBehind_56
  have hf := it_f hf c1_2
  by_cases c1_3 : x0 = (112 : Int32)
  · have hf := it_t hf c1_3
    refine lv_tableIn (tgt := 50) C.x C.b dX9_digitsBehind_1 (by rw [c1_3]; decide) (by rw [c1_3]; decide) (by rw [c1_3]; rfl) (by decide) ?_
    refine lv_bipush (v := (6 : Int32)) C.x C.b dX9_digitsBehind_50 (by decide) ?_
    have hf := so_e hf
    subst hf
    exact r_iret C hr hlk hR Ext.rf hS dX9_digitsBehind_52
  have hf := it_f hf c1_3
  by_cases c1_4 : x0 = (113 : Int32)
  · have hf := it_t hf c1_4
    refine lv_tableIn (tgt := 55) C.x C.b dX9_digitsBehind_1 (by rw [c1_4]; decide) (by rw [c1_4]; decide) (by rw [c1_4]; rfl) (by decide) ?_
    refine lv_iconst (v := (0 : Int32)) C.x C.b dX9_digitsBehind_55 (by decide) ?_
    have hf := so_e hf
    subst hf
    exact r_iret C hr hlk hR Ext.rf hS dX9_digitsBehind_56
  have hf := it_f hf c1_4
  by_cases c1_5 : x0 = (114 : Int32)
  · have hf := it_t hf c1_5
    refine lv_tableIn (tgt := 55) C.x C.b dX9_digitsBehind_1 (by rw [c1_5]; decide) (by rw [c1_5]; decide) (by rw [c1_5]; rfl) (by decide) ?_
    refine lv_iconst (v := (0 : Int32)) C.x C.b dX9_digitsBehind_55 (by decide) ?_
    have hf := so_e hf
    subst hf
    exact r_iret C hr hlk hR Ext.rf hS dX9_digitsBehind_56
  have hf := it_f hf c1_5
  by_cases c1_6 : x0 = (115 : Int32)
  · have hf := it_t hf c1_6
    refine lv_tableIn (tgt := 53) C.x C.b dX9_digitsBehind_1 (by rw [c1_6]; decide) (by rw [c1_6]; decide) (by rw [c1_6]; rfl) (by decide) ?_
    refine lv_iconst (v := (2 : Int32)) C.x C.b dX9_digitsBehind_53 (by decide) ?_
    have hf := so_e hf
    subst hf
    exact r_iret C hr hlk hR Ext.rf hS dX9_digitsBehind_54
  have hf := it_f hf c1_6
  by_cases c1_7 : x0 = (116 : Int32)
  · have hf := it_t hf c1_7
    refine lv_tableIn (tgt := 53) C.x C.b dX9_digitsBehind_1 (by rw [c1_7]; decide) (by rw [c1_7]; decide) (by rw [c1_7]; rfl) (by decide) ?_
    refine lv_iconst (v := (2 : Int32)) C.x C.b dX9_digitsBehind_53 (by decide) ?_
    have hf := so_e hf
    subst hf
    exact r_iret C hr hlk hR Ext.rf hS dX9_digitsBehind_54
  have hf := it_f hf c1_7
  refine lv_tableOut (tgt := 55) C.x C.b dX9_digitsBehind_1 (tb_out 8 (by decide) (fun j hj => match j, hj with | 0, _ => fun q => c1_0 (q.trans (by decide)) | 1, _ => fun q => c1_1 (q.trans (by decide)) | 2, _ => fun q => c1_2 (q.trans (by decide)) | 3, _ => fun q => c1_3 (q.trans (by decide)) | 4, _ => fun q => c1_4 (q.trans (by decide)) | 5, _ => fun q => c1_5 (q.trans (by decide)) | 6, _ => fun q => c1_6 (q.trans (by decide)) | 7, _ => fun q => c1_7 (q.trans (by decide)) | n + 8, hn => absurd hn (by omega))) (by decide) ?_
  refine lv_iconst (v := (0 : Int32)) C.x C.b dX9_digitsBehind_55 (by decide) ?_
  have hf := so_e hf
  subst hf
  exact r_iret C hr hlk hR Ext.rf hS dX9_digitsBehind_56

def rm_X9_badInStory : Room := { frames := 2, cells := 0, slots := 0, locals := 44 }
def P_X9_badInStory_109 (G : Gt) (l : Launch) (p : Program) (e : Env) (s : State) (m : MethodId) (args : Array Value) (below : List Frame) (meth : Method) (c : Code) (h : Hp) (out : Int32) (r0 : Nat) (k : Int32 → Int32 → Int32 → Int32 → Option Int32) : Prop := ∀ (H : Heap) (locs : List Loc) (ls : Array Slot) (x1 : Int32) (x2 : Int32) (x3 : Int32) (x4 : Int32), k x1 x2 x3 x4 = some out → Rel G h H → va_S (AA G.2.2) s.heap H locs → hpT h r0 = (1, 9) → lv_has ls 7 [(0, .ref (G.2.2 + r0)), (1, .int x1), (2, .int x2), (3, .int x3), (4, .int x4)] → W p l e rm_X9_badInStory s m args below meth c H locs 0 0 (MQ below (Qm G h h (some (.int out)) false) args s 0 0 (AA G.2.2)) (F0 m 109 ls [])
def P_X9_badInStory_100 (G : Gt) (l : Launch) (p : Program) (e : Env) (s : State) (m : MethodId) (args : Array Value) (below : List Frame) (meth : Method) (c : Code) (h : Hp) (out : Int32) (r0 : Nat) (k : Int32 → Int32 → Int32 → Int32 → Int32 → Int32 → Option Int32) : Prop := ∀ (H : Heap) (locs : List Loc) (ls : Array Slot) (s0 : Int32) (s1 : Int32) (x1 : Int32) (x2 : Int32) (x3 : Int32) (x4 : Int32), k s0 s1 x1 x2 x3 x4 = some out → Rel G h H → va_S (AA G.2.2) s.heap H locs → hpT h r0 = (1, 9) → narrow .boolean (.int s1) = .int s1 → lv_has ls 7 [(0, .ref (G.2.2 + r0)), (1, .int x1), (2, .int x2), (3, .int x3), (4, .int x4)] → W p l e rm_X9_badInStory s m args below meth c H locs 0 0 (MQ below (Qm G h h (some (.int out)) false) args s 0 0 (AA G.2.2)) (F0 m 100 ls [.int s1, .int s0])
def P_X9_badInStory_86 (G : Gt) (l : Launch) (p : Program) (e : Env) (s : State) (m : MethodId) (args : Array Value) (below : List Frame) (meth : Method) (c : Code) (h : Hp) (out : Int32) (r0 : Nat) (k : Int32 → Int32 → Int32 → Int32 → Int32 → Int32 → Option Int32) : Prop := ∀ (H : Heap) (locs : List Loc) (ls : Array Slot) (s0 : Int32) (x1 : Int32) (x2 : Int32) (x3 : Int32) (x4 : Int32) (x5 : Int32), k s0 x1 x2 x3 x4 x5 = some out → Rel G h H → va_S (AA G.2.2) s.heap H locs → hpT h r0 = (1, 9) → narrow .boolean (.int s0) = .int s0 → lv_has ls 7 [(0, .ref (G.2.2 + r0)), (1, .int x1), (2, .int x2), (3, .int x3), (4, .int x4), (5, .int x5)] → W p l e rm_X9_badInStory s m args below meth c H locs 0 0 (MQ below (Qm G h h (some (.int out)) false) args s 0 0 (AA G.2.2)) (F0 m 86 ls [.int s0])
def P_X9_badInStory_85 (G : Gt) (l : Launch) (p : Program) (e : Env) (s : State) (m : MethodId) (args : Array Value) (below : List Frame) (meth : Method) (c : Code) (h : Hp) (out : Int32) (r0 : Nat) (k : Int32 → Int32 → Int32 → Int32 → Int32 → Option Int32) : Prop := ∀ (H : Heap) (locs : List Loc) (ls : Array Slot) (x1 : Int32) (x2 : Int32) (x3 : Int32) (x4 : Int32) (x5 : Int32), k x1 x2 x3 x4 x5 = some out → Rel G h H → va_S (AA G.2.2) s.heap H locs → hpT h r0 = (1, 9) → lv_has ls 7 [(0, .ref (G.2.2 + r0)), (1, .int x1), (2, .int x2), (3, .int x3), (4, .int x4), (5, .int x5)] → W p l e rm_X9_badInStory s m args below meth c H locs 0 0 (MQ below (Qm G h h (some (.int out)) false) args s 0 0 (AA G.2.2)) (F0 m 85 ls [])
def P_X9_badInStory_81 (G : Gt) (l : Launch) (p : Program) (e : Env) (s : State) (m : MethodId) (args : Array Value) (below : List Frame) (meth : Method) (c : Code) (h : Hp) (out : Int32) (r0 : Nat) (k : Int32 → Int32 → Int32 → Int32 → Int32 → Option Int32) : Prop := ∀ (H : Heap) (locs : List Loc) (ls : Array Slot) (x1 : Int32) (x2 : Int32) (x3 : Int32) (x4 : Int32) (x5 : Int32), k x1 x2 x3 x4 x5 = some out → Rel G h H → va_S (AA G.2.2) s.heap H locs → hpT h r0 = (1, 9) → lv_has ls 7 [(0, .ref (G.2.2 + r0)), (1, .int x1), (2, .int x2), (3, .int x3), (4, .int x4), (5, .int x5)] → W p l e rm_X9_badInStory s m args below meth c H locs 0 0 (MQ below (Qm G h h (some (.int out)) false) args s 0 0 (AA G.2.2)) (F0 m 81 ls [])
def P_X9_badInStory_131 (G : Gt) (l : Launch) (p : Program) (e : Env) (s : State) (m : MethodId) (args : Array Value) (below : List Frame) (meth : Method) (c : Code) (h : Hp) (out : Int32) (r0 : Nat) (k : Int32 → Option Int32) : Prop := ∀ (H : Heap) (locs : List Loc) (ls : Array Slot) (x1 : Int32), k x1 = some out → Rel G h H → va_S (AA G.2.2) s.heap H locs → hpT h r0 = (1, 9) → lv_has ls 7 [(0, .ref (G.2.2 + r0)), (1, .int x1)] → W p l e rm_X9_badInStory s m args below meth c H locs 0 0 (MQ below (Qm G h h (some (.int out)) false) args s 0 0 (AA G.2.2)) (F0 m 131 ls [])
def P_X9_badInStory_20 (G : Gt) (l : Launch) (p : Program) (e : Env) (s : State) (m : MethodId) (args : Array Value) (below : List Frame) (meth : Method) (c : Code) (h : Hp) (out : Int32) (r0 : Nat) (k : Int32 → Int32 → Int32 → Int32 → Option Int32) : Prop := ∀ (H : Heap) (locs : List Loc) (ls : Array Slot) (x1 : Int32) (x2 : Int32) (x3 : Int32) (x4 : Int32), k x1 x2 x3 x4 = some out → Rel G h H → va_S (AA G.2.2) s.heap H locs → hpT h r0 = (1, 9) → lv_has ls 7 [(0, .ref (G.2.2 + r0)), (1, .int x1), (2, .int x2), (3, .int x3), (4, .int x4)] → W p l e rm_X9_badInStory s m args below meth c H locs 0 0 (MQ below (Qm G h h (some (.int out)) false) args s 0 0 (AA G.2.2)) (F0 m 20 ls [])
set_option maxRecDepth 100000 in
set_option maxHeartbeats 4000000 in
theorem w_X9_badInStory_109 {G : Gt} {l : Launch} {p : Program} {e : Env} {s : State} {m : MethodId} {args : Array Value} {below : List Frame} {meth : Method} {c : Code} {h : Hp} {out : Int32} {r0 : Nat} {k20 : Int32 → Int32 → Int32 → Int32 → Option Int32} (C : Cx G p m c cX9_badInStory 7 s args RX9) (hr : meth.sig.returnType = some .int) (hlk : meth.locks = false) (hk20 : P_X9_badInStory_20 G l p e s m args below meth c h out r0 k20) : P_X9_badInStory_109 G l p e s m args below meth c h out r0 (f_X9_badInStory_109 h r0 k20) := by
  intro H locs ls x1 x2 x3 x4 hf hR hS t_r0 hl
  rw [f_X9_badInStory_109] at hf
  obtain ⟨v21, e_v21⟩ : ∃ y : Int32, y = x4 + (1 : Int32) := ⟨_, rfl⟩
  have hf := lt_e hf e_v21
  refine lv_iinc (v := v21) (lv' := [(4, .int v21), (0, .ref (G.2.2 + r0)), (1, .int x1), (2, .int x2), (3, .int x3)]) C.x C.b dX9_badInStory_109 hl (k := 4) rfl (by rw [e_v21]; rfl) (by decide) rfl (fun ls hl => ?_)
  refine lv_goto (tgt := 20) C.x C.b dX9_badInStory_112 (by decide) ?_
  exact hk20 _ _ _ _ _ _ _ hf hR hS t_r0 (lv_sub hl [1, 2, 3, 4, 0] rfl)
set_option maxRecDepth 100000 in
set_option maxHeartbeats 4000000 in
theorem w_X9_badInStory_100 {G : Gt} {l : Launch} {p : Program} {e : Env} {s : State} {m : MethodId} {args : Array Value} {below : List Frame} {meth : Method} {c : Code} {h : Hp} {out : Int32} {r0 : Nat} {k20 : Int32 → Int32 → Int32 → Int32 → Option Int32} (C : Cx G p m c cX9_badInStory 7 s args RX9) (hr : meth.sig.returnType = some .int) (hlk : meth.locks = false) (hk20 : P_X9_badInStory_20 G l p e s m args below meth c h out r0 k20) : P_X9_badInStory_100 G l p e s m args below meth c h out r0 (f_X9_badInStory_100 h r0 k20) := by
  intro H locs ls s0 s1 x1 x2 x3 x4 hf hR hS t_r0 z_s1 hl
  rw [f_X9_badInStory_100] at hf
  refine lv_icmp_ge (tgt := 106) C.x C.b dX9_badInStory_100 (by decide) (fun c23 => ?_) (fun c23 => ?_)
  · have hf := it_t hf c23
    obtain ⟨v24, e_v24⟩ : ∃ y : Int32, y = x2 + (-1 : Int32) := ⟨_, rfl⟩
    have hf := lt_e hf e_v24
    refine lv_iinc (v := v24) (lv' := [(2, .int v24), (0, .ref (G.2.2 + r0)), (1, .int x1), (3, .int x3), (4, .int x4)]) C.x C.b dX9_badInStory_106 hl (k := 2) rfl (by rw [e_v24]; rfl) (by decide) rfl (fun ls hl => ?_)
    exact w_X9_badInStory_109 C hr hlk hk20 _ _ _ _ _ _ _ hf hR hS t_r0 (lv_sub hl [1, 2, 0, 3, 4] rfl)
  · have hf := it_f hf c23
    refine lv_iload C.x C.b dX9_badInStory_103 (lv_at hl 4 rfl) ?_
    have hf := so_e hf
    subst hf
    exact r_iret C hr hlk hR Ext.rf hS dX9_badInStory_105
set_option maxRecDepth 100000 in
set_option maxHeartbeats 4000000 in
theorem w_X9_badInStory_86 {G : Gt} {l : Launch} {p : Program} {e : Env} {s : State} {m : MethodId} {args : Array Value} {below : List Frame} {meth : Method} {c : Code} {h : Hp} {out : Int32} {r0 : Nat} {k20 : Int32 → Int32 → Int32 → Int32 → Option Int32} (C : Cx G p m c cX9_badInStory 7 s args RX9) (hr : meth.sig.returnType = some .int) (hlk : meth.locks = false) (hk20 : P_X9_badInStory_20 G l p e s m args below meth c h out r0 k20) : P_X9_badInStory_86 G l p e s m args below meth c h out r0 (f_X9_badInStory_86 h r0 k20) := by
  intro H locs ls s0 x1 x2 x3 x4 x5 hf hR hS t_r0 z_s0 hl
  rw [f_X9_badInStory_86] at hf
  refine lv_istore (lv' := [(6, .int s0), (0, .ref (G.2.2 + r0)), (1, .int x1), (2, .int x2), (3, .int x3), (4, .int x4), (5, .int x5)]) C.x C.b dX9_badInStory_86 hl (by decide) rfl (fun ls hl => ?_)
  refine lv_iload C.x C.b dX9_badInStory_88 (lv_at hl 6 rfl) ?_
  refine lv_iload C.x C.b dX9_badInStory_90 (lv_at hl 0 rfl) ?_
  refine lv_if_eq (tgt := 99) C.x C.b dX9_badInStory_92 (by decide) (fun c22 => ?_) (fun c22 => ?_)
  · simp only [if_pos c22] at hf
    refine lv_iconst (v := (0 : Int32)) C.x C.b dX9_badInStory_99 (by decide) ?_
    exact w_X9_badInStory_100 C hr hlk hk20 _ _ _ _ _ _ _ _ _ hf hR hS t_r0 z_0 (lv_sub hl [1, 2, 3, 4, 5] rfl)
  · simp only [if_neg c22] at hf
    refine lv_iconst (v := (1 : Int32)) C.x C.b dX9_badInStory_95 (by decide) ?_
    refine lv_goto (tgt := 100) C.x C.b dX9_badInStory_96 (by decide) ?_
    exact w_X9_badInStory_100 C hr hlk hk20 _ _ _ _ _ _ _ _ _ hf hR hS t_r0 z_1 (lv_sub hl [1, 2, 3, 4, 5] rfl)
set_option maxRecDepth 100000 in
set_option maxHeartbeats 4000000 in
theorem w_X9_badInStory_85 {G : Gt} {l : Launch} {p : Program} {e : Env} {s : State} {m : MethodId} {args : Array Value} {below : List Frame} {meth : Method} {c : Code} {h : Hp} {out : Int32} {r0 : Nat} {k20 : Int32 → Int32 → Int32 → Int32 → Option Int32} (C : Cx G p m c cX9_badInStory 7 s args RX9) (hr : meth.sig.returnType = some .int) (hlk : meth.locks = false) (hk20 : P_X9_badInStory_20 G l p e s m args below meth c h out r0 k20) : P_X9_badInStory_85 G l p e s m args below meth c h out r0 (f_X9_badInStory_85 h r0 k20) := by
  intro H locs ls x1 x2 x3 x4 x5 hf hR hS t_r0 hl
  rw [f_X9_badInStory_85] at hf
  refine lv_iconst (v := (0 : Int32)) C.x C.b dX9_badInStory_85 (by decide) ?_
  exact w_X9_badInStory_86 C hr hlk hk20 _ _ _ _ _ _ _ _ _ hf hR hS t_r0 z_0 (lv_sub hl [0, 1, 2, 3, 4, 5] rfl)
set_option maxRecDepth 100000 in
set_option maxHeartbeats 4000000 in
theorem w_X9_badInStory_81 {G : Gt} {l : Launch} {p : Program} {e : Env} {s : State} {m : MethodId} {args : Array Value} {below : List Frame} {meth : Method} {c : Code} {h : Hp} {out : Int32} {r0 : Nat} {k20 : Int32 → Int32 → Int32 → Int32 → Option Int32} (C : Cx G p m c cX9_badInStory 7 s args RX9) (hr : meth.sig.returnType = some .int) (hlk : meth.locks = false) (hk20 : P_X9_badInStory_20 G l p e s m args below meth c h out r0 k20) : P_X9_badInStory_81 G l p e s m args below meth c h out r0 (f_X9_badInStory_81 h r0 k20) := by
  intro H locs ls x1 x2 x3 x4 x5 hf hR hS t_r0 hl
  rw [f_X9_badInStory_81] at hf
  refine lv_iconst (v := (1 : Int32)) C.x C.b dX9_badInStory_81 (by decide) ?_
  refine lv_goto (tgt := 86) C.x C.b dX9_badInStory_82 (by decide) ?_
  exact w_X9_badInStory_86 C hr hlk hk20 _ _ _ _ _ _ _ _ _ hf hR hS t_r0 z_1 (lv_sub hl [0, 1, 2, 3, 4, 5] rfl)
set_option maxRecDepth 100000 in
set_option maxHeartbeats 4000000 in
theorem w_X9_badInStory_131 {G : Gt} {l : Launch} {p : Program} {e : Env} {s : State} {m : MethodId} {args : Array Value} {below : List Frame} {meth : Method} {c : Code} {h : Hp} {out : Int32} {r0 : Nat}  (C : Cx G p m c cX9_badInStory 7 s args RX9) (hr : meth.sig.returnType = some .int) (hlk : meth.locks = false)  : P_X9_badInStory_131 G l p e s m args below meth c h out r0 (f_X9_badInStory_131 h r0) := by
  intro H locs ls x1 hf hR hS t_r0 hl
  rw [f_X9_badInStory_131] at hf
  refine lv_iload_n C.x C.b dX9_badInStory_131 rfl (lv_at hl 1 rfl) ?_
  refine lv_goto (tgt := 136) C.x C.b dX9_badInStory_132 (by decide) ?_
  have hf := so_e hf
  subst hf
  exact r_iret C hr hlk hR Ext.rf hS dX9_badInStory_136
set_option maxRecDepth 100000 in
set_option maxHeartbeats 4000000 in
theorem w_X9_badInStory_20 {G : Gt} {l : Launch} {p : Program} {e : Env} {s : State} {m : MethodId} {args : Array Value} {below : List Frame} {meth : Method} {c : Code} {h : Hp} {out : Int32} {r0 : Nat}  (C : Cx G p m c cX9_badInStory 7 s args RX9) (hr : meth.sig.returnType = some .int) (hlk : meth.locks = false)  (n : Nat) : P_X9_badInStory_20 G l p e s m args below meth c h out r0 (f_X9_badInStory_20 h r0 n) := by
  induction n with
  | zero => intro H locs ls x1 x2 x3 x4 hf hR hS t_r0 hl; cases hf
  | succ n hk20 =>
    intro H locs ls x1 x2 x3 x4 hf hR hS t_r0 hl
    rw [f_X9_badInStory_20] at hf
    obtain ⟨k20, e_k20⟩ : ∃ y, y = f_X9_badInStory_20 h r0 n := ⟨_, rfl⟩
    have hf := lt_e hf e_k20
    rw [← e_k20] at hk20
    refine lv_iload C.x C.b dX9_badInStory_20 (lv_at hl 4 rfl) ?_
    refine lv_iload_n C.x C.b dX9_badInStory_22 rfl (lv_at hl 1 rfl) ?_
    refine lv_icmp_ge (tgt := 115) C.x C.b dX9_badInStory_23 (by decide) (fun c4 => ?_) (fun c4 => ?_)
    · have hf := it_t hf c4
      refine lv_iload_n C.x C.b dX9_badInStory_115 rfl (lv_at hl 2 rfl) ?_
      refine lv_if_gt (tgt := 131) C.x C.b dX9_badInStory_116 (by decide) (fun c5 => ?_) (fun c5 => ?_)
      · have hf := it_t hf c5
        exact w_X9_badInStory_131 C hr hlk _ _ _ _ hf hR hS t_r0 (lv_sub hl [0, 1] rfl)
      · have hf := it_f hf c5
        refine lv_aload_n C.x C.b dX9_badInStory_119 rfl (lv_at hl 0 rfl) ?_
        obtain ⟨g6, hf⟩ := gd_e hf
        refine r_getr C hR t_r0 fl_X9_10 (by decide) (nz_e g6) dX9_badInStory_120 (fun tq7 => ?_)
        have tg6 := okO tq7 rfl
        refine r_geti C hR tg6 fl_X9_93 rfl dX9_badInStory_123 ?_
        refine lv_bipush (v := (60 : Int32)) C.x C.b dX9_badInStory_126 (by decide) ?_
        refine lv_icmp_le (tgt := 135) C.x C.b dX9_badInStory_128 (by decide) (fun c8 => ?_) (fun c8 => ?_)
        · have hf := it_t hf c8
          refine lv_iconst (v := (-1 : Int32)) C.x C.b dX9_badInStory_135 (by decide) ?_
          have hf := so_e hf
          subst hf
          exact r_iret C hr hlk hR Ext.rf hS dX9_badInStory_136
        · have hf := it_f hf c8
          exact w_X9_badInStory_131 C hr hlk _ _ _ _ hf hR hS t_r0 (lv_sub hl [0, 1] rfl)
    · have hf := it_f hf c4
      refine lv_iload_n C.x C.b dX9_badInStory_26 rfl (lv_at hl 2 rfl) ?_
      refine lv_if_ne (tgt := 52) C.x C.b dX9_badInStory_27 (by decide) (fun c9 => ?_) (fun c9 => ?_)
      · have hf := it_f hf c9
        refine lv_aload_n C.x C.b dX9_badInStory_52 rfl (lv_at hl 0 rfl) ?_
        obtain ⟨g10, hf⟩ := gd_e hf
        refine r_getr C hR t_r0 fl_X9_10 (by decide) (nz_e g10) dX9_badInStory_53 (fun tq11 => ?_)
        have tg10 := okO tq11 rfl
        refine lv_iload C.x C.b dX9_badInStory_56 (lv_at hl 4 rfl) ?_
        refine lv_iload_n C.x C.b dX9_badInStory_58 rfl (lv_at hl 1 rfl) ?_
        obtain ⟨q12, h_q12, hf⟩ := bd_e hf
        refine r_callV (As := [.int x4, .int x1]) (rest := []) C hR hS tg10 rfl mk_X6_digit cl_X9_104 (k_X6_digit tg10 h_q12) ⟨⟨Nat.le_of_ble_eq_true rfl, Nat.le_of_ble_eq_true rfl⟩, ⟨rfl, rfl⟩, Nat.le_of_ble_eq_true rfl, Nat.le_of_ble_eq_true rfl⟩ rfl hl.1 rfl (Nat.le_of_ble_eq_true rfl) dX9_badInStory_59 (fun H locs hR hS hE1 z_q12 => ?_)
        refine lv_istore (lv' := [(5, .int q12), (0, .ref (G.2.2 + r0)), (1, .int x1), (2, .int x2), (3, .int x3), (4, .int x4)]) C.x C.b dX9_badInStory_62 hl (by decide) rfl (fun ls hl => ?_)
        refine lv_iload_n C.x C.b dX9_badInStory_64 rfl (lv_at hl 3 rfl) ?_
        refine lv_iconst (v := (1 : Int32)) C.x C.b dX9_badInStory_65 (by decide) ?_
        refine lv_icmp_ne (tgt := 85) C.x C.b dX9_badInStory_66 (by decide) (fun c13 => ?_) (fun c13 => ?_)
        · have hf := it_f hf c13
          exact w_X9_badInStory_85 C hr hlk hk20 _ _ _ _ _ _ _ _ hf hR hS t_r0 (lv_sub hl [1, 2, 3, 4, 5, 0] rfl)
        · have hf := it_t hf c13
          refine lv_iload_n C.x C.b dX9_badInStory_69 rfl (lv_at hl 4 rfl) ?_
          refine lv_bipush (v := (116 : Int32)) C.x C.b dX9_badInStory_70 (by decide) ?_
          refine lv_icmp_eq (tgt := 81) C.x C.b dX9_badInStory_72 (by decide) (fun c14 => ?_) (fun c14 => ?_)
          · have hf := it_t hf c14
            exact w_X9_badInStory_81 C hr hlk hk20 _ _ _ _ _ _ _ _ hf hR hS t_r0 (lv_sub hl [1, 2, 3, 4, 5, 0] rfl)
          · have hf := it_f hf c14
            refine lv_iload_n C.x C.b dX9_badInStory_75 rfl (lv_at hl 4 rfl) ?_
            refine lv_bipush (v := (115 : Int32)) C.x C.b dX9_badInStory_76 (by decide) ?_
            refine lv_icmp_ne (tgt := 85) C.x C.b dX9_badInStory_78 (by decide) (fun c15 => ?_) (fun c15 => ?_)
            · have hf := it_f hf c15
              exact w_X9_badInStory_85 C hr hlk hk20 _ _ _ _ _ _ _ _ hf hR hS t_r0 (lv_sub hl [1, 2, 3, 4, 5, 0] rfl)
            · have hf := it_t hf c15
              exact w_X9_badInStory_81 C hr hlk hk20 _ _ _ _ _ _ _ _ hf hR hS t_r0 (lv_sub hl [1, 2, 3, 4, 5, 0] rfl)
      · have hf := it_t hf c9
        refine lv_aload_n C.x C.b dX9_badInStory_30 rfl (lv_at hl 0 rfl) ?_
        obtain ⟨g16, hf⟩ := gd_e hf
        refine r_getr C hR t_r0 fl_X9_10 (by decide) (nz_e g16) dX9_badInStory_31 (fun tq17 => ?_)
        have tg16 := okO tq17 rfl
        refine lv_iload C.x C.b dX9_badInStory_34 (lv_at hl 4 rfl) ?_
        obtain ⟨q18, h_q18, hf⟩ := bd_e hf
        refine r_callV (As := [.int x4]) (rest := []) C hR hS tg16 rfl mk_X6_get cl_X9_142 (k_X6_get tg16 h_q18) ⟨⟨Nat.le_of_ble_eq_true rfl, Nat.le_of_ble_eq_true rfl⟩, ⟨rfl, rfl⟩, Nat.le_of_ble_eq_true rfl, Nat.le_of_ble_eq_true rfl⟩ rfl hl.1 rfl (Nat.le_of_ble_eq_true rfl) dX9_badInStory_36 (fun H locs hR hS hE1 z_q18 => ?_)
        refine lv_istore_n (lv' := [(3, .int q18), (0, .ref (G.2.2 + r0)), (1, .int x1), (2, .int x2), (4, .int x4)]) C.x C.b dX9_badInStory_39 rfl hl (by decide) rfl (fun ls hl => ?_)
        refine lv_iload_n C.x C.b dX9_badInStory_40 rfl (lv_at hl 0 rfl) ?_
        obtain ⟨q19, h_q19, hf⟩ := bd_e hf
        refine r_callS (As := [.int q18]) (rest := []) C hR hS mk_X9_digitsBehind cl_X9_251 (k_X9_digitsBehind h_q19) ⟨⟨Nat.le_of_ble_eq_true rfl, Nat.le_of_ble_eq_true rfl⟩, ⟨rfl, rfl⟩, Nat.le_of_ble_eq_true rfl, Nat.le_of_ble_eq_true rfl⟩ rfl hl.1 rfl (Nat.le_of_ble_eq_true rfl) dX9_badInStory_41 (fun H locs hR hS hE1 z_q19 => ?_)
        refine lv_istore_n (lv' := [(2, .int q19), (3, .int q18), (0, .ref (G.2.2 + r0)), (1, .int x1), (4, .int x4)]) C.x C.b dX9_badInStory_44 rfl hl (by decide) rfl (fun ls hl => ?_)
        refine lv_iload_n C.x C.b dX9_badInStory_45 rfl (lv_at hl 0 rfl) ?_
        refine lv_if_ne (tgt := 109) C.x C.b dX9_badInStory_46 (by decide) (fun c20 => ?_) (fun c20 => ?_)
        · have hf := it_f hf c20
          exact w_X9_badInStory_109 C hr hlk hk20 _ _ _ _ _ _ _ hf hR hS t_r0 (lv_sub hl [2, 3, 0, 1, 4] rfl)
        · have hf := it_t hf c20
          refine lv_iload C.x C.b dX9_badInStory_49 (lv_at hl 4 rfl) ?_
          have hf := so_e hf
          subst hf
          exact r_iret C hr hlk hR Ext.rf hS dX9_badInStory_51
set_option maxRecDepth 100000 in
set_option maxHeartbeats 4000000 in
theorem k_X9_badInStory {G : Gt} {l : Launch} {h : Hp} {r0 : Nat} {out : Int32} (t_r0 : hpT h r0 = (1, 9))  (hf : f_X9_badInStory h r0 = some out) : Mt G l yX9_badInStory cX9_badInStory 7 (some .int) rm_X9_badInStory [.ref (G.2.2 + r0)] h (some (.int out)) h false 0 0 := by
  refine r_met (by decide +kernel) (Nat.le_of_ble_eq_true rfl) ?_
  intro p e s m args below meth c ls C hr hlk hnm hR hS hl
  have hl : lv_has ls 7 [(0, .ref (G.2.2 + r0))] := hl
  rw [f_X9_badInStory] at hf
  refine lv_aload_n C.x C.b dX9_badInStory_0 rfl (lv_at hl 0 rfl) ?_
  obtain ⟨g1, hf⟩ := gd_e hf
  refine r_getr C hR t_r0 fl_X9_10 (by decide) (nz_e g1) dX9_badInStory_1 (fun tq2 => ?_)
  have tg1 := okO tq2 rfl
  refine r_geti C hR tg1 fl_X9_93 rfl dX9_badInStory_4 ?_
  refine lv_bipush (v := (60 : Int32)) C.x C.b dX9_badInStory_7 (by decide) ?_
  refine va_mmin C.x C.b (C.ml.trans hl.1.symm) C.ow (C.ts _ lk_X9_129) (C.ts _ lk_Mmin_s) (C.ts _ lk_Math) (C.ts _ lk_Mmin_c) (Nat.le_of_ble_eq_true rfl) (Nat.le_of_ble_eq_true rfl) (Nat.le_of_ble_eq_true rfl) (Nat.le_of_ble_eq_true rfl) dX9_badInStory_9 ?_
  refine lv_topi (fun v3 e_v3 => ?_)
  have hf := lt_e hf e_v3
  refine lv_istore_n (lv' := [(1, .int v3), (0, .ref (G.2.2 + r0))]) C.x C.b dX9_badInStory_12 rfl hl (by decide) rfl (fun ls hl => ?_)
  refine lv_iconst (v := (0 : Int32)) C.x C.b dX9_badInStory_13 (by decide) ?_
  refine lv_istore_n (lv' := [(2, .int (0 : Int32)), (1, .int v3), (0, .ref (G.2.2 + r0))]) C.x C.b dX9_badInStory_14 rfl hl (by decide) rfl (fun ls hl => ?_)
  refine lv_iconst (v := (0 : Int32)) C.x C.b dX9_badInStory_15 (by decide) ?_
  refine lv_istore_n (lv' := [(3, .int (0 : Int32)), (2, .int (0 : Int32)), (1, .int v3), (0, .ref (G.2.2 + r0))]) C.x C.b dX9_badInStory_16 rfl hl (by decide) rfl (fun ls hl => ?_)
  refine lv_iconst (v := (0 : Int32)) C.x C.b dX9_badInStory_17 (by decide) ?_
  refine lv_istore (lv' := [(4, .int (0 : Int32)), (3, .int (0 : Int32)), (2, .int (0 : Int32)), (1, .int v3), (0, .ref (G.2.2 + r0))]) C.x C.b dX9_badInStory_18 hl (by decide) rfl (fun ls hl => ?_)
  exact w_X9_badInStory_20 C hr hlk FU _ _ _ _ _ _ _ hf hR hS t_r0 (lv_sub hl [4, 3, 2, 1, 0] rfl)

def rm_X9_storyDigit : Room := { frames := 2, cells := 0, slots := 0, locals := 44 }
set_option maxRecDepth 100000 in
set_option maxHeartbeats 4000000 in
theorem k_X9_storyDigit {G : Gt} {l : Launch} {h : Hp} {r0 : Nat} {x1 : Int32} {out : Int32} (t_r0 : hpT h r0 = (1, 9))  (hf : f_X9_storyDigit h r0 x1 = some out) : Mt G l yX9_storyDigit cX9_storyDigit 2 (some .int) rm_X9_storyDigit [.ref (G.2.2 + r0), .int x1] h (some (.int out)) h false 0 0 := by
  refine r_met (by decide +kernel) (Nat.le_of_ble_eq_true rfl) ?_
  intro p e s m args below meth c ls C hr hlk hnm hR hS hl
  have hl : lv_has ls 2 [(0, .ref (G.2.2 + r0)), (1, .int x1)] := hl
  rw [f_X9_storyDigit] at hf
  refine lv_aload_n C.x C.b dX9_storyDigit_0 rfl (lv_at hl 0 rfl) ?_
  obtain ⟨g1, hf⟩ := gd_e hf
  refine r_getr C hR t_r0 fl_X9_10 (by decide) (nz_e g1) dX9_storyDigit_1 (fun tq2 => ?_)
  have tg1 := okO tq2 rfl
  refine lv_iload_n C.x C.b dX9_storyDigit_4 rfl (lv_at hl 1 rfl) ?_
  refine lv_aload_n C.x C.b dX9_storyDigit_5 rfl (lv_at hl 0 rfl) ?_
  refine r_getr C hR t_r0 fl_X9_10 (by decide) (nz_e g1) dX9_storyDigit_6 (fun tq3 => ?_)
  refine r_geti C hR tg1 fl_X9_93 rfl dX9_storyDigit_9 ?_
  obtain ⟨q4, h_q4, hf⟩ := bd_e hf
  refine r_callV (As := [.int x1, .int (hpI h (hpR h r0 0) 1)]) (rest := []) C hR hS tg1 rfl mk_X6_digit cl_X9_104 (k_X6_digit tg1 h_q4) ⟨⟨Nat.le_of_ble_eq_true rfl, Nat.le_of_ble_eq_true rfl⟩, ⟨rfl, rfl⟩, Nat.le_of_ble_eq_true rfl, Nat.le_of_ble_eq_true rfl⟩ rfl hl.1 rfl (Nat.le_of_ble_eq_true rfl) dX9_storyDigit_12 (fun H locs hR hS hE1 z_q4 => ?_)
  have hf := so_e hf
  subst hf
  exact r_iret C hr hlk hR Ext.rf hS dX9_storyDigit_15

def rm_J13_bitCount_95d88 : Room := { frames := 0, cells := 0, slots := 0, locals := 0 }
set_option maxRecDepth 100000 in
set_option maxHeartbeats 4000000 in
theorem k_J13_bitCount_95d88 {G : Gt} {l : Launch} {h : Hp} {y0 : Int64} {out : Int32}   (hf : f_J13_bitCount_95d88 h y0 = some out) : Mt G l yJ13_bitCount_95d88 cJ13_bitCount_95d88 2 (some .int) rm_J13_bitCount_95d88 [.long y0] h (some (.int out)) h false 0 0 := by
  refine r_met (by decide +kernel) (Nat.le_of_ble_eq_true rfl) ?_
  intro p e s m args below meth c ls C hr hlk hnm hR hS hl
  have hl : lv_has ls 2 [(0, .long y0)] := hl
  rw [f_J13_bitCount_95d88] at hf
  refine lv_lload_n C.x C.b dJ13_bitCount_95d88_0 rfl (lv_at hl 0 rfl) ?_
  refine lv_lload_n C.x C.b dJ13_bitCount_95d88_1 rfl (lv_at hl 0 rfl) ?_
  refine lv_iconst (v := (1 : Int32)) C.x C.b dJ13_bitCount_95d88_2 (by decide) ?_
  refine lv_lushr C.x C.b dJ13_bitCount_95d88_3 rfl ?_
  refine lv_topl (fun v1 e_v1 => ?_)
  have hf := lt_e hf e_v1
  refine lv_ldc2 C.x C.b C.ow (C.ts _ lk_J13_314) dJ13_bitCount_95d88_4 ?_
  refine lv_land C.x C.b dJ13_bitCount_95d88_7 ?_
  refine lv_lsub C.x C.b dJ13_bitCount_95d88_8 ?_
  refine lv_topl (fun v2 e_v2 => ?_)
  have hf := lt_e hf e_v2
  refine lv_lstore_n (lv' := [(0, .long v2)]) C.x C.b dJ13_bitCount_95d88_9 rfl hl (by decide) rfl (fun ls hl => ?_)
  refine lv_lload_n C.x C.b dJ13_bitCount_95d88_10 rfl (lv_at hl 0 rfl) ?_
  refine lv_ldc2 C.x C.b C.ow (C.ts _ lk_J13_316) dJ13_bitCount_95d88_11 ?_
  refine lv_land C.x C.b dJ13_bitCount_95d88_14 ?_
  refine lv_lload_n C.x C.b dJ13_bitCount_95d88_15 rfl (lv_at hl 0 rfl) ?_
  refine lv_iconst (v := (2 : Int32)) C.x C.b dJ13_bitCount_95d88_16 (by decide) ?_
  refine lv_lushr C.x C.b dJ13_bitCount_95d88_17 rfl ?_
  refine lv_topl (fun v3 e_v3 => ?_)
  have hf := lt_e hf e_v3
  refine lv_ldc2 C.x C.b C.ow (C.ts _ lk_J13_316) dJ13_bitCount_95d88_18 ?_
  refine lv_land C.x C.b dJ13_bitCount_95d88_21 ?_
  refine lv_ladd C.x C.b dJ13_bitCount_95d88_22 ?_
  refine lv_topl (fun v4 e_v4 => ?_)
  have hf := lt_e hf e_v4
  refine lv_lstore_n (lv' := [(0, .long v4)]) C.x C.b dJ13_bitCount_95d88_23 rfl hl (by decide) rfl (fun ls hl => ?_)
  refine lv_lload_n C.x C.b dJ13_bitCount_95d88_24 rfl (lv_at hl 0 rfl) ?_
  refine lv_lload_n C.x C.b dJ13_bitCount_95d88_25 rfl (lv_at hl 0 rfl) ?_
  refine lv_iconst (v := (4 : Int32)) C.x C.b dJ13_bitCount_95d88_26 (by decide) ?_
  refine lv_lushr C.x C.b dJ13_bitCount_95d88_27 rfl ?_
  refine lv_topl (fun v5 e_v5 => ?_)
  have hf := lt_e hf e_v5
  refine lv_ladd C.x C.b dJ13_bitCount_95d88_28 ?_
  refine lv_ldc2 C.x C.b C.ow (C.ts _ lk_J13_318) dJ13_bitCount_95d88_29 ?_
  refine lv_land C.x C.b dJ13_bitCount_95d88_32 ?_
  refine lv_topl (fun v6 e_v6 => ?_)
  have hf := lt_e hf e_v6
  refine lv_lstore_n (lv' := [(0, .long v6)]) C.x C.b dJ13_bitCount_95d88_33 rfl hl (by decide) rfl (fun ls hl => ?_)
  refine lv_lload_n C.x C.b dJ13_bitCount_95d88_34 rfl (lv_at hl 0 rfl) ?_
  refine lv_lload_n C.x C.b dJ13_bitCount_95d88_35 rfl (lv_at hl 0 rfl) ?_
  refine lv_bipush (v := (8 : Int32)) C.x C.b dJ13_bitCount_95d88_36 (by decide) ?_
  refine lv_lushr C.x C.b dJ13_bitCount_95d88_38 rfl ?_
  refine lv_topl (fun v7 e_v7 => ?_)
  have hf := lt_e hf e_v7
  refine lv_ladd C.x C.b dJ13_bitCount_95d88_39 ?_
  refine lv_topl (fun v8 e_v8 => ?_)
  have hf := lt_e hf e_v8
  refine lv_lstore_n (lv' := [(0, .long v8)]) C.x C.b dJ13_bitCount_95d88_40 rfl hl (by decide) rfl (fun ls hl => ?_)
  refine lv_lload_n C.x C.b dJ13_bitCount_95d88_41 rfl (lv_at hl 0 rfl) ?_
  refine lv_lload_n C.x C.b dJ13_bitCount_95d88_42 rfl (lv_at hl 0 rfl) ?_
  refine lv_bipush (v := (16 : Int32)) C.x C.b dJ13_bitCount_95d88_43 (by decide) ?_
  refine lv_lushr C.x C.b dJ13_bitCount_95d88_45 rfl ?_
  refine lv_topl (fun v9 e_v9 => ?_)
  have hf := lt_e hf e_v9
  refine lv_ladd C.x C.b dJ13_bitCount_95d88_46 ?_
  refine lv_topl (fun v10 e_v10 => ?_)
  have hf := lt_e hf e_v10
  refine lv_lstore_n (lv' := [(0, .long v10)]) C.x C.b dJ13_bitCount_95d88_47 rfl hl (by decide) rfl (fun ls hl => ?_)
  refine lv_lload_n C.x C.b dJ13_bitCount_95d88_48 rfl (lv_at hl 0 rfl) ?_
  refine lv_lload_n C.x C.b dJ13_bitCount_95d88_49 rfl (lv_at hl 0 rfl) ?_
  refine lv_bipush (v := (32 : Int32)) C.x C.b dJ13_bitCount_95d88_50 (by decide) ?_
  refine lv_lushr C.x C.b dJ13_bitCount_95d88_52 rfl ?_
  refine lv_topl (fun v11 e_v11 => ?_)
  have hf := lt_e hf e_v11
  refine lv_ladd C.x C.b dJ13_bitCount_95d88_53 ?_
  refine lv_topl (fun v12 e_v12 => ?_)
  have hf := lt_e hf e_v12
  refine lv_lstore_n (lv' := [(0, .long v12)]) C.x C.b dJ13_bitCount_95d88_54 rfl hl (by decide) rfl (fun ls hl => ?_)
  refine lv_lload_n C.x C.b dJ13_bitCount_95d88_55 rfl (lv_at hl 0 rfl) ?_
  refine lv_l2i C.x C.b dJ13_bitCount_95d88_56 rfl ?_
  refine lv_bipush (v := (127 : Int32)) C.x C.b dJ13_bitCount_95d88_57 (by decide) ?_
  refine lv_iand C.x C.b dJ13_bitCount_95d88_59 ?_
  have hf := so_e hf
  subst hf
  exact r_iret C hr hlk hR Ext.rf hS dJ13_bitCount_95d88_60

def rm_X9_slept : Room := { frames := 6, cells := 0, slots := 0, locals := 132 }
def P_X9_slept_41 (G : Gt) (l : Launch) (p : Program) (e : Env) (s : State) (m : MethodId) (args : Array Value) (below : List Frame) (meth : Method) (c : Code) (h0 : Hp) (out : (Int64 × Hp)) (r0 : Nat) (k : Hp → Int32 → Int32 → Int32 → Option (Int64 × Hp)) : Prop := ∀ (H : Heap) (locs : List Loc) (ls : Array Slot) (h : Hp) (x1 : Int32) (x2 : Int32) (x3 : Int32), k h x1 x2 x3 = some out → Ext h0 h → Rel G h H → va_S (AA G.2.2) s.heap H locs → hpT h r0 = (1, 9) → lv_has ls 5 [(0, .ref (G.2.2 + r0)), (1, .int x1), (2, .int x2), (3, .int x3)] → W p l e rm_X9_slept s m args below meth c H locs 0 0 (MQ below (Qm G h0 out.2 (some (.long out.1)) false) args s 0 0 (AA G.2.2)) (F0 m 41 ls [])
def P_X9_slept_6 (G : Gt) (l : Launch) (p : Program) (e : Env) (s : State) (m : MethodId) (args : Array Value) (below : List Frame) (meth : Method) (c : Code) (h0 : Hp) (out : (Int64 × Hp)) (r0 : Nat) (k : Hp → Int32 → Int32 → Int32 → Option (Int64 × Hp)) : Prop := ∀ (H : Heap) (locs : List Loc) (ls : Array Slot) (h : Hp) (x1 : Int32) (x2 : Int32) (x3 : Int32), k h x1 x2 x3 = some out → Ext h0 h → Rel G h H → va_S (AA G.2.2) s.heap H locs → hpT h r0 = (1, 9) → lv_has ls 5 [(0, .ref (G.2.2 + r0)), (1, .int x1), (2, .int x2), (3, .int x3)] → W p l e rm_X9_slept s m args below meth c H locs 0 0 (MQ below (Qm G h0 out.2 (some (.long out.1)) false) args s 0 0 (AA G.2.2)) (F0 m 6 ls [])
set_option maxRecDepth 100000 in
set_option maxHeartbeats 4000000 in
theorem w_X9_slept_41 {G : Gt} {l : Launch} {p : Program} {e : Env} {s : State} {m : MethodId} {args : Array Value} {below : List Frame} {meth : Method} {c : Code} {h0 : Hp} {out : (Int64 × Hp)} {r0 : Nat} {k6 : Hp → Int32 → Int32 → Int32 → Option (Int64 × Hp)} (C : Cx G p m c cX9_slept 5 s args RX9) (hr : meth.sig.returnType = some .long) (hlk : meth.locks = false) (hk6 : P_X9_slept_6 G l p e s m args below meth c h0 out r0 k6) : P_X9_slept_41 G l p e s m args below meth c h0 out r0 (f_X9_slept_41 r0 k6) := by
  intro H locs ls h x1 x2 x3 hf hE hR hS t_r0 hl
  rw [f_X9_slept_41] at hf
  obtain ⟨v24, e_v24⟩ : ∃ y : Int32, y = x3 + (1 : Int32) := ⟨_, rfl⟩
  have hf := lt_e hf e_v24
  refine lv_iinc (v := v24) (lv' := [(3, .int v24), (0, .ref (G.2.2 + r0)), (1, .int x1), (2, .int x2)]) C.x C.b dX9_slept_41 hl (k := 3) rfl (by rw [e_v24]; rfl) (by decide) rfl (fun ls hl => ?_)
  refine lv_goto (tgt := 6) C.x C.b dX9_slept_44 (by decide) ?_
  exact hk6 _ _ _ _ _ _ _ hf hE hR hS t_r0 (lv_sub hl [1, 2, 3, 0] rfl)
set_option maxRecDepth 100000 in
set_option maxHeartbeats 4000000 in
theorem w_X9_slept_6 {G : Gt} {l : Launch} {p : Program} {e : Env} {s : State} {m : MethodId} {args : Array Value} {below : List Frame} {meth : Method} {c : Code} {h0 : Hp} {out : (Int64 × Hp)} {r0 : Nat}  (C : Cx G p m c cX9_slept 5 s args RX9) (hr : meth.sig.returnType = some .long) (hlk : meth.locks = false)  (n : Nat) : P_X9_slept_6 G l p e s m args below meth c h0 out r0 (f_X9_slept_6 r0 n) := by
  induction n with
  | zero => intro H locs ls h x1 x2 x3 hf hE hR hS t_r0 hl; cases hf
  | succ n hk6 =>
    intro H locs ls h x1 x2 x3 hf hE hR hS t_r0 hl
    rw [f_X9_slept_6] at hf
    obtain ⟨k6, e_k6⟩ : ∃ y, y = f_X9_slept_6 r0 n := ⟨_, rfl⟩
    have hf := lt_e hf e_k6
    rw [← e_k6] at hk6
    refine lv_iload_n C.x C.b dX9_slept_6 rfl (lv_at hl 3 rfl) ?_
    refine lv_aload_n C.x C.b dX9_slept_7 rfl (lv_at hl 0 rfl) ?_
    obtain ⟨g1, hf⟩ := gd_e hf
    refine r_getr C hR t_r0 fl_X9_26 (by decide) (nz_e g1) dX9_slept_8 (fun tq2 => ?_)
    have tg1 := okO tq2 rfl
    obtain ⟨q3, h_q3, hf⟩ := bd_e hf
    refine r_callV (As := []) (rest := [.int x3]) C hR hS tg1 rfl mk_X0_cells cl_X9_118 (k_X0_cells tg1 h_q3) ⟨⟨Nat.le_of_ble_eq_true rfl, Nat.le_of_ble_eq_true rfl⟩, ⟨rfl, rfl⟩, Nat.le_of_ble_eq_true rfl, Nat.le_of_ble_eq_true rfl⟩ rfl hl.1 rfl (Nat.le_of_ble_eq_true rfl) dX9_slept_11 (fun H locs hR hS hE1 z_q3 => ?_)
    refine lv_icmp_ge (tgt := 47) C.x C.b dX9_slept_14 (by decide) (fun c4 => ?_) (fun c4 => ?_)
    · have hf := it_t hf c4
      refine lv_aload_n C.x C.b dX9_slept_47 rfl (lv_at hl 0 rfl) ?_
      refine r_getr C hR t_r0 fl_X9_26 (by decide) (nz_e g1) dX9_slept_48 (fun tq5 => ?_)
      obtain ⟨q6, h_q6, hf⟩ := bd_e hf
      refine r_callV (As := []) (rest := []) C hR hS tg1 rfl mk_X0_sleptCells cl_X9_272 (k_X0_sleptCells tg1 h_q6) ⟨⟨Nat.le_of_ble_eq_true rfl, Nat.le_of_ble_eq_true rfl⟩, ⟨rfl, rfl⟩, Nat.le_of_ble_eq_true rfl, Nat.le_of_ble_eq_true rfl⟩ rfl hl.1 rfl (Nat.le_of_ble_eq_true rfl) dX9_slept_51 (fun H locs hR hS hE1 z_q6 => ?_)
      refine lv_lstore_n (lv' := [(3, .long q6), (0, .ref (G.2.2 + r0)), (1, .int x1), (2, .int x2)]) C.x C.b dX9_slept_54 rfl hl (by decide) rfl (fun ls hl => ?_)
      refine lv_aload_n C.x C.b dX9_slept_55 rfl (lv_at hl 1 rfl) ?_
      obtain ⟨g7, hf⟩ := gd_e hf
      refine r_getr C hR t_r0 fl_X9_19 (by decide) (nz_e g7) dX9_slept_56 (fun tq8 => ?_)
      have tg7 := okO tq8 rfl
      obtain ⟨q9, h_q9, hf⟩ := bd_e hf
      refine r_callV (As := []) (rest := []) C hR hS tg7 rfl mk_X7_start cl_X9_220 (k_X7_start tg7 h_q9) ⟨⟨Nat.le_of_ble_eq_true rfl, Nat.le_of_ble_eq_true rfl⟩, ⟨rfl, rfl⟩, Nat.le_of_ble_eq_true rfl, Nat.le_of_ble_eq_true rfl⟩ rfl hl.1 rfl (Nat.le_of_ble_eq_true rfl) dX9_slept_59 (fun H locs hR hS hE1 z_q9 => ?_)
      have hE := hE.tr hE1
      have t_r0 := hE1.at t_r0 (by decide)
      refine lv_aload_n C.x C.b dX9_slept_62 rfl (lv_at hl 1 rfl) ?_
      obtain ⟨g10, hf⟩ := gd_e hf
      refine r_getr C hR t_r0 fl_X9_19 (by decide) (nz_e g10) dX9_slept_63 (fun tq11 => ?_)
      have tg10 := okO tq11 rfl
      refine lv_lload_n C.x C.b dX9_slept_66 rfl (lv_at hl 0 rfl) ?_
      obtain ⟨q12, h_q12, hf⟩ := bd_e hf
      refine r_callS (As := [.long q6]) (rest := [.ref (G.2.2 + (hpR q9 r0 1))]) C hR hS mk_J13_bitCount_95d88 cl_X9_276 (k_J13_bitCount_95d88 h_q12) ⟨⟨Nat.le_of_ble_eq_true rfl, Nat.le_of_ble_eq_true rfl⟩, ⟨rfl, rfl⟩, Nat.le_of_ble_eq_true rfl, Nat.le_of_ble_eq_true rfl⟩ rfl hl.1 rfl (Nat.le_of_ble_eq_true rfl) dX9_slept_67 (fun H locs hR hS hE1 z_q12 => ?_)
      refine lv_i2l C.x C.b dX9_slept_70 rfl ?_
      obtain ⟨q13, h_q13, hf⟩ := bd_e hf
      refine r_callV (As := [.long (q12.toInt64)]) (rest := []) C hR hS tg10 rfl mk_X7_add cl_X9_223 (k_X7_add tg10 h_q13) ⟨⟨Nat.le_of_ble_eq_true rfl, Nat.le_of_ble_eq_true rfl⟩, ⟨rfl, rfl⟩, Nat.le_of_ble_eq_true rfl, Nat.le_of_ble_eq_true rfl⟩ rfl hl.1 rfl (Nat.le_of_ble_eq_true rfl) dX9_slept_71 (fun H locs hR hS hE1 z_q13 => ?_)
      have hE := hE.tr hE1
      have t_r0 := hE1.at t_r0 (by decide)
      refine lv_aload_n C.x C.b dX9_slept_74 rfl (lv_at hl 1 rfl) ?_
      obtain ⟨g14, hf⟩ := gd_e hf
      refine r_getr C hR t_r0 fl_X9_19 (by decide) (nz_e g14) dX9_slept_75 (fun tq15 => ?_)
      have tg14 := okO tq15 rfl
      refine lv_iload_n C.x C.b dX9_slept_78 rfl (lv_at hl 2 rfl) ?_
      refine lv_i2l C.x C.b dX9_slept_79 rfl ?_
      obtain ⟨q16, h_q16, hf⟩ := bd_e hf
      refine r_callV (As := [.long (x1.toInt64)]) (rest := []) C hR hS tg14 rfl mk_X7_add cl_X9_223 (k_X7_add tg14 h_q16) ⟨⟨Nat.le_of_ble_eq_true rfl, Nat.le_of_ble_eq_true rfl⟩, ⟨rfl, rfl⟩, Nat.le_of_ble_eq_true rfl, Nat.le_of_ble_eq_true rfl⟩ rfl hl.1 rfl (Nat.le_of_ble_eq_true rfl) dX9_slept_80 (fun H locs hR hS hE1 z_q16 => ?_)
      have hE := hE.tr hE1
      have t_r0 := hE1.at t_r0 (by decide)
      refine lv_aload_n C.x C.b dX9_slept_83 rfl (lv_at hl 1 rfl) ?_
      obtain ⟨g17, hf⟩ := gd_e hf
      refine r_getr C hR t_r0 fl_X9_19 (by decide) (nz_e g17) dX9_slept_84 (fun tq18 => ?_)
      have tg17 := okO tq18 rfl
      refine lv_iload_n C.x C.b dX9_slept_87 rfl (lv_at hl 3 rfl) ?_
      refine lv_i2l C.x C.b dX9_slept_88 rfl ?_
      obtain ⟨q19, h_q19, hf⟩ := bd_e hf
      refine r_callV (As := [.long (x2.toInt64)]) (rest := []) C hR hS tg17 rfl mk_X7_add cl_X9_223 (k_X7_add tg17 h_q19) ⟨⟨Nat.le_of_ble_eq_true rfl, Nat.le_of_ble_eq_true rfl⟩, ⟨rfl, rfl⟩, Nat.le_of_ble_eq_true rfl, Nat.le_of_ble_eq_true rfl⟩ rfl hl.1 rfl (Nat.le_of_ble_eq_true rfl) dX9_slept_89 (fun H locs hR hS hE1 z_q19 => ?_)
      have hE := hE.tr hE1
      have t_r0 := hE1.at t_r0 (by decide)
      refine lv_lload_n C.x C.b dX9_slept_92 rfl (lv_at hl 0 rfl) ?_
      have hf := so_e hf
      subst hf
      exact r_lret C hr hlk hR hE hS dX9_slept_93
    · have hf := it_f hf c4
      refine lv_aload_n C.x C.b dX9_slept_17 rfl (lv_at hl 0 rfl) ?_
      refine r_getr C hR t_r0 fl_X9_26 (by decide) (nz_e g1) dX9_slept_18 (fun tq20 => ?_)
      refine lv_iload_n C.x C.b dX9_slept_21 rfl (lv_at hl 3 rfl) ?_
      obtain ⟨q21, h_q21, hf⟩ := bd_e hf
      refine r_callV (As := [.int x3]) (rest := []) C hR hS tg1 rfl mk_X0_onOver cl_X9_189 (k_X0_onOver tg1 h_q21) ⟨⟨Nat.le_of_ble_eq_true rfl, Nat.le_of_ble_eq_true rfl⟩, ⟨rfl, rfl⟩, Nat.le_of_ble_eq_true rfl, Nat.le_of_ble_eq_true rfl⟩ rfl hl.1 rfl (Nat.le_of_ble_eq_true rfl) dX9_slept_22 (fun H locs hR hS hE1 z_q21 => ?_)
      obtain ⟨q22, h_q22, hf⟩ := bd_e hf
      refine r_callS (As := [.int q21]) (rest := []) C hR hS mk_J6_bitCount_0f7a4 cl_X9_267 (k_J6_bitCount_0f7a4 h_q22) ⟨⟨Nat.le_of_ble_eq_true rfl, Nat.le_of_ble_eq_true rfl⟩, ⟨rfl, rfl⟩, Nat.le_of_ble_eq_true rfl, Nat.le_of_ble_eq_true rfl⟩ rfl hl.1 rfl (Nat.le_of_ble_eq_true rfl) dX9_slept_25 (fun H locs hR hS hE1 z_q22 => ?_)
      refine lv_istore (lv' := [(4, .int q22), (0, .ref (G.2.2 + r0)), (1, .int x1), (2, .int x2), (3, .int x3)]) C.x C.b dX9_slept_28 hl (by decide) rfl (fun ls hl => ?_)
      refine lv_iload C.x C.b dX9_slept_30 (lv_at hl 0 rfl) ?_
      refine lv_iload_n C.x C.b dX9_slept_32 rfl (lv_at hl 2 rfl) ?_
      refine lv_icmp_le (tgt := 41) C.x C.b dX9_slept_33 (by decide) (fun c23 => ?_) (fun c23 => ?_)
      · simp only [if_pos c23] at hf
        exact w_X9_slept_41 C hr hlk hk6 _ _ _ _ _ _ _ hf hE hR hS t_r0 (lv_sub hl [1, 2, 3, 4] rfl)
      · simp only [if_neg c23] at hf
        refine lv_iload C.x C.b dX9_slept_36 (lv_at hl 0 rfl) ?_
        refine lv_istore_n (lv' := [(1, .int q22), (4, .int q22), (0, .ref (G.2.2 + r0)), (2, .int x2), (3, .int x3)]) C.x C.b dX9_slept_38 rfl hl (by decide) rfl (fun ls hl => ?_)
        refine lv_iload_n C.x C.b dX9_slept_39 rfl (lv_at hl 4 rfl) ?_
        refine lv_istore_n (lv' := [(2, .int x3), (1, .int q22), (4, .int q22), (0, .ref (G.2.2 + r0)), (3, .int x3)]) C.x C.b dX9_slept_40 rfl hl (by decide) rfl (fun ls hl => ?_)
        exact w_X9_slept_41 C hr hlk hk6 _ _ _ _ _ _ _ hf hE hR hS t_r0 (lv_sub hl [3, 1, 0, 4] rfl)
set_option maxRecDepth 100000 in
set_option maxHeartbeats 4000000 in
theorem k_X9_slept {G : Gt} {l : Launch} {h : Hp} {r0 : Nat} {out : (Int64 × Hp)} (t_r0 : hpT h r0 = (1, 9))  (hf : f_X9_slept h r0 = some out) : Mt G l yX9_slept cX9_slept 5 (some .long) rm_X9_slept [.ref (G.2.2 + r0)] h (some (.long out.1)) out.2 false 0 0 := by
  refine r_met (by decide +kernel) (Nat.le_of_ble_eq_true rfl) ?_
  intro p e s m args below meth c ls C hr hlk hnm hR hS hl
  have hE : Ext h h := Ext.rf
  have hl : lv_has ls 5 [(0, .ref (G.2.2 + r0))] := hl
  rw [f_X9_slept] at hf
  refine lv_iconst (v := (0 : Int32)) C.x C.b dX9_slept_0 (by decide) ?_
  refine lv_istore_n (lv' := [(1, .int (0 : Int32)), (0, .ref (G.2.2 + r0))]) C.x C.b dX9_slept_1 rfl hl (by decide) rfl (fun ls hl => ?_)
  refine lv_iconst (v := (-1 : Int32)) C.x C.b dX9_slept_2 (by decide) ?_
  refine lv_istore_n (lv' := [(2, .int (-1 : Int32)), (1, .int (0 : Int32)), (0, .ref (G.2.2 + r0))]) C.x C.b dX9_slept_3 rfl hl (by decide) rfl (fun ls hl => ?_)
  refine lv_iconst (v := (0 : Int32)) C.x C.b dX9_slept_4 (by decide) ?_
  refine lv_istore_n (lv' := [(3, .int (0 : Int32)), (2, .int (-1 : Int32)), (1, .int (0 : Int32)), (0, .ref (G.2.2 + r0))]) C.x C.b dX9_slept_5 rfl hl (by decide) rfl (fun ls hl => ?_)
  exact w_X9_slept_6 C hr hlk FU _ _ _ _ _ _ _ hf hE hR hS t_r0 (lv_sub hl [3, 2, 1, 0] rfl)

