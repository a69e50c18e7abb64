def rm_X10_clears : Room := { frames := 7, cells := 0, slots := 0, locals := 171 }
def P_X10_clears_68 (G : Gt) (l : Launch) (p : Program) (e : Env) (s : State) (m : MethodId) (args : Array Value) (below : List Frame) (meth : Method) (c : Code) (h0 : Hp) (out : (Int32 × Hp)) (r0 : Nat) (x1 : Int32) (k : Hp → Int32 → Int32 → Int32 → Int32 → Option (Int32 × Hp)) : Prop := ∀ (H : Heap) (locs : List Loc) (ls : Array Slot) (h : Hp) (s0 : Int32) (x3 : Int32) (x4 : Int32) (x5 : Int32), k h s0 x3 x4 x5 = some out → Ext h0 h → Rel G h H → va_S (AA G.2.2) s.heap H locs → hpT h r0 = (1, 10) → narrow .boolean (.int x5) = .int x5 → lv_has ls 6 [(0, .ref (G.2.2 + r0)), (1, .int x1), (3, .int x3), (4, .int x4), (5, .int x5)] → W p l e rm_X10_clears s m args below meth c H locs 0 0 (MQ below (Qm G h0 out.2 (some (.int out.1)) 0) args s 0 0 (AA G.2.2)) (F0 m 68 ls [.int s0])
def P_X10_clears_67 (G : Gt) (l : Launch) (p : Program) (e : Env) (s : State) (m : MethodId) (args : Array Value) (below : List Frame) (meth : Method) (c : Code) (h0 : Hp) (out : (Int32 × Hp)) (r0 : Nat) (x1 : Int32) (k : Hp → Int32 → Int32 → Int32 → Int32 → Option (Int32 × Hp)) : Prop := ∀ (H : Heap) (locs : List Loc) (ls : Array Slot) (h : Hp) (x2 : Int32) (x3 : Int32) (x4 : Int32) (x5 : Int32), k h x2 x3 x4 x5 = some out → Ext h0 h → Rel G h H → va_S (AA G.2.2) s.heap H locs → hpT h r0 = (1, 10) → narrow .boolean (.int x5) = .int x5 → lv_has ls 6 [(0, .ref (G.2.2 + r0)), (1, .int x1), (2, .int x2), (3, .int x3), (4, .int x4), (5, .int x5)] → W p l e rm_X10_clears s m args below meth c H locs 0 0 (MQ below (Qm G h0 out.2 (some (.int out.1)) 0) args s 0 0 (AA G.2.2)) (F0 m 67 ls [])
def P_X10_clears_51 (G : Gt) (l : Launch) (p : Program) (e : Env) (s : State) (m : MethodId) (args : Array Value) (below : List Frame) (meth : Method) (c : Code) (h0 : Hp) (out : (Int32 × Hp)) (r0 : Nat) (x1 : Int32) (k : Hp → Int32 → Int32 → Int32 → Int32 → Option (Int32 × Hp)) : Prop := ∀ (H : Heap) (locs : List Loc) (ls : Array Slot) (h : Hp) (s0 : Int32) (x2 : Int32) (x3 : Int32) (x4 : Int32), k h s0 x2 x3 x4 = some out → Ext h0 h → Rel G h H → va_S (AA G.2.2) s.heap H locs → hpT h r0 = (1, 10) → narrow .boolean (.int s0) = .int s0 → lv_has ls 6 [(0, .ref (G.2.2 + r0)), (1, .int x1), (2, .int x2), (3, .int x3), (4, .int x4)] → W p l e rm_X10_clears s m args below meth c H locs 0 0 (MQ below (Qm G h0 out.2 (some (.int out.1)) 0) args s 0 0 (AA G.2.2)) (F0 m 51 ls [.int s0])
def P_X10_clears_27 (G : Gt) (l : Launch) (p : Program) (e : Env) (s : State) (m : MethodId) (args : Array Value) (below : List Frame) (meth : Method) (c : Code) (h0 : Hp) (out : (Int32 × Hp)) (r0 : Nat) (x1 : Int32) (k : Hp → Int32 → Int32 → Int32 → Option (Int32 × Hp)) : Prop := ∀ (H : Heap) (locs : List Loc) (ls : Array Slot) (h : Hp) (x2 : Int32) (x3 : Int32) (x4 : Int32), k h x2 x3 x4 = some out → Ext h0 h → Rel G h H → va_S (AA G.2.2) s.heap H locs → hpT h r0 = (1, 10) → lv_has ls 6 [(0, .ref (G.2.2 + r0)), (1, .int x1), (2, .int x2), (3, .int x3), (4, .int x4)] → W p l e rm_X10_clears s m args below meth c H locs 0 0 (MQ below (Qm G h0 out.2 (some (.int out.1)) 0) args s 0 0 (AA G.2.2)) (F0 m 27 ls [])
set_option maxRecDepth 100000 in
set_option maxHeartbeats 4000000 in
theorem w_X10_clears_68 {G : Gt} {l : Launch} {p : Program} {e : Env} {s : State} {m : MethodId} {args : Array Value} {below : List Frame} {meth : Method} {c : Code}  {h0 : Hp} {out : (Int32 × Hp)} {r0 : Nat} {x1 : Int32} {k27 : Hp → Int32 → Int32 → Int32 → Option (Int32 × Hp)} (C : Cx G p m c cX10_clears 6 s args RX10) (hr : meth.sig.returnType = some .int) (hlk : meth.locks = false)  (hk27 : P_X10_clears_27 G l p e s m args below meth c h0 out r0 x1 k27) : P_X10_clears_68 G l p e s m args below meth c h0 out r0 x1 (f_X10_clears_68 r0 x1 k27) := by
  intro H locs ls h s0 x3 x4 x5 hf hE hR hS t_r0 z_x5 hl
  rw [f_X10_clears_68] at hf
  refine lv_istore_n (lv' := [(2, .int s0), (0, .ref (G.2.2 + r0)), (1, .int x1), (3, .int x3), (4, .int x4), (5, .int x5)]) C.x C.b dX10_clears_68 rfl hl (by decide) rfl (fun ls hl => ?_)
  refine lv_iload_n C.x C.b dX10_clears_69 rfl (lv_at hl 3 rfl) ?_
  refine lv_iload C.x C.b dX10_clears_70 (lv_at hl 5 rfl) ?_
  obtain ⟨q15, h_q15, hf⟩ := bd_e hf
  refine r_callS (As := [.int x5]) (rest := [.int x3]) C hR hS mk_X10_flag cl_X10_163 (k_X10_flag h_q15) ⟨⟨Nat.le_of_ble_eq_true rfl, Nat.le_of_ble_eq_true rfl⟩, ⟨rfl, rfl⟩, Nat.le_of_ble_eq_true rfl, Nat.le_of_ble_eq_true rfl⟩ rfl hl.1 rfl (Nat.le_of_ble_eq_true rfl) dX10_clears_72 (fun H locs hR hS hE1 z_q15 => ?_)
  refine lv_iadd C.x C.b dX10_clears_75 ?_
  refine lv_topi (fun v16 e_v16 => ?_)
  have hf := lt_e hf e_v16
  refine lv_istore_n (lv' := [(3, .int v16), (2, .int s0), (0, .ref (G.2.2 + r0)), (1, .int x1), (4, .int x4), (5, .int x5)]) C.x C.b dX10_clears_76 rfl hl (by decide) rfl (fun ls hl => ?_)
  refine lv_aload_n C.x C.b dX10_clears_77 rfl (lv_at hl 2 rfl) ?_
  refine lv_aload_n C.x C.b dX10_clears_78 rfl (lv_at hl 2 rfl) ?_
  obtain ⟨g17, hf⟩ := gd_e hf
  refine r_getr C hR t_r0 fl_X10_24 (by decide) (nz_e g17) dX10_clears_79 (fun tq18 => ?_)
  have tg17 := okA tq18 rfl
  obtain ⟨q19, h_q19, hf⟩ := bd_e hf
  refine r_callV (As := [.ref (G.2.2 + (hpR h r0 7))]) (rest := []) C hR hS t_r0 rfl mk_X10_yearGoes cl_X10_318 (k_X10_yearGoes t_r0 tg17 h_q19) ⟨⟨Nat.le_of_ble_eq_true rfl, Nat.le_of_ble_eq_true rfl⟩, ⟨rfl, rfl⟩, Nat.le_of_ble_eq_true rfl, Nat.le_of_ble_eq_true rfl⟩ rfl hl.1 rfl (Nat.le_of_ble_eq_true rfl) dX10_clears_82 (fun H locs hR hS hE1 z_q19 => ?_)
  have hE := hE.tr hE1
  have t_r0 := hE1.at t_r0 (by decide)
  obtain ⟨v20, e_v20⟩ : ∃ y : Int32, y = x4 + (1 : Int32) := ⟨_, rfl⟩
  have hf := lt_e hf e_v20
  refine lv_iinc (v := v20) (lv' := [(4, .int v20), (3, .int v16), (2, .int s0), (0, .ref (G.2.2 + r0)), (1, .int x1), (5, .int x5)]) C.x C.b dX10_clears_85 hl (k := 4) rfl (by rw [e_v20]; rfl) (by decide) rfl (fun ls hl => ?_)
  refine lv_goto (tgt := 27) C.x C.b dX10_clears_88 (by decide) ?_
  exact hk27 _ _ _ _ _ _ _ hf hE hR hS t_r0 (lv_sub hl [3, 4, 2, 1, 0] rfl)
set_option maxRecDepth 100000 in
set_option maxHeartbeats 4000000 in
theorem w_X10_clears_67 {G : Gt} {l : Launch} {p : Program} {e : Env} {s : State} {m : MethodId} {args : Array Value} {below : List Frame} {meth : Method} {c : Code}  {h0 : Hp} {out : (Int32 × Hp)} {r0 : Nat} {x1 : Int32} {k27 : Hp → Int32 → Int32 → Int32 → Option (Int32 × Hp)} (C : Cx G p m c cX10_clears 6 s args RX10) (hr : meth.sig.returnType = some .int) (hlk : meth.locks = false)  (hk27 : P_X10_clears_27 G l p e s m args below meth c h0 out r0 x1 k27) : P_X10_clears_67 G l p e s m args below meth c h0 out r0 x1 (f_X10_clears_67 r0 x1 k27) := by
  intro H locs ls h x2 x3 x4 x5 hf hE hR hS t_r0 z_x5 hl
  rw [f_X10_clears_67] at hf
  refine lv_iload_n C.x C.b dX10_clears_67 rfl (lv_at hl 2 rfl) ?_
  exact w_X10_clears_68 C hr hlk hk27 _ _ _ _ _ _ _ _ hf hE hR hS t_r0 z_x5 (lv_sub hl [0, 1, 3, 4, 5] rfl)
set_option maxRecDepth 100000 in
set_option maxHeartbeats 4000000 in
theorem w_X10_clears_51 {G : Gt} {l : Launch} {p : Program} {e : Env} {s : State} {m : MethodId} {args : Array Value} {below : List Frame} {meth : Method} {c : Code}  {h0 : Hp} {out : (Int32 × Hp)} {r0 : Nat} {x1 : Int32} {k27 : Hp → Int32 → Int32 → Int32 → Option (Int32 × Hp)} (C : Cx G p m c cX10_clears 6 s args RX10) (hr : meth.sig.returnType = some .int) (hlk : meth.locks = false)  (hk27 : P_X10_clears_27 G l p e s m args below meth c h0 out r0 x1 k27) : P_X10_clears_51 G l p e s m args below meth c h0 out r0 x1 (f_X10_clears_51 r0 x1 k27) := by
  intro H locs ls h s0 x2 x3 x4 hf hE hR hS t_r0 z_s0 hl
  rw [f_X10_clears_51] at hf
  refine lv_istore (lv' := [(5, .int s0), (0, .ref (G.2.2 + r0)), (1, .int x1), (2, .int x2), (3, .int x3), (4, .int x4)]) C.x C.b dX10_clears_51 hl (by decide) rfl (fun ls hl => ?_)
  refine lv_iload C.x C.b dX10_clears_53 (lv_at hl 0 rfl) ?_
  refine lv_if_ne (tgt := 67) C.x C.b dX10_clears_55 (by decide) (fun c13 => ?_) (fun c13 => ?_)
  · have hf := it_f hf c13
    exact w_X10_clears_67 C hr hlk hk27 _ _ _ _ _ _ _ _ hf hE hR hS t_r0 z_s0 (lv_sub hl [1, 2, 3, 4, 5, 0] rfl)
  · have hf := it_t hf c13
    refine lv_iload_n C.x C.b dX10_clears_58 rfl (lv_at hl 3 rfl) ?_
    refine lv_if_ge (tgt := 67) C.x C.b dX10_clears_59 (by decide) (fun c14 => ?_) (fun c14 => ?_)
    · have hf := it_t hf c14
      exact w_X10_clears_67 C hr hlk hk27 _ _ _ _ _ _ _ _ hf hE hR hS t_r0 z_s0 (lv_sub hl [1, 2, 3, 4, 5, 0] rfl)
    · have hf := it_f hf c14
      refine lv_iload C.x C.b dX10_clears_62 (lv_at hl 5 rfl) ?_
      refine lv_goto (tgt := 68) C.x C.b dX10_clears_64 (by decide) ?_
      exact w_X10_clears_68 C hr hlk hk27 _ _ _ _ _ _ _ _ hf hE hR hS t_r0 z_s0 (lv_sub hl [1, 2, 4, 5, 0] rfl)
set_option maxRecDepth 100000 in
set_option maxHeartbeats 4000000 in
theorem w_X10_clears_27 {G : Gt} {l : Launch} {p : Program} {e : Env} {s : State} {m : MethodId} {args : Array Value} {below : List Frame} {meth : Method} {c : Code}  {h0 : Hp} {out : (Int32 × Hp)} {r0 : Nat} {x1 : Int32}  (C : Cx G p m c cX10_clears 6 s args RX10) (hr : meth.sig.returnType = some .int) (hlk : meth.locks = false)   (n : Nat) : P_X10_clears_27 G l p e s m args below meth c h0 out r0 x1 (f_X10_clears_27 r0 x1 n) := by
  induction n with
  | zero => intro H locs ls h x2 x3 x4 hf hE hR hS t_r0 hl; cases hf
  | succ n hk27 =>
    intro H locs ls h x2 x3 x4 hf hE hR hS t_r0 hl
    rw [f_X10_clears_27] at hf
    obtain ⟨k27, e_k27⟩ : ∃ y, y = f_X10_clears_27 r0 x1 n := ⟨_, rfl⟩
    have hf := lt_e hf e_k27
    rw [← e_k27] at hk27
    refine lv_iload C.x C.b dX10_clears_27 (lv_at hl 4 rfl) ?_
    refine lv_bipush (v := (99 : Int32)) C.x C.b dX10_clears_29 (by decide) ?_
    refine lv_icmp_gt (tgt := 91) C.x C.b dX10_clears_31 (by decide) (fun c5 => ?_) (fun c5 => ?_)
    · have hf := it_t hf c5
      refine lv_iload_n C.x C.b dX10_clears_91 rfl (lv_at hl 2 rfl) ?_
      refine lv_if_lt (tgt := 106) C.x C.b dX10_clears_92 (by decide) (fun c6 => ?_) (fun c6 => ?_)
      · have hf := it_t hf c6
        refine lv_iload_n C.x C.b dX10_clears_106 rfl (lv_at hl 2 rfl) ?_
        have hf := so_e hf
        subst hf
        exact r_iret C hr hlk hR hE hS dX10_clears_107
      · have hf := it_f hf c6
        refine lv_aload_n C.x C.b dX10_clears_95 rfl (lv_at hl 0 rfl) ?_
        refine lv_iconst (v := (0 : Int32)) C.x C.b dX10_clears_96 (by decide) ?_
        refine r_puti C hR hS t_r0 fl_X10_110 fp_X10_10_1 rfl dX10_clears_97 (fun H locs hR hS => ?_)
        obtain ⟨h7, e_h7⟩ : ∃ y, y = upI h r0 1 (0 : Int32) := ⟨_, rfl⟩
        rw [← e_h7] at hR
        have hf := lt_e hf e_h7
        have hE := eI e_h7 hE
        have t_r0 := tI e_h7 t_r0
        refine lv_aload_n C.x C.b dX10_clears_100 rfl (lv_at hl 0 rfl) ?_
        refine lv_iload_n C.x C.b dX10_clears_101 rfl (lv_at hl 3 rfl) ?_
        refine lv_i2l C.x C.b dX10_clears_102 rfl ?_
        obtain ⟨q8, h_q8, hf⟩ := bd_e hf
        refine r_callV (As := [.long (x3.toInt64)]) (rest := []) C hR hS t_r0 rfl mk_X10_enters cl_X10_339 (k_X10_enters t_r0 h_q8) ⟨⟨Nat.le_of_ble_eq_true rfl, Nat.le_of_ble_eq_true rfl⟩, ⟨rfl, rfl⟩, Nat.le_of_ble_eq_true rfl, Nat.le_of_ble_eq_true rfl⟩ rfl hl.1 rfl (Nat.le_of_ble_eq_true rfl) dX10_clears_103 (fun H locs hR hS hE1 z_q8 => ?_)
        have hE := hE.tr hE1
        have t_r0 := hE1.at t_r0 (by decide)
        refine lv_iload_n C.x C.b dX10_clears_106 rfl (lv_at hl 2 rfl) ?_
        have hf := so_e hf
        subst hf
        exact r_iret C hr hlk hR hE hS dX10_clears_107
    · have hf := it_f hf c5
      refine lv_aload_n C.x C.b dX10_clears_34 rfl (lv_at hl 0 rfl) ?_
      refine lv_aload_n C.x C.b dX10_clears_35 rfl (lv_at hl 0 rfl) ?_
      obtain ⟨g9, hf⟩ := gd_e hf
      refine r_getr C hR t_r0 fl_X10_24 (by decide) (nz_e g9) dX10_clears_36 (fun tq10 => ?_)
      have tg9 := okA tq10 rfl
      refine lv_iload_n C.x C.b dX10_clears_39 rfl (lv_at hl 1 rfl) ?_
      obtain ⟨q11, h_q11, hf⟩ := bd_e hf
      refine r_callV (As := [.ref (G.2.2 + (hpR h r0 7)), .int x1]) (rest := []) C hR hS t_r0 rfl mk_X10_campsOver cl_X10_294 (k_X10_campsOver t_r0 tg9 h_q11) ⟨⟨Nat.le_of_ble_eq_true rfl, Nat.le_of_ble_eq_true rfl⟩, ⟨rfl, rfl⟩, Nat.le_of_ble_eq_true rfl, Nat.le_of_ble_eq_true rfl⟩ rfl hl.1 rfl (Nat.le_of_ble_eq_true rfl) dX10_clears_40 (fun H locs hR hS hE1 z_q11 => ?_)
      refine lv_if_eq (tgt := 50) C.x C.b dX10_clears_43 (by decide) (fun c12 => ?_) (fun c12 => ?_)
      · simp only [if_pos c12] at hf
        refine lv_iconst (v := (0 : Int32)) C.x C.b dX10_clears_50 (by decide) ?_
        exact w_X10_clears_51 C hr hlk hk27 _ _ _ _ _ _ _ _ hf hE hR hS t_r0 z_0 (lv_sub hl [0, 1, 2, 3, 4] rfl)
      · simp only [if_neg c12] at hf
        refine lv_iconst (v := (1 : Int32)) C.x C.b dX10_clears_46 (by decide) ?_
        refine lv_goto (tgt := 51) C.x C.b dX10_clears_47 (by decide) ?_
        exact w_X10_clears_51 C hr hlk hk27 _ _ _ _ _ _ _ _ hf hE hR hS t_r0 z_1 (lv_sub hl [0, 1, 2, 3, 4] rfl)
set_option maxRecDepth 100000 in
set_option maxHeartbeats 4000000 in
theorem k_X10_clears {G : Gt} {l : Launch}  {h : Hp} {r0 : Nat} {x1 : Int32} {out : (Int32 × Hp)} (t_r0 : hpT h r0 = (1, 10))  (hf : f_X10_clears  h r0 x1 = some out) : Mt G l yX10_clears cX10_clears 6 (some .int) rm_X10_clears [.ref (G.2.2 + r0), .int x1] h (some (.int out.1)) out.2 0 0 0 := by
  refine r_met (by decide +kernel) (Nat.le_of_ble_eq_true rfl) ?_
  intro p e s m args below meth c ls C hr hlk hnm hR hS hl
  have hE : Ext h h := Ext.rf
  have hl : lv_has ls 6 [(0, .ref (G.2.2 + r0)), (1, .int x1)] := hl
  rw [f_X10_clears] at hf
  refine lv_aload_n C.x C.b dX10_clears_0 rfl (lv_at hl 0 rfl) ?_
  refine lv_iconst (v := (0 : Int32)) C.x C.b dX10_clears_1 (by decide) ?_
  refine r_puti C hR hS t_r0 fl_X10_103 fp_X10_10_0 rfl dX10_clears_2 (fun H locs hR hS => ?_)
  obtain ⟨h1, e_h1⟩ : ∃ y, y = upI h r0 0 (0 : Int32) := ⟨_, rfl⟩
  rw [← e_h1] at hR
  have hf := lt_e hf e_h1
  have hE := eI e_h1 hE
  have t_r0 := tI e_h1 t_r0
  refine lv_aload_n C.x C.b dX10_clears_5 rfl (lv_at hl 0 rfl) ?_
  refine lv_iload_n C.x C.b dX10_clears_6 rfl (lv_at hl 1 rfl) ?_
  obtain ⟨q2, h_q2, hf⟩ := bd_e hf
  refine r_callV (As := [.int x1]) (rest := []) C hR hS t_r0 rfl mk_X10_isCell cl_X10_289 (k_X10_isCell t_r0 h_q2) ⟨⟨Nat.le_of_ble_eq_true rfl, Nat.le_of_ble_eq_true rfl⟩, ⟨rfl, rfl⟩, Nat.le_of_ble_eq_true rfl, Nat.le_of_ble_eq_true rfl⟩ rfl hl.1 rfl (Nat.le_of_ble_eq_true rfl) dX10_clears_7 (fun H locs hR hS hE1 z_q2 => ?_)
  have z_q2 := z_q2 _ rfl
  refine lv_if_ne (tgt := 15) C.x C.b dX10_clears_10 (by decide) (fun c3 => ?_) (fun c3 => ?_)
  · have hf := it_f hf c3
    refine lv_aload_n C.x C.b dX10_clears_15 rfl (lv_at hl 0 rfl) ?_
    obtain ⟨q4, h_q4, hf⟩ := bd_e hf
    refine r_callV (As := []) (rest := []) C hR hS t_r0 rfl mk_X10_copies cl_X10_379 (k_X10_copies t_r0 h_q4) ⟨⟨Nat.le_of_ble_eq_true rfl, Nat.le_of_ble_eq_true rfl⟩, ⟨rfl, rfl⟩, Nat.le_of_ble_eq_true rfl, Nat.le_of_ble_eq_true rfl⟩ rfl hl.1 rfl (Nat.le_of_ble_eq_true rfl) dX10_clears_16 (fun H locs hR hS hE1 z_q4 => ?_)
    have hE := hE.tr hE1
    have t_r0 := hE1.at t_r0 (by decide)
    refine lv_bipush (v := (-2 : Int32)) C.x C.b dX10_clears_19 (by decide) ?_
    refine lv_istore_n (lv' := [(2, .int (-2 : Int32)), (0, .ref (G.2.2 + r0)), (1, .int x1)]) C.x C.b dX10_clears_21 rfl hl (by decide) rfl (fun ls hl => ?_)
    refine lv_iconst (v := (0 : Int32)) C.x C.b dX10_clears_22 (by decide) ?_
    refine lv_istore_n (lv' := [(3, .int (0 : Int32)), (2, .int (-2 : Int32)), (0, .ref (G.2.2 + r0)), (1, .int x1)]) C.x C.b dX10_clears_23 rfl hl (by decide) rfl (fun ls hl => ?_)
    refine lv_iconst (v := (0 : Int32)) C.x C.b dX10_clears_24 (by decide) ?_
    refine lv_istore (lv' := [(4, .int (0 : Int32)), (3, .int (0 : Int32)), (2, .int (-2 : Int32)), (0, .ref (G.2.2 + r0)), (1, .int x1)]) C.x C.b dX10_clears_25 hl (by decide) rfl (fun ls hl => ?_)
    exact w_X10_clears_27 C hr hlk FU _ _ _ _ _ _ _ hf hE hR hS t_r0 (lv_sub hl [3, 4, 2, 1, 0] rfl)
  · have hf := it_t hf c3
    refine lv_iconst (v := (-1 : Int32)) C.x C.b dX10_clears_13 (by decide) ?_
    have hf := so_e hf
    subst hf
    exact r_iret C hr hlk hR hE hS dX10_clears_14

def rm_X10_isSize : Room := { frames := 1, cells := 0, slots := 0, locals := 25 }
set_option maxRecDepth 100000 in
set_option maxHeartbeats 4000000 in
theorem k_X10_isSize {G : Gt} {l : Launch}  {h : Hp} {x0 : Int32} {x1 : Int32} {out : Int32}   (hf : f_X10_isSize  h x0 x1 = some out) : Mt G l yX10_isSize cX10_isSize 2 (some .boolean) rm_X10_isSize [.int x0, .int x1] h (some (.int out)) h 1 0 0 := by
  refine r_met (by decide +kernel) (Nat.le_of_ble_eq_true rfl) ?_
  intro p e s m args below meth c ls C hr hlk hnm hR hS hl
  have hl : lv_has ls 2 [(0, .int x0), (1, .int x1)] := hl
  rw [f_X10_isSize] at hf
  refine lv_iload_n C.x C.b dX10_isSize_0 rfl (lv_at hl 0 rfl) ?_
  refine lv_i2l C.x C.b dX10_isSize_1 rfl ?_
  refine lv_lconst (v := (1 : Int64)) C.x C.b dX10_isSize_2 (by decide) ?_
  refine lv_ldc2 C.x C.b C.ow (C.ts _ lk_X10_303) dX10_isSize_3 ?_
  obtain ⟨q1, h_q1, hf⟩ := bd_e hf
  refine r_callS (As := [.long (x0.toInt64), .long (1 : Int64), .long (3 : Int64)]) (rest := []) C hR hS mk_X10_in cl_X10_117 (k_X10_in h_q1) ⟨⟨Nat.le_of_ble_eq_true rfl, Nat.le_of_ble_eq_true rfl⟩, ⟨rfl, rfl⟩, Nat.le_of_ble_eq_true rfl, Nat.le_of_ble_eq_true rfl⟩ rfl hl.1 rfl (Nat.le_of_ble_eq_true rfl) dX10_isSize_6 (fun H locs hR hS hE1 z_q1 => ?_)
  have z_q1 := z_q1 _ rfl
  refine lv_if_eq (tgt := 28) C.x C.b dX10_isSize_9 (by decide) (fun c2 => ?_) (fun c2 => ?_)
  · have hf := it_t hf c2
    refine lv_iconst (v := (0 : Int32)) C.x C.b dX10_isSize_28 (by decide) ?_
    have hf := so_e hf
    subst hf
    exact r_zret C hr hlk hR Ext.rf hS z_0 dX10_isSize_29
  · have hf := it_f hf c2
    refine lv_iload_n C.x C.b dX10_isSize_12 rfl (lv_at hl 1 rfl) ?_
    refine lv_i2l C.x C.b dX10_isSize_13 rfl ?_
    refine lv_lconst (v := (1 : Int64)) C.x C.b dX10_isSize_14 (by decide) ?_
    refine lv_ldc2 C.x C.b C.ow (C.ts _ lk_X10_303) dX10_isSize_15 ?_
    obtain ⟨q3, h_q3, hf⟩ := bd_e hf
    refine r_callS (As := [.long (x1.toInt64), .long (1 : Int64), .long (3 : Int64)]) (rest := []) C hR hS mk_X10_in cl_X10_117 (k_X10_in h_q3) ⟨⟨Nat.le_of_ble_eq_true rfl, Nat.le_of_ble_eq_true rfl⟩, ⟨rfl, rfl⟩, Nat.le_of_ble_eq_true rfl, Nat.le_of_ble_eq_true rfl⟩ rfl hl.1 rfl (Nat.le_of_ble_eq_true rfl) dX10_isSize_18 (fun H locs hR hS hE1 z_q3 => ?_)
    have z_q3 := z_q3 _ rfl
    refine lv_if_eq (tgt := 28) C.x C.b dX10_isSize_21 (by decide) (fun c4 => ?_) (fun c4 => ?_)
    · have hf := it_t hf c4
      refine lv_iconst (v := (0 : Int32)) C.x C.b dX10_isSize_28 (by decide) ?_
      have hf := so_e hf
      subst hf
      exact r_zret C hr hlk hR Ext.rf hS z_0 dX10_isSize_29
    · have hf := it_f hf c4
      refine lv_iconst (v := (1 : Int32)) C.x C.b dX10_isSize_24 (by decide) ?_
      refine lv_goto (tgt := 29) C.x C.b dX10_isSize_25 (by decide) ?_
      have hf := so_e hf
      subst hf
      exact r_zret C hr hlk hR Ext.rf hS z_1 dX10_isSize_29

def rm_X10_roomOf : Room := { frames := 3, cells := 0, slots := 0, locals := 77 }
def P_X10_roomOf_67 (G : Gt) (l : Launch) (p : Program) (e : Env) (s : State) (m : MethodId) (args : Array Value) (below : List Frame) (meth : Method) (c : Code) (h0 : Hp) (out : (Int32 × Hp)) (r0 : Nat) (y1 : Int64) (x3 : Int32) (x4 : Int32) (k : Hp → Int32 → Int32 → Int32 → Int32 → Option (Int32 × Hp)) : Prop := ∀ (H : Heap) (locs : List Loc) (ls : Array Slot) (h : Hp) (s0 : Int32) (x6 : Int32) (x7 : Int32) (x8 : Int32), k h s0 x6 x7 x8 = some out → Ext h0 h → Rel G h H → va_S (AA G.2.2) s.heap H locs → hpT h r0 = (1, 10) → narrow .boolean (.int x8) = .int x8 → lv_has ls 9 [(0, .ref (G.2.2 + r0)), (1, .long y1), (3, .int x3), (4, .int x4), (6, .int x6), (7, .int x7), (8, .int x8)] → W p l e rm_X10_roomOf s m args below meth c H locs 0 0 (MQ below (Qm G h0 out.2 (some (.int out.1)) 0) args s 0 0 (AA G.2.2)) (F0 m 67 ls [.int s0])
def P_X10_roomOf_53 (G : Gt) (l : Launch) (p : Program) (e : Env) (s : State) (m : MethodId) (args : Array Value) (below : List Frame) (meth : Method) (c : Code) (h0 : Hp) (out : (Int32 × Hp)) (r0 : Nat) (y1 : Int64) (x3 : Int32) (x4 : Int32) (k : Hp → Int32 → Int32 → Int32 → Int32 → Option (Int32 × Hp)) : Prop := ∀ (H : Heap) (locs : List Loc) (ls : Array Slot) (h : Hp) (s0 : Int32) (x5 : Int32) (x6 : Int32) (x7 : Int32), k h s0 x5 x6 x7 = some out → Ext h0 h → Rel G h H → va_S (AA G.2.2) s.heap H locs → hpT h r0 = (1, 10) → narrow .boolean (.int s0) = .int s0 → lv_has ls 9 [(0, .ref (G.2.2 + r0)), (1, .long y1), (3, .int x3), (4, .int x4), (5, .int x5), (6, .int x6), (7, .int x7)] → W p l e rm_X10_roomOf s m args below meth c H locs 0 0 (MQ below (Qm G h0 out.2 (some (.int out.1)) 0) args s 0 0 (AA G.2.2)) (F0 m 53 ls [.int s0])
def P_X10_roomOf_52 (G : Gt) (l : Launch) (p : Program) (e : Env) (s : State) (m : MethodId) (args : Array Value) (below : List Frame) (meth : Method) (c : Code) (h0 : Hp) (out : (Int32 × Hp)) (r0 : Nat) (y1 : Int64) (x3 : Int32) (x4 : Int32) (k : Hp → Int32 → Int32 → Int32 → Option (Int32 × Hp)) : Prop := ∀ (H : Heap) (locs : List Loc) (ls : Array Slot) (h : Hp) (x5 : Int32) (x6 : Int32) (x7 : Int32), k h x5 x6 x7 = some out → Ext h0 h → Rel G h H → va_S (AA G.2.2) s.heap H locs → hpT h r0 = (1, 10) → lv_has ls 9 [(0, .ref (G.2.2 + r0)), (1, .long y1), (3, .int x3), (4, .int x4), (5, .int x5), (6, .int x6), (7, .int x7)] → W p l e rm_X10_roomOf s m args below meth c H locs 0 0 (MQ below (Qm G h0 out.2 (some (.int out.1)) 0) args s 0 0 (AA G.2.2)) (F0 m 52 ls [])
def P_X10_roomOf_15 (G : Gt) (l : Launch) (p : Program) (e : Env) (s : State) (m : MethodId) (args : Array Value) (below : List Frame) (meth : Method) (c : Code) (h0 : Hp) (out : (Int32 × Hp)) (r0 : Nat) (y1 : Int64) (x3 : Int32) (x4 : Int32) (k : Hp → Int32 → Int32 → Int32 → Option (Int32 × Hp)) : Prop := ∀ (H : Heap) (locs : List Loc) (ls : Array Slot) (h : Hp) (x5 : Int32) (x6 : Int32) (x7 : Int32), k h x5 x6 x7 = some out → Ext h0 h → Rel G h H → va_S (AA G.2.2) s.heap H locs → hpT h r0 = (1, 10) → lv_has ls 9 [(0, .ref (G.2.2 + r0)), (1, .long y1), (3, .int x3), (4, .int x4), (5, .int x5), (6, .int x6), (7, .int x7)] → W p l e rm_X10_roomOf s m args below meth c H locs 0 0 (MQ below (Qm G h0 out.2 (some (.int out.1)) 0) args s 0 0 (AA G.2.2)) (F0 m 15 ls [])
set_option maxRecDepth 100000 in
set_option maxHeartbeats 4000000 in
theorem w_X10_roomOf_67 {G : Gt} {l : Launch} {p : Program} {e : Env} {s : State} {m : MethodId} {args : Array Value} {below : List Frame} {meth : Method} {c : Code}  {h0 : Hp} {out : (Int32 × Hp)} {r0 : Nat} {y1 : Int64} {x3 : Int32} {x4 : Int32} {k15 : Hp → Int32 → Int32 → Int32 → Option (Int32 × Hp)} (C : Cx G p m c cX10_roomOf 9 s args RX10) (hr : meth.sig.returnType = some .int) (hlk : meth.locks = false)  (hk15 : P_X10_roomOf_15 G l p e s m args below meth c h0 out r0 y1 x3 x4 k15) : P_X10_roomOf_67 G l p e s m args below meth c h0 out r0 y1 x3 x4 (f_X10_roomOf_67 r0 y1 x3 x4 k15) := by
  intro H locs ls h s0 x6 x7 x8 hf hE hR hS t_r0 z_x8 hl
  rw [f_X10_roomOf_67] at hf
  refine lv_istore (lv' := [(5, .int s0), (0, .ref (G.2.2 + r0)), (1, .long y1), (3, .int x3), (4, .int x4), (6, .int x6), (7, .int x7), (8, .int x8)]) C.x C.b dX10_roomOf_67 hl (by decide) rfl (fun ls hl => ?_)
  refine lv_iload C.x C.b dX10_roomOf_69 (lv_at hl 5 rfl) ?_
  refine lv_iload C.x C.b dX10_roomOf_71 (lv_at hl 7 rfl) ?_
  obtain ⟨q12, h_q12, hf⟩ := bd_e hf
  refine r_callS (As := [.int x8]) (rest := [.int x6]) C hR hS mk_X10_flag cl_X10_163 (k_X10_flag h_q12) ⟨⟨Nat.le_of_ble_eq_true rfl, Nat.le_of_ble_eq_true rfl⟩, ⟨rfl, rfl⟩, Nat.le_of_ble_eq_true rfl, Nat.le_of_ble_eq_true rfl⟩ rfl hl.1 rfl (Nat.le_of_ble_eq_true rfl) dX10_roomOf_73 (fun H locs hR hS hE1 z_q12 => ?_)
  refine lv_iadd C.x C.b dX10_roomOf_76 ?_
  refine lv_topi (fun v13 e_v13 => ?_)
  have hf := lt_e hf e_v13
  refine lv_istore (lv' := [(6, .int v13), (5, .int s0), (0, .ref (G.2.2 + r0)), (1, .long y1), (3, .int x3), (4, .int x4), (7, .int x7), (8, .int x8)]) C.x C.b dX10_roomOf_77 hl (by decide) rfl (fun ls hl => ?_)
  obtain ⟨v14, e_v14⟩ : ∃ y : Int32, y = x7 + (-1 : Int32) := ⟨_, rfl⟩
  have hf := lt_e hf e_v14
  refine lv_iinc (v := v14) (lv' := [(7, .int v14), (6, .int v13), (5, .int s0), (0, .ref (G.2.2 + r0)), (1, .long y1), (3, .int x3), (4, .int x4), (8, .int x8)]) C.x C.b dX10_roomOf_79 hl (k := 6) rfl (by rw [e_v14]; rfl) (by decide) rfl (fun ls hl => ?_)
  refine lv_goto (tgt := 15) C.x C.b dX10_roomOf_82 (by decide) ?_
  exact hk15 _ _ _ _ _ _ _ hf hE hR hS t_r0 (lv_sub hl [3, 4, 5, 6, 2, 1, 0] rfl)
set_option maxRecDepth 100000 in
set_option maxHeartbeats 4000000 in
theorem w_X10_roomOf_53 {G : Gt} {l : Launch} {p : Program} {e : Env} {s : State} {m : MethodId} {args : Array Value} {below : List Frame} {meth : Method} {c : Code}  {h0 : Hp} {out : (Int32 × Hp)} {r0 : Nat} {y1 : Int64} {x3 : Int32} {x4 : Int32} {k15 : Hp → Int32 → Int32 → Int32 → Option (Int32 × Hp)} (C : Cx G p m c cX10_roomOf 9 s args RX10) (hr : meth.sig.returnType = some .int) (hlk : meth.locks = false)  (hk15 : P_X10_roomOf_15 G l p e s m args below meth c h0 out r0 y1 x3 x4 k15) : P_X10_roomOf_53 G l p e s m args below meth c h0 out r0 y1 x3 x4 (f_X10_roomOf_53 r0 y1 x3 x4 k15) := by
  intro H locs ls h s0 x5 x6 x7 hf hE hR hS t_r0 z_s0 hl
  rw [f_X10_roomOf_53] at hf
  refine lv_istore (lv' := [(8, .int s0), (0, .ref (G.2.2 + r0)), (1, .long y1), (3, .int x3), (4, .int x4), (5, .int x5), (6, .int x6), (7, .int x7)]) C.x C.b dX10_roomOf_53 hl (by decide) rfl (fun ls hl => ?_)
  refine lv_iload C.x C.b dX10_roomOf_55 (lv_at hl 0 rfl) ?_
  refine lv_if_eq (tgt := 65) C.x C.b dX10_roomOf_57 (by decide) (fun c11 => ?_) (fun c11 => ?_)
  · simp only [if_pos c11] at hf
    refine lv_iload C.x C.b dX10_roomOf_65 (lv_at hl 5 rfl) ?_
    exact w_X10_roomOf_67 C hr hlk hk15 _ _ _ _ _ _ _ _ hf hE hR hS t_r0 z_s0 (lv_sub hl [1, 2, 3, 4, 6, 7, 0] rfl)
  · simp only [if_neg c11] at hf
    refine lv_iload C.x C.b dX10_roomOf_60 (lv_at hl 7 rfl) ?_
    refine lv_goto (tgt := 67) C.x C.b dX10_roomOf_62 (by decide) ?_
    exact w_X10_roomOf_67 C hr hlk hk15 _ _ _ _ _ _ _ _ hf hE hR hS t_r0 z_s0 (lv_sub hl [1, 2, 3, 4, 6, 7, 0] rfl)
set_option maxRecDepth 100000 in
set_option maxHeartbeats 4000000 in
theorem w_X10_roomOf_52 {G : Gt} {l : Launch} {p : Program} {e : Env} {s : State} {m : MethodId} {args : Array Value} {below : List Frame} {meth : Method} {c : Code}  {h0 : Hp} {out : (Int32 × Hp)} {r0 : Nat} {y1 : Int64} {x3 : Int32} {x4 : Int32} {k15 : Hp → Int32 → Int32 → Int32 → Option (Int32 × Hp)} (C : Cx G p m c cX10_roomOf 9 s args RX10) (hr : meth.sig.returnType = some .int) (hlk : meth.locks = false)  (hk15 : P_X10_roomOf_15 G l p e s m args below meth c h0 out r0 y1 x3 x4 k15) : P_X10_roomOf_52 G l p e s m args below meth c h0 out r0 y1 x3 x4 (f_X10_roomOf_52 r0 y1 x3 x4 k15) := by
  intro H locs ls h x5 x6 x7 hf hE hR hS t_r0 hl
  rw [f_X10_roomOf_52] at hf
  refine lv_iconst (v := (0 : Int32)) C.x C.b dX10_roomOf_52 (by decide) ?_
  exact w_X10_roomOf_53 C hr hlk hk15 _ _ _ _ _ _ _ _ hf hE hR hS t_r0 z_0 (lv_sub hl [0, 1, 2, 3, 4, 5, 6] rfl)
set_option maxRecDepth 100000 in
set_option maxHeartbeats 4000000 in
theorem w_X10_roomOf_15 {G : Gt} {l : Launch} {p : Program} {e : Env} {s : State} {m : MethodId} {args : Array Value} {below : List Frame} {meth : Method} {c : Code}  {h0 : Hp} {out : (Int32 × Hp)} {r0 : Nat} {y1 : Int64} {x3 : Int32} {x4 : Int32}  (C : Cx G p m c cX10_roomOf 9 s args RX10) (hr : meth.sig.returnType = some .int) (hlk : meth.locks = false)   (n : Nat) : P_X10_roomOf_15 G l p e s m args below meth c h0 out r0 y1 x3 x4 (f_X10_roomOf_15 r0 y1 x3 x4 n) := by
  induction n with
  | zero => intro H locs ls h x5 x6 x7 hf hE hR hS t_r0 hl; cases hf
  | succ n hk15 =>
    intro H locs ls h x5 x6 x7 hf hE hR hS t_r0 hl
    rw [f_X10_roomOf_15] at hf
    obtain ⟨k15, e_k15⟩ : ∃ y, y = f_X10_roomOf_15 r0 y1 x3 x4 n := ⟨_, rfl⟩
    have hf := lt_e hf e_k15
    rw [← e_k15] at hk15
    refine lv_iload C.x C.b dX10_roomOf_15 (lv_at hl 6 rfl) ?_
    refine lv_if_lt (tgt := 85) C.x C.b dX10_roomOf_17 (by decide) (fun c3 => ?_) (fun c3 => ?_)
    · have hf := it_t hf c3
      refine lv_iload C.x C.b dX10_roomOf_85 (lv_at hl 4 rfl) ?_
      refine lv_if_lt (tgt := 102) C.x C.b dX10_roomOf_87 (by decide) (fun c4 => ?_) (fun c4 => ?_)
      · have hf := it_t hf c4
        refine lv_iload C.x C.b dX10_roomOf_102 (lv_at hl 4 rfl) ?_
        have hf := so_e hf
        subst hf
        exact r_iret C hr hlk hR hE hS dX10_roomOf_104
      · have hf := it_f hf c4
        refine lv_aload_n C.x C.b dX10_roomOf_90 rfl (lv_at hl 0 rfl) ?_
        refine lv_iconst (v := (0 : Int32)) C.x C.b dX10_roomOf_91 (by decide) ?_
        refine r_puti C hR hS t_r0 fl_X10_110 fp_X10_10_1 rfl dX10_roomOf_92 (fun H locs hR hS => ?_)
        obtain ⟨h5, e_h5⟩ : ∃ y, y = upI h r0 1 (0 : Int32) := ⟨_, rfl⟩
        rw [← e_h5] at hR
        have hf := lt_e hf e_h5
        have hE := eI e_h5 hE
        have t_r0 := tI e_h5 t_r0
        refine lv_aload_n C.x C.b dX10_roomOf_95 rfl (lv_at hl 0 rfl) ?_
        refine lv_iload C.x C.b dX10_roomOf_96 (lv_at hl 5 rfl) ?_
        refine lv_i2l C.x C.b dX10_roomOf_98 rfl ?_
        obtain ⟨q6, h_q6, hf⟩ := bd_e hf
        refine r_callV (As := [.long (x6.toInt64)]) (rest := []) C hR hS t_r0 rfl mk_X10_enters cl_X10_339 (k_X10_enters t_r0 h_q6) ⟨⟨Nat.le_of_ble_eq_true rfl, Nat.le_of_ble_eq_true rfl⟩, ⟨rfl, rfl⟩, Nat.le_of_ble_eq_true rfl, Nat.le_of_ble_eq_true rfl⟩ rfl hl.1 rfl (Nat.le_of_ble_eq_true rfl) dX10_roomOf_99 (fun H locs hR hS hE1 z_q6 => ?_)
        have hE := hE.tr hE1
        have t_r0 := hE1.at t_r0 (by decide)
        refine lv_iload C.x C.b dX10_roomOf_102 (lv_at hl 4 rfl) ?_
        have hf := so_e hf
        subst hf
        exact r_iret C hr hlk hR hE hS dX10_roomOf_104
    · have hf := it_f hf c3
      refine lv_aload_n C.x C.b dX10_roomOf_20 rfl (lv_at hl 0 rfl) ?_
      refine lv_iload C.x C.b dX10_roomOf_21 (lv_at hl 6 rfl) ?_
      refine lv_iload_n C.x C.b dX10_roomOf_23 rfl (lv_at hl 2 rfl) ?_
      refine lv_iload C.x C.b dX10_roomOf_24 (lv_at hl 3 rfl) ?_
      obtain ⟨q7, h_q7, hf⟩ := bd_e hf
      refine r_callV (As := [.int x7, .int x3, .int x4]) (rest := []) C hR hS t_r0 rfl mk_X10_isIn cl_X10_324 (k_X10_isIn t_r0 h_q7) ⟨⟨Nat.le_of_ble_eq_true rfl, Nat.le_of_ble_eq_true rfl⟩, ⟨rfl, rfl⟩, Nat.le_of_ble_eq_true rfl, Nat.le_of_ble_eq_true rfl⟩ rfl hl.1 rfl (Nat.le_of_ble_eq_true rfl) dX10_roomOf_26 (fun H locs hR hS hE1 z_q7 => ?_)
      have z_q7 := z_q7 _ rfl
      refine lv_if_eq (tgt := 52) C.x C.b dX10_roomOf_29 (by decide) (fun c8 => ?_) (fun c8 => ?_)
      · have hf := it_t hf c8
        exact w_X10_roomOf_52 C hr hlk hk15 _ _ _ _ _ _ _ hf hE hR hS t_r0 (lv_sub hl [0, 1, 2, 3, 4, 5, 6] rfl)
      · have hf := it_f hf c8
        refine lv_aload_n C.x C.b dX10_roomOf_32 rfl (lv_at hl 0 rfl) ?_
        refine lv_iload C.x C.b dX10_roomOf_33 (lv_at hl 6 rfl) ?_
        refine lv_iload_n C.x C.b dX10_roomOf_35 rfl (lv_at hl 2 rfl) ?_
        refine lv_iload C.x C.b dX10_roomOf_36 (lv_at hl 3 rfl) ?_
        obtain ⟨q9, h_q9, hf⟩ := bd_e hf
        refine r_callV (As := [.int x7, .int x3, .int x4]) (rest := []) C hR hS t_r0 rfl mk_X10_area cl_X10_125 (k_X10_area t_r0 h_q9) ⟨⟨Nat.le_of_ble_eq_true rfl, Nat.le_of_ble_eq_true rfl⟩, ⟨rfl, rfl⟩, Nat.le_of_ble_eq_true rfl, Nat.le_of_ble_eq_true rfl⟩ rfl hl.1 rfl (Nat.le_of_ble_eq_true rfl) dX10_roomOf_38 (fun H locs hR hS hE1 z_q9 => ?_)
        refine lv_lload_n C.x C.b dX10_roomOf_41 rfl (lv_at hl 1 rfl) ?_
        refine lv_land C.x C.b dX10_roomOf_42 ?_
        refine lv_lconst (v := (0 : Int64)) C.x C.b dX10_roomOf_43 (by decide) ?_
        refine W.lcmp C.x C.b dX10_roomOf_44 ?_
        refine lv_if_ne (tgt := 52) C.x C.b dX10_roomOf_45 (by decide) (fun c10 => ?_) (fun c10 => ?_)
        · have hf := it_f hf c10
          exact w_X10_roomOf_52 C hr hlk hk15 _ _ _ _ _ _ _ hf hE hR hS t_r0 (lv_sub hl [0, 1, 2, 3, 4, 5, 6] rfl)
        · have hf := it_t hf c10
          refine lv_iconst (v := (1 : Int32)) C.x C.b dX10_roomOf_48 (by decide) ?_
          refine lv_goto (tgt := 53) C.x C.b dX10_roomOf_49 (by decide) ?_
          exact w_X10_roomOf_53 C hr hlk hk15 _ _ _ _ _ _ _ _ hf hE hR hS t_r0 z_1 (lv_sub hl [0, 1, 2, 3, 4, 5, 6] rfl)
set_option maxRecDepth 100000 in
set_option maxHeartbeats 4000000 in
theorem k_X10_roomOf {G : Gt} {l : Launch}  {h : Hp} {r0 : Nat} {y1 : Int64} {x3 : Int32} {x4 : Int32} {out : (Int32 × Hp)} (t_r0 : hpT h r0 = (1, 10))  (hf : f_X10_roomOf  h r0 y1 x3 x4 = some out) : Mt G l yX10_roomOf cX10_roomOf 9 (some .int) rm_X10_roomOf [.ref (G.2.2 + r0), .long y1, .int x3, .int x4] h (some (.int out.1)) out.2 0 0 0 := by
  refine r_met (by decide +kernel) (Nat.le_of_ble_eq_true rfl) ?_
  intro p e s m args below meth c ls C hr hlk hnm hR hS hl
  have hE : Ext h h := Ext.rf
  have hl : lv_has ls 9 [(0, .ref (G.2.2 + r0)), (1, .long y1), (3, .int x3), (4, .int x4)] := hl
  rw [f_X10_roomOf] at hf
  refine lv_bipush (v := (-2 : Int32)) C.x C.b dX10_roomOf_0 (by decide) ?_
  refine lv_istore (lv' := [(5, .int (-2 : Int32)), (0, .ref (G.2.2 + r0)), (1, .long y1), (3, .int x3), (4, .int x4)]) C.x C.b dX10_roomOf_2 hl (by decide) rfl (fun ls hl => ?_)
  refine lv_iconst (v := (0 : Int32)) C.x C.b dX10_roomOf_4 (by decide) ?_
  refine lv_istore (lv' := [(6, .int (0 : Int32)), (5, .int (-2 : Int32)), (0, .ref (G.2.2 + r0)), (1, .long y1), (3, .int x3), (4, .int x4)]) C.x C.b dX10_roomOf_5 hl (by decide) rfl (fun ls hl => ?_)
  refine lv_aload_n C.x C.b dX10_roomOf_7 rfl (lv_at hl 2 rfl) ?_
  obtain ⟨q1, h_q1, hf⟩ := bd_e hf
  refine r_callV (As := []) (rest := []) C hR hS t_r0 rfl mk_X10_cells cl_X10_113 (k_X10_cells t_r0 h_q1) ⟨⟨Nat.le_of_ble_eq_true rfl, Nat.le_of_ble_eq_true rfl⟩, ⟨rfl, rfl⟩, Nat.le_of_ble_eq_true rfl, Nat.le_of_ble_eq_true rfl⟩ rfl hl.1 rfl (Nat.le_of_ble_eq_true rfl) dX10_roomOf_8 (fun H locs hR hS hE1 z_q1 => ?_)
  refine lv_iconst (v := (1 : Int32)) C.x C.b dX10_roomOf_11 (by decide) ?_
  refine lv_isub C.x C.b dX10_roomOf_12 ?_
  refine lv_topi (fun v2 e_v2 => ?_)
  have hf := lt_e hf e_v2
  refine lv_istore (lv' := [(7, .int v2), (6, .int (0 : Int32)), (5, .int (-2 : Int32)), (0, .ref (G.2.2 + r0)), (1, .long y1), (3, .int x3), (4, .int x4)]) C.x C.b dX10_roomOf_13 hl (by decide) rfl (fun ls hl => ?_)
  exact w_X10_roomOf_15 C hr hlk FU _ _ _ _ _ _ _ hf hE hR hS t_r0 (lv_sub hl [3, 4, 5, 6, 2, 1, 0] rfl)

def rm_X10_room : Room := { frames := 5, cells := 0, slots := 0, locals := 124 }
set_option maxRecDepth 100000 in
set_option maxHeartbeats 4000000 in
theorem k_X10_room {G : Gt} {l : Launch}  {h : Hp} {r0 : Nat} {x1 : Int32} {x2 : Int32} {out : (Int32 × Hp)} (t_r0 : hpT h r0 = (1, 10))  (hf : f_X10_room  h r0 x1 x2 = some out) : Mt G l yX10_room cX10_room 3 (some .int) rm_X10_room [.ref (G.2.2 + r0), .int x1, .int x2] h (some (.int out.1)) out.2 0 0 0 := by
  refine r_met (by decide +kernel) (Nat.le_of_ble_eq_true rfl) ?_
  intro p e s m args below meth c ls C hr hlk hnm hR hS hl
  have hE : Ext h h := Ext.rf
  have hl : lv_has ls 3 [(0, .ref (G.2.2 + r0)), (1, .int x1), (2, .int x2)] := hl
  rw [f_X10_room] at hf
  refine lv_aload_n C.x C.b dX10_room_0 rfl (lv_at hl 0 rfl) ?_
  refine lv_iconst (v := (0 : Int32)) C.x C.b dX10_room_1 (by decide) ?_
  refine r_puti C hR hS t_r0 fl_X10_103 fp_X10_10_0 rfl dX10_room_2 (fun H locs hR hS => ?_)
  obtain ⟨h1, e_h1⟩ : ∃ y, y = upI h r0 0 (0 : Int32) := ⟨_, rfl⟩
  rw [← e_h1] at hR
  have hf := lt_e hf e_h1
  have hE := eI e_h1 hE
  have t_r0 := tI e_h1 t_r0
  refine lv_iload_n C.x C.b dX10_room_5 rfl (lv_at hl 1 rfl) ?_
  refine lv_iload_n C.x C.b dX10_room_6 rfl (lv_at hl 2 rfl) ?_
  obtain ⟨q2, h_q2, hf⟩ := bd_e hf
  refine r_callS (As := [.int x1, .int x2]) (rest := []) C hR hS mk_X10_isSize cl_X10_384 (k_X10_isSize h_q2) ⟨⟨Nat.le_of_ble_eq_true rfl, Nat.le_of_ble_eq_true rfl⟩, ⟨rfl, rfl⟩, Nat.le_of_ble_eq_true rfl, Nat.le_of_ble_eq_true rfl⟩ rfl hl.1 rfl (Nat.le_of_ble_eq_true rfl) dX10_room_7 (fun H locs hR hS hE1 z_q2 => ?_)
  have z_q2 := z_q2 _ rfl
  refine lv_if_eq (tgt := 33) C.x C.b dX10_room_10 (by decide) (fun c3 => ?_) (fun c3 => ?_)
  · have hf := it_t hf c3
    refine lv_iconst (v := (-1 : Int32)) C.x C.b dX10_room_33 (by decide) ?_
    have hf := so_e hf
    subst hf
    exact r_iret C hr hlk hR hE hS dX10_room_34
  · have hf := it_f hf c3
    refine lv_aload_n C.x C.b dX10_room_13 rfl (lv_at hl 0 rfl) ?_
    refine lv_aload_n C.x C.b dX10_room_14 rfl (lv_at hl 0 rfl) ?_
    refine lv_aload_n C.x C.b dX10_room_15 rfl (lv_at hl 0 rfl) ?_
    obtain ⟨g4, hf⟩ := gd_e hf
    refine r_getr C hR t_r0 fl_X10_20 (by decide) (nz_e g4) dX10_room_16 (fun tq5 => ?_)
    have tg4 := okA tq5 rfl
    refine lv_sipush (v := (255 : Int32)) C.x C.b dX10_room_19 (by decide) ?_
    obtain ⟨q6, h_q6, hf⟩ := bd_e hf
    refine r_callV (As := [.ref (G.2.2 + (hpR h1 r0 6)), .int (255 : Int32)]) (rest := [.ref (G.2.2 + r0)]) C hR hS t_r0 rfl mk_X10_sleptBy cl_X10_328 (k_X10_sleptBy t_r0 tg4 h_q6) ⟨⟨Nat.le_of_ble_eq_true rfl, Nat.le_of_ble_eq_true rfl⟩, ⟨rfl, rfl⟩, Nat.le_of_ble_eq_true rfl, Nat.le_of_ble_eq_true rfl⟩ rfl hl.1 rfl (Nat.le_of_ble_eq_true rfl) dX10_room_22 (fun H locs hR hS hE1 z_q6 => ?_)
    refine lv_iload_n C.x C.b dX10_room_25 rfl (lv_at hl 1 rfl) ?_
    refine lv_iload_n C.x C.b dX10_room_26 rfl (lv_at hl 2 rfl) ?_
    obtain ⟨q7, h_q7, hf⟩ := bd_e hf
    refine r_callV (As := [.long q6, .int x1, .int x2]) (rest := []) C hR hS t_r0 rfl mk_X10_roomOf cl_X10_388 (k_X10_roomOf t_r0 h_q7) ⟨⟨Nat.le_of_ble_eq_true rfl, Nat.le_of_ble_eq_true rfl⟩, ⟨rfl, rfl⟩, Nat.le_of_ble_eq_true rfl, Nat.le_of_ble_eq_true rfl⟩ rfl hl.1 rfl (Nat.le_of_ble_eq_true rfl) dX10_room_27 (fun H locs hR hS hE1 z_q7 => ?_)
    have hE := hE.tr hE1
    have t_r0 := hE1.at t_r0 (by decide)
    refine lv_goto (tgt := 34) C.x C.b dX10_room_30 (by decide) ?_
    have hf := so_e hf
    subst hf
    exact r_iret C hr hlk hR hE hS dX10_room_34

def rm_X10_when : Room := { frames := 7, cells := 0, slots := 0, locals := 171 }
def P_X10_when_21 (G : Gt) (l : Launch) (p : Program) (e : Env) (s : State) (m : MethodId) (args : Array Value) (below : List Frame) (meth : Method) (c : Code) (h0 : Hp) (out : (Int32 × Hp)) (r0 : Nat) (x1 : Int32) (x2 : Int32) (k : Hp → Int32 → Option (Int32 × Hp)) : Prop := ∀ (H : Heap) (locs : List Loc) (ls : Array Slot) (h : Hp) (x3 : Int32), k h x3 = some out → Ext h0 h → Rel G h H → va_S (AA G.2.2) s.heap H locs → hpT h r0 = (1, 10) → lv_has ls 5 [(0, .ref (G.2.2 + r0)), (1, .int x1), (2, .int x2), (3, .int x3)] → W p l e rm_X10_when s m args below meth c H locs 0 0 (MQ below (Qm G h0 out.2 (some (.int out.1)) 0) args s 0 0 (AA G.2.2)) (F0 m 21 ls [])
set_option maxRecDepth 100000 in
set_option maxHeartbeats 4000000 in
theorem w_X10_when_21 {G : Gt} {l : Launch} {p : Program} {e : Env} {s : State} {m : MethodId} {args : Array Value} {below : List Frame} {meth : Method} {c : Code}  {h0 : Hp} {out : (Int32 × Hp)} {r0 : Nat} {x1 : Int32} {x2 : Int32}  (C : Cx G p m c cX10_when 5 s args RX10) (hr : meth.sig.returnType = some .int) (hlk : meth.locks = false)   (n : Nat) : P_X10_when_21 G l p e s m args below meth c h0 out r0 x1 x2 (f_X10_when_21 r0 x1 x2 n) := by
  induction n with
  | zero => intro H locs ls h x3 hf hE hR hS t_r0 hl; cases hf
  | succ n hk21 =>
    intro H locs ls h x3 hf hE hR hS t_r0 hl
    rw [f_X10_when_21] at hf
    obtain ⟨k21, e_k21⟩ : ∃ y, y = f_X10_when_21 r0 x1 x2 n := ⟨_, rfl⟩
    have hf := lt_e hf e_k21
    rw [← e_k21] at hk21
    refine lv_iload_n C.x C.b dX10_when_21 rfl (lv_at hl 3 rfl) ?_
    refine lv_bipush (v := (99 : Int32)) C.x C.b dX10_when_22 (by decide) ?_
    refine lv_icmp_gt (tgt := 79) C.x C.b dX10_when_24 (by decide) (fun c5 => ?_) (fun c5 => ?_)
    · have hf := it_t hf c5
      refine lv_bipush (v := (-2 : Int32)) C.x C.b dX10_when_79 (by decide) ?_
      have hf := so_e hf
      subst hf
      exact r_iret C hr hlk hR hE hS dX10_when_81
    · have hf := it_f hf c5
      refine lv_aload_n C.x C.b dX10_when_27 rfl (lv_at hl 0 rfl) ?_
      refine lv_aload_n C.x C.b dX10_when_28 rfl (lv_at hl 0 rfl) ?_
      refine lv_aload_n C.x C.b dX10_when_29 rfl (lv_at hl 0 rfl) ?_
      obtain ⟨g6, hf⟩ := gd_e hf
      refine r_getr C hR t_r0 fl_X10_24 (by decide) (nz_e g6) dX10_when_30 (fun tq7 => ?_)
      have tg6 := okA tq7 rfl
      refine lv_sipush (v := (255 : Int32)) C.x C.b dX10_when_33 (by decide) ?_
      obtain ⟨q8, h_q8, hf⟩ := bd_e hf
      refine r_callV (As := [.ref (G.2.2 + (hpR h r0 7)), .int (255 : Int32)]) (rest := [.ref (G.2.2 + r0)]) C hR hS t_r0 rfl mk_X10_sleptBy cl_X10_328 (k_X10_sleptBy t_r0 tg6 h_q8) ⟨⟨Nat.le_of_ble_eq_true rfl, Nat.le_of_ble_eq_true rfl⟩, ⟨rfl, rfl⟩, Nat.le_of_ble_eq_true rfl, Nat.le_of_ble_eq_true rfl⟩ rfl hl.1 rfl (Nat.le_of_ble_eq_true rfl) dX10_when_36 (fun H locs hR hS hE1 z_q8 => ?_)
      refine lv_iload_n C.x C.b dX10_when_39 rfl (lv_at hl 1 rfl) ?_
      refine lv_iload_n C.x C.b dX10_when_40 rfl (lv_at hl 2 rfl) ?_
      obtain ⟨q9, h_q9, hf⟩ := bd_e hf
      refine r_callV (As := [.long q8, .int x1, .int x2]) (rest := []) C hR hS t_r0 rfl mk_X10_roomOf cl_X10_388 (k_X10_roomOf t_r0 h_q9) ⟨⟨Nat.le_of_ble_eq_true rfl, Nat.le_of_ble_eq_true rfl⟩, ⟨rfl, rfl⟩, Nat.le_of_ble_eq_true rfl, Nat.le_of_ble_eq_true rfl⟩ rfl hl.1 rfl (Nat.le_of_ble_eq_true rfl) dX10_when_41 (fun H locs hR hS hE1 z_q9 => ?_)
      have hE := hE.tr hE1
      have t_r0 := hE1.at t_r0 (by decide)
      refine lv_istore (lv' := [(4, .int q9.1), (0, .ref (G.2.2 + r0)), (1, .int x1), (2, .int x2), (3, .int x3)]) C.x C.b dX10_when_44 hl (by decide) rfl (fun ls hl => ?_)
      refine lv_iload C.x C.b dX10_when_46 (lv_at hl 0 rfl) ?_
      refine lv_if_lt (tgt := 65) C.x C.b dX10_when_48 (by decide) (fun c10 => ?_) (fun c10 => ?_)
      · have hf := it_t hf c10
        refine lv_aload_n C.x C.b dX10_when_65 rfl (lv_at hl 1 rfl) ?_
        refine lv_aload_n C.x C.b dX10_when_66 rfl (lv_at hl 1 rfl) ?_
        obtain ⟨g11, hf⟩ := gd_e hf
        refine r_getr C hR t_r0 fl_X10_24 (by decide) (nz_e g11) dX10_when_67 (fun tq12 => ?_)
        have tg11 := okA tq12 rfl
        obtain ⟨q13, h_q13, hf⟩ := bd_e hf
        refine r_callV (As := [.ref (G.2.2 + (hpR q9.2 r0 7))]) (rest := []) C hR hS t_r0 rfl mk_X10_yearGoes cl_X10_318 (k_X10_yearGoes t_r0 tg11 h_q13) ⟨⟨Nat.le_of_ble_eq_true rfl, Nat.le_of_ble_eq_true rfl⟩, ⟨rfl, rfl⟩, Nat.le_of_ble_eq_true rfl, Nat.le_of_ble_eq_true rfl⟩ rfl hl.1 rfl (Nat.le_of_ble_eq_true rfl) dX10_when_70 (fun H locs hR hS hE1 z_q13 => ?_)
        have hE := hE.tr hE1
        have t_r0 := hE1.at t_r0 (by decide)
        obtain ⟨v14, e_v14⟩ : ∃ y : Int32, y = x3 + (1 : Int32) := ⟨_, rfl⟩
        have hf := lt_e hf e_v14
        refine lv_iinc (v := v14) (lv' := [(3, .int v14), (4, .int q9.1), (0, .ref (G.2.2 + r0)), (1, .int x1), (2, .int x2)]) C.x C.b dX10_when_73 hl (k := 4) rfl (by rw [e_v14]; rfl) (by decide) rfl (fun ls hl => ?_)
        refine lv_goto (tgt := 21) C.x C.b dX10_when_76 (by decide) ?_
        exact hk21 _ _ _ _ _ hf hE hR hS t_r0 (lv_sub hl [2, 3, 4, 0] rfl)
      · have hf := it_f hf c10
        refine lv_aload_n C.x C.b dX10_when_51 rfl (lv_at hl 1 rfl) ?_
        refine lv_iconst (v := (0 : Int32)) C.x C.b dX10_when_52 (by decide) ?_
        refine r_puti C hR hS t_r0 fl_X10_110 fp_X10_10_1 rfl dX10_when_53 (fun H locs hR hS => ?_)
        obtain ⟨h15, e_h15⟩ : ∃ y, y = upI q9.2 r0 1 (0 : Int32) := ⟨_, rfl⟩
        rw [← e_h15] at hR
        have hf := lt_e hf e_h15
        have hE := eI e_h15 hE
        have t_r0 := tI e_h15 t_r0
        refine lv_aload_n C.x C.b dX10_when_56 rfl (lv_at hl 1 rfl) ?_
        refine lv_iload C.x C.b dX10_when_57 (lv_at hl 0 rfl) ?_
        refine lv_i2l C.x C.b dX10_when_59 rfl ?_
        obtain ⟨q16, h_q16, hf⟩ := bd_e hf
        refine r_callV (As := [.long (q9.1.toInt64)]) (rest := []) C hR hS t_r0 rfl mk_X10_enters cl_X10_339 (k_X10_enters t_r0 h_q16) ⟨⟨Nat.le_of_ble_eq_true rfl, Nat.le_of_ble_eq_true rfl⟩, ⟨rfl, rfl⟩, Nat.le_of_ble_eq_true rfl, Nat.le_of_ble_eq_true rfl⟩ rfl hl.1 rfl (Nat.le_of_ble_eq_true rfl) dX10_when_60 (fun H locs hR hS hE1 z_q16 => ?_)
        have hE := hE.tr hE1
        have t_r0 := hE1.at t_r0 (by decide)
        refine lv_iload_n C.x C.b dX10_when_63 rfl (lv_at hl 4 rfl) ?_
        have hf := so_e hf
        subst hf
        exact r_iret C hr hlk hR hE hS dX10_when_64
set_option maxRecDepth 100000 in
set_option maxHeartbeats 4000000 in
theorem k_X10_when {G : Gt} {l : Launch}  {h : Hp} {r0 : Nat} {x1 : Int32} {x2 : Int32} {out : (Int32 × Hp)} (t_r0 : hpT h r0 = (1, 10))  (hf : f_X10_when  h r0 x1 x2 = some out) : Mt G l yX10_when cX10_when 5 (some .int) rm_X10_when [.ref (G.2.2 + r0), .int x1, .int x2] h (some (.int out.1)) out.2 0 0 0 := by
  refine r_met (by decide +kernel) (Nat.le_of_ble_eq_true rfl) ?_
  intro p e s m args below meth c ls C hr hlk hnm hR hS hl
  have hE : Ext h h := Ext.rf
  have hl : lv_has ls 5 [(0, .ref (G.2.2 + r0)), (1, .int x1), (2, .int x2)] := hl
  rw [f_X10_when] at hf
  refine lv_aload_n C.x C.b dX10_when_0 rfl (lv_at hl 0 rfl) ?_
  refine lv_iconst (v := (0 : Int32)) C.x C.b dX10_when_1 (by decide) ?_
  refine r_puti C hR hS t_r0 fl_X10_103 fp_X10_10_0 rfl dX10_when_2 (fun H locs hR hS => ?_)
  obtain ⟨h1, e_h1⟩ : ∃ y, y = upI h r0 0 (0 : Int32) := ⟨_, rfl⟩
  rw [← e_h1] at hR
  have hf := lt_e hf e_h1
  have hE := eI e_h1 hE
  have t_r0 := tI e_h1 t_r0
  refine lv_iload_n C.x C.b dX10_when_5 rfl (lv_at hl 1 rfl) ?_
  refine lv_iload_n C.x C.b dX10_when_6 rfl (lv_at hl 2 rfl) ?_
  obtain ⟨q2, h_q2, hf⟩ := bd_e hf
  refine r_callS (As := [.int x1, .int x2]) (rest := []) C hR hS mk_X10_isSize cl_X10_384 (k_X10_isSize h_q2) ⟨⟨Nat.le_of_ble_eq_true rfl, Nat.le_of_ble_eq_true rfl⟩, ⟨rfl, rfl⟩, Nat.le_of_ble_eq_true rfl, Nat.le_of_ble_eq_true rfl⟩ rfl hl.1 rfl (Nat.le_of_ble_eq_true rfl) dX10_when_7 (fun H locs hR hS hE1 z_q2 => ?_)
  have z_q2 := z_q2 _ rfl
  refine lv_if_ne (tgt := 15) C.x C.b dX10_when_10 (by decide) (fun c3 => ?_) (fun c3 => ?_)
  · have hf := it_f hf c3
    refine lv_aload_n C.x C.b dX10_when_15 rfl (lv_at hl 0 rfl) ?_
    obtain ⟨q4, h_q4, hf⟩ := bd_e hf
    refine r_callV (As := []) (rest := []) C hR hS t_r0 rfl mk_X10_copies cl_X10_379 (k_X10_copies t_r0 h_q4) ⟨⟨Nat.le_of_ble_eq_true rfl, Nat.le_of_ble_eq_true rfl⟩, ⟨rfl, rfl⟩, Nat.le_of_ble_eq_true rfl, Nat.le_of_ble_eq_true rfl⟩ rfl hl.1 rfl (Nat.le_of_ble_eq_true rfl) dX10_when_16 (fun H locs hR hS hE1 z_q4 => ?_)
    have hE := hE.tr hE1
    have t_r0 := hE1.at t_r0 (by decide)
    refine lv_iconst (v := (0 : Int32)) C.x C.b dX10_when_19 (by decide) ?_
    refine lv_istore_n (lv' := [(3, .int (0 : Int32)), (0, .ref (G.2.2 + r0)), (1, .int x1), (2, .int x2)]) C.x C.b dX10_when_20 rfl hl (by decide) rfl (fun ls hl => ?_)
    exact w_X10_when_21 C hr hlk FU _ _ _ _ _ hf hE hR hS t_r0 (lv_sub hl [1, 2, 3, 0] rfl)
  · have hf := it_t hf c3
    refine lv_iconst (v := (-1 : Int32)) C.x C.b dX10_when_13 (by decide) ?_
    have hf := so_e hf
    subst hf
    exact r_iret C hr hlk hR hE hS dX10_when_14

def rm_X10_least : Room := { frames := 4, cells := 0, slots := 0, locals := 99 }
def P_X10_least_198 (G : Gt) (l : Launch) (p : Program) (e : Env) (s : State) (m : MethodId) (args : Array Value) (below : List Frame) (meth : Method) (c : Code) (h0 : Hp) (out : (Int32 × Hp)) (r0 : Nat) (x1 : Int32) (x2 : Int32) (k : Hp → Int32 → Int32 → Int32 → Int32 → Int32 → Option (Int32 × Hp)) : Prop := ∀ (H : Heap) (locs : List Loc) (ls : Array Slot) (h : Hp) (s0 : Int32) (s1 : Int32) (x3 : Int32) (x4 : Int32) (x6 : Int32), k h s0 s1 x3 x4 x6 = some out → Ext h0 h → Rel G h H → va_S (AA G.2.2) s.heap H locs → hpT h r0 = (1, 10) → lv_has ls 8 [(0, .ref (G.2.2 + r0)), (1, .int x1), (2, .int x2), (3, .int x3), (4, .int x4), (6, .int x6)] → W p l e rm_X10_least s m args below meth c H locs 0 0 (MQ below (Qm G h0 out.2 (some (.int out.1)) 0) args s 0 0 (AA G.2.2)) (F0 m 198 ls [.int s1, .int s0])
def P_X10_least_197 (G : Gt) (l : Launch) (p : Program) (e : Env) (s : State) (m : MethodId) (args : Array Value) (below : List Frame) (meth : Method) (c : Code) (h0 : Hp) (out : (Int32 × Hp)) (r0 : Nat) (x1 : Int32) (x2 : Int32) (k : Hp → Int32 → Int32 → Int32 → Int32 → Option (Int32 × Hp)) : Prop := ∀ (H : Heap) (locs : List Loc) (ls : Array Slot) (h : Hp) (s0 : Int32) (x3 : Int32) (x4 : Int32) (x6 : Int32), k h s0 x3 x4 x6 = some out → Ext h0 h → Rel G h H → va_S (AA G.2.2) s.heap H locs → hpT h r0 = (1, 10) → lv_has ls 8 [(0, .ref (G.2.2 + r0)), (1, .int x1), (2, .int x2), (3, .int x3), (4, .int x4), (6, .int x6)] → W p l e rm_X10_least s m args below meth c H locs 0 0 (MQ below (Qm G h0 out.2 (some (.int out.1)) 0) args s 0 0 (AA G.2.2)) (F0 m 197 ls [.int s0])
def P_X10_least_141 (G : Gt) (l : Launch) (p : Program) (e : Env) (s : State) (m : MethodId) (args : Array Value) (below : List Frame) (meth : Method) (c : Code) (h0 : Hp) (out : (Int32 × Hp)) (r0 : Nat) (x1 : Int32) (x2 : Int32) (k : Hp → Int32 → Int32 → Int32 → Int32 → Option (Int32 × Hp)) : Prop := ∀ (H : Heap) (locs : List Loc) (ls : Array Slot) (h : Hp) (x3 : Int32) (x4 : Int32) (x5 : Int32) (x6 : Int32), k h x3 x4 x5 x6 = some out → Ext h0 h → Rel G h H → va_S (AA G.2.2) s.heap H locs → hpT h r0 = (1, 10) → lv_has ls 8 [(0, .ref (G.2.2 + r0)), (1, .int x1), (2, .int x2), (3, .int x3), (4, .int x4), (5, .int x5), (6, .int x6)] → W p l e rm_X10_least s m args below meth c H locs 0 0 (MQ below (Qm G h0 out.2 (some (.int out.1)) 0) args s 0 0 (AA G.2.2)) (F0 m 141 ls [])
def P_X10_least_122 (G : Gt) (l : Launch) (p : Program) (e : Env) (s : State) (m : MethodId) (args : Array Value) (below : List Frame) (meth : Method) (c : Code) (h0 : Hp) (out : (Int32 × Hp)) (r0 : Nat) (x1 : Int32) (x2 : Int32) (k : Hp → Int32 → Int32 → Int32 → Option (Int32 × Hp)) : Prop := ∀ (H : Heap) (locs : List Loc) (ls : Array Slot) (h : Hp) (x3 : Int32) (x4 : Int32) (x5 : Int32), k h x3 x4 x5 = some out → Ext h0 h → Rel G h H → va_S (AA G.2.2) s.heap H locs → hpT h r0 = (1, 10) → lv_has ls 8 [(0, .ref (G.2.2 + r0)), (1, .int x1), (2, .int x2), (3, .int x3), (4, .int x4), (5, .int x5)] → W p l e rm_X10_least s m args below meth c H locs 0 0 (MQ below (Qm G h0 out.2 (some (.int out.1)) 0) args s 0 0 (AA G.2.2)) (F0 m 122 ls [])
def P_X10_least_112 (G : Gt) (l : Launch) (p : Program) (e : Env) (s : State) (m : MethodId) (args : Array Value) (below : List Frame) (meth : Method) (c : Code) (h0 : Hp) (out : (Int32 × Hp)) (r0 : Nat) (x1 : Int32) (x2 : Int32) (k : Hp → Int32 → Int32 → Int32 → Int32 → Option (Int32 × Hp)) : Prop := ∀ (H : Heap) (locs : List Loc) (ls : Array Slot) (h : Hp) (s0 : Int32) (x4 : Int32) (x5 : Int32) (x6 : Int32), k h s0 x4 x5 x6 = some out → Ext h0 h → Rel G h H → va_S (AA G.2.2) s.heap H locs → hpT h r0 = (1, 10) → lv_has ls 8 [(0, .ref (G.2.2 + r0)), (1, .int x1), (2, .int x2), (4, .int x4), (5, .int x5), (6, .int x6)] → W p l e rm_X10_least s m args below meth c H locs 0 0 (MQ below (Qm G h0 out.2 (some (.int out.1)) 0) args s 0 0 (AA G.2.2)) (F0 m 112 ls [.int s0])
def P_X10_least_90 (G : Gt) (l : Launch) (p : Program) (e : Env) (s : State) (m : MethodId) (args : Array Value) (below : List Frame) (meth : Method) (c : Code) (h0 : Hp) (out : (Int32 × Hp)) (r0 : Nat) (x1 : Int32) (x2 : Int32) (k : Hp → Int32 → Int32 → Int32 → Int32 → Int32 → Int32 → Option (Int32 × Hp)) : Prop := ∀ (H : Heap) (locs : List Loc) (ls : Array Slot) (h : Hp) (s0 : Int32) (s1 : Int32) (x3 : Int32) (x4 : Int32) (x5 : Int32) (x7 : Int32), k h s0 s1 x3 x4 x5 x7 = some out → Ext h0 h → Rel G h H → va_S (AA G.2.2) s.heap H locs → hpT h r0 = (1, 10) → lv_has ls 8 [(0, .ref (G.2.2 + r0)), (1, .int x1), (2, .int x2), (3, .int x3), (4, .int x4), (5, .int x5), (7, .int x7)] → W p l e rm_X10_least s m args below meth c H locs 0 0 (MQ below (Qm G h0 out.2 (some (.int out.1)) 0) args s 0 0 (AA G.2.2)) (F0 m 90 ls [.int s1, .int s0])
def P_X10_least_52 (G : Gt) (l : Launch) (p : Program) (e : Env) (s : State) (m : MethodId) (args : Array Value) (below : List Frame) (meth : Method) (c : Code) (h0 : Hp) (out : (Int32 × Hp)) (r0 : Nat) (x1 : Int32) (x2 : Int32) (k : Hp → Int32 → Int32 → Int32 → Int32 → Int32 → Option (Int32 × Hp)) : Prop := ∀ (H : Heap) (locs : List Loc) (ls : Array Slot) (h : Hp) (x3 : Int32) (x4 : Int32) (x5 : Int32) (x6 : Int32) (x7 : Int32), k h x3 x4 x5 x6 x7 = some out → Ext h0 h → Rel G h H → va_S (AA G.2.2) s.heap H locs → hpT h r0 = (1, 10) → lv_has ls 8 [(0, .ref (G.2.2 + r0)), (1, .int x1), (2, .int x2), (3, .int x3), (4, .int x4), (5, .int x5), (6, .int x6), (7, .int x7)] → W p l e rm_X10_least s m args below meth c H locs 0 0 (MQ below (Qm G h0 out.2 (some (.int out.1)) 0) args s 0 0 (AA G.2.2)) (F0 m 52 ls [])
def P_X10_least_26 (G : Gt) (l : Launch) (p : Program) (e : Env) (s : State) (m : MethodId) (args : Array Value) (below : List Frame) (meth : Method) (c : Code) (h0 : Hp) (out : (Int32 × Hp)) (r0 : Nat) (x1 : Int32) (x2 : Int32) (k : Hp → Int32 → Int32 → Int32 → Option (Int32 × Hp)) : Prop := ∀ (H : Heap) (locs : List Loc) (ls : Array Slot) (h : Hp) (x3 : Int32) (x4 : Int32) (x5 : Int32), k h x3 x4 x5 = some out → Ext h0 h → Rel G h H → va_S (AA G.2.2) s.heap H locs → hpT h r0 = (1, 10) → lv_has ls 8 [(0, .ref (G.2.2 + r0)), (1, .int x1), (2, .int x2), (3, .int x3), (4, .int x4), (5, .int x5)] → W p l e rm_X10_least s m args below meth c H locs 0 0 (MQ below (Qm G h0 out.2 (some (.int out.1)) 0) args s 0 0 (AA G.2.2)) (F0 m 26 ls [])
set_option maxRecDepth 100000 in
set_option maxHeartbeats 4000000 in
theorem w_X10_least_198 {G : Gt} {l : Launch} {p : Program} {e : Env} {s : State} {m : MethodId} {args : Array Value} {below : List Frame} {meth : Method} {c : Code}  {h0 : Hp} {out : (Int32 × Hp)} {r0 : Nat} {x1 : Int32} {x2 : Int32} {k141 : Hp → Int32 → Int32 → Int32 → Int32 → Option (Int32 × Hp)} (C : Cx G p m c cX10_least 8 s args RX10) (hr : meth.sig.returnType = some .int) (hlk : meth.locks = false)  (hk141 : P_X10_least_141 G l p e s m args below meth c h0 out r0 x1 x2 k141) : P_X10_least_198 G l p e s m args below meth c h0 out r0 x1 x2 (f_X10_least_198 r0 x1 x2 k141) := by
  intro H locs ls h s0 s1 x3 x4 x6 hf hE hR hS t_r0 hl
  rw [f_X10_least_198] at hf
  refine lv_ior C.x C.b dX10_least_198 ?_
  refine lv_topi (fun v36 e_v36 => ?_)
  have hf := lt_e hf e_v36
  refine lv_istore (lv' := [(5, .int v36), (0, .ref (G.2.2 + r0)), (1, .int x1), (2, .int x2), (3, .int x3), (4, .int x4), (6, .int x6)]) C.x C.b dX10_least_199 hl (by decide) rfl (fun ls hl => ?_)
  obtain ⟨v37, e_v37⟩ : ∃ y : Int32, y = x6 + (1 : Int32) := ⟨_, rfl⟩
  have hf := lt_e hf e_v37
  refine lv_iinc (v := v37) (lv' := [(6, .int v37), (5, .int v36), (0, .ref (G.2.2 + r0)), (1, .int x1), (2, .int x2), (3, .int x3), (4, .int x4)]) C.x C.b dX10_least_201 hl (k := 6) rfl (by rw [e_v37]; rfl) (by decide) rfl (fun ls hl => ?_)
  refine lv_goto (tgt := 141) C.x C.b dX10_least_204 (by decide) ?_
  exact hk141 _ _ _ _ _ _ _ _ hf hE hR hS t_r0 (lv_sub hl [2, 3, 4, 5, 6, 1, 0] rfl)
set_option maxRecDepth 100000 in
set_option maxHeartbeats 4000000 in
theorem w_X10_least_197 {G : Gt} {l : Launch} {p : Program} {e : Env} {s : State} {m : MethodId} {args : Array Value} {below : List Frame} {meth : Method} {c : Code}  {h0 : Hp} {out : (Int32 × Hp)} {r0 : Nat} {x1 : Int32} {x2 : Int32} {k141 : Hp → Int32 → Int32 → Int32 → Int32 → Option (Int32 × Hp)} (C : Cx G p m c cX10_least 8 s args RX10) (hr : meth.sig.returnType = some .int) (hlk : meth.locks = false)  (hk141 : P_X10_least_141 G l p e s m args below meth c h0 out r0 x1 x2 k141) : P_X10_least_197 G l p e s m args below meth c h0 out r0 x1 x2 (f_X10_least_197 r0 x1 x2 k141) := by
  intro H locs ls h s0 x3 x4 x6 hf hE hR hS t_r0 hl
  rw [f_X10_least_197] at hf
  refine lv_iconst (v := (0 : Int32)) C.x C.b dX10_least_197 (by decide) ?_
  exact w_X10_least_198 C hr hlk hk141 _ _ _ _ _ _ _ _ _ hf hE hR hS t_r0 (lv_sub hl [0, 1, 2, 3, 4, 5] rfl)
set_option maxRecDepth 100000 in
set_option maxHeartbeats 4000000 in
theorem w_X10_least_141 {G : Gt} {l : Launch} {p : Program} {e : Env} {s : State} {m : MethodId} {args : Array Value} {below : List Frame} {meth : Method} {c : Code}  {h0 : Hp} {out : (Int32 × Hp)} {r0 : Nat} {x1 : Int32} {x2 : Int32}  (C : Cx G p m c cX10_least 8 s args RX10) (hr : meth.sig.returnType = some .int) (hlk : meth.locks = false)   (n : Nat) : P_X10_least_141 G l p e s m args below meth c h0 out r0 x1 x2 (f_X10_least_141 r0 x1 x2 n) := by
  induction n with
  | zero => intro H locs ls h x3 x4 x5 x6 hf hE hR hS t_r0 hl; cases hf
  | succ n hk141 =>
    intro H locs ls h x3 x4 x5 x6 hf hE hR hS t_r0 hl
    rw [f_X10_least_141] at hf
    obtain ⟨k141, e_k141⟩ : ∃ y, y = f_X10_least_141 r0 x1 x2 n := ⟨_, rfl⟩
    have hf := lt_e hf e_k141
    rw [← e_k141] at hk141
    refine lv_iload C.x C.b dX10_least_141 (lv_at hl 6 rfl) ?_
    refine lv_aload_n C.x C.b dX10_least_143 rfl (lv_at hl 0 rfl) ?_
    obtain ⟨g21, hf⟩ := gd_e hf
    refine r_getr C hR t_r0 fl_X10_20 (by decide) (nz_e g21) dX10_least_144 (fun tq22 => ?_)
    have tg21 := okA tq22 rfl
    refine lv_bipush (v := (48 : Int32)) C.x C.b dX10_least_147 (by decide) ?_
    obtain ⟨g23, hf⟩ := gd_e hf
    refine r_iald C hR tg21 g23 dX10_least_149 ?_
    refine lv_icmp_ge (tgt := 207) C.x C.b dX10_least_150 (by decide) (fun c24 => ?_) (fun c24 => ?_)
    · have hf := it_t hf c24
      refine lv_aload_n C.x C.b dX10_least_207 rfl (lv_at hl 0 rfl) ?_
      refine lv_iconst (v := (0 : Int32)) C.x C.b dX10_least_208 (by decide) ?_
      refine r_puti C hR hS t_r0 fl_X10_110 fp_X10_10_1 rfl dX10_least_209 (fun H locs hR hS => ?_)
      obtain ⟨h25, e_h25⟩ : ∃ y, y = upI h r0 1 (0 : Int32) := ⟨_, rfl⟩
      rw [← e_h25] at hR
      have hf := lt_e hf e_h25
      have hE := eI e_h25 hE
      have t_r0 := tI e_h25 t_r0
      refine lv_aload_n C.x C.b dX10_least_212 rfl (lv_at hl 0 rfl) ?_
      refine lv_iload C.x C.b dX10_least_213 (lv_at hl 4 rfl) ?_
      refine lv_i2l C.x C.b dX10_least_215 rfl ?_
      obtain ⟨q26, h_q26, hf⟩ := bd_e hf
      refine r_callV (As := [.long (x4.toInt64)]) (rest := []) C hR hS t_r0 rfl mk_X10_enters cl_X10_339 (k_X10_enters t_r0 h_q26) ⟨⟨Nat.le_of_ble_eq_true rfl, Nat.le_of_ble_eq_true rfl⟩, ⟨rfl, rfl⟩, Nat.le_of_ble_eq_true rfl, Nat.le_of_ble_eq_true rfl⟩ rfl hl.1 rfl (Nat.le_of_ble_eq_true rfl) dX10_least_216 (fun H locs hR hS hE1 z_q26 => ?_)
      have hE := hE.tr hE1
      have t_r0 := hE1.at t_r0 (by decide)
      refine lv_aload_n C.x C.b dX10_least_219 rfl (lv_at hl 0 rfl) ?_
      refine lv_iload C.x C.b dX10_least_220 (lv_at hl 5 rfl) ?_
      refine lv_i2l C.x C.b dX10_least_222 rfl ?_
      obtain ⟨q27, h_q27, hf⟩ := bd_e hf
      refine r_callV (As := [.long (x5.toInt64)]) (rest := []) C hR hS t_r0 rfl mk_X10_enters cl_X10_339 (k_X10_enters t_r0 h_q27) ⟨⟨Nat.le_of_ble_eq_true rfl, Nat.le_of_ble_eq_true rfl⟩, ⟨rfl, rfl⟩, Nat.le_of_ble_eq_true rfl, Nat.le_of_ble_eq_true rfl⟩ rfl hl.1 rfl (Nat.le_of_ble_eq_true rfl) dX10_least_223 (fun H locs hR hS hE1 z_q27 => ?_)
      have hE := hE.tr hE1
      have t_r0 := hE1.at t_r0 (by decide)
      refine lv_iload_n C.x C.b dX10_least_226 rfl (lv_at hl 3 rfl) ?_
      have hf := so_e hf
      subst hf
      exact r_iret C hr hlk hR hE hS dX10_least_227
    · have hf := it_f hf c24
      refine lv_iload C.x C.b dX10_least_153 (lv_at hl 5 rfl) ?_
      refine lv_aload_n C.x C.b dX10_least_155 rfl (lv_at hl 0 rfl) ?_
      refine r_getr C hR t_r0 fl_X10_20 (by decide) (nz_e g21) dX10_least_156 (fun tq28 => ?_)
      refine lv_iload C.x C.b dX10_least_159 (lv_at hl 6 rfl) ?_
      obtain ⟨q29, h_q29, hf⟩ := bd_e hf
      refine r_callS (As := [.ref (G.2.2 + (hpR h r0 6)), .int x6]) (rest := [.int x5]) C hR hS mk_X10_isOn cl_X10_129 (k_X10_isOn tg21 h_q29) ⟨⟨Nat.le_of_ble_eq_true rfl, Nat.le_of_ble_eq_true rfl⟩, ⟨rfl, rfl⟩, Nat.le_of_ble_eq_true rfl, Nat.le_of_ble_eq_true rfl⟩ rfl hl.1 rfl (Nat.le_of_ble_eq_true rfl) dX10_least_161 (fun H locs hR hS hE1 z_q29 => ?_)
      have z_q29 := z_q29 _ rfl
      refine lv_if_eq (tgt := 197) C.x C.b dX10_least_164 (by decide) (fun c30 => ?_) (fun c30 => ?_)
      · have hf := it_t hf c30
        exact w_X10_least_197 C hr hlk hk141 _ _ _ _ _ _ _ _ hf hE hR hS t_r0 (lv_sub hl [0, 1, 2, 3, 4, 6] rfl)
      · have hf := it_f hf c30
        refine lv_aload_n C.x C.b dX10_least_167 rfl (lv_at hl 0 rfl) ?_
        refine lv_aload_n C.x C.b dX10_least_168 rfl (lv_at hl 0 rfl) ?_
        refine r_getr C hR t_r0 fl_X10_20 (by decide) (nz_e g21) dX10_least_169 (fun tq31 => ?_)
        refine lv_iload C.x C.b dX10_least_172 (lv_at hl 6 rfl) ?_
        obtain ⟨q32, h_q32, hf⟩ := bd_e hf
        refine r_callV (As := [.ref (G.2.2 + (hpR h r0 6)), .int x6]) (rest := [.int x5]) C hR hS t_r0 rfl mk_X10_areaOf cl_X10_141 (k_X10_areaOf t_r0 tg21 h_q32) ⟨⟨Nat.le_of_ble_eq_true rfl, Nat.le_of_ble_eq_true rfl⟩, ⟨rfl, rfl⟩, Nat.le_of_ble_eq_true rfl, Nat.le_of_ble_eq_true rfl⟩ rfl hl.1 rfl (Nat.le_of_ble_eq_true rfl) dX10_least_174 (fun H locs hR hS hE1 z_q32 => ?_)
        refine lv_aload_n C.x C.b dX10_least_177 rfl (lv_at hl 0 rfl) ?_
        refine lv_iload_n C.x C.b dX10_least_178 rfl (lv_at hl 3 rfl) ?_
        refine lv_iload_n C.x C.b dX10_least_179 rfl (lv_at hl 1 rfl) ?_
        refine lv_iload_n C.x C.b dX10_least_180 rfl (lv_at hl 2 rfl) ?_
        obtain ⟨q33, h_q33, hf⟩ := bd_e hf
        refine r_callV (As := [.int x3, .int x1, .int x2]) (rest := [.long q32, .int x5]) C hR hS t_r0 rfl mk_X10_area cl_X10_125 (k_X10_area t_r0 h_q33) ⟨⟨Nat.le_of_ble_eq_true rfl, Nat.le_of_ble_eq_true rfl⟩, ⟨rfl, rfl⟩, Nat.le_of_ble_eq_true rfl, Nat.le_of_ble_eq_true rfl⟩ rfl hl.1 rfl (Nat.le_of_ble_eq_true rfl) dX10_least_181 (fun H locs hR hS hE1 z_q33 => ?_)
        refine lv_land C.x C.b dX10_least_184 ?_
        refine lv_lconst (v := (0 : Int64)) C.x C.b dX10_least_185 (by decide) ?_
        refine W.lcmp C.x C.b dX10_least_186 ?_
        refine lv_if_eq (tgt := 197) C.x C.b dX10_least_187 (by decide) (fun c34 => ?_) (fun c34 => ?_)
        · have hf := it_t hf c34
          exact w_X10_least_197 C hr hlk hk141 _ _ _ _ _ _ _ _ hf hE hR hS t_r0 (lv_sub hl [0, 1, 2, 3, 4, 6] rfl)
        · have hf := it_f hf c34
          refine lv_iconst (v := (1 : Int32)) C.x C.b dX10_least_190 (by decide) ?_
          refine lv_iload C.x C.b dX10_least_191 (lv_at hl 6 rfl) ?_
          refine lv_ishl C.x C.b dX10_least_193 ?_
          refine lv_topi (fun v35 e_v35 => ?_)
          have hf := lt_e hf e_v35
          refine lv_goto (tgt := 198) C.x C.b dX10_least_194 (by decide) ?_
          exact w_X10_least_198 C hr hlk hk141 _ _ _ _ _ _ _ _ _ hf hE hR hS t_r0 (lv_sub hl [0, 1, 2, 3, 4, 6] rfl)
set_option maxRecDepth 100000 in
set_option maxHeartbeats 4000000 in
theorem w_X10_least_122 {G : Gt} {l : Launch} {p : Program} {e : Env} {s : State} {m : MethodId} {args : Array Value} {below : List Frame} {meth : Method} {c : Code}  {h0 : Hp} {out : (Int32 × Hp)} {r0 : Nat} {x1 : Int32} {x2 : Int32} {k26 : Hp → Int32 → Int32 → Int32 → Option (Int32 × Hp)} (C : Cx G p m c cX10_least 8 s args RX10) (hr : meth.sig.returnType = some .int) (hlk : meth.locks = false)  (hk26 : P_X10_least_26 G l p e s m args below meth c h0 out r0 x1 x2 k26) : P_X10_least_122 G l p e s m args below meth c h0 out r0 x1 x2 (f_X10_least_122 r0 x1 x2 k26) := by
  intro H locs ls h x3 x4 x5 hf hE hR hS t_r0 hl
  rw [f_X10_least_122] at hf
  obtain ⟨v20, e_v20⟩ : ∃ y : Int32, y = x5 + (1 : Int32) := ⟨_, rfl⟩
  have hf := lt_e hf e_v20
  refine lv_iinc (v := v20) (lv' := [(5, .int v20), (0, .ref (G.2.2 + r0)), (1, .int x1), (2, .int x2), (3, .int x3), (4, .int x4)]) C.x C.b dX10_least_122 hl (k := 5) rfl (by rw [e_v20]; rfl) (by decide) rfl (fun ls hl => ?_)
  refine lv_goto (tgt := 26) C.x C.b dX10_least_125 (by decide) ?_
  exact hk26 _ _ _ _ _ _ _ hf hE hR hS t_r0 (lv_sub hl [1, 2, 3, 4, 5, 0] rfl)
set_option maxRecDepth 100000 in
set_option maxHeartbeats 4000000 in
theorem w_X10_least_112 {G : Gt} {l : Launch} {p : Program} {e : Env} {s : State} {m : MethodId} {args : Array Value} {below : List Frame} {meth : Method} {c : Code}  {h0 : Hp} {out : (Int32 × Hp)} {r0 : Nat} {x1 : Int32} {x2 : Int32} {k26 : Hp → Int32 → Int32 → Int32 → Option (Int32 × Hp)} (C : Cx G p m c cX10_least 8 s args RX10) (hr : meth.sig.returnType = some .int) (hlk : meth.locks = false)  (hk26 : P_X10_least_26 G l p e s m args below meth c h0 out r0 x1 x2 k26) : P_X10_least_112 G l p e s m args below meth c h0 out r0 x1 x2 (f_X10_least_112 r0 x1 x2 k26) := by
  intro H locs ls h s0 x4 x5 x6 hf hE hR hS t_r0 hl
  rw [f_X10_least_112] at hf
  refine lv_istore_n (lv' := [(3, .int s0), (0, .ref (G.2.2 + r0)), (1, .int x1), (2, .int x2), (4, .int x4), (5, .int x5), (6, .int x6)]) C.x C.b dX10_least_112 rfl hl (by decide) rfl (fun ls hl => ?_)
  refine lv_iload C.x C.b dX10_least_113 (lv_at hl 4 rfl) ?_
  refine lv_iload C.x C.b dX10_least_115 (lv_at hl 6 rfl) ?_
  refine va_mmin C.x C.b (C.ml.trans hl.1.symm) C.ow (C.ts _ lk_X10_154) (C.ts _ lk_Mmin_s) (C.ts _ lk_Math) (C.ts _ lk_Mmin_c) (Nat.le_of_ble_eq_true rfl) (Nat.le_of_ble_eq_true rfl) (Nat.le_of_ble_eq_true rfl) (Nat.le_of_ble_eq_true rfl) dX10_least_117 ?_
  refine lv_topi (fun v19 e_v19 => ?_)
  have hf := lt_e hf e_v19
  refine lv_istore (lv' := [(4, .int v19), (3, .int s0), (0, .ref (G.2.2 + r0)), (1, .int x1), (2, .int x2), (5, .int x5), (6, .int x6)]) C.x C.b dX10_least_120 hl (by decide) rfl (fun ls hl => ?_)
  exact w_X10_least_122 C hr hlk hk26 _ _ _ _ _ _ _ hf hE hR hS t_r0 (lv_sub hl [2, 3, 4, 1, 0, 5] rfl)
set_option maxRecDepth 100000 in
set_option maxHeartbeats 4000000 in
theorem w_X10_least_90 {G : Gt} {l : Launch} {p : Program} {e : Env} {s : State} {m : MethodId} {args : Array Value} {below : List Frame} {meth : Method} {c : Code}  {h0 : Hp} {out : (Int32 × Hp)} {r0 : Nat} {x1 : Int32} {x2 : Int32} {k26 : Hp → Int32 → Int32 → Int32 → Option (Int32 × Hp)} {k52 : Hp → Int32 → Int32 → Int32 → Int32 → Int32 → Option (Int32 × Hp)} (C : Cx G p m c cX10_least 8 s args RX10) (hr : meth.sig.returnType = some .int) (hlk : meth.locks = false)  (hk26 : P_X10_least_26 G l p e s m args below meth c h0 out r0 x1 x2 k26) (hk52 : P_X10_least_52 G l p e s m args below meth c h0 out r0 x1 x2 k52) : P_X10_least_90 G l p e s m args below meth c h0 out r0 x1 x2 (f_X10_least_90 r0 x1 x2 k26 k52) := by
  intro H locs ls h s0 s1 x3 x4 x5 x7 hf hE hR hS t_r0 hl
  rw [f_X10_least_90] at hf
  refine lv_iadd C.x C.b dX10_least_90 ?_
  refine lv_topi (fun v17 e_v17 => ?_)
  have hf := lt_e hf e_v17
  refine lv_istore (lv' := [(6, .int v17), (0, .ref (G.2.2 + r0)), (1, .int x1), (2, .int x2), (3, .int x3), (4, .int x4), (5, .int x5), (7, .int x7)]) C.x C.b dX10_least_91 hl (by decide) rfl (fun ls hl => ?_)
  obtain ⟨v18, e_v18⟩ : ∃ y : Int32, y = x7 + (1 : Int32) := ⟨_, rfl⟩
  have hf := lt_e hf e_v18
  refine lv_iinc (v := v18) (lv' := [(7, .int v18), (6, .int v17), (0, .ref (G.2.2 + r0)), (1, .int x1), (2, .int x2), (3, .int x3), (4, .int x4), (5, .int x5)]) C.x C.b dX10_least_93 hl (k := 7) rfl (by rw [e_v18]; rfl) (by decide) rfl (fun ls hl => ?_)
  refine lv_goto (tgt := 52) C.x C.b dX10_least_96 (by decide) ?_
  exact hk52 _ _ _ _ _ _ _ _ _ hf hE hR hS t_r0 (lv_sub hl [2, 3, 4, 5, 6, 7, 1, 0] rfl)
set_option maxRecDepth 100000 in
set_option maxHeartbeats 4000000 in
theorem w_X10_least_52 {G : Gt} {l : Launch} {p : Program} {e : Env} {s : State} {m : MethodId} {args : Array Value} {below : List Frame} {meth : Method} {c : Code}  {h0 : Hp} {out : (Int32 × Hp)} {r0 : Nat} {x1 : Int32} {x2 : Int32} {k26 : Hp → Int32 → Int32 → Int32 → Option (Int32 × Hp)} (C : Cx G p m c cX10_least 8 s args RX10) (hr : meth.sig.returnType = some .int) (hlk : meth.locks = false)  (hk26 : P_X10_least_26 G l p e s m args below meth c h0 out r0 x1 x2 k26) (n : Nat) : P_X10_least_52 G l p e s m args below meth c h0 out r0 x1 x2 (f_X10_least_52 r0 x1 x2 k26 n) := by
  induction n with
  | zero => intro H locs ls h x3 x4 x5 x6 x7 hf hE hR hS t_r0 hl; cases hf
  | succ n hk52 =>
    intro H locs ls h x3 x4 x5 x6 x7 hf hE hR hS t_r0 hl
    rw [f_X10_least_52] at hf
    obtain ⟨k52, e_k52⟩ : ∃ y, y = f_X10_least_52 r0 x1 x2 k26 n := ⟨_, rfl⟩
    have hf := lt_e hf e_k52
    rw [← e_k52] at hk52
    refine lv_iload C.x C.b dX10_least_52 (lv_at hl 7 rfl) ?_
    refine lv_aload_n C.x C.b dX10_least_54 rfl (lv_at hl 0 rfl) ?_
    obtain ⟨q9, h_q9, hf⟩ := bd_e hf
    refine r_callV (As := []) (rest := [.int x7]) C hR hS t_r0 rfl mk_X10_cells cl_X10_113 (k_X10_cells t_r0 h_q9) ⟨⟨Nat.le_of_ble_eq_true rfl, Nat.le_of_ble_eq_true rfl⟩, ⟨rfl, rfl⟩, Nat.le_of_ble_eq_true rfl, Nat.le_of_ble_eq_true rfl⟩ rfl hl.1 rfl (Nat.le_of_ble_eq_true rfl) dX10_least_55 (fun H locs hR hS hE1 z_q9 => ?_)
    refine lv_icmp_ge (tgt := 99) C.x C.b dX10_least_58 (by decide) (fun c10 => ?_) (fun c10 => ?_)
    · have hf := it_t hf c10
      refine lv_iload C.x C.b dX10_least_99 (lv_at hl 6 rfl) ?_
      refine lv_iload C.x C.b dX10_least_101 (lv_at hl 4 rfl) ?_
      refine lv_icmp_ge (tgt := 111) C.x C.b dX10_least_103 (by decide) (fun c11 => ?_) (fun c11 => ?_)
      · simp only [if_pos c11] at hf
        refine lv_iload_n C.x C.b dX10_least_111 rfl (lv_at hl 3 rfl) ?_
        exact w_X10_least_112 C hr hlk hk26 _ _ _ _ _ _ _ _ hf hE hR hS t_r0 (lv_sub hl [0, 1, 2, 4, 5, 6] rfl)
      · simp only [if_neg c11] at hf
        refine lv_iload C.x C.b dX10_least_106 (lv_at hl 5 rfl) ?_
        refine lv_goto (tgt := 112) C.x C.b dX10_least_108 (by decide) ?_
        exact w_X10_least_112 C hr hlk hk26 _ _ _ _ _ _ _ _ hf hE hR hS t_r0 (lv_sub hl [0, 1, 2, 4, 5, 6] rfl)
    · have hf := it_f hf c10
      refine lv_iload C.x C.b dX10_least_61 (lv_at hl 6 rfl) ?_
      refine lv_aload_n C.x C.b dX10_least_63 rfl (lv_at hl 0 rfl) ?_
      refine lv_iload C.x C.b dX10_least_64 (lv_at hl 5 rfl) ?_
      refine lv_iload_n C.x C.b dX10_least_66 rfl (lv_at hl 1 rfl) ?_
      refine lv_iload_n C.x C.b dX10_least_67 rfl (lv_at hl 2 rfl) ?_
      refine lv_iload C.x C.b dX10_least_68 (lv_at hl 7 rfl) ?_
      obtain ⟨q12, h_q12, hf⟩ := bd_e hf
      refine r_callV (As := [.int x5, .int x1, .int x2, .int x7]) (rest := [.int x6]) C hR hS t_r0 rfl mk_X10_isOver cl_X10_121 (k_X10_isOver t_r0 h_q12) ⟨⟨Nat.le_of_ble_eq_true rfl, Nat.le_of_ble_eq_true rfl⟩, ⟨rfl, rfl⟩, Nat.le_of_ble_eq_true rfl, Nat.le_of_ble_eq_true rfl⟩ rfl hl.1 rfl (Nat.le_of_ble_eq_true rfl) dX10_least_70 (fun H locs hR hS hE1 z_q12 => ?_)
      have z_q12 := z_q12 _ rfl
      refine lv_if_eq (tgt := 89) C.x C.b dX10_least_73 (by decide) (fun c13 => ?_) (fun c13 => ?_)
      · have hf := it_t hf c13
        refine lv_iconst (v := (0 : Int32)) C.x C.b dX10_least_89 (by decide) ?_
        exact w_X10_least_90 C hr hlk hk26 hk52 _ _ _ _ _ _ _ _ _ _ hf hE hR hS t_r0 (lv_sub hl [0, 1, 2, 3, 4, 5, 7] rfl)
      · have hf := it_f hf c13
        refine lv_aload_n C.x C.b dX10_least_76 rfl (lv_at hl 0 rfl) ?_
        refine lv_aload_n C.x C.b dX10_least_77 rfl (lv_at hl 0 rfl) ?_
        obtain ⟨g14, hf⟩ := gd_e hf
        refine r_getr C hR t_r0 fl_X10_20 (by decide) (nz_e g14) dX10_least_78 (fun tq15 => ?_)
        have tg14 := okA tq15 rfl
        refine lv_iload C.x C.b dX10_least_81 (lv_at hl 7 rfl) ?_
        obtain ⟨q16, h_q16, hf⟩ := bd_e hf
        refine r_callV (As := [.ref (G.2.2 + (hpR h r0 6)), .int x7]) (rest := [.int x6]) C hR hS t_r0 rfl mk_X10_strengthOn cl_X10_297 (k_X10_strengthOn t_r0 tg14 h_q16) ⟨⟨Nat.le_of_ble_eq_true rfl, Nat.le_of_ble_eq_true rfl⟩, ⟨rfl, rfl⟩, Nat.le_of_ble_eq_true rfl, Nat.le_of_ble_eq_true rfl⟩ rfl hl.1 rfl (Nat.le_of_ble_eq_true rfl) dX10_least_83 (fun H locs hR hS hE1 z_q16 => ?_)
        refine lv_goto (tgt := 90) C.x C.b dX10_least_86 (by decide) ?_
        exact w_X10_least_90 C hr hlk hk26 hk52 _ _ _ _ _ _ _ _ _ _ hf hE hR hS t_r0 (lv_sub hl [0, 1, 2, 3, 4, 5, 7] rfl)
set_option maxRecDepth 100000 in
set_option maxHeartbeats 4000000 in
theorem w_X10_least_26 {G : Gt} {l : Launch} {p : Program} {e : Env} {s : State} {m : MethodId} {args : Array Value} {below : List Frame} {meth : Method} {c : Code}  {h0 : Hp} {out : (Int32 × Hp)} {r0 : Nat} {x1 : Int32} {x2 : Int32}  (C : Cx G p m c cX10_least 8 s args RX10) (hr : meth.sig.returnType = some .int) (hlk : meth.locks = false)   (n : Nat) : P_X10_least_26 G l p e s m args below meth c h0 out r0 x1 x2 (f_X10_least_26 r0 x1 x2 n) := by
  induction n with
  | zero => intro H locs ls h x3 x4 x5 hf hE hR hS t_r0 hl; cases hf
  | succ n hk26 =>
    intro H locs ls h x3 x4 x5 hf hE hR hS t_r0 hl
    rw [f_X10_least_26] at hf
    obtain ⟨k26, e_k26⟩ : ∃ y, y = f_X10_least_26 r0 x1 x2 n := ⟨_, rfl⟩
    have hf := lt_e hf e_k26
    rw [← e_k26] at hk26
    refine lv_iload C.x C.b dX10_least_26 (lv_at hl 5 rfl) ?_
    refine lv_aload_n C.x C.b dX10_least_28 rfl (lv_at hl 0 rfl) ?_
    obtain ⟨q4, h_q4, hf⟩ := bd_e hf
    refine r_callV (As := []) (rest := [.int x5]) C hR hS t_r0 rfl mk_X10_cells cl_X10_113 (k_X10_cells t_r0 h_q4) ⟨⟨Nat.le_of_ble_eq_true rfl, Nat.le_of_ble_eq_true rfl⟩, ⟨rfl, rfl⟩, Nat.le_of_ble_eq_true rfl, Nat.le_of_ble_eq_true rfl⟩ rfl hl.1 rfl (Nat.le_of_ble_eq_true rfl) dX10_least_29 (fun H locs hR hS hE1 z_q4 => ?_)
    refine lv_icmp_ge (tgt := 128) C.x C.b dX10_least_32 (by decide) (fun c5 => ?_) (fun c5 => ?_)
    · have hf := it_t hf c5
      refine lv_iload_n C.x C.b dX10_least_128 rfl (lv_at hl 3 rfl) ?_
      refine lv_if_ge (tgt := 135) C.x C.b dX10_least_129 (by decide) (fun c6 => ?_) (fun c6 => ?_)
      · have hf := it_t hf c6
        refine lv_iconst (v := (0 : Int32)) C.x C.b dX10_least_135 (by decide) ?_
        refine lv_istore (lv' := [(5, .int (0 : Int32)), (0, .ref (G.2.2 + r0)), (1, .int x1), (2, .int x2), (3, .int x3), (4, .int x4)]) C.x C.b dX10_least_136 hl (by decide) rfl (fun ls hl => ?_)
        refine lv_iconst (v := (0 : Int32)) C.x C.b dX10_least_138 (by decide) ?_
        refine lv_istore (lv' := [(6, .int (0 : Int32)), (5, .int (0 : Int32)), (0, .ref (G.2.2 + r0)), (1, .int x1), (2, .int x2), (3, .int x3), (4, .int x4)]) C.x C.b dX10_least_139 hl (by decide) rfl (fun ls hl => ?_)
        exact w_X10_least_141 C hr hlk FU _ _ _ _ _ _ _ _ hf hE hR hS t_r0 (lv_sub hl [2, 3, 4, 5, 6, 1, 0] rfl)
      · have hf := it_f hf c6
        refine lv_bipush (v := (-2 : Int32)) C.x C.b dX10_least_132 (by decide) ?_
        have hf := so_e hf
        subst hf
        exact r_iret C hr hlk hR hE hS dX10_least_134
    · have hf := it_f hf c5
      refine lv_aload_n C.x C.b dX10_least_35 rfl (lv_at hl 0 rfl) ?_
      refine lv_iload C.x C.b dX10_least_36 (lv_at hl 5 rfl) ?_
      refine lv_iload_n C.x C.b dX10_least_38 rfl (lv_at hl 1 rfl) ?_
      refine lv_iload_n C.x C.b dX10_least_39 rfl (lv_at hl 2 rfl) ?_
      obtain ⟨q7, h_q7, hf⟩ := bd_e hf
      refine r_callV (As := [.int x5, .int x1, .int x2]) (rest := []) C hR hS t_r0 rfl mk_X10_isIn cl_X10_324 (k_X10_isIn t_r0 h_q7) ⟨⟨Nat.le_of_ble_eq_true rfl, Nat.le_of_ble_eq_true rfl⟩, ⟨rfl, rfl⟩, Nat.le_of_ble_eq_true rfl, Nat.le_of_ble_eq_true rfl⟩ rfl hl.1 rfl (Nat.le_of_ble_eq_true rfl) dX10_least_40 (fun H locs hR hS hE1 z_q7 => ?_)
      have z_q7 := z_q7 _ rfl
      refine lv_if_eq (tgt := 122) C.x C.b dX10_least_43 (by decide) (fun c8 => ?_) (fun c8 => ?_)
      · have hf := it_t hf c8
        exact w_X10_least_122 C hr hlk hk26 _ _ _ _ _ _ _ hf hE hR hS t_r0 (lv_sub hl [0, 1, 2, 3, 4, 5] rfl)
      · have hf := it_f hf c8
        refine lv_iconst (v := (0 : Int32)) C.x C.b dX10_least_46 (by decide) ?_
        refine lv_istore (lv' := [(6, .int (0 : Int32)), (0, .ref (G.2.2 + r0)), (1, .int x1), (2, .int x2), (3, .int x3), (4, .int x4), (5, .int x5)]) C.x C.b dX10_least_47 hl (by decide) rfl (fun ls hl => ?_)
        refine lv_iconst (v := (0 : Int32)) C.x C.b dX10_least_49 (by decide) ?_
        refine lv_istore (lv' := [(7, .int (0 : Int32)), (6, .int (0 : Int32)), (0, .ref (G.2.2 + r0)), (1, .int x1), (2, .int x2), (3, .int x3), (4, .int x4), (5, .int x5)]) C.x C.b dX10_least_50 hl (by decide) rfl (fun ls hl => ?_)
        exact w_X10_least_52 C hr hlk hk26 FU _ _ _ _ _ _ _ _ _ hf hE hR hS t_r0 (lv_sub hl [2, 3, 4, 5, 6, 7, 1, 0] rfl)
set_option maxRecDepth 100000 in
set_option maxHeartbeats 4000000 in
theorem k_X10_least {G : Gt} {l : Launch}  {h : Hp} {r0 : Nat} {x1 : Int32} {x2 : Int32} {out : (Int32 × Hp)} (t_r0 : hpT h r0 = (1, 10))  (hf : f_X10_least  h r0 x1 x2 = some out) : Mt G l yX10_least cX10_least 8 (some .int) rm_X10_least [.ref (G.2.2 + r0), .int x1, .int x2] h (some (.int out.1)) out.2 0 0 0 := by
  refine r_met (by decide +kernel) (Nat.le_of_ble_eq_true rfl) ?_
  intro p e s m args below meth c ls C hr hlk hnm hR hS hl
  have hE : Ext h h := Ext.rf
  have hl : lv_has ls 8 [(0, .ref (G.2.2 + r0)), (1, .int x1), (2, .int x2)] := hl
  rw [f_X10_least] at hf
  refine lv_aload_n C.x C.b dX10_least_0 rfl (lv_at hl 0 rfl) ?_
  refine lv_iconst (v := (0 : Int32)) C.x C.b dX10_least_1 (by decide) ?_
  refine r_puti C hR hS t_r0 fl_X10_103 fp_X10_10_0 rfl dX10_least_2 (fun H locs hR hS => ?_)
  obtain ⟨h1, e_h1⟩ : ∃ y, y = upI h r0 0 (0 : Int32) := ⟨_, rfl⟩
  rw [← e_h1] at hR
  have hf := lt_e hf e_h1
  have hE := eI e_h1 hE
  have t_r0 := tI e_h1 t_r0
  refine lv_iload_n C.x C.b dX10_least_5 rfl (lv_at hl 1 rfl) ?_
  refine lv_iload_n C.x C.b dX10_least_6 rfl (lv_at hl 2 rfl) ?_
  obtain ⟨q2, h_q2, hf⟩ := bd_e hf
  refine r_callS (As := [.int x1, .int x2]) (rest := []) C hR hS mk_X10_isSize cl_X10_384 (k_X10_isSize h_q2) ⟨⟨Nat.le_of_ble_eq_true rfl, Nat.le_of_ble_eq_true rfl⟩, ⟨rfl, rfl⟩, Nat.le_of_ble_eq_true rfl, Nat.le_of_ble_eq_true rfl⟩ rfl hl.1 rfl (Nat.le_of_ble_eq_true rfl) dX10_least_7 (fun H locs hR hS hE1 z_q2 => ?_)
  have z_q2 := z_q2 _ rfl
  refine lv_if_ne (tgt := 15) C.x C.b dX10_least_10 (by decide) (fun c3 => ?_) (fun c3 => ?_)
  · have hf := it_f hf c3
    refine lv_bipush (v := (-2 : Int32)) C.x C.b dX10_least_15 (by decide) ?_
    refine lv_istore_n (lv' := [(3, .int (-2 : Int32)), (0, .ref (G.2.2 + r0)), (1, .int x1), (2, .int x2)]) C.x C.b dX10_least_17 rfl hl (by decide) rfl (fun ls hl => ?_)
    refine lv_ldcw C.x C.b C.ow (C.ts _ lk_X10_392) dX10_least_18 ?_
    refine lv_istore (lv' := [(4, .int (1000000 : Int32)), (3, .int (-2 : Int32)), (0, .ref (G.2.2 + r0)), (1, .int x1), (2, .int x2)]) C.x C.b dX10_least_21 hl (by decide) rfl (fun ls hl => ?_)
    refine lv_iconst (v := (0 : Int32)) C.x C.b dX10_least_23 (by decide) ?_
    refine lv_istore (lv' := [(5, .int (0 : Int32)), (4, .int (1000000 : Int32)), (3, .int (-2 : Int32)), (0, .ref (G.2.2 + r0)), (1, .int x1), (2, .int x2)]) C.x C.b dX10_least_24 hl (by decide) rfl (fun ls hl => ?_)
    exact w_X10_least_26 C hr hlk FU _ _ _ _ _ _ _ hf hE hR hS t_r0 (lv_sub hl [3, 4, 5, 2, 1, 0] rfl)
  · have hf := it_t hf c3
    refine lv_iconst (v := (-1 : Int32)) C.x C.b dX10_least_13 (by decide) ?_
    have hf := so_e hf
    subst hf
    exact r_iret C hr hlk hR hE hS dX10_least_14

def rm_X10_largest : Room := { frames := 5, cells := 0, slots := 0, locals := 124 }
def P_X10_largest_131 (G : Gt) (l : Launch) (p : Program) (e : Env) (s : State) (m : MethodId) (args : Array Value) (below : List Frame) (meth : Method) (c : Code) (h0 : Hp) (out : (Int32 × Hp)) (r0 : Nat) (k : Hp → Int64 → Int32 → Int32 → Int32 → Int32 → Option (Int32 × Hp)) : Prop := ∀ (H : Heap) (locs : List Loc) (ls : Array Slot) (h : Hp) (y1 : Int64) (x3 : Int32) (x4 : Int32) (x5 : Int32) (x6 : Int32), k h y1 x3 x4 x5 x6 = some out → Ext h0 h → Rel G h H → va_S (AA G.2.2) s.heap H locs → hpT h r0 = (1, 10) → lv_has ls 7 [(0, .ref (G.2.2 + r0)), (1, .long y1), (3, .int x3), (4, .int x4), (5, .int x5), (6, .int x6)] → W p l e rm_X10_largest s m args below meth c H locs 0 0 (MQ below (Qm G h0 out.2 (some (.int out.1)) 0) args s 0 0 (AA G.2.2)) (F0 m 131 ls [])
def P_X10_largest_51 (G : Gt) (l : Launch) (p : Program) (e : Env) (s : State) (m : MethodId) (args : Array Value) (below : List Frame) (meth : Method) (c : Code) (h0 : Hp) (out : (Int32 × Hp)) (r0 : Nat) (k : Hp → Int64 → Int32 → Int32 → Int32 → Int32 → Option (Int32 × Hp)) : Prop := ∀ (H : Heap) (locs : List Loc) (ls : Array Slot) (h : Hp) (y1 : Int64) (x3 : Int32) (x4 : Int32) (x5 : Int32) (x6 : Int32), k h y1 x3 x4 x5 x6 = some out → Ext h0 h → Rel G h H → va_S (AA G.2.2) s.heap H locs → hpT h r0 = (1, 10) → lv_has ls 7 [(0, .ref (G.2.2 + r0)), (1, .long y1), (3, .int x3), (4, .int x4), (5, .int x5), (6, .int x6)] → W p l e rm_X10_largest s m args below meth c H locs 0 0 (MQ below (Qm G h0 out.2 (some (.int out.1)) 0) args s 0 0 (AA G.2.2)) (F0 m 51 ls [])
def P_X10_largest_39 (G : Gt) (l : Launch) (p : Program) (e : Env) (s : State) (m : MethodId) (args : Array Value) (below : List Frame) (meth : Method) (c : Code) (h0 : Hp) (out : (Int32 × Hp)) (r0 : Nat) (k : Hp → Int64 → Int32 → Int32 → Int32 → Option (Int32 × Hp)) : Prop := ∀ (H : Heap) (locs : List Loc) (ls : Array Slot) (h : Hp) (y1 : Int64) (x3 : Int32) (x4 : Int32) (x5 : Int32), k h y1 x3 x4 x5 = some out → Ext h0 h → Rel G h H → va_S (AA G.2.2) s.heap H locs → hpT h r0 = (1, 10) → lv_has ls 7 [(0, .ref (G.2.2 + r0)), (1, .long y1), (3, .int x3), (4, .int x4), (5, .int x5)] → W p l e rm_X10_largest s m args below meth c H locs 0 0 (MQ below (Qm G h0 out.2 (some (.int out.1)) 0) args s 0 0 (AA G.2.2)) (F0 m 39 ls [])
def P_X10_largest_27 (G : Gt) (l : Launch) (p : Program) (e : Env) (s : State) (m : MethodId) (args : Array Value) (below : List Frame) (meth : Method) (c : Code) (h0 : Hp) (out : (Int32 × Hp)) (r0 : Nat) (k : Hp → Int64 → Int32 → Int32 → Option (Int32 × Hp)) : Prop := ∀ (H : Heap) (locs : List Loc) (ls : Array Slot) (h : Hp) (y1 : Int64) (x3 : Int32) (x4 : Int32), k h y1 x3 x4 = some out → Ext h0 h → Rel G h H → va_S (AA G.2.2) s.heap H locs → hpT h r0 = (1, 10) → lv_has ls 7 [(0, .ref (G.2.2 + r0)), (1, .long y1), (3, .int x3), (4, .int x4)] → W p l e rm_X10_largest s m args below meth c H locs 0 0 (MQ below (Qm G h0 out.2 (some (.int out.1)) 0) args s 0 0 (AA G.2.2)) (F0 m 27 ls [])
set_option maxRecDepth 100000 in
set_option maxHeartbeats 4000000 in
theorem w_X10_largest_131 {G : Gt} {l : Launch} {p : Program} {e : Env} {s : State} {m : MethodId} {args : Array Value} {below : List Frame} {meth : Method} {c : Code}  {h0 : Hp} {out : (Int32 × Hp)} {r0 : Nat} {k27 : Hp → Int64 → Int32 → Int32 → Option (Int32 × Hp)} {k39 : Hp → Int64 → Int32 → Int32 → Int32 → Option (Int32 × Hp)} {k51 : Hp → Int64 → Int32 → Int32 → Int32 → Int32 → Option (Int32 × Hp)} (C : Cx G p m c cX10_largest 7 s args RX10) (hr : meth.sig.returnType = some .int) (hlk : meth.locks = false)  (hk27 : P_X10_largest_27 G l p e s m args below meth c h0 out r0 k27) (hk39 : P_X10_largest_39 G l p e s m args below meth c h0 out r0 k39) (hk51 : P_X10_largest_51 G l p e s m args below meth c h0 out r0 k51) : P_X10_largest_131 G l p e s m args below meth c h0 out r0 (f_X10_largest_131 r0 k27 k39 k51) := by
  intro H locs ls h y1 x3 x4 x5 x6 hf hE hR hS t_r0 hl
  rw [f_X10_largest_131] at hf
  obtain ⟨v22, e_v22⟩ : ∃ y : Int32, y = x6 + (1 : Int32) := ⟨_, rfl⟩
  have hf := lt_e hf e_v22
  refine lv_iinc (v := v22) (lv' := [(6, .int v22), (0, .ref (G.2.2 + r0)), (1, .long y1), (3, .int x3), (4, .int x4), (5, .int x5)]) C.x C.b dX10_largest_131 hl (k := 5) rfl (by rw [e_v22]; rfl) (by decide) rfl (fun ls hl => ?_)
  refine lv_goto (tgt := 51) C.x C.b dX10_largest_134 (by decide) ?_
  exact hk51 _ _ _ _ _ _ _ _ _ hf hE hR hS t_r0 (lv_sub hl [1, 2, 3, 4, 5, 0] rfl)
set_option maxRecDepth 100000 in
set_option maxHeartbeats 4000000 in
theorem w_X10_largest_51 {G : Gt} {l : Launch} {p : Program} {e : Env} {s : State} {m : MethodId} {args : Array Value} {below : List Frame} {meth : Method} {c : Code}  {h0 : Hp} {out : (Int32 × Hp)} {r0 : Nat} {k27 : Hp → Int64 → Int32 → Int32 → Option (Int32 × Hp)} {k39 : Hp → Int64 → Int32 → Int32 → Int32 → Option (Int32 × Hp)} (C : Cx G p m c cX10_largest 7 s args RX10) (hr : meth.sig.returnType = some .int) (hlk : meth.locks = false)  (hk27 : P_X10_largest_27 G l p e s m args below meth c h0 out r0 k27) (hk39 : P_X10_largest_39 G l p e s m args below meth c h0 out r0 k39) (n : Nat) : P_X10_largest_51 G l p e s m args below meth c h0 out r0 (f_X10_largest_51 r0 k27 k39 n) := by
  induction n with
  | zero => intro H locs ls h y1 x3 x4 x5 x6 hf hE hR hS t_r0 hl; cases hf
  | succ n hk51 =>
    intro H locs ls h y1 x3 x4 x5 x6 hf hE hR hS t_r0 hl
    rw [f_X10_largest_51] at hf
    obtain ⟨k51, e_k51⟩ : ∃ y, y = f_X10_largest_51 r0 k27 k39 n := ⟨_, rfl⟩
    have hf := lt_e hf e_k51
    rw [← e_k51] at hk51
    refine lv_iload C.x C.b dX10_largest_51 (lv_at hl 5 rfl) ?_
    refine lv_aload_n C.x C.b dX10_largest_53 rfl (lv_at hl 0 rfl) ?_
    refine r_geti C hR t_r0 fl_X10_17 rfl dX10_largest_54 ?_
    refine lv_icmp_gt (tgt := 137) C.x C.b dX10_largest_57 (by decide) (fun c10 => ?_) (fun c10 => ?_)
    · have hf := it_t hf c10
      obtain ⟨v11, e_v11⟩ : ∃ y : Int32, y = x5 + (1 : Int32) := ⟨_, rfl⟩
      have hf := lt_e hf e_v11
      refine lv_iinc (v := v11) (lv' := [(5, .int v11), (0, .ref (G.2.2 + r0)), (1, .long y1), (3, .int x3), (4, .int x4), (6, .int x6)]) C.x C.b dX10_largest_137 hl (k := 4) rfl (by rw [e_v11]; rfl) (by decide) rfl (fun ls hl => ?_)
      refine lv_goto (tgt := 39) C.x C.b dX10_largest_140 (by decide) ?_
      exact hk39 _ _ _ _ _ _ _ _ hf hE hR hS t_r0 (lv_sub hl [1, 2, 3, 4, 0] rfl)
    · have hf := it_f hf c10
      refine lv_iload C.x C.b dX10_largest_60 (lv_at hl 4 rfl) ?_
      refine lv_iload C.x C.b dX10_largest_62 (lv_at hl 5 rfl) ?_
      refine lv_imul C.x C.b dX10_largest_64 ?_
      refine lv_iload_n C.x C.b dX10_largest_65 rfl (lv_at hl 2 rfl) ?_
      refine lv_icmp_le (tgt := 131) C.x C.b dX10_largest_66 (by decide) (fun c12 => ?_) (fun c12 => ?_)
      · have hf := it_t hf c12
        exact w_X10_largest_131 C hr hlk hk27 hk39 hk51 _ _ _ _ _ _ _ _ _ hf hE hR hS t_r0 (lv_sub hl [0, 1, 2, 3, 4, 5] rfl)
      · have hf := it_f hf c12
        refine lv_aload_n C.x C.b dX10_largest_69 rfl (lv_at hl 0 rfl) ?_
        refine lv_iload C.x C.b dX10_largest_70 (lv_at hl 3 rfl) ?_
        refine lv_iload C.x C.b dX10_largest_72 (lv_at hl 4 rfl) ?_
        refine lv_iload C.x C.b dX10_largest_74 (lv_at hl 5 rfl) ?_
        obtain ⟨q13, h_q13, hf⟩ := bd_e hf
        refine r_callV (As := [.int x4, .int x5, .int x6]) (rest := []) C hR hS t_r0 rfl mk_X10_isIn cl_X10_324 (k_X10_isIn t_r0 h_q13) ⟨⟨Nat.le_of_ble_eq_true rfl, Nat.le_of_ble_eq_true rfl⟩, ⟨rfl, rfl⟩, Nat.le_of_ble_eq_true rfl, Nat.le_of_ble_eq_true rfl⟩ rfl hl.1 rfl (Nat.le_of_ble_eq_true rfl) dX10_largest_76 (fun H locs hR hS hE1 z_q13 => ?_)
        have z_q13 := z_q13 _ rfl
        refine lv_if_eq (tgt := 131) C.x C.b dX10_largest_79 (by decide) (fun c14 => ?_) (fun c14 => ?_)
        · have hf := it_t hf c14
          exact w_X10_largest_131 C hr hlk hk27 hk39 hk51 _ _ _ _ _ _ _ _ _ hf hE hR hS t_r0 (lv_sub hl [0, 1, 2, 3, 4, 5] rfl)
        · have hf := it_f hf c14
          refine lv_aload_n C.x C.b dX10_largest_82 rfl (lv_at hl 0 rfl) ?_
          refine lv_iload C.x C.b dX10_largest_83 (lv_at hl 3 rfl) ?_
          refine lv_iload C.x C.b dX10_largest_85 (lv_at hl 4 rfl) ?_
          refine lv_iload C.x C.b dX10_largest_87 (lv_at hl 5 rfl) ?_
          obtain ⟨q15, h_q15, hf⟩ := bd_e hf
          refine r_callV (As := [.int x4, .int x5, .int x6]) (rest := []) C hR hS t_r0 rfl mk_X10_area cl_X10_125 (k_X10_area t_r0 h_q15) ⟨⟨Nat.le_of_ble_eq_true rfl, Nat.le_of_ble_eq_true rfl⟩, ⟨rfl, rfl⟩, Nat.le_of_ble_eq_true rfl, Nat.le_of_ble_eq_true rfl⟩ rfl hl.1 rfl (Nat.le_of_ble_eq_true rfl) dX10_largest_89 (fun H locs hR hS hE1 z_q15 => ?_)
          refine lv_lload_n C.x C.b dX10_largest_92 rfl (lv_at hl 1 rfl) ?_
          refine lv_land C.x C.b dX10_largest_93 ?_
          refine lv_lconst (v := (0 : Int64)) C.x C.b dX10_largest_94 (by decide) ?_
          refine W.lcmp C.x C.b dX10_largest_95 ?_
          refine lv_if_ne (tgt := 131) C.x C.b dX10_largest_96 (by decide) (fun c16 => ?_) (fun c16 => ?_)
          · have hf := it_f hf c16
            exact w_X10_largest_131 C hr hlk hk27 hk39 hk51 _ _ _ _ _ _ _ _ _ hf hE hR hS t_r0 (lv_sub hl [0, 1, 2, 3, 4, 5] rfl)
          · have hf := it_t hf c16
            refine lv_iload C.x C.b dX10_largest_99 (lv_at hl 4 rfl) ?_
            refine lv_iload C.x C.b dX10_largest_101 (lv_at hl 5 rfl) ?_
            refine lv_imul C.x C.b dX10_largest_103 ?_
            refine lv_topi (fun v17 e_v17 => ?_)
            have hf := lt_e hf e_v17
            refine lv_istore_n (lv' := [(3, .int v17), (0, .ref (G.2.2 + r0)), (1, .long y1), (4, .int x4), (5, .int x5), (6, .int x6)]) C.x C.b dX10_largest_104 rfl hl (by decide) rfl (fun ls hl => ?_)
            refine lv_aload_n C.x C.b dX10_largest_105 rfl (lv_at hl 1 rfl) ?_
            refine lv_iconst (v := (0 : Int32)) C.x C.b dX10_largest_106 (by decide) ?_
            refine r_puti C hR hS t_r0 fl_X10_110 fp_X10_10_1 rfl dX10_largest_107 (fun H locs hR hS => ?_)
            obtain ⟨h18, e_h18⟩ : ∃ y, y = upI h r0 1 (0 : Int32) := ⟨_, rfl⟩
            rw [← e_h18] at hR
            have hf := lt_e hf e_h18
            have hE := eI e_h18 hE
            have t_r0 := tI e_h18 t_r0
            refine lv_aload_n C.x C.b dX10_largest_110 rfl (lv_at hl 1 rfl) ?_
            refine lv_iload C.x C.b dX10_largest_111 (lv_at hl 3 rfl) ?_
            refine lv_i2l C.x C.b dX10_largest_113 rfl ?_
            obtain ⟨q19, h_q19, hf⟩ := bd_e hf
            refine r_callV (As := [.long (x4.toInt64)]) (rest := []) C hR hS t_r0 rfl mk_X10_enters cl_X10_339 (k_X10_enters t_r0 h_q19) ⟨⟨Nat.le_of_ble_eq_true rfl, Nat.le_of_ble_eq_true rfl⟩, ⟨rfl, rfl⟩, Nat.le_of_ble_eq_true rfl, Nat.le_of_ble_eq_true rfl⟩ rfl hl.1 rfl (Nat.le_of_ble_eq_true rfl) dX10_largest_114 (fun H locs hR hS hE1 z_q19 => ?_)
            have hE := hE.tr hE1
            have t_r0 := hE1.at t_r0 (by decide)
            refine lv_aload_n C.x C.b dX10_largest_117 rfl (lv_at hl 1 rfl) ?_
            refine lv_iload C.x C.b dX10_largest_118 (lv_at hl 4 rfl) ?_
            refine lv_i2l C.x C.b dX10_largest_120 rfl ?_
            obtain ⟨q20, h_q20, hf⟩ := bd_e hf
            refine r_callV (As := [.long (x5.toInt64)]) (rest := []) C hR hS t_r0 rfl mk_X10_enters cl_X10_339 (k_X10_enters t_r0 h_q20) ⟨⟨Nat.le_of_ble_eq_true rfl, Nat.le_of_ble_eq_true rfl⟩, ⟨rfl, rfl⟩, Nat.le_of_ble_eq_true rfl, Nat.le_of_ble_eq_true rfl⟩ rfl hl.1 rfl (Nat.le_of_ble_eq_true rfl) dX10_largest_121 (fun H locs hR hS hE1 z_q20 => ?_)
            have hE := hE.tr hE1
            have t_r0 := hE1.at t_r0 (by decide)
            refine lv_aload_n C.x C.b dX10_largest_124 rfl (lv_at hl 1 rfl) ?_
            refine lv_iload C.x C.b dX10_largest_125 (lv_at hl 5 rfl) ?_
            refine lv_i2l C.x C.b dX10_largest_127 rfl ?_
            obtain ⟨q21, h_q21, hf⟩ := bd_e hf
            refine r_callV (As := [.long (x6.toInt64)]) (rest := []) C hR hS t_r0 rfl mk_X10_enters cl_X10_339 (k_X10_enters t_r0 h_q21) ⟨⟨Nat.le_of_ble_eq_true rfl, Nat.le_of_ble_eq_true rfl⟩, ⟨rfl, rfl⟩, Nat.le_of_ble_eq_true rfl, Nat.le_of_ble_eq_true rfl⟩ rfl hl.1 rfl (Nat.le_of_ble_eq_true rfl) dX10_largest_128 (fun H locs hR hS hE1 z_q21 => ?_)
            have hE := hE.tr hE1
            have t_r0 := hE1.at t_r0 (by decide)
            exact w_X10_largest_131 C hr hlk hk27 hk39 hk51 _ _ _ _ _ _ _ _ _ hf hE hR hS t_r0 (lv_sub hl [1, 2, 0, 3, 4, 5] rfl)
set_option maxRecDepth 100000 in
set_option maxHeartbeats 4000000 in
theorem w_X10_largest_39 {G : Gt} {l : Launch} {p : Program} {e : Env} {s : State} {m : MethodId} {args : Array Value} {below : List Frame} {meth : Method} {c : Code}  {h0 : Hp} {out : (Int32 × Hp)} {r0 : Nat} {k27 : Hp → Int64 → Int32 → Int32 → Option (Int32 × Hp)} (C : Cx G p m c cX10_largest 7 s args RX10) (hr : meth.sig.returnType = some .int) (hlk : meth.locks = false)  (hk27 : P_X10_largest_27 G l p e s m args below meth c h0 out r0 k27) (n : Nat) : P_X10_largest_39 G l p e s m args below meth c h0 out r0 (f_X10_largest_39 r0 k27 n) := by
  induction n with
  | zero => intro H locs ls h y1 x3 x4 x5 hf hE hR hS t_r0 hl; cases hf
  | succ n hk39 =>
    intro H locs ls h y1 x3 x4 x5 hf hE hR hS t_r0 hl
    rw [f_X10_largest_39] at hf
    obtain ⟨k39, e_k39⟩ : ∃ y, y = f_X10_largest_39 r0 k27 n := ⟨_, rfl⟩
    have hf := lt_e hf e_k39
    rw [← e_k39] at hk39
    refine lv_iload C.x C.b dX10_largest_39 (lv_at hl 4 rfl) ?_
    refine lv_aload_n C.x C.b dX10_largest_41 rfl (lv_at hl 0 rfl) ?_
    refine r_geti C hR t_r0 fl_X10_13 rfl dX10_largest_42 ?_
    refine lv_icmp_gt (tgt := 143) C.x C.b dX10_largest_45 (by decide) (fun c8 => ?_) (fun c8 => ?_)
    · have hf := it_t hf c8
      obtain ⟨v9, e_v9⟩ : ∃ y : Int32, y = x4 + (1 : Int32) := ⟨_, rfl⟩
      have hf := lt_e hf e_v9
      refine lv_iinc (v := v9) (lv' := [(4, .int v9), (0, .ref (G.2.2 + r0)), (1, .long y1), (3, .int x3), (5, .int x5)]) C.x C.b dX10_largest_143 hl (k := 3) rfl (by rw [e_v9]; rfl) (by decide) rfl (fun ls hl => ?_)
      refine lv_goto (tgt := 27) C.x C.b dX10_largest_146 (by decide) ?_
      exact hk27 _ _ _ _ _ _ _ hf hE hR hS t_r0 (lv_sub hl [1, 2, 3, 0] rfl)
    · have hf := it_f hf c8
      refine lv_iconst (v := (1 : Int32)) C.x C.b dX10_largest_48 (by decide) ?_
      refine lv_istore (lv' := [(6, .int (1 : Int32)), (0, .ref (G.2.2 + r0)), (1, .long y1), (3, .int x3), (4, .int x4), (5, .int x5)]) C.x C.b dX10_largest_49 hl (by decide) rfl (fun ls hl => ?_)
      exact w_X10_largest_51 C hr hlk hk27 hk39 FU _ _ _ _ _ _ _ _ _ hf hE hR hS t_r0 (lv_sub hl [1, 2, 3, 4, 5, 0] rfl)
set_option maxRecDepth 100000 in
set_option maxHeartbeats 4000000 in
theorem w_X10_largest_27 {G : Gt} {l : Launch} {p : Program} {e : Env} {s : State} {m : MethodId} {args : Array Value} {below : List Frame} {meth : Method} {c : Code}  {h0 : Hp} {out : (Int32 × Hp)} {r0 : Nat}  (C : Cx G p m c cX10_largest 7 s args RX10) (hr : meth.sig.returnType = some .int) (hlk : meth.locks = false)   (n : Nat) : P_X10_largest_27 G l p e s m args below meth c h0 out r0 (f_X10_largest_27 r0 n) := by
  induction n with
  | zero => intro H locs ls h y1 x3 x4 hf hE hR hS t_r0 hl; cases hf
  | succ n hk27 =>
    intro H locs ls h y1 x3 x4 hf hE hR hS t_r0 hl
    rw [f_X10_largest_27] at hf
    obtain ⟨k27, e_k27⟩ : ∃ y, y = f_X10_largest_27 r0 n := ⟨_, rfl⟩
    have hf := lt_e hf e_k27
    rw [← e_k27] at hk27
    refine lv_iload C.x C.b dX10_largest_27 (lv_at hl 3 rfl) ?_
    refine lv_aload_n C.x C.b dX10_largest_29 rfl (lv_at hl 0 rfl) ?_
    obtain ⟨q6, h_q6, hf⟩ := bd_e hf
    refine r_callV (As := []) (rest := [.int x4]) C hR hS t_r0 rfl mk_X10_cells cl_X10_113 (k_X10_cells t_r0 h_q6) ⟨⟨Nat.le_of_ble_eq_true rfl, Nat.le_of_ble_eq_true rfl⟩, ⟨rfl, rfl⟩, Nat.le_of_ble_eq_true rfl, Nat.le_of_ble_eq_true rfl⟩ rfl hl.1 rfl (Nat.le_of_ble_eq_true rfl) dX10_largest_30 (fun H locs hR hS hE1 z_q6 => ?_)
    refine lv_icmp_ge (tgt := 149) C.x C.b dX10_largest_33 (by decide) (fun c7 => ?_) (fun c7 => ?_)
    · have hf := it_t hf c7
      refine lv_iload_n C.x C.b dX10_largest_149 rfl (lv_at hl 2 rfl) ?_
      have hf := so_e hf
      subst hf
      exact r_iret C hr hlk hR hE hS dX10_largest_150
    · have hf := it_f hf c7
      refine lv_iconst (v := (1 : Int32)) C.x C.b dX10_largest_36 (by decide) ?_
      refine lv_istore (lv' := [(5, .int (1 : Int32)), (0, .ref (G.2.2 + r0)), (1, .long y1), (3, .int x3), (4, .int x4)]) C.x C.b dX10_largest_37 hl (by decide) rfl (fun ls hl => ?_)
      exact w_X10_largest_39 C hr hlk hk27 FU _ _ _ _ _ _ _ _ hf hE hR hS t_r0 (lv_sub hl [1, 2, 3, 4, 0] rfl)
set_option maxRecDepth 100000 in
set_option maxHeartbeats 4000000 in
theorem k_X10_largest {G : Gt} {l : Launch}  {h : Hp} {r0 : Nat} {out : (Int32 × Hp)} (t_r0 : hpT h r0 = (1, 10))  (hf : f_X10_largest  h r0 = some out) : Mt G l yX10_largest cX10_largest 7 (some .int) rm_X10_largest [.ref (G.2.2 + r0)] h (some (.int out.1)) out.2 0 0 0 := by
  refine r_met (by decide +kernel) (Nat.le_of_ble_eq_true rfl) ?_
  intro p e s m args below meth c ls C hr hlk hnm hR hS hl
  have hE : Ext h h := Ext.rf
  have hl : lv_has ls 7 [(0, .ref (G.2.2 + r0))] := hl
  rw [f_X10_largest] at hf
  refine lv_aload_n C.x C.b dX10_largest_0 rfl (lv_at hl 0 rfl) ?_
  refine lv_iconst (v := (0 : Int32)) C.x C.b dX10_largest_1 (by decide) ?_
  refine r_puti C hR hS t_r0 fl_X10_103 fp_X10_10_0 rfl dX10_largest_2 (fun H locs hR hS => ?_)
  obtain ⟨h1, e_h1⟩ : ∃ y, y = upI h r0 0 (0 : Int32) := ⟨_, rfl⟩
  rw [← e_h1] at hR
  have hf := lt_e hf e_h1
  have hE := eI e_h1 hE
  have t_r0 := tI e_h1 t_r0
  refine lv_aload_n C.x C.b dX10_largest_5 rfl (lv_at hl 0 rfl) ?_
  refine lv_aload_n C.x C.b dX10_largest_6 rfl (lv_at hl 0 rfl) ?_
  obtain ⟨g2, hf⟩ := gd_e hf
  refine r_getr C hR t_r0 fl_X10_20 (by decide) (nz_e g2) dX10_largest_7 (fun tq3 => ?_)
  have tg2 := okA tq3 rfl
  refine lv_sipush (v := (255 : Int32)) C.x C.b dX10_largest_10 (by decide) ?_
  obtain ⟨q4, h_q4, hf⟩ := bd_e hf
  refine r_callV (As := [.ref (G.2.2 + (hpR h1 r0 6)), .int (255 : Int32)]) (rest := []) C hR hS t_r0 rfl mk_X10_sleptBy cl_X10_328 (k_X10_sleptBy t_r0 tg2 h_q4) ⟨⟨Nat.le_of_ble_eq_true rfl, Nat.le_of_ble_eq_true rfl⟩, ⟨rfl, rfl⟩, Nat.le_of_ble_eq_true rfl, Nat.le_of_ble_eq_true rfl⟩ rfl hl.1 rfl (Nat.le_of_ble_eq_true rfl) dX10_largest_13 (fun H locs hR hS hE1 z_q4 => ?_)
  refine lv_lstore_n (lv' := [(1, .long q4), (0, .ref (G.2.2 + r0))]) C.x C.b dX10_largest_16 rfl hl (by decide) rfl (fun ls hl => ?_)
  refine lv_iconst (v := (0 : Int32)) C.x C.b dX10_largest_17 (by decide) ?_
  refine lv_istore_n (lv' := [(3, .int (0 : Int32)), (1, .long q4), (0, .ref (G.2.2 + r0))]) C.x C.b dX10_largest_18 rfl hl (by decide) rfl (fun ls hl => ?_)
  refine lv_aload_n C.x C.b dX10_largest_19 rfl (lv_at hl 2 rfl) ?_
  refine lv_iconst (v := (0 : Int32)) C.x C.b dX10_largest_20 (by decide) ?_
  refine r_puti C hR hS t_r0 fl_X10_110 fp_X10_10_1 rfl dX10_largest_21 (fun H locs hR hS => ?_)
  obtain ⟨h5, e_h5⟩ : ∃ y, y = upI h1 r0 1 (0 : Int32) := ⟨_, rfl⟩
  rw [← e_h5] at hR
  have hf := lt_e hf e_h5
  have hE := eI e_h5 hE
  have t_r0 := tI e_h5 t_r0
  refine lv_iconst (v := (0 : Int32)) C.x C.b dX10_largest_24 (by decide) ?_
  refine lv_istore (lv' := [(4, .int (0 : Int32)), (3, .int (0 : Int32)), (1, .long q4), (0, .ref (G.2.2 + r0))]) C.x C.b dX10_largest_25 hl (by decide) rfl (fun ls hl => ?_)
  exact w_X10_largest_27 C hr hlk FU _ _ _ _ _ _ _ hf hE hR hS t_r0 (lv_sub hl [3, 2, 1, 0] rfl)

def rm_X10_isFewer : Room := { frames := 1, cells := 0, slots := 0, locals := 20 }
def P_X10_isFewer_15 (G : Gt) (l : Launch) (p : Program) (e : Env) (s : State) (m : MethodId) (args : Array Value) (below : List Frame) (meth : Method) (c : Code) (h : Hp) (out : Int32) (x0 : Int32) (x1 : Int32) (k : Option Int32) : Prop := ∀ (H : Heap) (locs : List Loc) (ls : Array Slot), k = some out → Rel G h H → va_S (AA G.2.2) s.heap H locs → lv_has ls 2 [(0, .int x0), (1, .int x1)] → W p l e rm_X10_isFewer s m args below meth c H locs 0 0 (MQ below (Qm G h h (some (.int out)) 1) args s 0 0 (AA G.2.2)) (F0 m 15 ls [])
set_option maxRecDepth 100000 in
set_option maxHeartbeats 4000000 in
theorem w_X10_isFewer_15 {G : Gt} {l : Launch} {p : Program} {e : Env} {s : State} {m : MethodId} {args : Array Value} {below : List Frame} {meth : Method} {c : Code}  {h : Hp} {out : Int32} {x0 : Int32} {x1 : Int32}  (C : Cx G p m c cX10_isFewer 2 s args RX10) (hr : meth.sig.returnType = some .boolean) (hlk : meth.locks = false)   : P_X10_isFewer_15 G l p e s m args below meth c h out x0 x1 (f_X10_isFewer_15 h x0 x1) := by
  intro H locs ls  hf hR hS  hl
  rw [f_X10_isFewer_15] at hf
  refine lv_iconst (v := (1 : Int32)) C.x C.b dX10_isFewer_15 (by decide) ?_
  refine lv_goto (tgt := 20) C.x C.b dX10_isFewer_16 (by decide) ?_
  have hf := so_e hf
  subst hf
  exact r_zret C hr hlk hR Ext.rf hS z_1 dX10_isFewer_20
set_option maxRecDepth 100000 in
set_option maxHeartbeats 4000000 in
theorem k_X10_isFewer {G : Gt} {l : Launch}  {h : Hp} {x0 : Int32} {x1 : Int32} {out : Int32}   (hf : f_X10_isFewer  h x0 x1 = some out) : Mt G l yX10_isFewer cX10_isFewer 2 (some .boolean) rm_X10_isFewer [.int x0, .int x1] h (some (.int out)) h 1 0 0 := by
  refine r_met (by decide +kernel) (Nat.le_of_ble_eq_true rfl) ?_
  intro p e s m args below meth c ls C hr hlk hnm hR hS hl
  have hl : lv_has ls 2 [(0, .int x0), (1, .int x1)] := hl
  rw [f_X10_isFewer] at hf
  refine lv_iload_n C.x C.b dX10_isFewer_0 rfl (lv_at hl 1 rfl) ?_
  refine lv_if_lt (tgt := 15) C.x C.b dX10_isFewer_1 (by decide) (fun c1 => ?_) (fun c1 => ?_)
  · have hf := it_t hf c1
    exact w_X10_isFewer_15 C hr hlk _ _ _ hf hR hS (lv_sub hl [0, 1] rfl)
  · have hf := it_f hf c1
    refine lv_iload_n C.x C.b dX10_isFewer_4 rfl (lv_at hl 0 rfl) ?_
    obtain ⟨q2, h_q2, hf⟩ := bd_e hf
    refine r_callS (As := [.int x0]) (rest := []) C hR hS mk_J6_bitCount_0f7a4 cl_X10_264 (k_J6_bitCount_0f7a4 h_q2) ⟨⟨Nat.le_of_ble_eq_true rfl, Nat.le_of_ble_eq_true rfl⟩, ⟨rfl, rfl⟩, Nat.le_of_ble_eq_true rfl, Nat.le_of_ble_eq_true rfl⟩ rfl hl.1 rfl (Nat.le_of_ble_eq_true rfl) dX10_isFewer_5 (fun H locs hR hS hE1 z_q2 => ?_)
    refine lv_iload_n C.x C.b dX10_isFewer_8 rfl (lv_at hl 1 rfl) ?_
    obtain ⟨q3, h_q3, hf⟩ := bd_e hf
    refine r_callS (As := [.int x1]) (rest := [.int q2]) C hR hS mk_J6_bitCount_0f7a4 cl_X10_264 (k_J6_bitCount_0f7a4 h_q3) ⟨⟨Nat.le_of_ble_eq_true rfl, Nat.le_of_ble_eq_true rfl⟩, ⟨rfl, rfl⟩, Nat.le_of_ble_eq_true rfl, Nat.le_of_ble_eq_true rfl⟩ rfl hl.1 rfl (Nat.le_of_ble_eq_true rfl) dX10_isFewer_9 (fun H locs hR hS hE1 z_q3 => ?_)
    refine lv_icmp_ge (tgt := 19) C.x C.b dX10_isFewer_12 (by decide) (fun c4 => ?_) (fun c4 => ?_)
    · have hf := it_t hf c4
      refine lv_iconst (v := (0 : Int32)) C.x C.b dX10_isFewer_19 (by decide) ?_
      have hf := so_e hf
      subst hf
      exact r_zret C hr hlk hR Ext.rf hS z_0 dX10_isFewer_20
    · have hf := it_f hf c4
      exact w_X10_isFewer_15 C hr hlk _ _ _ hf hR hS (lv_sub hl [0, 1] rfl)

def rm_X10_makes : Room := { frames := 5, cells := 0, slots := 0, locals := 124 }
def P_X10_makes_74 (G : Gt) (l : Launch) (p : Program) (e : Env) (s : State) (m : MethodId) (args : Array Value) (below : List Frame) (meth : Method) (c : Code) (h0 : Hp) (out : (Int32 × Hp)) (r0 : Nat) (x1 : Int32) (x2 : Int32) (k : Hp → Int32 → Int32 → Option (Int32 × Hp)) : Prop := ∀ (H : Heap) (locs : List Loc) (ls : Array Slot) (h : Hp) (s0 : Int32) (x4 : Int32), k h s0 x4 = some out → Ext h0 h → Rel G h H → va_S (AA G.2.2) s.heap H locs → hpT h r0 = (1, 10) → lv_has ls 5 [(0, .ref (G.2.2 + r0)), (1, .int x1), (2, .int x2), (4, .int x4)] → W p l e rm_X10_makes s m args below meth c H locs 0 0 (MQ below (Qm G h0 out.2 (some (.int out.1)) 0) args s 0 0 (AA G.2.2)) (F0 m 74 ls [.int s0])
def P_X10_makes_73 (G : Gt) (l : Launch) (p : Program) (e : Env) (s : State) (m : MethodId) (args : Array Value) (below : List Frame) (meth : Method) (c : Code) (h0 : Hp) (out : (Int32 × Hp)) (r0 : Nat) (x1 : Int32) (x2 : Int32) (k : Hp → Int32 → Int32 → Option (Int32 × Hp)) : Prop := ∀ (H : Heap) (locs : List Loc) (ls : Array Slot) (h : Hp) (x3 : Int32) (x4 : Int32), k h x3 x4 = some out → Ext h0 h → Rel G h H → va_S (AA G.2.2) s.heap H locs → hpT h r0 = (1, 10) → lv_has ls 5 [(0, .ref (G.2.2 + r0)), (1, .int x1), (2, .int x2), (3, .int x3), (4, .int x4)] → W p l e rm_X10_makes s m args below meth c H locs 0 0 (MQ below (Qm G h0 out.2 (some (.int out.1)) 0) args s 0 0 (AA G.2.2)) (F0 m 73 ls [])
def P_X10_makes_20 (G : Gt) (l : Launch) (p : Program) (e : Env) (s : State) (m : MethodId) (args : Array Value) (below : List Frame) (meth : Method) (c : Code) (h0 : Hp) (out : (Int32 × Hp)) (r0 : Nat) (x1 : Int32) (x2 : Int32) (k : Hp → Int32 → Int32 → Option (Int32 × Hp)) : Prop := ∀ (H : Heap) (locs : List Loc) (ls : Array Slot) (h : Hp) (x3 : Int32) (x4 : Int32), k h x3 x4 = some out → Ext h0 h → Rel G h H → va_S (AA G.2.2) s.heap H locs → hpT h r0 = (1, 10) → lv_has ls 5 [(0, .ref (G.2.2 + r0)), (1, .int x1), (2, .int x2), (3, .int x3), (4, .int x4)] → W p l e rm_X10_makes s m args below meth c H locs 0 0 (MQ below (Qm G h0 out.2 (some (.int out.1)) 0) args s 0 0 (AA G.2.2)) (F0 m 20 ls [])
set_option maxRecDepth 100000 in
set_option maxHeartbeats 4000000 in
theorem w_X10_makes_74 {G : Gt} {l : Launch} {p : Program} {e : Env} {s : State} {m : MethodId} {args : Array Value} {below : List Frame} {meth : Method} {c : Code}  {h0 : Hp} {out : (Int32 × Hp)} {r0 : Nat} {x1 : Int32} {x2 : Int32} {k20 : Hp → Int32 → Int32 → Option (Int32 × Hp)} (C : Cx G p m c cX10_makes 5 s args RX10) (hr : meth.sig.returnType = some .int) (hlk : meth.locks = false)  (hk20 : P_X10_makes_20 G l p e s m args below meth c h0 out r0 x1 x2 k20) : P_X10_makes_74 G l p e s m args below meth c h0 out r0 x1 x2 (f_X10_makes_74 r0 x1 x2 k20) := by
  intro H locs ls h s0 x4 hf hE hR hS t_r0 hl
  rw [f_X10_makes_74] at hf
  refine lv_istore_n (lv' := [(3, .int s0), (0, .ref (G.2.2 + r0)), (1, .int x1), (2, .int x2), (4, .int x4)]) C.x C.b dX10_makes_74 rfl hl (by decide) rfl (fun ls hl => ?_)
  obtain ⟨v19, e_v19⟩ : ∃ y : Int32, y = x4 + (1 : Int32) := ⟨_, rfl⟩
  have hf := lt_e hf e_v19
  refine lv_iinc (v := v19) (lv' := [(4, .int v19), (3, .int s0), (0, .ref (G.2.2 + r0)), (1, .int x1), (2, .int x2)]) C.x C.b dX10_makes_75 hl (k := 4) rfl (by rw [e_v19]; rfl) (by decide) rfl (fun ls hl => ?_)
  refine lv_goto (tgt := 20) C.x C.b dX10_makes_78 (by decide) ?_
  exact hk20 _ _ _ _ _ _ hf hE hR hS t_r0 (lv_sub hl [2, 3, 4, 1, 0] rfl)
set_option maxRecDepth 100000 in
set_option maxHeartbeats 4000000 in
theorem w_X10_makes_73 {G : Gt} {l : Launch} {p : Program} {e : Env} {s : State} {m : MethodId} {args : Array Value} {below : List Frame} {meth : Method} {c : Code}  {h0 : Hp} {out : (Int32 × Hp)} {r0 : Nat} {x1 : Int32} {x2 : Int32} {k20 : Hp → Int32 → Int32 → Option (Int32 × Hp)} (C : Cx G p m c cX10_makes 5 s args RX10) (hr : meth.sig.returnType = some .int) (hlk : meth.locks = false)  (hk20 : P_X10_makes_20 G l p e s m args below meth c h0 out r0 x1 x2 k20) : P_X10_makes_73 G l p e s m args below meth c h0 out r0 x1 x2 (f_X10_makes_73 r0 x1 x2 k20) := by
  intro H locs ls h x3 x4 hf hE hR hS t_r0 hl
  rw [f_X10_makes_73] at hf
  refine lv_iload_n C.x C.b dX10_makes_73 rfl (lv_at hl 3 rfl) ?_
  exact w_X10_makes_74 C hr hlk hk20 _ _ _ _ _ _ hf hE hR hS t_r0 (lv_sub hl [0, 1, 2, 4] rfl)
set_option maxRecDepth 100000 in
set_option maxHeartbeats 4000000 in
theorem w_X10_makes_20 {G : Gt} {l : Launch} {p : Program} {e : Env} {s : State} {m : MethodId} {args : Array Value} {below : List Frame} {meth : Method} {c : Code}  {h0 : Hp} {out : (Int32 × Hp)} {r0 : Nat} {x1 : Int32} {x2 : Int32}  (C : Cx G p m c cX10_makes 5 s args RX10) (hr : meth.sig.returnType = some .int) (hlk : meth.locks = false)   (n : Nat) : P_X10_makes_20 G l p e s m args below meth c h0 out r0 x1 x2 (f_X10_makes_20 r0 x1 x2 n) := by
  induction n with
  | zero => intro H locs ls h x3 x4 hf hE hR hS t_r0 hl; cases hf
  | succ n hk20 =>
    intro H locs ls h x3 x4 hf hE hR hS t_r0 hl
    rw [f_X10_makes_20] at hf
    obtain ⟨k20, e_k20⟩ : ∃ y, y = f_X10_makes_20 r0 x1 x2 n := ⟨_, rfl⟩
    have hf := lt_e hf e_k20
    rw [← e_k20] at hk20
    refine lv_iload C.x C.b dX10_makes_20 (lv_at hl 4 rfl) ?_
    refine lv_iconst (v := (1 : Int32)) C.x C.b dX10_makes_22 (by decide) ?_
    refine lv_aload_n C.x C.b dX10_makes_23 rfl (lv_at hl 0 rfl) ?_
    obtain ⟨g4, hf⟩ := gd_e hf
    refine r_getr C hR t_r0 fl_X10_20 (by decide) (nz_e g4) dX10_makes_24 (fun tq5 => ?_)
    have tg4 := okA tq5 rfl
    refine lv_bipush (v := (48 : Int32)) C.x C.b dX10_makes_27 (by decide) ?_
    obtain ⟨g6, hf⟩ := gd_e hf
    refine r_iald C hR tg4 g6 dX10_makes_29 ?_
    refine lv_ishl C.x C.b dX10_makes_30 ?_
    refine lv_topi (fun v7 e_v7 => ?_)
    have hf := lt_e hf e_v7
    refine lv_icmp_ge (tgt := 81) C.x C.b dX10_makes_31 (by decide) (fun c8 => ?_) (fun c8 => ?_)
    · have hf := it_t hf c8
      refine lv_iload_n C.x C.b dX10_makes_81 rfl (lv_at hl 3 rfl) ?_
      refine lv_if_ge (tgt := 88) C.x C.b dX10_makes_82 (by decide) (fun c9 => ?_) (fun c9 => ?_)
      · have hf := it_t hf c9
        refine lv_aload_n C.x C.b dX10_makes_88 rfl (lv_at hl 0 rfl) ?_
        refine lv_iconst (v := (0 : Int32)) C.x C.b dX10_makes_89 (by decide) ?_
        refine r_puti C hR hS t_r0 fl_X10_110 fp_X10_10_1 rfl dX10_makes_90 (fun H locs hR hS => ?_)
        obtain ⟨h10, e_h10⟩ : ∃ y, y = upI h r0 1 (0 : Int32) := ⟨_, rfl⟩
        rw [← e_h10] at hR
        have hf := lt_e hf e_h10
        have hE := eI e_h10 hE
        have t_r0 := tI e_h10 t_r0
        refine lv_aload_n C.x C.b dX10_makes_93 rfl (lv_at hl 0 rfl) ?_
        refine lv_iload_n C.x C.b dX10_makes_94 rfl (lv_at hl 3 rfl) ?_
        refine lv_i2l C.x C.b dX10_makes_95 rfl ?_
        obtain ⟨q11, h_q11, hf⟩ := bd_e hf
        refine r_callV (As := [.long (x3.toInt64)]) (rest := []) C hR hS t_r0 rfl mk_X10_enters cl_X10_339 (k_X10_enters t_r0 h_q11) ⟨⟨Nat.le_of_ble_eq_true rfl, Nat.le_of_ble_eq_true rfl⟩, ⟨rfl, rfl⟩, Nat.le_of_ble_eq_true rfl, Nat.le_of_ble_eq_true rfl⟩ rfl hl.1 rfl (Nat.le_of_ble_eq_true rfl) dX10_makes_96 (fun H locs hR hS hE1 z_q11 => ?_)
        have hE := hE.tr hE1
        have t_r0 := hE1.at t_r0 (by decide)
        refine lv_iload_n C.x C.b dX10_makes_99 rfl (lv_at hl 3 rfl) ?_
        obtain ⟨q12, h_q12, hf⟩ := bd_e hf
        refine r_callS (As := [.int x3]) (rest := []) C hR hS mk_J6_bitCount_0f7a4 cl_X10_264 (k_J6_bitCount_0f7a4 h_q12) ⟨⟨Nat.le_of_ble_eq_true rfl, Nat.le_of_ble_eq_true rfl⟩, ⟨rfl, rfl⟩, Nat.le_of_ble_eq_true rfl, Nat.le_of_ble_eq_true rfl⟩ rfl hl.1 rfl (Nat.le_of_ble_eq_true rfl) dX10_makes_100 (fun H locs hR hS hE1 z_q12 => ?_)
        have hf := so_e hf
        subst hf
        exact r_iret C hr hlk hR hE hS dX10_makes_103
      · have hf := it_f hf c9
        refine lv_bipush (v := (-2 : Int32)) C.x C.b dX10_makes_85 (by decide) ?_
        have hf := so_e hf
        subst hf
        exact r_iret C hr hlk hR hE hS dX10_makes_87
    · have hf := it_f hf c8
      refine lv_iload C.x C.b dX10_makes_34 (lv_at hl 4 rfl) ?_
      refine lv_iload_n C.x C.b dX10_makes_36 rfl (lv_at hl 3 rfl) ?_
      obtain ⟨q13, h_q13, hf⟩ := bd_e hf
      refine r_callS (As := [.int x4, .int x3]) (rest := []) C hR hS mk_X10_isFewer cl_X10_393 (k_X10_isFewer h_q13) ⟨⟨Nat.le_of_ble_eq_true rfl, Nat.le_of_ble_eq_true rfl⟩, ⟨rfl, rfl⟩, Nat.le_of_ble_eq_true rfl, Nat.le_of_ble_eq_true rfl⟩ rfl hl.1 rfl (Nat.le_of_ble_eq_true rfl) dX10_makes_37 (fun H locs hR hS hE1 z_q13 => ?_)
      have z_q13 := z_q13 _ rfl
      refine lv_if_eq (tgt := 73) C.x C.b dX10_makes_40 (by decide) (fun c14 => ?_) (fun c14 => ?_)
      · have hf := it_t hf c14
        exact w_X10_makes_73 C hr hlk hk20 _ _ _ _ _ _ hf hE hR hS t_r0 (lv_sub hl [0, 1, 2, 3, 4] rfl)
      · have hf := it_f hf c14
        refine lv_aload_n C.x C.b dX10_makes_43 rfl (lv_at hl 0 rfl) ?_
        refine lv_aload_n C.x C.b dX10_makes_44 rfl (lv_at hl 0 rfl) ?_
        refine lv_aload_n C.x C.b dX10_makes_45 rfl (lv_at hl 0 rfl) ?_
        refine r_getr C hR t_r0 fl_X10_20 (by decide) (nz_e g4) dX10_makes_46 (fun tq15 => ?_)
        refine lv_sipush (v := (255 : Int32)) C.x C.b dX10_makes_49 (by decide) ?_
        refine lv_iload C.x C.b dX10_makes_52 (lv_at hl 4 rfl) ?_
        refine lv_iconst (v := (-1 : Int32)) C.x C.b dX10_makes_54 (by decide) ?_
        refine lv_ixor C.x C.b dX10_makes_55 ?_
        refine lv_iand C.x C.b dX10_makes_56 ?_
        obtain ⟨q16, h_q16, hf⟩ := bd_e hf
        refine r_callV (As := [.ref (G.2.2 + (hpR h r0 6)), .int ((255 : Int32) &&& (x4 ^^^ (-1 : Int32)))]) (rest := [.ref (G.2.2 + r0)]) C hR hS t_r0 rfl mk_X10_sleptBy cl_X10_328 (k_X10_sleptBy t_r0 tg4 h_q16) ⟨⟨Nat.le_of_ble_eq_true rfl, Nat.le_of_ble_eq_true rfl⟩, ⟨rfl, rfl⟩, Nat.le_of_ble_eq_true rfl, Nat.le_of_ble_eq_true rfl⟩ rfl hl.1 rfl (Nat.le_of_ble_eq_true rfl) dX10_makes_57 (fun H locs hR hS hE1 z_q16 => ?_)
        refine lv_iload_n C.x C.b dX10_makes_60 rfl (lv_at hl 1 rfl) ?_
        refine lv_iload_n C.x C.b dX10_makes_61 rfl (lv_at hl 2 rfl) ?_
        obtain ⟨q17, h_q17, hf⟩ := bd_e hf
        refine r_callV (As := [.long q16, .int x1, .int x2]) (rest := []) C hR hS t_r0 rfl mk_X10_roomOf cl_X10_388 (k_X10_roomOf t_r0 h_q17) ⟨⟨Nat.le_of_ble_eq_true rfl, Nat.le_of_ble_eq_true rfl⟩, ⟨rfl, rfl⟩, Nat.le_of_ble_eq_true rfl, Nat.le_of_ble_eq_true rfl⟩ rfl hl.1 rfl (Nat.le_of_ble_eq_true rfl) dX10_makes_62 (fun H locs hR hS hE1 z_q17 => ?_)
        have hE := hE.tr hE1
        have t_r0 := hE1.at t_r0 (by decide)
        refine lv_if_lt (tgt := 73) C.x C.b dX10_makes_65 (by decide) (fun c18 => ?_) (fun c18 => ?_)
        · have hf := it_t hf c18
          exact w_X10_makes_73 C hr hlk hk20 _ _ _ _ _ _ hf hE hR hS t_r0 (lv_sub hl [0, 1, 2, 3, 4] rfl)
        · have hf := it_f hf c18
          refine lv_iload C.x C.b dX10_makes_68 (lv_at hl 4 rfl) ?_
          refine lv_goto (tgt := 74) C.x C.b dX10_makes_70 (by decide) ?_
          exact w_X10_makes_74 C hr hlk hk20 _ _ _ _ _ _ hf hE hR hS t_r0 (lv_sub hl [0, 1, 2, 4] rfl)
set_option maxRecDepth 100000 in
set_option maxHeartbeats 4000000 in
theorem k_X10_makes {G : Gt} {l : Launch}  {h : Hp} {r0 : Nat} {x1 : Int32} {x2 : Int32} {out : (Int32 × Hp)} (t_r0 : hpT h r0 = (1, 10))  (hf : f_X10_makes  h r0 x1 x2 = some out) : Mt G l yX10_makes cX10_makes 5 (some .int) rm_X10_makes [.ref (G.2.2 + r0), .int x1, .int x2] h (some (.int out.1)) out.2 0 0 0 := by
  refine r_met (by decide +kernel) (Nat.le_of_ble_eq_true rfl) ?_
  intro p e s m args below meth c ls C hr hlk hnm hR hS hl
  have hE : Ext h h := Ext.rf
  have hl : lv_has ls 5 [(0, .ref (G.2.2 + r0)), (1, .int x1), (2, .int x2)] := hl
  rw [f_X10_makes] at hf
  refine lv_aload_n C.x C.b dX10_makes_0 rfl (lv_at hl 0 rfl) ?_
  refine lv_iconst (v := (0 : Int32)) C.x C.b dX10_makes_1 (by decide) ?_
  refine r_puti C hR hS t_r0 fl_X10_103 fp_X10_10_0 rfl dX10_makes_2 (fun H locs hR hS => ?_)
  obtain ⟨h1, e_h1⟩ : ∃ y, y = upI h r0 0 (0 : Int32) := ⟨_, rfl⟩
  rw [← e_h1] at hR
  have hf := lt_e hf e_h1
  have hE := eI e_h1 hE
  have t_r0 := tI e_h1 t_r0
  refine lv_iload_n C.x C.b dX10_makes_5 rfl (lv_at hl 1 rfl) ?_
  refine lv_iload_n C.x C.b dX10_makes_6 rfl (lv_at hl 2 rfl) ?_
  obtain ⟨q2, h_q2, hf⟩ := bd_e hf
  refine r_callS (As := [.int x1, .int x2]) (rest := []) C hR hS mk_X10_isSize cl_X10_384 (k_X10_isSize h_q2) ⟨⟨Nat.le_of_ble_eq_true rfl, Nat.le_of_ble_eq_true rfl⟩, ⟨rfl, rfl⟩, Nat.le_of_ble_eq_true rfl, Nat.le_of_ble_eq_true rfl⟩ rfl hl.1 rfl (Nat.le_of_ble_eq_true rfl) dX10_makes_7 (fun H locs hR hS hE1 z_q2 => ?_)
  have z_q2 := z_q2 _ rfl
  refine lv_if_ne (tgt := 15) C.x C.b dX10_makes_10 (by decide) (fun c3 => ?_) (fun c3 => ?_)
  · have hf := it_f hf c3
    refine lv_iconst (v := (-1 : Int32)) C.x C.b dX10_makes_15 (by decide) ?_
    refine lv_istore_n (lv' := [(3, .int (-1 : Int32)), (0, .ref (G.2.2 + r0)), (1, .int x1), (2, .int x2)]) C.x C.b dX10_makes_16 rfl hl (by decide) rfl (fun ls hl => ?_)
    refine lv_iconst (v := (0 : Int32)) C.x C.b dX10_makes_17 (by decide) ?_
    refine lv_istore (lv' := [(4, .int (0 : Int32)), (3, .int (-1 : Int32)), (0, .ref (G.2.2 + r0)), (1, .int x1), (2, .int x2)]) C.x C.b dX10_makes_18 hl (by decide) rfl (fun ls hl => ?_)
    exact w_X10_makes_20 C hr hlk FU _ _ _ _ _ _ hf hE hR hS t_r0 (lv_sub hl [2, 3, 4, 1, 0] rfl)
  · have hf := it_t hf c3
    refine lv_iconst (v := (-1 : Int32)) C.x C.b dX10_makes_13 (by decide) ?_
    have hf := so_e hf
    subst hf
    exact r_iret C hr hlk hR hE hS dX10_makes_14

def rm_X10_beside : Room := { frames := 1, cells := 0, slots := 0, locals := 25 }
def P_X10_beside_51 (G : Gt) (l : Launch) (p : Program) (e : Env) (s : State) (m : MethodId) (args : Array Value) (below : List Frame) (meth : Method) (c : Code) (h : Hp) (out : Int32) (r0 : Nat) (x1 : Int32) (x2 : Int32) (k : Int32 → Int32 → Int32 → Option Int32) : Prop := ∀ (H : Heap) (locs : List Loc) (ls : Array Slot) (s0 : Int32) (s1 : Int32) (x3 : Int32), k s0 s1 x3 = some out → Rel G h H → va_S (AA G.2.2) s.heap H locs → hpT h r0 = (1, 10) → lv_has ls 5 [(0, .ref (G.2.2 + r0)), (1, .int x1), (2, .int x2), (3, .int x3)] → W p l e rm_X10_beside s m args below meth c H locs 0 0 (MQ below (Qm G h h (some (.int out)) 0) args s 0 0 (AA G.2.2)) (F0 m 51 ls [.int s1, .int s0])
def P_X10_beside_24 (G : Gt) (l : Launch) (p : Program) (e : Env) (s : State) (m : MethodId) (args : Array Value) (below : List Frame) (meth : Method) (c : Code) (h : Hp) (out : Int32) (r0 : Nat) (x1 : Int32) (x2 : Int32) (k : Int32 → Int32 → Option Int32) : Prop := ∀ (H : Heap) (locs : List Loc) (ls : Array Slot) (s0 : Int32) (s1 : Int32), k s0 s1 = some out → Rel G h H → va_S (AA G.2.2) s.heap H locs → hpT h r0 = (1, 10) → lv_has ls 5 [(0, .ref (G.2.2 + r0)), (1, .int x1), (2, .int x2)] → W p l e rm_X10_beside s m args below meth c H locs 0 0 (MQ below (Qm G h h (some (.int out)) 0) args s 0 0 (AA G.2.2)) (F0 m 24 ls [.int s1, .int s0])
set_option maxRecDepth 100000 in
set_option maxHeartbeats 4000000 in
theorem w_X10_beside_51 {G : Gt} {l : Launch} {p : Program} {e : Env} {s : State} {m : MethodId} {args : Array Value} {below : List Frame} {meth : Method} {c : Code}  {h : Hp} {out : Int32} {r0 : Nat} {x1 : Int32} {x2 : Int32}  (C : Cx G p m c cX10_beside 5 s args RX10) (hr : meth.sig.returnType = some .int) (hlk : meth.locks = false)   : P_X10_beside_51 G l p e s m args below meth c h out r0 x1 x2 (f_X10_beside_51 h r0 x1 x2) := by
  intro H locs ls s0 s1 x3 hf hR hS t_r0 hl
  rw [f_X10_beside_51] at hf
  refine lv_iadd C.x C.b dX10_beside_51 ?_
  refine lv_topi (fun v9 e_v9 => ?_)
  have hf := lt_e hf e_v9
  refine lv_istore (lv' := [(4, .int v9), (0, .ref (G.2.2 + r0)), (1, .int x1), (2, .int x2), (3, .int x3)]) C.x C.b dX10_beside_52 hl (by decide) rfl (fun ls hl => ?_)
  refine lv_iload_n C.x C.b dX10_beside_54 rfl (lv_at hl 4 rfl) ?_
  refine lv_i2l C.x C.b dX10_beside_55 rfl ?_
  refine lv_lconst (v := (0 : Int64)) C.x C.b dX10_beside_56 (by decide) ?_
  refine lv_aload_n C.x C.b dX10_beside_57 rfl (lv_at hl 1 rfl) ?_
  refine r_geti C hR t_r0 fl_X10_13 rfl dX10_beside_58 ?_
  refine lv_iconst (v := (1 : Int32)) C.x C.b dX10_beside_61 (by decide) ?_
  refine lv_isub C.x C.b dX10_beside_62 ?_
  refine lv_i2l C.x C.b dX10_beside_63 rfl ?_
  obtain ⟨q10, h_q10, hf⟩ := bd_e hf
  refine r_callS (As := [.long (x3.toInt64), .long (0 : Int64), .long (((hpI h r0 3) - (1 : Int32)).toInt64)]) (rest := []) C hR hS mk_X10_in cl_X10_117 (k_X10_in h_q10) ⟨⟨Nat.le_of_ble_eq_true rfl, Nat.le_of_ble_eq_true rfl⟩, ⟨rfl, rfl⟩, Nat.le_of_ble_eq_true rfl, Nat.le_of_ble_eq_true rfl⟩ rfl hl.1 rfl (Nat.le_of_ble_eq_true rfl) dX10_beside_64 (fun H locs hR hS hE1 z_q10 => ?_)
  have z_q10 := z_q10 _ rfl
  refine lv_if_eq (tgt := 99) C.x C.b dX10_beside_67 (by decide) (fun c11 => ?_) (fun c11 => ?_)
  · have hf := it_t hf c11
    refine lv_iconst (v := (-1 : Int32)) C.x C.b dX10_beside_99 (by decide) ?_
    have hf := so_e hf
    subst hf
    exact r_iret C hr hlk hR Ext.rf hS dX10_beside_100
  · have hf := it_f hf c11
    refine lv_iload C.x C.b dX10_beside_70 (lv_at hl 0 rfl) ?_
    refine lv_i2l C.x C.b dX10_beside_72 rfl ?_
    refine lv_lconst (v := (0 : Int64)) C.x C.b dX10_beside_73 (by decide) ?_
    refine lv_aload_n C.x C.b dX10_beside_74 rfl (lv_at hl 1 rfl) ?_
    refine r_geti C hR t_r0 fl_X10_17 rfl dX10_beside_75 ?_
    refine lv_iconst (v := (1 : Int32)) C.x C.b dX10_beside_78 (by decide) ?_
    refine lv_isub C.x C.b dX10_beside_79 ?_
    refine lv_i2l C.x C.b dX10_beside_80 rfl ?_
    obtain ⟨q12, h_q12, hf⟩ := bd_e hf
    refine r_callS (As := [.long (v9.toInt64), .long (0 : Int64), .long (((hpI h r0 4) - (1 : Int32)).toInt64)]) (rest := []) C hR hS mk_X10_in cl_X10_117 (k_X10_in h_q12) ⟨⟨Nat.le_of_ble_eq_true rfl, Nat.le_of_ble_eq_true rfl⟩, ⟨rfl, rfl⟩, Nat.le_of_ble_eq_true rfl, Nat.le_of_ble_eq_true rfl⟩ rfl hl.1 rfl (Nat.le_of_ble_eq_true rfl) dX10_beside_81 (fun H locs hR hS hE1 z_q12 => ?_)
    have z_q12 := z_q12 _ rfl
    refine lv_if_eq (tgt := 99) C.x C.b dX10_beside_84 (by decide) (fun c13 => ?_) (fun c13 => ?_)
    · have hf := it_t hf c13
      refine lv_iconst (v := (-1 : Int32)) C.x C.b dX10_beside_99 (by decide) ?_
      have hf := so_e hf
      subst hf
      exact r_iret C hr hlk hR Ext.rf hS dX10_beside_100
    · have hf := it_f hf c13
      refine lv_aload_n C.x C.b dX10_beside_87 rfl (lv_at hl 1 rfl) ?_
      refine r_geti C hR t_r0 fl_X10_17 rfl dX10_beside_88 ?_
      refine lv_iload_n C.x C.b dX10_beside_91 rfl (lv_at hl 4 rfl) ?_
      refine lv_imul C.x C.b dX10_beside_92 ?_
      refine lv_iload C.x C.b dX10_beside_93 (lv_at hl 0 rfl) ?_
      refine lv_iadd C.x C.b dX10_beside_95 ?_
      refine lv_goto (tgt := 100) C.x C.b dX10_beside_96 (by decide) ?_
      have hf := so_e hf
      subst hf
      exact r_iret C hr hlk hR Ext.rf hS dX10_beside_100
set_option maxRecDepth 100000 in
set_option maxHeartbeats 4000000 in
theorem w_X10_beside_24 {G : Gt} {l : Launch} {p : Program} {e : Env} {s : State} {m : MethodId} {args : Array Value} {below : List Frame} {meth : Method} {c : Code}  {h : Hp} {out : Int32} {r0 : Nat} {x1 : Int32} {x2 : Int32}  (C : Cx G p m c cX10_beside 5 s args RX10) (hr : meth.sig.returnType = some .int) (hlk : meth.locks = false)   : P_X10_beside_24 G l p e s m args below meth c h out r0 x1 x2 (f_X10_beside_24 h r0 x1 x2) := by
  intro H locs ls s0 s1 hf hR hS t_r0 hl
  rw [f_X10_beside_24] at hf
  refine lv_iadd C.x C.b dX10_beside_24 ?_
  refine lv_topi (fun v4 e_v4 => ?_)
  have hf := lt_e hf e_v4
  refine lv_istore_n (lv' := [(3, .int v4), (0, .ref (G.2.2 + r0)), (1, .int x1), (2, .int x2)]) C.x C.b dX10_beside_25 rfl hl (by decide) rfl (fun ls hl => ?_)
  refine lv_iload_n C.x C.b dX10_beside_26 rfl (lv_at hl 2 rfl) ?_
  refine lv_aload_n C.x C.b dX10_beside_27 rfl (lv_at hl 1 rfl) ?_
  refine r_geti C hR t_r0 fl_X10_17 rfl dX10_beside_28 ?_
  obtain ⟨g5, hf⟩ := gd_e hf
  refine lv_irem C.x C.b dX10_beside_31 (nz32_e g5) ?_
  refine lv_topi (fun v6 e_v6 => ?_)
  have hf := lt_e hf e_v6
  refine lv_iload_n C.x C.b dX10_beside_32 rfl (lv_at hl 3 rfl) ?_
  refine lv_iconst (v := (1 : Int32)) C.x C.b dX10_beside_33 (by decide) ?_
  refine lv_icmp_ne (tgt := 41) C.x C.b dX10_beside_34 (by decide) (fun c7 => ?_) (fun c7 => ?_)
  · simp only [if_neg c7] at hf
    refine lv_iload_n C.x C.b dX10_beside_41 rfl (lv_at hl 3 rfl) ?_
    refine lv_iconst (v := (3 : Int32)) C.x C.b dX10_beside_42 (by decide) ?_
    refine lv_icmp_ne (tgt := 50) C.x C.b dX10_beside_43 (by decide) (fun c8 => ?_) (fun c8 => ?_)
    · simp only [if_neg c8] at hf
      refine lv_iconst (v := (0 : Int32)) C.x C.b dX10_beside_50 (by decide) ?_
      exact w_X10_beside_51 C hr hlk _ _ _ _ _ _ hf hR hS t_r0 (lv_sub hl [1, 2, 3, 0] rfl)
    · simp only [if_pos c8] at hf
      refine lv_iconst (v := (-1 : Int32)) C.x C.b dX10_beside_46 (by decide) ?_
      refine lv_goto (tgt := 51) C.x C.b dX10_beside_47 (by decide) ?_
      exact w_X10_beside_51 C hr hlk _ _ _ _ _ _ hf hR hS t_r0 (lv_sub hl [1, 2, 3, 0] rfl)
  · simp only [if_pos c7] at hf
    refine lv_iconst (v := (1 : Int32)) C.x C.b dX10_beside_37 (by decide) ?_
    refine lv_goto (tgt := 51) C.x C.b dX10_beside_38 (by decide) ?_
    exact w_X10_beside_51 C hr hlk _ _ _ _ _ _ hf hR hS t_r0 (lv_sub hl [1, 2, 3, 0] rfl)
set_option maxRecDepth 100000 in
set_option maxHeartbeats 4000000 in
theorem k_X10_beside {G : Gt} {l : Launch}  {h : Hp} {r0 : Nat} {x1 : Int32} {x2 : Int32} {out : Int32} (t_r0 : hpT h r0 = (1, 10))  (hf : f_X10_beside  h r0 x1 x2 = some out) : Mt G l yX10_beside cX10_beside 5 (some .int) rm_X10_beside [.ref (G.2.2 + r0), .int x1, .int x2] h (some (.int out)) h 0 0 0 := by
  refine r_met (by decide +kernel) (Nat.le_of_ble_eq_true rfl) ?_
  intro p e s m args below meth c ls C hr hlk hnm hR hS hl
  have hl : lv_has ls 5 [(0, .ref (G.2.2 + r0)), (1, .int x1), (2, .int x2)] := hl
  rw [f_X10_beside] at hf
  refine lv_iload_n C.x C.b dX10_beside_0 rfl (lv_at hl 1 rfl) ?_
  refine lv_aload_n C.x C.b dX10_beside_1 rfl (lv_at hl 0 rfl) ?_
  refine r_geti C hR t_r0 fl_X10_17 rfl dX10_beside_2 ?_
  obtain ⟨g1, hf⟩ := gd_e hf
  refine lv_idiv C.x C.b dX10_beside_5 (nz32_e g1) ?_
  refine lv_iload_n C.x C.b dX10_beside_6 rfl (lv_at hl 2 rfl) ?_
  refine lv_iconst (v := (2 : Int32)) C.x C.b dX10_beside_7 (by decide) ?_
  refine lv_icmp_ne (tgt := 15) C.x C.b dX10_beside_8 (by decide) (fun c2 => ?_) (fun c2 => ?_)
  · simp only [if_neg c2] at hf
    refine lv_iload_n C.x C.b dX10_beside_15 rfl (lv_at hl 2 rfl) ?_
    refine lv_if_ne (tgt := 23) C.x C.b dX10_beside_16 (by decide) (fun c3 => ?_) (fun c3 => ?_)
    · simp only [if_neg c3] at hf
      refine lv_iconst (v := (0 : Int32)) C.x C.b dX10_beside_23 (by decide) ?_
      exact w_X10_beside_24 C hr hlk _ _ _ _ _ hf hR hS t_r0 (lv_sub hl [0, 1, 2] rfl)
    · simp only [if_pos c3] at hf
      refine lv_iconst (v := (-1 : Int32)) C.x C.b dX10_beside_19 (by decide) ?_
      refine lv_goto (tgt := 24) C.x C.b dX10_beside_20 (by decide) ?_
      exact w_X10_beside_24 C hr hlk _ _ _ _ _ hf hR hS t_r0 (lv_sub hl [0, 1, 2] rfl)
  · simp only [if_pos c2] at hf
    refine lv_iconst (v := (1 : Int32)) C.x C.b dX10_beside_11 (by decide) ?_
    refine lv_goto (tgt := 24) C.x C.b dX10_beside_12 (by decide) ?_
    exact w_X10_beside_24 C hr hlk _ _ _ _ _ hf hR hS t_r0 (lv_sub hl [0, 1, 2] rfl)

def rm_X10_state : Room := { frames := 0, cells := 0, slots := 0, locals := 0 }
set_option maxRecDepth 100000 in
set_option maxHeartbeats 4000000 in
theorem k_X10_state {G : Gt} {l : Launch}  {h : Hp} {x0 : Int32} {x1 : Int32} {out : Int32}   (hf : f_X10_state  h x0 x1 = some out) : Mt G l yX10_state cX10_state 2 (some .int) rm_X10_state [.int x0, .int x1] h (some (.int out)) h 0 0 0 := by
  refine r_met (by decide +kernel) (Nat.le_of_ble_eq_true rfl) ?_
  intro p e s m args below meth c ls C hr hlk hnm hR hS hl
  have hl : lv_has ls 2 [(0, .int x0), (1, .int x1)] := hl
  rw [f_X10_state] at hf
  refine lv_iload_n C.x C.b dX10_state_0 rfl (lv_at hl 0 rfl) ?_
  refine lv_bipush (v := (8 : Int32)) C.x C.b dX10_state_1 (by decide) ?_
  refine lv_ishl C.x C.b dX10_state_3 ?_
  refine lv_topi (fun v1 e_v1 => ?_)
  have hf := lt_e hf e_v1
  refine lv_iload_n C.x C.b dX10_state_4 rfl (lv_at hl 1 rfl) ?_
  refine lv_ior C.x C.b dX10_state_5 ?_
  have hf := so_e hf
  subst hf
  exact r_iret C hr hlk hR Ext.rf hS dX10_state_6

