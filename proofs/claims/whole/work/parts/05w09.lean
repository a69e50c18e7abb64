def rm_X9_makes : Room := { frames := 4, cells := 0, slots := 0, locals := 88 }
def P_X9_makes_92 (G : Gt) (l : Launch) (p : Program) (e : Env) (s : State) (m : MethodId) (args : Array Value) (below : List Frame) (meth : Method) (c : Code) (h0 : Hp) (out : (Int32 × Hp)) (r0 : Nat) (x1 : Int32) (x2 : Int32) (k : Hp → Int32 → Int32 → Int32 → Option (Int32 × Hp)) : Prop := ∀ (H : Heap) (locs : List Loc) (ls : Array Slot) (h : Hp) (x3 : Int32) (x4 : Int32) (x5 : Int32), k h x3 x4 x5 = some out → Ext h0 h → Rel G h H → va_S (AA G.2.2) s.heap H locs → hpT h r0 = (1, 9) → lv_has ls 8 [(0, .ref (G.2.2 + r0)), (1, .int x1), (2, .int x2), (3, .int x3), (4, .int x4), (5, .int x5)] → W p l e rm_X9_makes s m args below meth c H locs 0 0 (MQ below (Qm G h0 out.2 (some (.int out.1)) 0) args s 0 0 (AA G.2.2)) (F0 m 92 ls [])
def P_X9_makes_85 (G : Gt) (l : Launch) (p : Program) (e : Env) (s : State) (m : MethodId) (args : Array Value) (below : List Frame) (meth : Method) (c : Code) (h0 : Hp) (out : (Int32 × Hp)) (r0 : Nat) (x1 : Int32) (x2 : Int32) (k : Hp → Int32 → Int32 → Int32 → Option (Int32 × Hp)) : Prop := ∀ (H : Heap) (locs : List Loc) (ls : Array Slot) (h : Hp) (x5 : Int32) (x6 : Int32) (x7 : Int32), k h x5 x6 x7 = some out → Ext h0 h → Rel G h H → va_S (AA G.2.2) s.heap H locs → hpT h r0 = (1, 9) → lv_has ls 8 [(0, .ref (G.2.2 + r0)), (1, .int x1), (2, .int x2), (5, .int x5), (6, .int x6), (7, .int x7)] → W p l e rm_X9_makes s m args below meth c H locs 0 0 (MQ below (Qm G h0 out.2 (some (.int out.1)) 0) args s 0 0 (AA G.2.2)) (F0 m 85 ls [])
def P_X9_makes_20 (G : Gt) (l : Launch) (p : Program) (e : Env) (s : State) (m : MethodId) (args : Array Value) (below : List Frame) (meth : Method) (c : Code) (h0 : Hp) (out : (Int32 × Hp)) (r0 : Nat) (x1 : Int32) (x2 : Int32) (k : Hp → Int32 → Int32 → Int32 → Option (Int32 × Hp)) : Prop := ∀ (H : Heap) (locs : List Loc) (ls : Array Slot) (h : Hp) (x3 : Int32) (x4 : Int32) (x5 : Int32), k h x3 x4 x5 = some out → Ext h0 h → Rel G h H → va_S (AA G.2.2) s.heap H locs → hpT h r0 = (1, 9) → lv_has ls 8 [(0, .ref (G.2.2 + r0)), (1, .int x1), (2, .int x2), (3, .int x3), (4, .int x4), (5, .int x5)] → W p l e rm_X9_makes s m args below meth c H locs 0 0 (MQ below (Qm G h0 out.2 (some (.int out.1)) 0) args s 0 0 (AA G.2.2)) (F0 m 20 ls [])
set_option maxRecDepth 100000 in
set_option maxHeartbeats 4000000 in
theorem w_X9_makes_92 {G : Gt} {l : Launch} {p : Program} {e : Env} {s : State} {m : MethodId} {args : Array Value} {below : List Frame} {meth : Method} {c : Code}  {h0 : Hp} {out : (Int32 × Hp)} {r0 : Nat} {x1 : Int32} {x2 : Int32} {k20 : Hp → Int32 → Int32 → Int32 → Option (Int32 × Hp)} (C : Cx G p m c cX9_makes 8 s args RX9) (hr : meth.sig.returnType = some .int) (hlk : meth.locks = false)  (hk20 : P_X9_makes_20 G l p e s m args below meth c h0 out r0 x1 x2 k20) : P_X9_makes_92 G l p e s m args below meth c h0 out r0 x1 x2 (f_X9_makes_92 r0 x1 x2 k20) := by
  intro H locs ls h x3 x4 x5 hf hE hR hS t_r0 hl
  rw [f_X9_makes_92] at hf
  obtain ⟨v23, e_v23⟩ : ∃ y : Int32, y = x5 + (1 : Int32) := ⟨_, rfl⟩
  have hf := lt_e hf e_v23
  refine lv_iinc (v := v23) (lv' := [(5, .int v23), (0, .ref (G.2.2 + r0)), (1, .int x1), (2, .int x2), (3, .int x3), (4, .int x4)]) C.x C.b dX9_makes_92 hl (k := 5) rfl (by rw [e_v23]; rfl) (by decide) rfl (fun ls hl => ?_)
  refine lv_goto (tgt := 20) C.x C.b dX9_makes_95 (by decide) ?_
  exact hk20 _ _ _ _ _ _ _ hf hE hR hS t_r0 (lv_sub hl [1, 2, 3, 4, 5, 0] rfl)
set_option maxRecDepth 100000 in
set_option maxHeartbeats 4000000 in
theorem w_X9_makes_85 {G : Gt} {l : Launch} {p : Program} {e : Env} {s : State} {m : MethodId} {args : Array Value} {below : List Frame} {meth : Method} {c : Code}  {h0 : Hp} {out : (Int32 × Hp)} {r0 : Nat} {x1 : Int32} {x2 : Int32} {k20 : Hp → Int32 → Int32 → Int32 → Option (Int32 × Hp)} (C : Cx G p m c cX9_makes 8 s args RX9) (hr : meth.sig.returnType = some .int) (hlk : meth.locks = false)  (hk20 : P_X9_makes_20 G l p e s m args below meth c h0 out r0 x1 x2 k20) : P_X9_makes_85 G l p e s m args below meth c h0 out r0 x1 x2 (f_X9_makes_85 r0 x1 x2 k20) := by
  intro H locs ls h x5 x6 x7 hf hE hR hS t_r0 hl
  rw [f_X9_makes_85] at hf
  refine lv_iload C.x C.b dX9_makes_85 (lv_at hl 5 rfl) ?_
  refine lv_istore_n (lv' := [(3, .int x7), (0, .ref (G.2.2 + r0)), (1, .int x1), (2, .int x2), (5, .int x5), (6, .int x6), (7, .int x7)]) C.x C.b dX9_makes_87 rfl hl (by decide) rfl (fun ls hl => ?_)
  refine lv_iload C.x C.b dX9_makes_88 (lv_at hl 5 rfl) ?_
  refine lv_istore (lv' := [(4, .int x6), (3, .int x7), (0, .ref (G.2.2 + r0)), (1, .int x1), (2, .int x2), (5, .int x5), (6, .int x6), (7, .int x7)]) C.x C.b dX9_makes_90 hl (by decide) rfl (fun ls hl => ?_)
  exact w_X9_makes_92 C hr hlk hk20 _ _ _ _ _ _ _ hf hE hR hS t_r0 (lv_sub hl [2, 3, 4, 1, 0, 5] rfl)
set_option maxRecDepth 100000 in
set_option maxHeartbeats 4000000 in
theorem w_X9_makes_20 {G : Gt} {l : Launch} {p : Program} {e : Env} {s : State} {m : MethodId} {args : Array Value} {below : List Frame} {meth : Method} {c : Code}  {h0 : Hp} {out : (Int32 × Hp)} {r0 : Nat} {x1 : Int32} {x2 : Int32}  (C : Cx G p m c cX9_makes 8 s args RX9) (hr : meth.sig.returnType = some .int) (hlk : meth.locks = false)   (n : Nat) : P_X9_makes_20 G l p e s m args below meth c h0 out r0 x1 x2 (f_X9_makes_20 r0 x1 x2 n) := by
  induction n with
  | zero => intro H locs ls h x3 x4 x5 hf hE hR hS t_r0 hl; cases hf
  | succ n hk20 =>
    intro H locs ls h x3 x4 x5 hf hE hR hS t_r0 hl
    rw [f_X9_makes_20] at hf
    obtain ⟨k20, e_k20⟩ : ∃ y, y = f_X9_makes_20 r0 x1 x2 n := ⟨_, rfl⟩
    have hf := lt_e hf e_k20
    rw [← e_k20] at hk20
    refine lv_iload C.x C.b dX9_makes_20 (lv_at hl 5 rfl) ?_
    refine lv_aload_n C.x C.b dX9_makes_22 rfl (lv_at hl 0 rfl) ?_
    obtain ⟨g3, hf⟩ := gd_e hf
    refine r_getr C hR t_r0 fl_X9_26 (by decide) (nz_e g3) dX9_makes_23 (fun tq4 => ?_)
    have tg3 := okO tq4 rfl
    obtain ⟨q5, h_q5, hf⟩ := bd_e hf
    refine r_callV (As := []) (rest := [.int x5]) C hR hS tg3 rfl mk_X0_cells cl_X9_118 (k_X0_cells tg3 h_q5) ⟨⟨Nat.le_of_ble_eq_true rfl, Nat.le_of_ble_eq_true rfl⟩, ⟨rfl, rfl⟩, Nat.le_of_ble_eq_true rfl, Nat.le_of_ble_eq_true rfl⟩ rfl hl.1 rfl (Nat.le_of_ble_eq_true rfl) dX9_makes_26 (fun H locs hR hS hE1 z_q5 => ?_)
    refine lv_icmp_ge (tgt := 98) C.x C.b dX9_makes_29 (by decide) (fun c6 => ?_) (fun c6 => ?_)
    · have hf := it_t hf c6
      refine lv_iload_n C.x C.b dX9_makes_98 rfl (lv_at hl 3 rfl) ?_
      refine lv_bipush (v := (8 : Int32)) C.x C.b dX9_makes_99 (by decide) ?_
      refine lv_icmp_le (tgt := 107) C.x C.b dX9_makes_101 (by decide) (fun c7 => ?_) (fun c7 => ?_)
      · have hf := it_t hf c7
        refine lv_aload_n C.x C.b dX9_makes_107 rfl (lv_at hl 0 rfl) ?_
        obtain ⟨g8, hf⟩ := gd_e hf
        refine r_getr C hR t_r0 fl_X9_19 (by decide) (nz_e g8) dX9_makes_108 (fun tq9 => ?_)
        have tg8 := okO tq9 rfl
        obtain ⟨q10, h_q10, hf⟩ := bd_e hf
        refine r_callV (As := []) (rest := []) C hR hS tg8 rfl mk_X7_start cl_X9_220 (k_X7_start tg8 h_q10) ⟨⟨Nat.le_of_ble_eq_true rfl, Nat.le_of_ble_eq_true rfl⟩, ⟨rfl, rfl⟩, Nat.le_of_ble_eq_true rfl, Nat.le_of_ble_eq_true rfl⟩ rfl hl.1 rfl (Nat.le_of_ble_eq_true rfl) dX9_makes_111 (fun H locs hR hS hE1 z_q10 => ?_)
        have hE := hE.tr hE1
        have t_r0 := hE1.at t_r0 (by decide)
        refine lv_aload_n C.x C.b dX9_makes_114 rfl (lv_at hl 0 rfl) ?_
        obtain ⟨g11, hf⟩ := gd_e hf
        refine r_getr C hR t_r0 fl_X9_19 (by decide) (nz_e g11) dX9_makes_115 (fun tq12 => ?_)
        have tg11 := okO tq12 rfl
        refine lv_iload C.x C.b dX9_makes_118 (lv_at hl 4 rfl) ?_
        refine lv_i2l C.x C.b dX9_makes_120 rfl ?_
        obtain ⟨q13, h_q13, hf⟩ := bd_e hf
        refine r_callV (As := [.long (x4.toInt64)]) (rest := []) C hR hS tg11 rfl mk_X7_add cl_X9_223 (k_X7_add tg11 h_q13) ⟨⟨Nat.le_of_ble_eq_true rfl, Nat.le_of_ble_eq_true rfl⟩, ⟨rfl, rfl⟩, Nat.le_of_ble_eq_true rfl, Nat.le_of_ble_eq_true rfl⟩ rfl hl.1 rfl (Nat.le_of_ble_eq_true rfl) dX9_makes_121 (fun H locs hR hS hE1 z_q13 => ?_)
        have hE := hE.tr hE1
        have t_r0 := hE1.at t_r0 (by decide)
        refine lv_iload_n C.x C.b dX9_makes_124 rfl (lv_at hl 3 rfl) ?_
        have hf := so_e hf
        subst hf
        exact r_iret C hr hlk hR hE hS dX9_makes_125
      · have hf := it_f hf c7
        refine lv_bipush (v := (-2 : Int32)) C.x C.b dX9_makes_104 (by decide) ?_
        have hf := so_e hf
        subst hf
        exact r_iret C hr hlk hR hE hS dX9_makes_106
    · have hf := it_f hf c6
      refine lv_aload_n C.x C.b dX9_makes_32 rfl (lv_at hl 0 rfl) ?_
      refine r_getr C hR t_r0 fl_X9_26 (by decide) (nz_e g3) dX9_makes_33 (fun tq14 => ?_)
      refine lv_iload C.x C.b dX9_makes_36 (lv_at hl 5 rfl) ?_
      refine lv_iload_n C.x C.b dX9_makes_38 rfl (lv_at hl 1 rfl) ?_
      refine lv_iload_n C.x C.b dX9_makes_39 rfl (lv_at hl 2 rfl) ?_
      obtain ⟨q15, h_q15, hf⟩ := bd_e hf
      refine r_callV (As := [.int x5, .int x1, .int x2]) (rest := []) C hR hS tg3 rfl mk_X0_holds cl_X9_316 (k_X0_holds tg3 h_q15) ⟨⟨Nat.le_of_ble_eq_true rfl, Nat.le_of_ble_eq_true rfl⟩, ⟨rfl, rfl⟩, Nat.le_of_ble_eq_true rfl, Nat.le_of_ble_eq_true rfl⟩ rfl hl.1 rfl (Nat.le_of_ble_eq_true rfl) dX9_makes_40 (fun H locs hR hS hE1 z_q15 => ?_)
      have z_q15 := z_q15 _ rfl
      refine lv_if_eq (tgt := 92) C.x C.b dX9_makes_43 (by decide) (fun c16 => ?_) (fun c16 => ?_)
      · have hf := it_t hf c16
        exact w_X9_makes_92 C hr hlk hk20 _ _ _ _ _ _ _ hf hE hR hS t_r0 (lv_sub hl [0, 1, 2, 3, 4, 5] rfl)
      · have hf := it_f hf c16
        refine lv_aload_n C.x C.b dX9_makes_46 rfl (lv_at hl 0 rfl) ?_
        refine r_getr C hR t_r0 fl_X9_26 (by decide) (nz_e g3) dX9_makes_47 (fun tq17 => ?_)
        refine lv_iload C.x C.b dX9_makes_50 (lv_at hl 5 rfl) ?_
        refine lv_iload_n C.x C.b dX9_makes_52 rfl (lv_at hl 1 rfl) ?_
        refine lv_iload_n C.x C.b dX9_makes_53 rfl (lv_at hl 2 rfl) ?_
        obtain ⟨q18, h_q18, hf⟩ := bd_e hf
        refine r_callV (As := [.int x5, .int x1, .int x2]) (rest := []) C hR hS tg3 rfl mk_X0_onUnder cl_X9_323 (k_X0_onUnder tg3 h_q18) ⟨⟨Nat.le_of_ble_eq_true rfl, Nat.le_of_ble_eq_true rfl⟩, ⟨rfl, rfl⟩, Nat.le_of_ble_eq_true rfl, Nat.le_of_ble_eq_true rfl⟩ rfl hl.1 rfl (Nat.le_of_ble_eq_true rfl) dX9_makes_54 (fun H locs hR hS hE1 z_q18 => ?_)
        refine lv_istore (lv' := [(6, .int q18), (0, .ref (G.2.2 + r0)), (1, .int x1), (2, .int x2), (3, .int x3), (4, .int x4), (5, .int x5)]) C.x C.b dX9_makes_57 hl (by decide) rfl (fun ls hl => ?_)
        refine lv_iload C.x C.b dX9_makes_59 (lv_at hl 0 rfl) ?_
        obtain ⟨q19, h_q19, hf⟩ := bd_e hf
        refine r_callS (As := [.int q18]) (rest := []) C hR hS mk_J6_bitCount_0f7a4 cl_X9_267 (k_J6_bitCount_0f7a4 h_q19) ⟨⟨Nat.le_of_ble_eq_true rfl, Nat.le_of_ble_eq_true rfl⟩, ⟨rfl, rfl⟩, Nat.le_of_ble_eq_true rfl, Nat.le_of_ble_eq_true rfl⟩ rfl hl.1 rfl (Nat.le_of_ble_eq_true rfl) dX9_makes_61 (fun H locs hR hS hE1 z_q19 => ?_)
        refine lv_istore (lv' := [(7, .int q19), (6, .int q18), (0, .ref (G.2.2 + r0)), (1, .int x1), (2, .int x2), (3, .int x3), (4, .int x4), (5, .int x5)]) C.x C.b dX9_makes_64 hl (by decide) rfl (fun ls hl => ?_)
        refine lv_iload C.x C.b dX9_makes_66 (lv_at hl 0 rfl) ?_
        refine lv_iload_n C.x C.b dX9_makes_68 rfl (lv_at hl 5 rfl) ?_
        refine lv_icmp_lt (tgt := 85) C.x C.b dX9_makes_69 (by decide) (fun c20 => ?_) (fun c20 => ?_)
        · have hf := it_t hf c20
          exact w_X9_makes_85 C hr hlk hk20 _ _ _ _ _ _ _ hf hE hR hS t_r0 (lv_sub hl [2, 3, 4, 7, 1, 0] rfl)
        · have hf := it_f hf c20
          refine lv_iload C.x C.b dX9_makes_72 (lv_at hl 0 rfl) ?_
          refine lv_iload_n C.x C.b dX9_makes_74 rfl (lv_at hl 5 rfl) ?_
          refine lv_icmp_ne (tgt := 92) C.x C.b dX9_makes_75 (by decide) (fun c21 => ?_) (fun c21 => ?_)
          · have hf := it_f hf c21
            exact w_X9_makes_92 C hr hlk hk20 _ _ _ _ _ _ _ hf hE hR hS t_r0 (lv_sub hl [2, 3, 4, 5, 6, 7] rfl)
          · have hf := it_t hf c21
            refine lv_iload C.x C.b dX9_makes_78 (lv_at hl 1 rfl) ?_
            refine lv_iload C.x C.b dX9_makes_80 (lv_at hl 6 rfl) ?_
            refine lv_icmp_ge (tgt := 92) C.x C.b dX9_makes_82 (by decide) (fun c22 => ?_) (fun c22 => ?_)
            · have hf := it_t hf c22
              exact w_X9_makes_92 C hr hlk hk20 _ _ _ _ _ _ _ hf hE hR hS t_r0 (lv_sub hl [2, 3, 4, 5, 6, 7] rfl)
            · have hf := it_f hf c22
              exact w_X9_makes_85 C hr hlk hk20 _ _ _ _ _ _ _ hf hE hR hS t_r0 (lv_sub hl [2, 3, 4, 7, 1, 0] rfl)
set_option maxRecDepth 100000 in
set_option maxHeartbeats 4000000 in
theorem k_X9_makes {G : Gt} {l : Launch}  {h : Hp} {r0 : Nat} {x1 : Int32} {x2 : Int32} {out : (Int32 × Hp)} (t_r0 : hpT h r0 = (1, 9))  (hf : f_X9_makes  h r0 x1 x2 = some out) : Mt G l yX9_makes cX9_makes 8 (some .int) rm_X9_makes [.ref (G.2.2 + r0), .int x1, .int x2] h (some (.int out.1)) out.2 0 0 0 := by
  refine r_met (by decide +kernel) (Nat.le_of_ble_eq_true rfl) ?_
  intro p e s m args below meth c ls C hr hlk hnm hR hS hl
  have hE : Ext h h := Ext.rf
  have hl : lv_has ls 8 [(0, .ref (G.2.2 + r0)), (1, .int x1), (2, .int x2)] := hl
  rw [f_X9_makes] at hf
  refine lv_iload_n C.x C.b dX9_makes_0 rfl (lv_at hl 1 rfl) ?_
  refine lv_iload_n C.x C.b dX9_makes_1 rfl (lv_at hl 2 rfl) ?_
  obtain ⟨q1, h_q1, hf⟩ := bd_e hf
  refine r_callS (As := [.int x1, .int x2]) (rest := []) C hR hS mk_X9_areSides cl_X9_305 (k_X9_areSides h_q1) ⟨⟨Nat.le_of_ble_eq_true rfl, Nat.le_of_ble_eq_true rfl⟩, ⟨rfl, rfl⟩, Nat.le_of_ble_eq_true rfl, Nat.le_of_ble_eq_true rfl⟩ rfl hl.1 rfl (Nat.le_of_ble_eq_true rfl) dX9_makes_2 (fun H locs hR hS hE1 z_q1 => ?_)
  have z_q1 := z_q1 _ rfl
  refine lv_if_ne (tgt := 10) C.x C.b dX9_makes_5 (by decide) (fun c2 => ?_) (fun c2 => ?_)
  · have hf := it_f hf c2
    refine lv_ldcw C.x C.b C.ow (C.ts _ lk_X9_315) dX9_makes_10 ?_
    refine lv_istore_n (lv' := [(3, .int (2147483647 : Int32)), (0, .ref (G.2.2 + r0)), (1, .int x1), (2, .int x2)]) C.x C.b dX9_makes_13 rfl hl (by decide) rfl (fun ls hl => ?_)
    refine lv_iconst (v := (0 : Int32)) C.x C.b dX9_makes_14 (by decide) ?_
    refine lv_istore (lv' := [(4, .int (0 : Int32)), (3, .int (2147483647 : Int32)), (0, .ref (G.2.2 + r0)), (1, .int x1), (2, .int x2)]) C.x C.b dX9_makes_15 hl (by decide) rfl (fun ls hl => ?_)
    refine lv_iconst (v := (0 : Int32)) C.x C.b dX9_makes_17 (by decide) ?_
    refine lv_istore (lv' := [(5, .int (0 : Int32)), (4, .int (0 : Int32)), (3, .int (2147483647 : Int32)), (0, .ref (G.2.2 + r0)), (1, .int x1), (2, .int x2)]) C.x C.b dX9_makes_18 hl (by decide) rfl (fun ls hl => ?_)
    exact w_X9_makes_20 C hr hlk FU _ _ _ _ _ _ _ hf hE hR hS t_r0 (lv_sub hl [3, 4, 5, 2, 1, 0] rfl)
  · have hf := it_t hf c2
    refine lv_iconst (v := (-1 : Int32)) C.x C.b dX9_makes_8 (by decide) ?_
    have hf := so_e hf
    subst hf
    exact r_iret C hr hlk hR hE hS dX9_makes_9

def rm_X9_meets : Room := { frames := 6, cells := 0, slots := 0, locals := 143 }
set_option maxRecDepth 100000 in
set_option maxHeartbeats 4000000 in
theorem k_X9_meets {G : Gt} {l : Launch}  {h : Hp} {r0 : Nat} {x1 : Int32} {x2 : Int32} {x3 : Int32} {out : (Int32 × Hp)} (t_r0 : hpT h r0 = (1, 9))  (hf : f_X9_meets  h r0 x1 x2 x3 = some out) : Mt G l yX9_meets cX9_meets 4 (some .int) rm_X9_meets [.ref (G.2.2 + r0), .int x1, .int x2, .int x3] h (some (.int out.1)) out.2 0 0 0 := by
  refine r_met (by decide +kernel) (Nat.le_of_ble_eq_true rfl) ?_
  intro p e s m args below meth c ls C hr hlk hnm hR hS hl
  have hE : Ext h h := Ext.rf
  have hl : lv_has ls 4 [(0, .ref (G.2.2 + r0)), (1, .int x1), (2, .int x2), (3, .int x3)] := hl
  rw [f_X9_meets] at hf
  refine lv_aload_n C.x C.b dX9_meets_0 rfl (lv_at hl 0 rfl) ?_
  obtain ⟨g1, hf⟩ := gd_e hf
  refine r_getr C hR t_r0 fl_X9_26 (by decide) (nz_e g1) dX9_meets_1 (fun tq2 => ?_)
  have tg1 := okO tq2 rfl
  refine lv_iload_n C.x C.b dX9_meets_4 rfl (lv_at hl 1 rfl) ?_
  obtain ⟨q3, h_q3, hf⟩ := bd_e hf
  refine r_callV (As := [.int x1]) (rest := []) C hR hS tg1 rfl mk_X0_hasCell cl_X9_186 (k_X0_hasCell tg1 h_q3) ⟨⟨Nat.le_of_ble_eq_true rfl, Nat.le_of_ble_eq_true rfl⟩, ⟨rfl, rfl⟩, Nat.le_of_ble_eq_true rfl, Nat.le_of_ble_eq_true rfl⟩ rfl hl.1 rfl (Nat.le_of_ble_eq_true rfl) dX9_meets_5 (fun H locs hR hS hE1 z_q3 => ?_)
  have z_q3 := z_q3 _ rfl
  refine lv_if_eq (tgt := 39) C.x C.b dX9_meets_8 (by decide) (fun c4 => ?_) (fun c4 => ?_)
  · have hf := it_t hf c4
    refine lv_iconst (v := (-1 : Int32)) C.x C.b dX9_meets_39 (by decide) ?_
    have hf := so_e hf
    subst hf
    exact r_iret C hr hlk hR hE hS dX9_meets_40
  · have hf := it_f hf c4
    refine lv_aload_n C.x C.b dX9_meets_11 rfl (lv_at hl 0 rfl) ?_
    refine r_getr C hR t_r0 fl_X9_26 (by decide) (nz_e g1) dX9_meets_12 (fun tq5 => ?_)
    refine lv_iload_n C.x C.b dX9_meets_15 rfl (lv_at hl 2 rfl) ?_
    obtain ⟨q6, h_q6, hf⟩ := bd_e hf
    refine r_callV (As := [.int x2]) (rest := []) C hR hS tg1 rfl mk_X0_hasCell cl_X9_186 (k_X0_hasCell tg1 h_q6) ⟨⟨Nat.le_of_ble_eq_true rfl, Nat.le_of_ble_eq_true rfl⟩, ⟨rfl, rfl⟩, Nat.le_of_ble_eq_true rfl, Nat.le_of_ble_eq_true rfl⟩ rfl hl.1 rfl (Nat.le_of_ble_eq_true rfl) dX9_meets_16 (fun H locs hR hS hE1 z_q6 => ?_)
    have z_q6 := z_q6 _ rfl
    refine lv_if_eq (tgt := 39) C.x C.b dX9_meets_19 (by decide) (fun c7 => ?_) (fun c7 => ?_)
    · have hf := it_t hf c7
      refine lv_iconst (v := (-1 : Int32)) C.x C.b dX9_meets_39 (by decide) ?_
      have hf := so_e hf
      subst hf
      exact r_iret C hr hlk hR hE hS dX9_meets_40
    · have hf := it_f hf c7
      refine lv_iload_n C.x C.b dX9_meets_22 rfl (lv_at hl 3 rfl) ?_
      refine lv_if_lt (tgt := 39) C.x C.b dX9_meets_23 (by decide) (fun c8 => ?_) (fun c8 => ?_)
      · have hf := it_t hf c8
        refine lv_iconst (v := (-1 : Int32)) C.x C.b dX9_meets_39 (by decide) ?_
        have hf := so_e hf
        subst hf
        exact r_iret C hr hlk hR hE hS dX9_meets_40
      · have hf := it_f hf c8
        refine lv_iload_n C.x C.b dX9_meets_26 rfl (lv_at hl 3 rfl) ?_
        refine lv_iconst (v := (1 : Int32)) C.x C.b dX9_meets_27 (by decide) ?_
        refine lv_aload_n C.x C.b dX9_meets_28 rfl (lv_at hl 0 rfl) ?_
        refine r_getr C hR t_r0 fl_X9_26 (by decide) (nz_e g1) dX9_meets_29 (fun tq9 => ?_)
        refine r_geti C hR tg1 fl_X9_146 rfl dX9_meets_32 ?_
        refine lv_ishl C.x C.b dX9_meets_35 ?_
        refine lv_topi (fun v10 e_v10 => ?_)
        have hf := lt_e hf e_v10
        refine lv_icmp_lt (tgt := 41) C.x C.b dX9_meets_36 (by decide) (fun c11 => ?_) (fun c11 => ?_)
        · have hf := it_t hf c11
          refine lv_iload_n C.x C.b dX9_meets_41 rfl (lv_at hl 3 rfl) ?_
          refine lv_aload_n C.x C.b dX9_meets_42 rfl (lv_at hl 0 rfl) ?_
          refine r_getr C hR t_r0 fl_X9_26 (by decide) (nz_e g1) dX9_meets_43 (fun tq12 => ?_)
          obtain ⟨q13, h_q13, hf⟩ := bd_e hf
          refine r_callV (As := []) (rest := [.int x3]) C hR hS tg1 rfl mk_X0_onBits cl_X9_302 (k_X0_onBits tg1 h_q13) ⟨⟨Nat.le_of_ble_eq_true rfl, Nat.le_of_ble_eq_true rfl⟩, ⟨rfl, rfl⟩, Nat.le_of_ble_eq_true rfl, Nat.le_of_ble_eq_true rfl⟩ rfl hl.1 rfl (Nat.le_of_ble_eq_true rfl) dX9_meets_46 (fun H locs hR hS hE1 z_q13 => ?_)
          refine lv_iconst (v := (-1 : Int32)) C.x C.b dX9_meets_49 (by decide) ?_
          refine lv_ixor C.x C.b dX9_meets_50 ?_
          refine lv_iand C.x C.b dX9_meets_51 ?_
          refine lv_if_eq (tgt := 58) C.x C.b dX9_meets_52 (by decide) (fun c14 => ?_) (fun c14 => ?_)
          · have hf := it_t hf c14
            refine lv_aload_n C.x C.b dX9_meets_58 rfl (lv_at hl 0 rfl) ?_
            obtain ⟨g15, hf⟩ := gd_e hf
            refine r_getr C hR t_r0 fl_X9_79 (by decide) (nz_e g15) dX9_meets_59 (fun tq16 => ?_)
            have tg15 := okO tq16 rfl
            refine lv_aload_n C.x C.b dX9_meets_62 rfl (lv_at hl 0 rfl) ?_
            refine r_getr C hR t_r0 fl_X9_26 (by decide) (nz_e g1) dX9_meets_63 (fun tq17 => ?_)
            refine lv_iload_n C.x C.b dX9_meets_66 rfl (lv_at hl 1 rfl) ?_
            refine lv_iload_n C.x C.b dX9_meets_67 rfl (lv_at hl 2 rfl) ?_
            refine lv_iload_n C.x C.b dX9_meets_68 rfl (lv_at hl 3 rfl) ?_
            refine lv_ldc2 C.x C.b C.ow (C.ts _ lk_X9_332) dX9_meets_69 ?_
            refine lv_aload_n C.x C.b dX9_meets_72 rfl (lv_at hl 0 rfl) ?_
            obtain ⟨g18, hf⟩ := gd_e hf
            refine r_getr C hR t_r0 fl_X9_19 (by decide) (nz_e g18) dX9_meets_73 (fun tq19 => ?_)
            have tg18 := okO tq19 rfl
            obtain ⟨q20, h_q20, hf⟩ := bd_e hf
            refine r_callV (As := [.ref (G.2.2 + (hpR h r0 2)), .int x1, .int x2, .int x3, .long (-1 : Int64), .ref (G.2.2 + (hpR h r0 1))]) (rest := []) C hR hS tg15 rfl mk_X8_shortest cl_X9_334 (k_X8_shortest tg15 tg1 tg18 h_q20) ⟨⟨Nat.le_of_ble_eq_true rfl, Nat.le_of_ble_eq_true rfl⟩, ⟨rfl, rfl⟩, Nat.le_of_ble_eq_true rfl, Nat.le_of_ble_eq_true rfl⟩ rfl hl.1 rfl (Nat.le_of_ble_eq_true rfl) dX9_meets_76 (fun H locs hR hS hE1 z_q20 => ?_)
            have hE := hE.tr hE1
            have t_r0 := hE1.at t_r0 (by decide)
            have hf := so_e hf
            subst hf
            exact r_iret C hr hlk hR hE hS dX9_meets_79
          · have hf := it_f hf c14
            refine lv_bipush (v := (-2 : Int32)) C.x C.b dX9_meets_55 (by decide) ?_
            have hf := so_e hf
            subst hf
            exact r_iret C hr hlk hR hE hS dX9_meets_57
        · have hf := it_f hf c11
          refine lv_iconst (v := (-1 : Int32)) C.x C.b dX9_meets_39 (by decide) ?_
          have hf := so_e hf
          subst hf
          exact r_iret C hr hlk hR hE hS dX9_meets_40

def rm_X9_quiet : Room := { frames := 6, cells := 0, slots := 0, locals := 143 }
set_option maxRecDepth 100000 in
set_option maxHeartbeats 4000000 in
theorem k_X9_quiet {G : Gt} {l : Launch}  {h : Hp} {r0 : Nat} {x1 : Int32} {x2 : Int32} {out : (Int32 × Hp)} (t_r0 : hpT h r0 = (1, 9))  (hf : f_X9_quiet  h r0 x1 x2 = some out) : Mt G l yX9_quiet cX9_quiet 5 (some .int) rm_X9_quiet [.ref (G.2.2 + r0), .int x1, .int x2] h (some (.int out.1)) out.2 0 0 0 := by
  refine r_met (by decide +kernel) (Nat.le_of_ble_eq_true rfl) ?_
  intro p e s m args below meth c ls C hr hlk hnm hR hS hl
  have hE : Ext h h := Ext.rf
  have hl : lv_has ls 5 [(0, .ref (G.2.2 + r0)), (1, .int x1), (2, .int x2)] := hl
  rw [f_X9_quiet] at hf
  refine lv_aload_n C.x C.b dX9_quiet_0 rfl (lv_at hl 0 rfl) ?_
  obtain ⟨g1, hf⟩ := gd_e hf
  refine r_getr C hR t_r0 fl_X9_26 (by decide) (nz_e g1) dX9_quiet_1 (fun tq2 => ?_)
  have tg1 := okO tq2 rfl
  refine lv_iload_n C.x C.b dX9_quiet_4 rfl (lv_at hl 1 rfl) ?_
  obtain ⟨q3, h_q3, hf⟩ := bd_e hf
  refine r_callV (As := [.int x1]) (rest := []) C hR hS tg1 rfl mk_X0_hasCell cl_X9_186 (k_X0_hasCell tg1 h_q3) ⟨⟨Nat.le_of_ble_eq_true rfl, Nat.le_of_ble_eq_true rfl⟩, ⟨rfl, rfl⟩, Nat.le_of_ble_eq_true rfl, Nat.le_of_ble_eq_true rfl⟩ rfl hl.1 rfl (Nat.le_of_ble_eq_true rfl) dX9_quiet_5 (fun H locs hR hS hE1 z_q3 => ?_)
  have z_q3 := z_q3 _ rfl
  refine lv_if_eq (tgt := 22) C.x C.b dX9_quiet_8 (by decide) (fun c4 => ?_) (fun c4 => ?_)
  · have hf := it_t hf c4
    refine lv_iconst (v := (-1 : Int32)) C.x C.b dX9_quiet_22 (by decide) ?_
    have hf := so_e hf
    subst hf
    exact r_iret C hr hlk hR hE hS dX9_quiet_23
  · have hf := it_f hf c4
    refine lv_aload_n C.x C.b dX9_quiet_11 rfl (lv_at hl 0 rfl) ?_
    refine r_getr C hR t_r0 fl_X9_26 (by decide) (nz_e g1) dX9_quiet_12 (fun tq5 => ?_)
    refine lv_iload_n C.x C.b dX9_quiet_15 rfl (lv_at hl 2 rfl) ?_
    obtain ⟨q6, h_q6, hf⟩ := bd_e hf
    refine r_callV (As := [.int x2]) (rest := []) C hR hS tg1 rfl mk_X0_hasCell cl_X9_186 (k_X0_hasCell tg1 h_q6) ⟨⟨Nat.le_of_ble_eq_true rfl, Nat.le_of_ble_eq_true rfl⟩, ⟨rfl, rfl⟩, Nat.le_of_ble_eq_true rfl, Nat.le_of_ble_eq_true rfl⟩ rfl hl.1 rfl (Nat.le_of_ble_eq_true rfl) dX9_quiet_16 (fun H locs hR hS hE1 z_q6 => ?_)
    have z_q6 := z_q6 _ rfl
    refine lv_if_ne (tgt := 24) C.x C.b dX9_quiet_19 (by decide) (fun c7 => ?_) (fun c7 => ?_)
    · have hf := it_f hf c7
      refine lv_aload_n C.x C.b dX9_quiet_24 rfl (lv_at hl 0 rfl) ?_
      refine r_getr C hR t_r0 fl_X9_26 (by decide) (nz_e g1) dX9_quiet_25 (fun tq8 => ?_)
      obtain ⟨q9, h_q9, hf⟩ := bd_e hf
      refine r_callV (As := []) (rest := []) C hR hS tg1 rfl mk_X0_sleptCells cl_X9_272 (k_X0_sleptCells tg1 h_q9) ⟨⟨Nat.le_of_ble_eq_true rfl, Nat.le_of_ble_eq_true rfl⟩, ⟨rfl, rfl⟩, Nat.le_of_ble_eq_true rfl, Nat.le_of_ble_eq_true rfl⟩ rfl hl.1 rfl (Nat.le_of_ble_eq_true rfl) dX9_quiet_28 (fun H locs hR hS hE1 z_q9 => ?_)
      refine lv_ldc2 C.x C.b C.ow (C.ts _ lk_X9_332) dX9_quiet_31 ?_
      refine lv_lxor C.x C.b dX9_quiet_34 ?_
      refine lv_lconst (v := (1 : Int64)) C.x C.b dX9_quiet_35 (by decide) ?_
      refine lv_iload_n C.x C.b dX9_quiet_36 rfl (lv_at hl 1 rfl) ?_
      refine lv_lshl C.x C.b dX9_quiet_37 rfl ?_
      refine lv_topl (fun v10 e_v10 => ?_)
      have hf := lt_e hf e_v10
      refine lv_lor C.x C.b dX9_quiet_38 ?_
      refine lv_lconst (v := (1 : Int64)) C.x C.b dX9_quiet_39 (by decide) ?_
      refine lv_iload_n C.x C.b dX9_quiet_40 rfl (lv_at hl 2 rfl) ?_
      refine lv_lshl C.x C.b dX9_quiet_41 rfl ?_
      refine lv_topl (fun v11 e_v11 => ?_)
      have hf := lt_e hf e_v11
      refine lv_lor C.x C.b dX9_quiet_42 ?_
      refine lv_topl (fun v12 e_v12 => ?_)
      have hf := lt_e hf e_v12
      refine lv_lstore_n (lv' := [(3, .long v12), (0, .ref (G.2.2 + r0)), (1, .int x1), (2, .int x2)]) C.x C.b dX9_quiet_43 rfl hl (by decide) rfl (fun ls hl => ?_)
      refine lv_aload_n C.x C.b dX9_quiet_44 rfl (lv_at hl 1 rfl) ?_
      obtain ⟨g13, hf⟩ := gd_e hf
      refine r_getr C hR t_r0 fl_X9_79 (by decide) (nz_e g13) dX9_quiet_45 (fun tq14 => ?_)
      have tg13 := okO tq14 rfl
      refine lv_aload_n C.x C.b dX9_quiet_48 rfl (lv_at hl 1 rfl) ?_
      refine r_getr C hR t_r0 fl_X9_26 (by decide) (nz_e g1) dX9_quiet_49 (fun tq15 => ?_)
      refine lv_iload_n C.x C.b dX9_quiet_52 rfl (lv_at hl 2 rfl) ?_
      refine lv_iload_n C.x C.b dX9_quiet_53 rfl (lv_at hl 3 rfl) ?_
      refine lv_iconst (v := (0 : Int32)) C.x C.b dX9_quiet_54 (by decide) ?_
      refine lv_lload_n C.x C.b dX9_quiet_55 rfl (lv_at hl 0 rfl) ?_
      refine lv_aload_n C.x C.b dX9_quiet_56 rfl (lv_at hl 1 rfl) ?_
      obtain ⟨g16, hf⟩ := gd_e hf
      refine r_getr C hR t_r0 fl_X9_19 (by decide) (nz_e g16) dX9_quiet_57 (fun tq17 => ?_)
      have tg16 := okO tq17 rfl
      obtain ⟨q18, h_q18, hf⟩ := bd_e hf
      refine r_callV (As := [.ref (G.2.2 + (hpR h r0 2)), .int x1, .int x2, .int (0 : Int32), .long v12, .ref (G.2.2 + (hpR h r0 1))]) (rest := []) C hR hS tg13 rfl mk_X8_shortest cl_X9_334 (k_X8_shortest tg13 tg1 tg16 h_q18) ⟨⟨Nat.le_of_ble_eq_true rfl, Nat.le_of_ble_eq_true rfl⟩, ⟨rfl, rfl⟩, Nat.le_of_ble_eq_true rfl, Nat.le_of_ble_eq_true rfl⟩ rfl hl.1 rfl (Nat.le_of_ble_eq_true rfl) dX9_quiet_60 (fun H locs hR hS hE1 z_q18 => ?_)
      have hE := hE.tr hE1
      have t_r0 := hE1.at t_r0 (by decide)
      have hf := so_e hf
      subst hf
      exact r_iret C hr hlk hR hE hS dX9_quiet_63
    · have hf := it_t hf c7
      refine lv_iconst (v := (-1 : Int32)) C.x C.b dX9_quiet_22 (by decide) ?_
      have hf := so_e hf
      subst hf
      exact r_iret C hr hlk hR hE hS dX9_quiet_23

def rm_X9_soft : Room := { frames := 6, cells := 0, slots := 0, locals := 137 }
set_option maxRecDepth 100000 in
set_option maxHeartbeats 4000000 in
theorem k_X9_soft {G : Gt} {l : Launch}  {h : Hp} {r0 : Nat} {x1 : Int32} {x2 : Int32} {out : (Int32 × Hp)} (t_r0 : hpT h r0 = (1, 9))  (hf : f_X9_soft  h r0 x1 x2 = some out) : Mt G l yX9_soft cX9_soft 3 (some .int) rm_X9_soft [.ref (G.2.2 + r0), .int x1, .int x2] h (some (.int out.1)) out.2 0 0 0 := by
  refine r_met (by decide +kernel) (Nat.le_of_ble_eq_true rfl) ?_
  intro p e s m args below meth c ls C hr hlk hnm hR hS hl
  have hE : Ext h h := Ext.rf
  have hl : lv_has ls 3 [(0, .ref (G.2.2 + r0)), (1, .int x1), (2, .int x2)] := hl
  rw [f_X9_soft] at hf
  refine lv_aload_n C.x C.b dX9_soft_0 rfl (lv_at hl 0 rfl) ?_
  obtain ⟨g1, hf⟩ := gd_e hf
  refine r_getr C hR t_r0 fl_X9_26 (by decide) (nz_e g1) dX9_soft_1 (fun tq2 => ?_)
  have tg1 := okO tq2 rfl
  refine lv_iload_n C.x C.b dX9_soft_4 rfl (lv_at hl 1 rfl) ?_
  obtain ⟨q3, h_q3, hf⟩ := bd_e hf
  refine r_callV (As := [.int x1]) (rest := []) C hR hS tg1 rfl mk_X0_hasCell cl_X9_186 (k_X0_hasCell tg1 h_q3) ⟨⟨Nat.le_of_ble_eq_true rfl, Nat.le_of_ble_eq_true rfl⟩, ⟨rfl, rfl⟩, Nat.le_of_ble_eq_true rfl, Nat.le_of_ble_eq_true rfl⟩ rfl hl.1 rfl (Nat.le_of_ble_eq_true rfl) dX9_soft_5 (fun H locs hR hS hE1 z_q3 => ?_)
  have z_q3 := z_q3 _ rfl
  refine lv_if_eq (tgt := 22) C.x C.b dX9_soft_8 (by decide) (fun c4 => ?_) (fun c4 => ?_)
  · have hf := it_t hf c4
    refine lv_iconst (v := (-1 : Int32)) C.x C.b dX9_soft_22 (by decide) ?_
    have hf := so_e hf
    subst hf
    exact r_iret C hr hlk hR hE hS dX9_soft_23
  · have hf := it_f hf c4
    refine lv_aload_n C.x C.b dX9_soft_11 rfl (lv_at hl 0 rfl) ?_
    refine r_getr C hR t_r0 fl_X9_26 (by decide) (nz_e g1) dX9_soft_12 (fun tq5 => ?_)
    refine lv_iload_n C.x C.b dX9_soft_15 rfl (lv_at hl 2 rfl) ?_
    obtain ⟨q6, h_q6, hf⟩ := bd_e hf
    refine r_callV (As := [.int x2]) (rest := []) C hR hS tg1 rfl mk_X0_hasCell cl_X9_186 (k_X0_hasCell tg1 h_q6) ⟨⟨Nat.le_of_ble_eq_true rfl, Nat.le_of_ble_eq_true rfl⟩, ⟨rfl, rfl⟩, Nat.le_of_ble_eq_true rfl, Nat.le_of_ble_eq_true rfl⟩ rfl hl.1 rfl (Nat.le_of_ble_eq_true rfl) dX9_soft_16 (fun H locs hR hS hE1 z_q6 => ?_)
    have z_q6 := z_q6 _ rfl
    refine lv_if_ne (tgt := 24) C.x C.b dX9_soft_19 (by decide) (fun c7 => ?_) (fun c7 => ?_)
    · have hf := it_f hf c7
      refine lv_aload_n C.x C.b dX9_soft_24 rfl (lv_at hl 0 rfl) ?_
      obtain ⟨g8, hf⟩ := gd_e hf
      refine r_getr C hR t_r0 fl_X9_79 (by decide) (nz_e g8) dX9_soft_25 (fun tq9 => ?_)
      have tg8 := okO tq9 rfl
      refine lv_aload_n C.x C.b dX9_soft_28 rfl (lv_at hl 0 rfl) ?_
      refine r_getr C hR t_r0 fl_X9_26 (by decide) (nz_e g1) dX9_soft_29 (fun tq10 => ?_)
      refine lv_iload_n C.x C.b dX9_soft_32 rfl (lv_at hl 1 rfl) ?_
      refine lv_iload_n C.x C.b dX9_soft_33 rfl (lv_at hl 2 rfl) ?_
      refine lv_aload_n C.x C.b dX9_soft_34 rfl (lv_at hl 0 rfl) ?_
      obtain ⟨g11, hf⟩ := gd_e hf
      refine r_getr C hR t_r0 fl_X9_19 (by decide) (nz_e g11) dX9_soft_35 (fun tq12 => ?_)
      have tg11 := okO tq12 rfl
      obtain ⟨q13, h_q13, hf⟩ := bd_e hf
      refine r_callV (As := [.ref (G.2.2 + (hpR h r0 2)), .int x1, .int x2, .ref (G.2.2 + (hpR h r0 1))]) (rest := []) C hR hS tg8 rfl mk_X8_softest cl_X9_338 (k_X8_softest tg8 tg1 tg11 h_q13) ⟨⟨Nat.le_of_ble_eq_true rfl, Nat.le_of_ble_eq_true rfl⟩, ⟨rfl, rfl⟩, Nat.le_of_ble_eq_true rfl, Nat.le_of_ble_eq_true rfl⟩ rfl hl.1 rfl (Nat.le_of_ble_eq_true rfl) dX9_soft_38 (fun H locs hR hS hE1 z_q13 => ?_)
      have hE := hE.tr hE1
      have t_r0 := hE1.at t_r0 (by decide)
      have hf := so_e hf
      subst hf
      exact r_iret C hr hlk hR hE hS dX9_soft_41
    · have hf := it_t hf c7
      refine lv_iconst (v := (-1 : Int32)) C.x C.b dX9_soft_22 (by decide) ?_
      have hf := so_e hf
      subst hf
      exact r_iret C hr hlk hR hE hS dX9_soft_23

def rm_X9_seen : Room := { frames := 4, cells := 0, slots := 0, locals := 89 }
set_option maxRecDepth 100000 in
set_option maxHeartbeats 4000000 in
theorem k_X9_seen {G : Gt} {l : Launch}  {h : Hp} {r0 : Nat} {x1 : Int32} {out : (Int32 × Hp)} (t_r0 : hpT h r0 = (1, 9))  (hf : f_X9_seen  h r0 x1 = some out) : Mt G l yX9_seen cX9_seen 3 (some .int) rm_X9_seen [.ref (G.2.2 + r0), .int x1] h (some (.int out.1)) out.2 0 0 0 := by
  refine r_met (by decide +kernel) (Nat.le_of_ble_eq_true rfl) ?_
  intro p e s m args below meth c ls C hr hlk hnm hR hS hl
  have hE : Ext h h := Ext.rf
  have hl : lv_has ls 3 [(0, .ref (G.2.2 + r0)), (1, .int x1)] := hl
  rw [f_X9_seen] at hf
  refine lv_iload_n C.x C.b dX9_seen_0 rfl (lv_at hl 1 rfl) ?_
  refine lv_if_lt (tgt := 15) C.x C.b dX9_seen_1 (by decide) (fun c1 => ?_) (fun c1 => ?_)
  · have hf := it_t hf c1
    refine lv_iconst (v := (-1 : Int32)) C.x C.b dX9_seen_15 (by decide) ?_
    have hf := so_e hf
    subst hf
    exact r_iret C hr hlk hR hE hS dX9_seen_16
  · have hf := it_f hf c1
    refine lv_iload_n C.x C.b dX9_seen_4 rfl (lv_at hl 1 rfl) ?_
    refine lv_aload_n C.x C.b dX9_seen_5 rfl (lv_at hl 0 rfl) ?_
    obtain ⟨g2, hf⟩ := gd_e hf
    refine r_getr C hR t_r0 fl_X9_26 (by decide) (nz_e g2) dX9_seen_6 (fun tq3 => ?_)
    have tg2 := okO tq3 rfl
    refine r_geti C hR tg2 fl_X9_326 rfl dX9_seen_9 ?_
    refine lv_icmp_lt (tgt := 17) C.x C.b dX9_seen_12 (by decide) (fun c4 => ?_) (fun c4 => ?_)
    · have hf := it_t hf c4
      refine lv_aload_n C.x C.b dX9_seen_17 rfl (lv_at hl 0 rfl) ?_
      refine r_getr C hR t_r0 fl_X9_26 (by decide) (nz_e g2) dX9_seen_18 (fun tq5 => ?_)
      refine lv_iload_n C.x C.b dX9_seen_21 rfl (lv_at hl 1 rfl) ?_
      obtain ⟨q6, h_q6, hf⟩ := bd_e hf
      refine r_callV (As := [.int x1]) (rest := []) C hR hS tg2 rfl mk_X0_seenFrom cl_X9_342 (k_X0_seenFrom tg2 h_q6) ⟨⟨Nat.le_of_ble_eq_true rfl, Nat.le_of_ble_eq_true rfl⟩, ⟨rfl, rfl⟩, Nat.le_of_ble_eq_true rfl, Nat.le_of_ble_eq_true rfl⟩ rfl hl.1 rfl (Nat.le_of_ble_eq_true rfl) dX9_seen_22 (fun H locs hR hS hE1 z_q6 => ?_)
      refine lv_istore_n (lv' := [(2, .int q6), (0, .ref (G.2.2 + r0)), (1, .int x1)]) C.x C.b dX9_seen_25 rfl hl (by decide) rfl (fun ls hl => ?_)
      refine lv_aload_n C.x C.b dX9_seen_26 rfl (lv_at hl 1 rfl) ?_
      obtain ⟨g7, hf⟩ := gd_e hf
      refine r_getr C hR t_r0 fl_X9_19 (by decide) (nz_e g7) dX9_seen_27 (fun tq8 => ?_)
      have tg7 := okO tq8 rfl
      obtain ⟨q9, h_q9, hf⟩ := bd_e hf
      refine r_callV (As := []) (rest := []) C hR hS tg7 rfl mk_X7_start cl_X9_220 (k_X7_start tg7 h_q9) ⟨⟨Nat.le_of_ble_eq_true rfl, Nat.le_of_ble_eq_true rfl⟩, ⟨rfl, rfl⟩, Nat.le_of_ble_eq_true rfl, Nat.le_of_ble_eq_true rfl⟩ rfl hl.1 rfl (Nat.le_of_ble_eq_true rfl) dX9_seen_30 (fun H locs hR hS hE1 z_q9 => ?_)
      have hE := hE.tr hE1
      have t_r0 := hE1.at t_r0 (by decide)
      refine lv_aload_n C.x C.b dX9_seen_33 rfl (lv_at hl 1 rfl) ?_
      obtain ⟨g10, hf⟩ := gd_e hf
      refine r_getr C hR t_r0 fl_X9_19 (by decide) (nz_e g10) dX9_seen_34 (fun tq11 => ?_)
      have tg10 := okO tq11 rfl
      refine lv_iload_n C.x C.b dX9_seen_37 rfl (lv_at hl 0 rfl) ?_
      obtain ⟨q12, h_q12, hf⟩ := bd_e hf
      refine r_callS (As := [.int q6]) (rest := [.ref (G.2.2 + (hpR q9 r0 1))]) C hR hS mk_J6_bitCount_0f7a4 cl_X9_267 (k_J6_bitCount_0f7a4 h_q12) ⟨⟨Nat.le_of_ble_eq_true rfl, Nat.le_of_ble_eq_true rfl⟩, ⟨rfl, rfl⟩, Nat.le_of_ble_eq_true rfl, Nat.le_of_ble_eq_true rfl⟩ rfl hl.1 rfl (Nat.le_of_ble_eq_true rfl) dX9_seen_38 (fun H locs hR hS hE1 z_q12 => ?_)
      refine lv_i2l C.x C.b dX9_seen_41 rfl ?_
      obtain ⟨q13, h_q13, hf⟩ := bd_e hf
      refine r_callV (As := [.long (q12.toInt64)]) (rest := []) C hR hS tg10 rfl mk_X7_add cl_X9_223 (k_X7_add tg10 h_q13) ⟨⟨Nat.le_of_ble_eq_true rfl, Nat.le_of_ble_eq_true rfl⟩, ⟨rfl, rfl⟩, Nat.le_of_ble_eq_true rfl, Nat.le_of_ble_eq_true rfl⟩ rfl hl.1 rfl (Nat.le_of_ble_eq_true rfl) dX9_seen_42 (fun H locs hR hS hE1 z_q13 => ?_)
      have hE := hE.tr hE1
      have t_r0 := hE1.at t_r0 (by decide)
      refine lv_iload_n C.x C.b dX9_seen_45 rfl (lv_at hl 0 rfl) ?_
      have hf := so_e hf
      subst hf
      exact r_iret C hr hlk hR hE hS dX9_seen_46
    · have hf := it_f hf c4
      refine lv_iconst (v := (-1 : Int32)) C.x C.b dX9_seen_15 (by decide) ?_
      have hf := so_e hf
      subst hf
      exact r_iret C hr hlk hR hE hS dX9_seen_16

def rm_X9_seats : Room := { frames := 5, cells := 0, slots := 0, locals := 112 }
def P_X9_seats_64 (G : Gt) (l : Launch) (p : Program) (e : Env) (s : State) (m : MethodId) (args : Array Value) (below : List Frame) (meth : Method) (c : Code) (h0 : Hp) (out : (Int32 × Hp)) (r0 : Nat) (k : Hp → Int32 → Int32 → Int32 → Option (Int32 × Hp)) : Prop := ∀ (H : Heap) (locs : List Loc) (ls : Array Slot) (h : Hp) (x1 : Int32) (x2 : Int32) (x3 : Int32), k h x1 x2 x3 = some out → Ext h0 h → Rel G h H → va_S (AA G.2.2) s.heap H locs → hpT h r0 = (1, 9) → lv_has ls 4 [(0, .ref (G.2.2 + r0)), (1, .int x1), (2, .int x2), (3, .int x3)] → W p l e rm_X9_seats s m args below meth c H locs 0 0 (MQ below (Qm G h0 out.2 (some (.int out.1)) 0) args s 0 0 (AA G.2.2)) (F0 m 64 ls [])
def P_X9_seats_35 (G : Gt) (l : Launch) (p : Program) (e : Env) (s : State) (m : MethodId) (args : Array Value) (below : List Frame) (meth : Method) (c : Code) (h0 : Hp) (out : (Int32 × Hp)) (r0 : Nat) (k : Hp → Int32 → Int32 → Int32 → Option (Int32 × Hp)) : Prop := ∀ (H : Heap) (locs : List Loc) (ls : Array Slot) (h : Hp) (x1 : Int32) (x2 : Int32) (x3 : Int32), k h x1 x2 x3 = some out → Ext h0 h → Rel G h H → va_S (AA G.2.2) s.heap H locs → hpT h r0 = (1, 9) → lv_has ls 4 [(0, .ref (G.2.2 + r0)), (1, .int x1), (2, .int x2), (3, .int x3)] → W p l e rm_X9_seats s m args below meth c H locs 0 0 (MQ below (Qm G h0 out.2 (some (.int out.1)) 0) args s 0 0 (AA G.2.2)) (F0 m 35 ls [])
set_option maxRecDepth 100000 in
set_option maxHeartbeats 4000000 in
theorem w_X9_seats_64 {G : Gt} {l : Launch} {p : Program} {e : Env} {s : State} {m : MethodId} {args : Array Value} {below : List Frame} {meth : Method} {c : Code}  {h0 : Hp} {out : (Int32 × Hp)} {r0 : Nat} {k35 : Hp → Int32 → Int32 → Int32 → Option (Int32 × Hp)} (C : Cx G p m c cX9_seats 4 s args RX9) (hr : meth.sig.returnType = some .int) (hlk : meth.locks = false)  (hk35 : P_X9_seats_35 G l p e s m args below meth c h0 out r0 k35) : P_X9_seats_64 G l p e s m args below meth c h0 out r0 (f_X9_seats_64 r0 k35) := by
  intro H locs ls h x1 x2 x3 hf hE hR hS t_r0 hl
  rw [f_X9_seats_64] at hf
  obtain ⟨v31, e_v31⟩ : ∃ y : Int32, y = x3 + (-1 : Int32) := ⟨_, rfl⟩
  have hf := lt_e hf e_v31
  refine lv_iinc (v := v31) (lv' := [(3, .int v31), (0, .ref (G.2.2 + r0)), (1, .int x1), (2, .int x2)]) C.x C.b dX9_seats_64 hl (k := 3) rfl (by rw [e_v31]; rfl) (by decide) rfl (fun ls hl => ?_)
  refine lv_goto (tgt := 35) C.x C.b dX9_seats_67 (by decide) ?_
  exact hk35 _ _ _ _ _ _ _ hf hE hR hS t_r0 (lv_sub hl [1, 2, 3, 0] rfl)
set_option maxRecDepth 100000 in
set_option maxHeartbeats 4000000 in
theorem w_X9_seats_35 {G : Gt} {l : Launch} {p : Program} {e : Env} {s : State} {m : MethodId} {args : Array Value} {below : List Frame} {meth : Method} {c : Code}  {h0 : Hp} {out : (Int32 × Hp)} {r0 : Nat}  (C : Cx G p m c cX9_seats 4 s args RX9) (hr : meth.sig.returnType = some .int) (hlk : meth.locks = false)   (n : Nat) : P_X9_seats_35 G l p e s m args below meth c h0 out r0 (f_X9_seats_35 r0 n) := by
  induction n with
  | zero => intro H locs ls h x1 x2 x3 hf hE hR hS t_r0 hl; cases hf
  | succ n hk35 =>
    intro H locs ls h x1 x2 x3 hf hE hR hS t_r0 hl
    rw [f_X9_seats_35] at hf
    obtain ⟨k35, e_k35⟩ : ∃ y, y = f_X9_seats_35 r0 n := ⟨_, rfl⟩
    have hf := lt_e hf e_k35
    rw [← e_k35] at hk35
    refine lv_iload_n C.x C.b dX9_seats_35 rfl (lv_at hl 3 rfl) ?_
    refine lv_if_lt (tgt := 70) C.x C.b dX9_seats_36 (by decide) (fun c10 => ?_) (fun c10 => ?_)
    · have hf := it_t hf c10
      refine lv_aload_n C.x C.b dX9_seats_70 rfl (lv_at hl 0 rfl) ?_
      obtain ⟨g11, hf⟩ := gd_e hf
      refine r_getr C hR t_r0 fl_X9_19 (by decide) (nz_e g11) dX9_seats_71 (fun tq12 => ?_)
      have tg11 := okO tq12 rfl
      obtain ⟨q13, h_q13, hf⟩ := bd_e hf
      refine r_callV (As := []) (rest := []) C hR hS tg11 rfl mk_X7_start cl_X9_220 (k_X7_start tg11 h_q13) ⟨⟨Nat.le_of_ble_eq_true rfl, Nat.le_of_ble_eq_true rfl⟩, ⟨rfl, rfl⟩, Nat.le_of_ble_eq_true rfl, Nat.le_of_ble_eq_true rfl⟩ rfl hl.1 rfl (Nat.le_of_ble_eq_true rfl) dX9_seats_74 (fun H locs hR hS hE1 z_q13 => ?_)
      have hE := hE.tr hE1
      have t_r0 := hE1.at t_r0 (by decide)
      refine lv_aload_n C.x C.b dX9_seats_77 rfl (lv_at hl 0 rfl) ?_
      obtain ⟨g14, hf⟩ := gd_e hf
      refine r_getr C hR t_r0 fl_X9_19 (by decide) (nz_e g14) dX9_seats_78 (fun tq15 => ?_)
      have tg14 := okO tq15 rfl
      refine lv_iload_n C.x C.b dX9_seats_81 rfl (lv_at hl 2 rfl) ?_
      refine lv_i2l C.x C.b dX9_seats_82 rfl ?_
      obtain ⟨q16, h_q16, hf⟩ := bd_e hf
      refine r_callV (As := [.long (x2.toInt64)]) (rest := []) C hR hS tg14 rfl mk_X7_add cl_X9_223 (k_X7_add tg14 h_q16) ⟨⟨Nat.le_of_ble_eq_true rfl, Nat.le_of_ble_eq_true rfl⟩, ⟨rfl, rfl⟩, Nat.le_of_ble_eq_true rfl, Nat.le_of_ble_eq_true rfl⟩ rfl hl.1 rfl (Nat.le_of_ble_eq_true rfl) dX9_seats_83 (fun H locs hR hS hE1 z_q16 => ?_)
      have hE := hE.tr hE1
      have t_r0 := hE1.at t_r0 (by decide)
      refine lv_aload_n C.x C.b dX9_seats_86 rfl (lv_at hl 0 rfl) ?_
      obtain ⟨g17, hf⟩ := gd_e hf
      refine r_getr C hR t_r0 fl_X9_19 (by decide) (nz_e g17) dX9_seats_87 (fun tq18 => ?_)
      have tg17 := okO tq18 rfl
      refine lv_aload_n C.x C.b dX9_seats_90 rfl (lv_at hl 0 rfl) ?_
      obtain ⟨g19, hf⟩ := gd_e hf
      refine r_getr C hR t_r0 fl_X9_26 (by decide) (nz_e g19) dX9_seats_91 (fun tq20 => ?_)
      have tg19 := okO tq20 rfl
      obtain ⟨q21, h_q21, hf⟩ := bd_e hf
      refine r_callV (As := []) (rest := [.ref (G.2.2 + (hpR q16 r0 1))]) C hR hS tg19 rfl mk_X0_onBits cl_X9_302 (k_X0_onBits tg19 h_q21) ⟨⟨Nat.le_of_ble_eq_true rfl, Nat.le_of_ble_eq_true rfl⟩, ⟨rfl, rfl⟩, Nat.le_of_ble_eq_true rfl, Nat.le_of_ble_eq_true rfl⟩ rfl hl.1 rfl (Nat.le_of_ble_eq_true rfl) dX9_seats_94 (fun H locs hR hS hE1 z_q21 => ?_)
      refine lv_iload_n C.x C.b dX9_seats_97 rfl (lv_at hl 1 rfl) ?_
      refine lv_iconst (v := (-1 : Int32)) C.x C.b dX9_seats_98 (by decide) ?_
      refine lv_ixor C.x C.b dX9_seats_99 ?_
      refine lv_iand C.x C.b dX9_seats_100 ?_
      refine lv_i2l C.x C.b dX9_seats_101 rfl ?_
      obtain ⟨q22, h_q22, hf⟩ := bd_e hf
      refine r_callV (As := [.long ((q21 &&& (x1 ^^^ (-1 : Int32))).toInt64)]) (rest := []) C hR hS tg17 rfl mk_X7_add cl_X9_223 (k_X7_add tg17 h_q22) ⟨⟨Nat.le_of_ble_eq_true rfl, Nat.le_of_ble_eq_true rfl⟩, ⟨rfl, rfl⟩, Nat.le_of_ble_eq_true rfl, Nat.le_of_ble_eq_true rfl⟩ rfl hl.1 rfl (Nat.le_of_ble_eq_true rfl) dX9_seats_102 (fun H locs hR hS hE1 z_q22 => ?_)
      have hE := hE.tr hE1
      have t_r0 := hE1.at t_r0 (by decide)
      refine lv_iload_n C.x C.b dX9_seats_105 rfl (lv_at hl 2 rfl) ?_
      obtain ⟨q23, h_q23, hf⟩ := bd_e hf
      refine r_callS (As := [.int x2]) (rest := []) C hR hS mk_J6_bitCount_0f7a4 cl_X9_267 (k_J6_bitCount_0f7a4 h_q23) ⟨⟨Nat.le_of_ble_eq_true rfl, Nat.le_of_ble_eq_true rfl⟩, ⟨rfl, rfl⟩, Nat.le_of_ble_eq_true rfl, Nat.le_of_ble_eq_true rfl⟩ rfl hl.1 rfl (Nat.le_of_ble_eq_true rfl) dX9_seats_106 (fun H locs hR hS hE1 z_q23 => ?_)
      have hf := so_e hf
      subst hf
      exact r_iret C hr hlk hR hE hS dX9_seats_109
    · have hf := it_f hf c10
      refine lv_iload_n C.x C.b dX9_seats_39 rfl (lv_at hl 3 rfl) ?_
      obtain ⟨q24, h_q24, hf⟩ := bd_e hf
      refine r_callS (As := [.int x3]) (rest := []) C hR hS mk_J6_bitCount_0f7a4 cl_X9_267 (k_J6_bitCount_0f7a4 h_q24) ⟨⟨Nat.le_of_ble_eq_true rfl, Nat.le_of_ble_eq_true rfl⟩, ⟨rfl, rfl⟩, Nat.le_of_ble_eq_true rfl, Nat.le_of_ble_eq_true rfl⟩ rfl hl.1 rfl (Nat.le_of_ble_eq_true rfl) dX9_seats_40 (fun H locs hR hS hE1 z_q24 => ?_)
      refine lv_iload_n C.x C.b dX9_seats_43 rfl (lv_at hl 2 rfl) ?_
      obtain ⟨q25, h_q25, hf⟩ := bd_e hf
      refine r_callS (As := [.int x2]) (rest := [.int q24]) C hR hS mk_J6_bitCount_0f7a4 cl_X9_267 (k_J6_bitCount_0f7a4 h_q25) ⟨⟨Nat.le_of_ble_eq_true rfl, Nat.le_of_ble_eq_true rfl⟩, ⟨rfl, rfl⟩, Nat.le_of_ble_eq_true rfl, Nat.le_of_ble_eq_true rfl⟩ rfl hl.1 rfl (Nat.le_of_ble_eq_true rfl) dX9_seats_44 (fun H locs hR hS hE1 z_q25 => ?_)
      refine lv_icmp_gt (tgt := 64) C.x C.b dX9_seats_47 (by decide) (fun c26 => ?_) (fun c26 => ?_)
      · have hf := it_t hf c26
        exact w_X9_seats_64 C hr hlk hk35 _ _ _ _ _ _ _ hf hE hR hS t_r0 (lv_sub hl [0, 1, 2, 3] rfl)
      · have hf := it_f hf c26
        refine lv_aload_n C.x C.b dX9_seats_50 rfl (lv_at hl 0 rfl) ?_
        obtain ⟨g27, hf⟩ := gd_e hf
        refine r_getr C hR t_r0 fl_X9_26 (by decide) (nz_e g27) dX9_seats_51 (fun tq28 => ?_)
        have tg27 := okO tq28 rfl
        refine lv_iload_n C.x C.b dX9_seats_54 rfl (lv_at hl 3 rfl) ?_
        obtain ⟨q29, h_q29, hf⟩ := bd_e hf
        refine r_callV (As := [.int x3]) (rest := []) C hR hS tg27 rfl mk_X0_seenFromRows cl_X9_345 (k_X0_seenFromRows tg27 h_q29) ⟨⟨Nat.le_of_ble_eq_true rfl, Nat.le_of_ble_eq_true rfl⟩, ⟨rfl, rfl⟩, Nat.le_of_ble_eq_true rfl, Nat.le_of_ble_eq_true rfl⟩ rfl hl.1 rfl (Nat.le_of_ble_eq_true rfl) dX9_seats_55 (fun H locs hR hS hE1 z_q29 => ?_)
        refine lv_iload_n C.x C.b dX9_seats_58 rfl (lv_at hl 1 rfl) ?_
        refine lv_icmp_ne (tgt := 64) C.x C.b dX9_seats_59 (by decide) (fun c30 => ?_) (fun c30 => ?_)
        · simp only [if_neg c30] at hf
          exact w_X9_seats_64 C hr hlk hk35 _ _ _ _ _ _ _ hf hE hR hS t_r0 (lv_sub hl [0, 1, 2, 3] rfl)
        · simp only [if_pos c30] at hf
          refine lv_iload_n C.x C.b dX9_seats_62 rfl (lv_at hl 3 rfl) ?_
          refine lv_istore_n (lv' := [(2, .int x3), (0, .ref (G.2.2 + r0)), (1, .int x1), (3, .int x3)]) C.x C.b dX9_seats_63 rfl hl (by decide) rfl (fun ls hl => ?_)
          exact w_X9_seats_64 C hr hlk hk35 _ _ _ _ _ _ _ hf hE hR hS t_r0 (lv_sub hl [1, 2, 0, 3] rfl)
set_option maxRecDepth 100000 in
set_option maxHeartbeats 4000000 in
theorem k_X9_seats {G : Gt} {l : Launch}  {h : Hp} {r0 : Nat} {out : (Int32 × Hp)} (t_r0 : hpT h r0 = (1, 9))  (hf : f_X9_seats  h r0 = some out) : Mt G l yX9_seats cX9_seats 4 (some .int) rm_X9_seats [.ref (G.2.2 + r0)] h (some (.int out.1)) out.2 0 0 0 := by
  refine r_met (by decide +kernel) (Nat.le_of_ble_eq_true rfl) ?_
  intro p e s m args below meth c ls C hr hlk hnm hR hS hl
  have hE : Ext h h := Ext.rf
  have hl : lv_has ls 4 [(0, .ref (G.2.2 + r0))] := hl
  rw [f_X9_seats] at hf
  refine lv_aload_n C.x C.b dX9_seats_0 rfl (lv_at hl 0 rfl) ?_
  obtain ⟨g1, hf⟩ := gd_e hf
  refine r_getr C hR t_r0 fl_X9_26 (by decide) (nz_e g1) dX9_seats_1 (fun tq2 => ?_)
  have tg1 := okO tq2 rfl
  refine lv_iconst (v := (1 : Int32)) C.x C.b dX9_seats_4 (by decide) ?_
  refine lv_aload_n C.x C.b dX9_seats_5 rfl (lv_at hl 0 rfl) ?_
  refine r_getr C hR t_r0 fl_X9_26 (by decide) (nz_e g1) dX9_seats_6 (fun tq3 => ?_)
  refine r_geti C hR tg1 fl_X9_326 rfl dX9_seats_9 ?_
  refine lv_ishl C.x C.b dX9_seats_12 ?_
  refine lv_topi (fun v4 e_v4 => ?_)
  have hf := lt_e hf e_v4
  refine lv_iconst (v := (1 : Int32)) C.x C.b dX9_seats_13 (by decide) ?_
  refine lv_isub C.x C.b dX9_seats_14 ?_
  obtain ⟨q5, h_q5, hf⟩ := bd_e hf
  refine r_callV (As := [.int (v4 - (1 : Int32))]) (rest := []) C hR hS tg1 rfl mk_X0_seenFromRows cl_X9_345 (k_X0_seenFromRows tg1 h_q5) ⟨⟨Nat.le_of_ble_eq_true rfl, Nat.le_of_ble_eq_true rfl⟩, ⟨rfl, rfl⟩, Nat.le_of_ble_eq_true rfl, Nat.le_of_ble_eq_true rfl⟩ rfl hl.1 rfl (Nat.le_of_ble_eq_true rfl) dX9_seats_15 (fun H locs hR hS hE1 z_q5 => ?_)
  refine lv_istore_n (lv' := [(1, .int q5), (0, .ref (G.2.2 + r0))]) C.x C.b dX9_seats_18 rfl hl (by decide) rfl (fun ls hl => ?_)
  refine lv_iconst (v := (1 : Int32)) C.x C.b dX9_seats_19 (by decide) ?_
  refine lv_aload_n C.x C.b dX9_seats_20 rfl (lv_at hl 1 rfl) ?_
  refine r_getr C hR t_r0 fl_X9_26 (by decide) (nz_e g1) dX9_seats_21 (fun tq6 => ?_)
  refine r_geti C hR tg1 fl_X9_326 rfl dX9_seats_24 ?_
  refine lv_ishl C.x C.b dX9_seats_27 ?_
  refine lv_topi (fun v7 e_v7 => ?_)
  have hf := lt_e hf e_v7
  refine lv_iconst (v := (1 : Int32)) C.x C.b dX9_seats_28 (by decide) ?_
  refine lv_isub C.x C.b dX9_seats_29 ?_
  refine lv_topi (fun v8 e_v8 => ?_)
  have hf := lt_e hf e_v8
  refine lv_istore_n (lv' := [(2, .int v8), (1, .int q5), (0, .ref (G.2.2 + r0))]) C.x C.b dX9_seats_30 rfl hl (by decide) rfl (fun ls hl => ?_)
  refine lv_iload_n C.x C.b dX9_seats_31 rfl (lv_at hl 0 rfl) ?_
  refine lv_iconst (v := (1 : Int32)) C.x C.b dX9_seats_32 (by decide) ?_
  refine lv_isub C.x C.b dX9_seats_33 ?_
  refine lv_topi (fun v9 e_v9 => ?_)
  have hf := lt_e hf e_v9
  refine lv_istore_n (lv' := [(3, .int v9), (2, .int v8), (1, .int q5), (0, .ref (G.2.2 + r0))]) C.x C.b dX9_seats_34 rfl hl (by decide) rfl (fun ls hl => ?_)
  exact w_X9_seats_35 C hr hlk FU _ _ _ _ _ _ _ hf hE hR hS t_r0 (lv_sub hl [3, 2, 1, 0] rfl)

def rm_X9_marked : Room := { frames := 2, cells := 0, slots := 0, locals := 43 }
set_option maxRecDepth 100000 in
set_option maxHeartbeats 4000000 in
theorem k_X9_marked {G : Gt} {l : Launch}  {h : Hp} {r0 : Nat} {x1 : Int32} {x2 : Int32} {x3 : Int32} {out : (Int32 × Hp)} (t_r0 : hpT h r0 = (1, 9))  (hf : f_X9_marked  h r0 x1 x2 x3 = some out) : Mt G l yX9_marked cX9_marked 4 (some .int) rm_X9_marked [.ref (G.2.2 + r0), .int x1, .int x2, .int x3] h (some (.int out.1)) out.2 0 0 0 := by
  refine r_met (by decide +kernel) (Nat.le_of_ble_eq_true rfl) ?_
  intro p e s m args below meth c ls C hr hlk hnm hR hS hl
  have hE : Ext h h := Ext.rf
  have hl : lv_has ls 4 [(0, .ref (G.2.2 + r0)), (1, .int x1), (2, .int x2), (3, .int x3)] := hl
  rw [f_X9_marked] at hf
  refine lv_aload_n C.x C.b dX9_marked_0 rfl (lv_at hl 0 rfl) ?_
  obtain ⟨g1, hf⟩ := gd_e hf
  refine r_getr C hR t_r0 fl_X9_26 (by decide) (nz_e g1) dX9_marked_1 (fun tq2 => ?_)
  have tg1 := okO tq2 rfl
  refine lv_iload_n C.x C.b dX9_marked_4 rfl (lv_at hl 1 rfl) ?_
  obtain ⟨q3, h_q3, hf⟩ := bd_e hf
  refine r_callV (As := [.int x1]) (rest := []) C hR hS tg1 rfl mk_X0_has cl_X9_154 (k_X0_has tg1 h_q3) ⟨⟨Nat.le_of_ble_eq_true rfl, Nat.le_of_ble_eq_true rfl⟩, ⟨rfl, rfl⟩, Nat.le_of_ble_eq_true rfl, Nat.le_of_ble_eq_true rfl⟩ rfl hl.1 rfl (Nat.le_of_ble_eq_true rfl) dX9_marked_5 (fun H locs hR hS hE1 z_q3 => ?_)
  have z_q3 := z_q3 _ rfl
  refine lv_if_eq (tgt := 40) C.x C.b dX9_marked_8 (by decide) (fun c4 => ?_) (fun c4 => ?_)
  · have hf := it_t hf c4
    refine lv_iconst (v := (-1 : Int32)) C.x C.b dX9_marked_40 (by decide) ?_
    have hf := so_e hf
    subst hf
    exact r_iret C hr hlk hR hE hS dX9_marked_41
  · have hf := it_f hf c4
    refine lv_iload_n C.x C.b dX9_marked_11 rfl (lv_at hl 2 rfl) ?_
    refine lv_if_lt (tgt := 40) C.x C.b dX9_marked_12 (by decide) (fun c5 => ?_) (fun c5 => ?_)
    · have hf := it_t hf c5
      refine lv_iconst (v := (-1 : Int32)) C.x C.b dX9_marked_40 (by decide) ?_
      have hf := so_e hf
      subst hf
      exact r_iret C hr hlk hR hE hS dX9_marked_41
    · have hf := it_f hf c5
      refine lv_iload_n C.x C.b dX9_marked_15 rfl (lv_at hl 2 rfl) ?_
      refine lv_bipush (v := (31 : Int32)) C.x C.b dX9_marked_16 (by decide) ?_
      refine lv_icmp_ge (tgt := 40) C.x C.b dX9_marked_18 (by decide) (fun c6 => ?_) (fun c6 => ?_)
      · have hf := it_t hf c6
        refine lv_iconst (v := (-1 : Int32)) C.x C.b dX9_marked_40 (by decide) ?_
        have hf := so_e hf
        subst hf
        exact r_iret C hr hlk hR hE hS dX9_marked_41
      · have hf := it_f hf c6
        refine lv_iload_n C.x C.b dX9_marked_21 rfl (lv_at hl 3 rfl) ?_
        refine lv_if_lt (tgt := 40) C.x C.b dX9_marked_22 (by decide) (fun c7 => ?_) (fun c7 => ?_)
        · have hf := it_t hf c7
          refine lv_iconst (v := (-1 : Int32)) C.x C.b dX9_marked_40 (by decide) ?_
          have hf := so_e hf
          subst hf
          exact r_iret C hr hlk hR hE hS dX9_marked_41
        · have hf := it_f hf c7
          refine lv_iload_n C.x C.b dX9_marked_25 rfl (lv_at hl 3 rfl) ?_
          refine lv_iconst (v := (1 : Int32)) C.x C.b dX9_marked_26 (by decide) ?_
          refine lv_icmp_gt (tgt := 40) C.x C.b dX9_marked_27 (by decide) (fun c8 => ?_) (fun c8 => ?_)
          · have hf := it_t hf c8
            refine lv_iconst (v := (-1 : Int32)) C.x C.b dX9_marked_40 (by decide) ?_
            have hf := so_e hf
            subst hf
            exact r_iret C hr hlk hR hE hS dX9_marked_41
          · have hf := it_f hf c8
            refine lv_aload_n C.x C.b dX9_marked_30 rfl (lv_at hl 0 rfl) ?_
            obtain ⟨g9, hf⟩ := gd_e hf
            refine r_getr C hR t_r0 fl_X9_69 (by decide) (nz_e g9) dX9_marked_31 (fun tq10 => ?_)
            have tg9 := okO tq10 rfl
            obtain ⟨q11, h_q11, hf⟩ := bd_e hf
            refine r_callV (As := []) (rest := []) C hR hS tg9 rfl mk_X2_isFull cl_X9_348 (k_X2_isFull tg9 h_q11) ⟨⟨Nat.le_of_ble_eq_true rfl, Nat.le_of_ble_eq_true rfl⟩, ⟨rfl, rfl⟩, Nat.le_of_ble_eq_true rfl, Nat.le_of_ble_eq_true rfl⟩ rfl hl.1 rfl (Nat.le_of_ble_eq_true rfl) dX9_marked_34 (fun H locs hR hS hE1 z_q11 => ?_)
            have z_q11 := z_q11 _ rfl
            refine lv_if_eq (tgt := 42) C.x C.b dX9_marked_37 (by decide) (fun c12 => ?_) (fun c12 => ?_)
            · have hf := it_t hf c12
              refine lv_aload_n C.x C.b dX9_marked_42 rfl (lv_at hl 0 rfl) ?_
              refine r_getr C hR t_r0 fl_X9_69 (by decide) (nz_e g9) dX9_marked_43 (fun tq13 => ?_)
              refine lv_iload_n C.x C.b dX9_marked_46 rfl (lv_at hl 1 rfl) ?_
              refine lv_iload_n C.x C.b dX9_marked_47 rfl (lv_at hl 2 rfl) ?_
              refine lv_iload_n C.x C.b dX9_marked_48 rfl (lv_at hl 3 rfl) ?_
              obtain ⟨q14, h_q14, hf⟩ := bd_e hf
              refine r_callV (As := [.int x1, .int x2, .int x3]) (rest := []) C hR hS tg9 rfl mk_X2_add cl_X9_352 (k_X2_add tg9 h_q14) ⟨⟨Nat.le_of_ble_eq_true rfl, Nat.le_of_ble_eq_true rfl⟩, ⟨rfl, rfl⟩, Nat.le_of_ble_eq_true rfl, Nat.le_of_ble_eq_true rfl⟩ rfl hl.1 rfl (Nat.le_of_ble_eq_true rfl) dX9_marked_49 (fun H locs hR hS hE1 z_q14 => ?_)
              have hE := hE.tr hE1
              have t_r0 := hE1.at t_r0 (by decide)
              refine lv_aload_n C.x C.b dX9_marked_52 rfl (lv_at hl 0 rfl) ?_
              obtain ⟨g15, hf⟩ := gd_e hf
              refine r_getr C hR t_r0 fl_X9_69 (by decide) (nz_e g15) dX9_marked_53 (fun tq16 => ?_)
              have tg15 := okO tq16 rfl
              refine r_geti C hR tg15 fl_X9_355 rfl dX9_marked_56 ?_
              have hf := so_e hf
              subst hf
              exact r_iret C hr hlk hR hE hS dX9_marked_59
            · have hf := it_f hf c12
              refine lv_iconst (v := (-1 : Int32)) C.x C.b dX9_marked_40 (by decide) ?_
              have hf := so_e hf
              subst hf
              exact r_iret C hr hlk hR hE hS dX9_marked_41

def rm_X9_wiped : Room := { frames := 1, cells := 0, slots := 0, locals := 21 }
set_option maxRecDepth 100000 in
set_option maxHeartbeats 4000000 in
theorem k_X9_wiped {G : Gt} {l : Launch}  {h : Hp} {r0 : Nat} {out : (Int32 × Hp)} (t_r0 : hpT h r0 = (1, 9))  (hf : f_X9_wiped  h r0 = some out) : Mt G l yX9_wiped cX9_wiped 1 (some .int) rm_X9_wiped [.ref (G.2.2 + r0)] h (some (.int out.1)) out.2 0 0 0 := by
  refine r_met (by decide +kernel) (Nat.le_of_ble_eq_true rfl) ?_
  intro p e s m args below meth c ls C hr hlk hnm hR hS hl
  have hE : Ext h h := Ext.rf
  have hl : lv_has ls 1 [(0, .ref (G.2.2 + r0))] := hl
  rw [f_X9_wiped] at hf
  refine lv_aload_n C.x C.b dX9_wiped_0 rfl (lv_at hl 0 rfl) ?_
  obtain ⟨g1, hf⟩ := gd_e hf
  refine r_getr C hR t_r0 fl_X9_69 (by decide) (nz_e g1) dX9_wiped_1 (fun tq2 => ?_)
  have tg1 := okO tq2 rfl
  obtain ⟨q3, h_q3, hf⟩ := bd_e hf
  refine r_callV (As := []) (rest := []) C hR hS tg1 rfl mk_X2_wipe cl_X9_115 (k_X2_wipe tg1 h_q3) ⟨⟨Nat.le_of_ble_eq_true rfl, Nat.le_of_ble_eq_true rfl⟩, ⟨rfl, rfl⟩, Nat.le_of_ble_eq_true rfl, Nat.le_of_ble_eq_true rfl⟩ rfl hl.1 rfl (Nat.le_of_ble_eq_true rfl) dX9_wiped_4 (fun H locs hR hS hE1 z_q3 => ?_)
  have hE := hE.tr hE1
  have t_r0 := hE1.at t_r0 (by decide)
  have hf := so_e hf
  subst hf
  exact r_iret C hr hlk hR hE hS dX9_wiped_7

def rm_X9_isAsMarked : Room := { frames := 1, cells := 0, slots := 0, locals := 21 }
def P_X9_isAsMarked_64 (G : Gt) (l : Launch) (p : Program) (e : Env) (s : State) (m : MethodId) (args : Array Value) (below : List Frame) (meth : Method) (c : Code) (h : Hp) (out : Int32) (r0 : Nat) (x1 : Int32) (k : Int32 → Int32 → Int32 → Option Int32) : Prop := ∀ (H : Heap) (locs : List Loc) (ls : Array Slot) (s0 : Int32) (s1 : Int32) (x2 : Int32), k s0 s1 x2 = some out → Rel G h H → va_S (AA G.2.2) s.heap H locs → hpT h r0 = (1, 9) → narrow .boolean (.int s0) = .int s0 → narrow .boolean (.int s1) = .int s1 → lv_has ls 4 [(0, .ref (G.2.2 + r0)), (1, .int x1), (2, .int x2)] → W p l e rm_X9_isAsMarked s m args below meth c H locs 0 0 (MQ below (Qm G h h (some (.int out)) 1) args s 0 0 (AA G.2.2)) (F0 m 64 ls [.int s1, .int s0])
def P_X9_isAsMarked_2 (G : Gt) (l : Launch) (p : Program) (e : Env) (s : State) (m : MethodId) (args : Array Value) (below : List Frame) (meth : Method) (c : Code) (h : Hp) (out : Int32) (r0 : Nat) (x1 : Int32) (k : Int32 → Option Int32) : Prop := ∀ (H : Heap) (locs : List Loc) (ls : Array Slot) (x2 : Int32), k x2 = some out → Rel G h H → va_S (AA G.2.2) s.heap H locs → hpT h r0 = (1, 9) → lv_has ls 4 [(0, .ref (G.2.2 + r0)), (1, .int x1), (2, .int x2)] → W p l e rm_X9_isAsMarked s m args below meth c H locs 0 0 (MQ below (Qm G h h (some (.int out)) 1) args s 0 0 (AA G.2.2)) (F0 m 2 ls [])
set_option maxRecDepth 100000 in
set_option maxHeartbeats 4000000 in
theorem w_X9_isAsMarked_64 {G : Gt} {l : Launch} {p : Program} {e : Env} {s : State} {m : MethodId} {args : Array Value} {below : List Frame} {meth : Method} {c : Code}  {h : Hp} {out : Int32} {r0 : Nat} {x1 : Int32} {k2 : Int32 → Option Int32} (C : Cx G p m c cX9_isAsMarked 4 s args RX9) (hr : meth.sig.returnType = some .boolean) (hlk : meth.locks = false)  (hk2 : P_X9_isAsMarked_2 G l p e s m args below meth c h out r0 x1 k2) : P_X9_isAsMarked_64 G l p e s m args below meth c h out r0 x1 (f_X9_isAsMarked_64 h r0 x1 k2) := by
  intro H locs ls s0 s1 x2 hf hR hS t_r0 z_s0 z_s1 hl
  rw [f_X9_isAsMarked_64] at hf
  refine lv_icmp_eq (tgt := 69) C.x C.b dX9_isAsMarked_64 (by decide) (fun c22 => ?_) (fun c22 => ?_)
  · have hf := it_t hf c22
    obtain ⟨v23, e_v23⟩ : ∃ y : Int32, y = x2 + (1 : Int32) := ⟨_, rfl⟩
    have hf := lt_e hf e_v23
    refine lv_iinc (v := v23) (lv' := [(2, .int v23), (0, .ref (G.2.2 + r0)), (1, .int x1)]) C.x C.b dX9_isAsMarked_69 hl (k := 2) rfl (by rw [e_v23]; rfl) (by decide) rfl (fun ls hl => ?_)
    refine lv_goto (tgt := 2) C.x C.b dX9_isAsMarked_72 (by decide) ?_
    exact hk2 _ _ _ _ hf hR hS t_r0 (lv_sub hl [1, 2, 0] rfl)
  · have hf := it_f hf c22
    refine lv_iconst (v := (0 : Int32)) C.x C.b dX9_isAsMarked_67 (by decide) ?_
    have hf := so_e hf
    subst hf
    exact r_zret C hr hlk hR Ext.rf hS z_0 dX9_isAsMarked_68
set_option maxRecDepth 100000 in
set_option maxHeartbeats 4000000 in
theorem w_X9_isAsMarked_2 {G : Gt} {l : Launch} {p : Program} {e : Env} {s : State} {m : MethodId} {args : Array Value} {below : List Frame} {meth : Method} {c : Code}  {h : Hp} {out : Int32} {r0 : Nat} {x1 : Int32}  (C : Cx G p m c cX9_isAsMarked 4 s args RX9) (hr : meth.sig.returnType = some .boolean) (hlk : meth.locks = false)   (n : Nat) : P_X9_isAsMarked_2 G l p e s m args below meth c h out r0 x1 (f_X9_isAsMarked_2 h r0 x1 n) := by
  induction n with
  | zero => intro H locs ls x2 hf hR hS t_r0 hl; cases hf
  | succ n hk2 =>
    intro H locs ls x2 hf hR hS t_r0 hl
    rw [f_X9_isAsMarked_2] at hf
    obtain ⟨k2, e_k2⟩ : ∃ y, y = f_X9_isAsMarked_2 h r0 x1 n := ⟨_, rfl⟩
    have hf := lt_e hf e_k2
    rw [← e_k2] at hk2
    refine lv_iload_n C.x C.b dX9_isAsMarked_2 rfl (lv_at hl 2 rfl) ?_
    refine lv_aload_n C.x C.b dX9_isAsMarked_3 rfl (lv_at hl 0 rfl) ?_
    obtain ⟨g1, hf⟩ := gd_e hf
    refine r_getr C hR t_r0 fl_X9_69 (by decide) (nz_e g1) dX9_isAsMarked_4 (fun tq2 => ?_)
    have tg1 := okO tq2 rfl
    refine r_geti C hR tg1 fl_X9_355 rfl dX9_isAsMarked_7 ?_
    refine lv_icmp_ge (tgt := 75) C.x C.b dX9_isAsMarked_10 (by decide) (fun c3 => ?_) (fun c3 => ?_)
    · have hf := it_t hf c3
      refine lv_iconst (v := (1 : Int32)) C.x C.b dX9_isAsMarked_75 (by decide) ?_
      have hf := so_e hf
      subst hf
      exact r_zret C hr hlk hR Ext.rf hS z_1 dX9_isAsMarked_76
    · have hf := it_f hf c3
      refine lv_aload_n C.x C.b dX9_isAsMarked_13 rfl (lv_at hl 0 rfl) ?_
      obtain ⟨g4, hf⟩ := gd_e hf
      refine r_getr C hR t_r0 fl_X9_83 (by decide) (nz_e g4) dX9_isAsMarked_14 (fun tq5 => ?_)
      have tg4 := okA tq5 rfl
      refine lv_iload_n C.x C.b dX9_isAsMarked_17 rfl (lv_at hl 1 rfl) ?_
      refine lv_bipush (v := (31 : Int32)) C.x C.b dX9_isAsMarked_18 (by decide) ?_
      refine lv_imul C.x C.b dX9_isAsMarked_20 ?_
      refine lv_aload_n C.x C.b dX9_isAsMarked_21 rfl (lv_at hl 0 rfl) ?_
      refine r_getr C hR t_r0 fl_X9_69 (by decide) (nz_e g1) dX9_isAsMarked_22 (fun tq6 => ?_)
      obtain ⟨g7, hf⟩ := gd_e hf
      refine r_getr C hR tg1 fl_X9_371 (by decide) (nz_e g7) dX9_isAsMarked_25 (fun tq8 => ?_)
      have tg7 := okA tq8 rfl
      refine lv_iload_n C.x C.b dX9_isAsMarked_28 rfl (lv_at hl 2 rfl) ?_
      obtain ⟨g9, hf⟩ := gd_e hf
      refine r_iald C hR tg7 g9 dX9_isAsMarked_29 ?_
      refine lv_iadd C.x C.b dX9_isAsMarked_30 ?_
      obtain ⟨g10, hf⟩ := gd_e hf
      refine r_iald C hR tg4 g10 dX9_isAsMarked_31 ?_
      refine lv_topi (fun v11 e_v11 => ?_)
      have hf := lt_e hf e_v11
      refine lv_istore_n (lv' := [(3, .int v11), (0, .ref (G.2.2 + r0)), (1, .int x1), (2, .int x2)]) C.x C.b dX9_isAsMarked_32 rfl hl (by decide) rfl (fun ls hl => ?_)
      refine lv_iload_n C.x C.b dX9_isAsMarked_33 rfl (lv_at hl 0 rfl) ?_
      refine lv_aload_n C.x C.b dX9_isAsMarked_34 rfl (lv_at hl 1 rfl) ?_
      refine r_getr C hR t_r0 fl_X9_69 (by decide) (nz_e g1) dX9_isAsMarked_35 (fun tq12 => ?_)
      obtain ⟨g13, hf⟩ := gd_e hf
      refine r_getr C hR tg1 fl_X9_374 (by decide) (nz_e g13) dX9_isAsMarked_38 (fun tq14 => ?_)
      have tg13 := okA tq14 rfl
      refine lv_iload_n C.x C.b dX9_isAsMarked_41 rfl (lv_at hl 3 rfl) ?_
      obtain ⟨g15, hf⟩ := gd_e hf
      refine r_iald C hR tg13 g15 dX9_isAsMarked_42 ?_
      obtain ⟨q16, h_q16, hf⟩ := bd_e hf
      refine r_callS (As := [.int v11, .int (hpI h (hpR h (hpR h r0 11) 0) (ix x2))]) (rest := []) C hR hS mk_X9_isIn cl_X9_291 (k_X9_isIn h_q16) ⟨⟨Nat.le_of_ble_eq_true rfl, Nat.le_of_ble_eq_true rfl⟩, ⟨rfl, rfl⟩, Nat.le_of_ble_eq_true rfl, Nat.le_of_ble_eq_true rfl⟩ rfl hl.1 rfl (Nat.le_of_ble_eq_true rfl) dX9_isAsMarked_43 (fun H locs hR hS hE1 z_q16 => ?_)
      have z_q16 := z_q16 _ rfl
      refine lv_aload_n C.x C.b dX9_isAsMarked_46 rfl (lv_at hl 1 rfl) ?_
      refine r_getr C hR t_r0 fl_X9_69 (by decide) (nz_e g1) dX9_isAsMarked_47 (fun tq17 => ?_)
      obtain ⟨g18, hf⟩ := gd_e hf
      refine r_getr C hR tg1 fl_X9_377 (by decide) (nz_e g18) dX9_isAsMarked_50 (fun tq19 => ?_)
      have tg18 := okA tq19 rfl
      refine lv_iload_n C.x C.b dX9_isAsMarked_53 rfl (lv_at hl 3 rfl) ?_
      obtain ⟨g20, hf⟩ := gd_e hf
      refine r_iald C hR tg18 g20 dX9_isAsMarked_54 ?_
      refine lv_iconst (v := (1 : Int32)) C.x C.b dX9_isAsMarked_55 (by decide) ?_
      refine lv_icmp_ne (tgt := 63) C.x C.b dX9_isAsMarked_56 (by decide) (fun c21 => ?_) (fun c21 => ?_)
      · simp only [if_neg c21] at hf
        refine lv_iconst (v := (0 : Int32)) C.x C.b dX9_isAsMarked_63 (by decide) ?_
        exact w_X9_isAsMarked_64 C hr hlk hk2 _ _ _ _ _ _ hf hR hS t_r0 z_q16 z_0 (lv_sub hl [1, 2, 3] rfl)
      · simp only [if_pos c21] at hf
        refine lv_iconst (v := (1 : Int32)) C.x C.b dX9_isAsMarked_59 (by decide) ?_
        refine lv_goto (tgt := 64) C.x C.b dX9_isAsMarked_60 (by decide) ?_
        exact w_X9_isAsMarked_64 C hr hlk hk2 _ _ _ _ _ _ hf hR hS t_r0 z_q16 z_1 (lv_sub hl [1, 2, 3] rfl)
set_option maxRecDepth 100000 in
set_option maxHeartbeats 4000000 in
theorem k_X9_isAsMarked {G : Gt} {l : Launch}  {h : Hp} {r0 : Nat} {x1 : Int32} {out : Int32} (t_r0 : hpT h r0 = (1, 9))  (hf : f_X9_isAsMarked  h r0 x1 = some out) : Mt G l yX9_isAsMarked cX9_isAsMarked 4 (some .boolean) rm_X9_isAsMarked [.ref (G.2.2 + r0), .int x1] h (some (.int out)) h 1 0 0 := by
  refine r_met (by decide +kernel) (Nat.le_of_ble_eq_true rfl) ?_
  intro p e s m args below meth c ls C hr hlk hnm hR hS hl
  have hl : lv_has ls 4 [(0, .ref (G.2.2 + r0)), (1, .int x1)] := hl
  rw [f_X9_isAsMarked] at hf
  refine lv_iconst (v := (0 : Int32)) C.x C.b dX9_isAsMarked_0 (by decide) ?_
  refine lv_istore_n (lv' := [(2, .int (0 : Int32)), (0, .ref (G.2.2 + r0)), (1, .int x1)]) C.x C.b dX9_isAsMarked_1 rfl hl (by decide) rfl (fun ls hl => ?_)
  exact w_X9_isAsMarked_2 C hr hlk FU _ _ _ _ hf hR hS t_r0 (lv_sub hl [1, 2, 0] rfl)

def rm_X9_fittingLaws : Room := { frames := 5, cells := 0, slots := 0, locals := 106 }
def P_X9_fittingLaws_92 (G : Gt) (l : Launch) (p : Program) (e : Env) (s : State) (m : MethodId) (args : Array Value) (below : List Frame) (meth : Method) (c : Code) (h0 : Hp) (out : (Int32 × Hp)) (r0 : Nat) (k : Hp → Int32 → Int32 → Option (Int32 × Hp)) : Prop := ∀ (H : Heap) (locs : List Loc) (ls : Array Slot) (h : Hp) (x1 : Int32) (x2 : Int32), k h x1 x2 = some out → Ext h0 h → Rel G h H → va_S (AA G.2.2) s.heap H locs → hpT h r0 = (1, 9) → lv_has ls 4 [(0, .ref (G.2.2 + r0)), (1, .int x1), (2, .int x2)] → W p l e rm_X9_fittingLaws s m args below meth c H locs 0 0 (MQ below (Qm G h0 out.2 (some (.int out.1)) 0) args s 0 0 (AA G.2.2)) (F0 m 92 ls [])
def P_X9_fittingLaws_36 (G : Gt) (l : Launch) (p : Program) (e : Env) (s : State) (m : MethodId) (args : Array Value) (below : List Frame) (meth : Method) (c : Code) (h0 : Hp) (out : (Int32 × Hp)) (r0 : Nat) (k : Hp → Int32 → Int32 → Int32 → Option (Int32 × Hp)) : Prop := ∀ (H : Heap) (locs : List Loc) (ls : Array Slot) (h : Hp) (x1 : Int32) (x2 : Int32) (x3 : Int32), k h x1 x2 x3 = some out → Ext h0 h → Rel G h H → va_S (AA G.2.2) s.heap H locs → hpT h r0 = (1, 9) → lv_has ls 4 [(0, .ref (G.2.2 + r0)), (1, .int x1), (2, .int x2), (3, .int x3)] → W p l e rm_X9_fittingLaws s m args below meth c H locs 0 0 (MQ below (Qm G h0 out.2 (some (.int out.1)) 0) args s 0 0 (AA G.2.2)) (F0 m 36 ls [])
def P_X9_fittingLaws_4 (G : Gt) (l : Launch) (p : Program) (e : Env) (s : State) (m : MethodId) (args : Array Value) (below : List Frame) (meth : Method) (c : Code) (h0 : Hp) (out : (Int32 × Hp)) (r0 : Nat) (k : Hp → Int32 → Int32 → Option (Int32 × Hp)) : Prop := ∀ (H : Heap) (locs : List Loc) (ls : Array Slot) (h : Hp) (x1 : Int32) (x2 : Int32), k h x1 x2 = some out → Ext h0 h → Rel G h H → va_S (AA G.2.2) s.heap H locs → hpT h r0 = (1, 9) → lv_has ls 4 [(0, .ref (G.2.2 + r0)), (1, .int x1), (2, .int x2)] → W p l e rm_X9_fittingLaws s m args below meth c H locs 0 0 (MQ below (Qm G h0 out.2 (some (.int out.1)) 0) args s 0 0 (AA G.2.2)) (F0 m 4 ls [])
set_option maxRecDepth 100000 in
set_option maxHeartbeats 4000000 in
theorem w_X9_fittingLaws_92 {G : Gt} {l : Launch} {p : Program} {e : Env} {s : State} {m : MethodId} {args : Array Value} {below : List Frame} {meth : Method} {c : Code}  {h0 : Hp} {out : (Int32 × Hp)} {r0 : Nat} {k4 : Hp → Int32 → Int32 → Option (Int32 × Hp)} (C : Cx G p m c cX9_fittingLaws 4 s args RX9) (hr : meth.sig.returnType = some .int) (hlk : meth.locks = false)  (hk4 : P_X9_fittingLaws_4 G l p e s m args below meth c h0 out r0 k4) : P_X9_fittingLaws_92 G l p e s m args below meth c h0 out r0 (f_X9_fittingLaws_92 r0 k4) := by
  intro H locs ls h x1 x2 hf hE hR hS t_r0 hl
  rw [f_X9_fittingLaws_92] at hf
  obtain ⟨v29, e_v29⟩ : ∃ y : Int32, y = x2 + (1 : Int32) := ⟨_, rfl⟩
  have hf := lt_e hf e_v29
  refine lv_iinc (v := v29) (lv' := [(2, .int v29), (0, .ref (G.2.2 + r0)), (1, .int x1)]) C.x C.b dX9_fittingLaws_92 hl (k := 2) rfl (by rw [e_v29]; rfl) (by decide) rfl (fun ls hl => ?_)
  refine lv_goto (tgt := 4) C.x C.b dX9_fittingLaws_95 (by decide) ?_
  exact hk4 _ _ _ _ _ _ hf hE hR hS t_r0 (lv_sub hl [1, 2, 0] rfl)
set_option maxRecDepth 100000 in
set_option maxHeartbeats 4000000 in
theorem w_X9_fittingLaws_36 {G : Gt} {l : Launch} {p : Program} {e : Env} {s : State} {m : MethodId} {args : Array Value} {below : List Frame} {meth : Method} {c : Code}  {h0 : Hp} {out : (Int32 × Hp)} {r0 : Nat} {k4 : Hp → Int32 → Int32 → Option (Int32 × Hp)} (C : Cx G p m c cX9_fittingLaws 4 s args RX9) (hr : meth.sig.returnType = some .int) (hlk : meth.locks = false)  (hk4 : P_X9_fittingLaws_4 G l p e s m args below meth c h0 out r0 k4) (n : Nat) : P_X9_fittingLaws_36 G l p e s m args below meth c h0 out r0 (f_X9_fittingLaws_36 r0 k4 n) := by
  induction n with
  | zero => intro H locs ls h x1 x2 x3 hf hE hR hS t_r0 hl; cases hf
  | succ n hk36 =>
    intro H locs ls h x1 x2 x3 hf hE hR hS t_r0 hl
    rw [f_X9_fittingLaws_36] at hf
    obtain ⟨k36, e_k36⟩ : ∃ y, y = f_X9_fittingLaws_36 r0 k4 n := ⟨_, rfl⟩
    have hf := lt_e hf e_k36
    rw [← e_k36] at hk36
    refine lv_iload_n C.x C.b dX9_fittingLaws_36 rfl (lv_at hl 3 rfl) ?_
    refine lv_bipush (v := (31 : Int32)) C.x C.b dX9_fittingLaws_37 (by decide) ?_
    refine lv_icmp_ge (tgt := 78) C.x C.b dX9_fittingLaws_39 (by decide) (fun c11 => ?_) (fun c11 => ?_)
    · have hf := it_t hf c11
      refine lv_aload_n C.x C.b dX9_fittingLaws_78 rfl (lv_at hl 0 rfl) ?_
      refine lv_iload_n C.x C.b dX9_fittingLaws_79 rfl (lv_at hl 2 rfl) ?_
      obtain ⟨q12, h_q12, hf⟩ := bd_e hf
      refine r_callV (As := [.int x2]) (rest := []) C hR hS t_r0 rfl mk_X9_isAsMarked cl_X9_368 (k_X9_isAsMarked t_r0 h_q12) ⟨⟨Nat.le_of_ble_eq_true rfl, Nat.le_of_ble_eq_true rfl⟩, ⟨rfl, rfl⟩, Nat.le_of_ble_eq_true rfl, Nat.le_of_ble_eq_true rfl⟩ rfl hl.1 rfl (Nat.le_of_ble_eq_true rfl) dX9_fittingLaws_80 (fun H locs hR hS hE1 z_q12 => ?_)
      have z_q12 := z_q12 _ rfl
      refine lv_if_eq (tgt := 92) C.x C.b dX9_fittingLaws_83 (by decide) (fun c13 => ?_) (fun c13 => ?_)
      · have hf := it_t hf c13
        exact w_X9_fittingLaws_92 C hr hlk hk4 _ _ _ _ _ _ hf hE hR hS t_r0 (lv_sub hl [0, 1, 2] rfl)
      · have hf := it_f hf c13
        refine lv_iload_n C.x C.b dX9_fittingLaws_86 rfl (lv_at hl 1 rfl) ?_
        refine lv_iconst (v := (1 : Int32)) C.x C.b dX9_fittingLaws_87 (by decide) ?_
        refine lv_iload_n C.x C.b dX9_fittingLaws_88 rfl (lv_at hl 2 rfl) ?_
        refine lv_ishl C.x C.b dX9_fittingLaws_89 ?_
        refine lv_topi (fun v14 e_v14 => ?_)
        have hf := lt_e hf e_v14
        refine lv_ior C.x C.b dX9_fittingLaws_90 ?_
        refine lv_topi (fun v15 e_v15 => ?_)
        have hf := lt_e hf e_v15
        refine lv_istore_n (lv' := [(1, .int v15), (0, .ref (G.2.2 + r0)), (2, .int x2), (3, .int x3)]) C.x C.b dX9_fittingLaws_91 rfl hl (by decide) rfl (fun ls hl => ?_)
        exact w_X9_fittingLaws_92 C hr hlk hk4 _ _ _ _ _ _ hf hE hR hS t_r0 (lv_sub hl [1, 0, 2] rfl)
    · have hf := it_f hf c11
      refine lv_aload_n C.x C.b dX9_fittingLaws_42 rfl (lv_at hl 0 rfl) ?_
      obtain ⟨g16, hf⟩ := gd_e hf
      refine r_getr C hR t_r0 fl_X9_83 (by decide) (nz_e g16) dX9_fittingLaws_43 (fun tq17 => ?_)
      have tg16 := okA tq17 rfl
      refine lv_iload_n C.x C.b dX9_fittingLaws_46 rfl (lv_at hl 2 rfl) ?_
      refine lv_bipush (v := (31 : Int32)) C.x C.b dX9_fittingLaws_47 (by decide) ?_
      refine lv_imul C.x C.b dX9_fittingLaws_49 ?_
      refine lv_iload_n C.x C.b dX9_fittingLaws_50 rfl (lv_at hl 3 rfl) ?_
      refine lv_iadd C.x C.b dX9_fittingLaws_51 ?_
      refine lv_aload_n C.x C.b dX9_fittingLaws_52 rfl (lv_at hl 0 rfl) ?_
      obtain ⟨g18, hf⟩ := gd_e hf
      refine r_getr C hR t_r0 fl_X9_33 (by decide) (nz_e g18) dX9_fittingLaws_53 (fun tq19 => ?_)
      have tg18 := okO tq19 rfl
      obtain ⟨q20, h_q20, hf⟩ := bd_e hf
      refine r_callV (As := []) (rest := [.int ((x2 * (31 : Int32)) + x3), .ref (G.2.2 + (hpR h r0 14))]) C hR hS tg18 rfl mk_X0_onBits cl_X9_302 (k_X0_onBits tg18 h_q20) ⟨⟨Nat.le_of_ble_eq_true rfl, Nat.le_of_ble_eq_true rfl⟩, ⟨rfl, rfl⟩, Nat.le_of_ble_eq_true rfl, Nat.le_of_ble_eq_true rfl⟩ rfl hl.1 rfl (Nat.le_of_ble_eq_true rfl) dX9_fittingLaws_56 (fun H locs hR hS hE1 z_q20 => ?_)
      obtain ⟨g21, hf⟩ := gd_e hf
      refine r_iast C hR hS tg16 g21 dX9_fittingLaws_59 (fun H locs hR hS => ?_)
      obtain ⟨h22, e_h22⟩ : ∃ y, y = upI h (hpR h r0 14) (ix ((x2 * (31 : Int32)) + x3)) q20 := ⟨_, rfl⟩
      rw [← e_h22] at hR
      have hf := lt_e hf e_h22
      have hE := eI e_h22 hE
      have t_r0 := tI e_h22 t_r0
      refine lv_aload_n C.x C.b dX9_fittingLaws_60 rfl (lv_at hl 0 rfl) ?_
      obtain ⟨g23, hf⟩ := gd_e hf
      refine r_getr C hR t_r0 fl_X9_33 (by decide) (nz_e g23) dX9_fittingLaws_61 (fun tq24 => ?_)
      have tg23 := okO tq24 rfl
      refine lv_aload_n C.x C.b dX9_fittingLaws_64 rfl (lv_at hl 0 rfl) ?_
      obtain ⟨g25, hf⟩ := gd_e hf
      refine r_getr C hR t_r0 fl_X9_54 (by decide) (nz_e g25) dX9_fittingLaws_65 (fun tq26 => ?_)
      have tg25 := okO tq26 rfl
      obtain ⟨q27, h_q27, hf⟩ := bd_e hf
      refine r_callV (As := [.ref (G.2.2 + (hpR h22 r0 9))]) (rest := []) C hR hS tg23 rfl mk_X0_goBy cl_X9_298 (k_X0_goBy tg23 tg25 h_q27) ⟨⟨Nat.le_of_ble_eq_true rfl, Nat.le_of_ble_eq_true rfl⟩, ⟨rfl, rfl⟩, Nat.le_of_ble_eq_true rfl, Nat.le_of_ble_eq_true rfl⟩ rfl hl.1 rfl (Nat.le_of_ble_eq_true rfl) dX9_fittingLaws_68 (fun H locs hR hS hE1 z_q27 => ?_)
      have hE := hE.tr hE1
      have t_r0 := hE1.at t_r0 (by decide)
      refine lv_pop C.x C.b dX9_fittingLaws_71 rfl ?_
      obtain ⟨v28, e_v28⟩ : ∃ y : Int32, y = x3 + (1 : Int32) := ⟨_, rfl⟩
      have hf := lt_e hf e_v28
      refine lv_iinc (v := v28) (lv' := [(3, .int v28), (0, .ref (G.2.2 + r0)), (1, .int x1), (2, .int x2)]) C.x C.b dX9_fittingLaws_72 hl (k := 3) rfl (by rw [e_v28]; rfl) (by decide) rfl (fun ls hl => ?_)
      refine lv_goto (tgt := 36) C.x C.b dX9_fittingLaws_75 (by decide) ?_
      exact hk36 _ _ _ _ _ _ _ hf hE hR hS t_r0 (lv_sub hl [1, 2, 3, 0] rfl)
set_option maxRecDepth 100000 in
set_option maxHeartbeats 4000000 in
theorem w_X9_fittingLaws_4 {G : Gt} {l : Launch} {p : Program} {e : Env} {s : State} {m : MethodId} {args : Array Value} {below : List Frame} {meth : Method} {c : Code}  {h0 : Hp} {out : (Int32 × Hp)} {r0 : Nat}  (C : Cx G p m c cX9_fittingLaws 4 s args RX9) (hr : meth.sig.returnType = some .int) (hlk : meth.locks = false)   (n : Nat) : P_X9_fittingLaws_4 G l p e s m args below meth c h0 out r0 (f_X9_fittingLaws_4 r0 n) := by
  induction n with
  | zero => intro H locs ls h x1 x2 hf hE hR hS t_r0 hl; cases hf
  | succ n hk4 =>
    intro H locs ls h x1 x2 hf hE hR hS t_r0 hl
    rw [f_X9_fittingLaws_4] at hf
    obtain ⟨k4, e_k4⟩ : ∃ y, y = f_X9_fittingLaws_4 r0 n := ⟨_, rfl⟩
    have hf := lt_e hf e_k4
    rw [← e_k4] at hk4
    refine lv_iload_n C.x C.b dX9_fittingLaws_4 rfl (lv_at hl 2 rfl) ?_
    refine lv_bipush (v := (16 : Int32)) C.x C.b dX9_fittingLaws_5 (by decide) ?_
    refine lv_icmp_ge (tgt := 98) C.x C.b dX9_fittingLaws_7 (by decide) (fun c1 => ?_) (fun c1 => ?_)
    · have hf := it_t hf c1
      refine lv_iload_n C.x C.b dX9_fittingLaws_98 rfl (lv_at hl 1 rfl) ?_
      have hf := so_e hf
      subst hf
      exact r_iret C hr hlk hR hE hS dX9_fittingLaws_99
    · have hf := it_f hf c1
      refine lv_aload_n C.x C.b dX9_fittingLaws_10 rfl (lv_at hl 0 rfl) ?_
      obtain ⟨g2, hf⟩ := gd_e hf
      refine r_getr C hR t_r0 fl_X9_54 (by decide) (nz_e g2) dX9_fittingLaws_11 (fun tq3 => ?_)
      have tg2 := okO tq3 rfl
      refine lv_iload_n C.x C.b dX9_fittingLaws_14 rfl (lv_at hl 2 rfl) ?_
      refine lv_iconst (v := (4 : Int32)) C.x C.b dX9_fittingLaws_15 (by decide) ?_
      refine lv_idiv C.x C.b dX9_fittingLaws_16 (by decide) ?_
      refine lv_iload_n C.x C.b dX9_fittingLaws_17 rfl (lv_at hl 2 rfl) ?_
      refine lv_iconst (v := (4 : Int32)) C.x C.b dX9_fittingLaws_18 (by decide) ?_
      refine lv_irem C.x C.b dX9_fittingLaws_19 (by decide) ?_
      refine lv_topi (fun v4 e_v4 => ?_)
      have hf := lt_e hf e_v4
      obtain ⟨q5, h_q5, hf⟩ := bd_e hf
      refine r_callV (As := [.int (x2 / (4 : Int32)), .int v4]) (rest := []) C hR hS tg2 rfl mk_X4_putLaw cl_X9_365 (k_X4_putLaw tg2 h_q5) ⟨⟨Nat.le_of_ble_eq_true rfl, Nat.le_of_ble_eq_true rfl⟩, ⟨rfl, rfl⟩, Nat.le_of_ble_eq_true rfl, Nat.le_of_ble_eq_true rfl⟩ rfl hl.1 rfl (Nat.le_of_ble_eq_true rfl) dX9_fittingLaws_20 (fun H locs hR hS hE1 z_q5 => ?_)
      have hE := hE.tr hE1
      have t_r0 := hE1.at t_r0 (by decide)
      refine lv_aload_n C.x C.b dX9_fittingLaws_23 rfl (lv_at hl 0 rfl) ?_
      obtain ⟨g6, hf⟩ := gd_e hf
      refine r_getr C hR t_r0 fl_X9_33 (by decide) (nz_e g6) dX9_fittingLaws_24 (fun tq7 => ?_)
      have tg6 := okO tq7 rfl
      refine lv_aload_n C.x C.b dX9_fittingLaws_27 rfl (lv_at hl 0 rfl) ?_
      obtain ⟨g8, hf⟩ := gd_e hf
      refine r_getr C hR t_r0 fl_X9_26 (by decide) (nz_e g8) dX9_fittingLaws_28 (fun tq9 => ?_)
      have tg8 := okO tq9 rfl
      obtain ⟨q10, h_q10, hf⟩ := bd_e hf
      refine r_callV (As := [.ref (G.2.2 + (hpR q5 r0 2))]) (rest := []) C hR hS tg6 rfl mk_X0_copy cl_X9_134 (k_X0_copy tg6 tg8 h_q10) ⟨⟨Nat.le_of_ble_eq_true rfl, Nat.le_of_ble_eq_true rfl⟩, ⟨rfl, rfl⟩, Nat.le_of_ble_eq_true rfl, Nat.le_of_ble_eq_true rfl⟩ rfl hl.1 rfl (Nat.le_of_ble_eq_true rfl) dX9_fittingLaws_31 (fun H locs hR hS hE1 z_q10 => ?_)
      have hE := hE.tr hE1
      have t_r0 := hE1.at t_r0 (by decide)
      refine lv_iconst (v := (0 : Int32)) C.x C.b dX9_fittingLaws_34 (by decide) ?_
      refine lv_istore_n (lv' := [(3, .int (0 : Int32)), (0, .ref (G.2.2 + r0)), (1, .int x1), (2, .int x2)]) C.x C.b dX9_fittingLaws_35 rfl hl (by decide) rfl (fun ls hl => ?_)
      exact w_X9_fittingLaws_36 C hr hlk hk4 FU _ _ _ _ _ _ _ hf hE hR hS t_r0 (lv_sub hl [1, 2, 3, 0] rfl)
set_option maxRecDepth 100000 in
set_option maxHeartbeats 4000000 in
theorem k_X9_fittingLaws {G : Gt} {l : Launch}  {h : Hp} {r0 : Nat} {out : (Int32 × Hp)} (t_r0 : hpT h r0 = (1, 9))  (hf : f_X9_fittingLaws  h r0 = some out) : Mt G l yX9_fittingLaws cX9_fittingLaws 4 (some .int) rm_X9_fittingLaws [.ref (G.2.2 + r0)] h (some (.int out.1)) out.2 0 0 0 := by
  refine r_met (by decide +kernel) (Nat.le_of_ble_eq_true rfl) ?_
  intro p e s m args below meth c ls C hr hlk hnm hR hS hl
  have hE : Ext h h := Ext.rf
  have hl : lv_has ls 4 [(0, .ref (G.2.2 + r0))] := hl
  rw [f_X9_fittingLaws] at hf
  refine lv_iconst (v := (0 : Int32)) C.x C.b dX9_fittingLaws_0 (by decide) ?_
  refine lv_istore_n (lv' := [(1, .int (0 : Int32)), (0, .ref (G.2.2 + r0))]) C.x C.b dX9_fittingLaws_1 rfl hl (by decide) rfl (fun ls hl => ?_)
  refine lv_iconst (v := (0 : Int32)) C.x C.b dX9_fittingLaws_2 (by decide) ?_
  refine lv_istore_n (lv' := [(2, .int (0 : Int32)), (1, .int (0 : Int32)), (0, .ref (G.2.2 + r0))]) C.x C.b dX9_fittingLaws_3 rfl hl (by decide) rfl (fun ls hl => ?_)
  exact w_X9_fittingLaws_4 C hr hlk FU _ _ _ _ _ _ hf hE hR hS t_r0 (lv_sub hl [2, 1, 0] rfl)

def rm_X9_firstIn : Room := { frames := 1, cells := 0, slots := 0, locals := 21 }
def P_X9_firstIn_2 (G : Gt) (l : Launch) (p : Program) (e : Env) (s : State) (m : MethodId) (args : Array Value) (below : List Frame) (meth : Method) (c : Code) (h : Hp) (out : Int32) (x0 : Int32) (k : Int32 → Option Int32) : Prop := ∀ (H : Heap) (locs : List Loc) (ls : Array Slot) (x1 : Int32), k x1 = some out → Rel G h H → va_S (AA G.2.2) s.heap H locs → lv_has ls 2 [(0, .int x0), (1, .int x1)] → W p l e rm_X9_firstIn s m args below meth c H locs 0 0 (MQ below (Qm G h h (some (.int out)) 0) args s 0 0 (AA G.2.2)) (F0 m 2 ls [])
set_option maxRecDepth 100000 in
set_option maxHeartbeats 4000000 in
theorem w_X9_firstIn_2 {G : Gt} {l : Launch} {p : Program} {e : Env} {s : State} {m : MethodId} {args : Array Value} {below : List Frame} {meth : Method} {c : Code}  {h : Hp} {out : Int32} {x0 : Int32}  (C : Cx G p m c cX9_firstIn 2 s args RX9) (hr : meth.sig.returnType = some .int) (hlk : meth.locks = false)   (n : Nat) : P_X9_firstIn_2 G l p e s m args below meth c h out x0 (f_X9_firstIn_2 h x0 n) := by
  induction n with
  | zero => intro H locs ls x1 hf hR hS  hl; cases hf
  | succ n hk2 =>
    intro H locs ls x1 hf hR hS  hl
    rw [f_X9_firstIn_2] at hf
    obtain ⟨k2, e_k2⟩ : ∃ y, y = f_X9_firstIn_2 h x0 n := ⟨_, rfl⟩
    have hf := lt_e hf e_k2
    rw [← e_k2] at hk2
    refine lv_iload_n C.x C.b dX9_firstIn_2 rfl (lv_at hl 1 rfl) ?_
    refine lv_bipush (v := (16 : Int32)) C.x C.b dX9_firstIn_3 (by decide) ?_
    refine lv_icmp_ge (tgt := 24) C.x C.b dX9_firstIn_5 (by decide) (fun c1 => ?_) (fun c1 => ?_)
    · have hf := it_t hf c1
      refine lv_iconst (v := (-1 : Int32)) C.x C.b dX9_firstIn_24 (by decide) ?_
      have hf := so_e hf
      subst hf
      exact r_iret C hr hlk hR Ext.rf hS dX9_firstIn_25
    · have hf := it_f hf c1
      refine lv_iload_n C.x C.b dX9_firstIn_8 rfl (lv_at hl 0 rfl) ?_
      refine lv_iload_n C.x C.b dX9_firstIn_9 rfl (lv_at hl 1 rfl) ?_
      obtain ⟨q2, h_q2, hf⟩ := bd_e hf
      refine r_callS (As := [.int x0, .int x1]) (rest := []) C hR hS mk_X9_isIn cl_X9_291 (k_X9_isIn h_q2) ⟨⟨Nat.le_of_ble_eq_true rfl, Nat.le_of_ble_eq_true rfl⟩, ⟨rfl, rfl⟩, Nat.le_of_ble_eq_true rfl, Nat.le_of_ble_eq_true rfl⟩ rfl hl.1 rfl (Nat.le_of_ble_eq_true rfl) dX9_firstIn_10 (fun H locs hR hS hE1 z_q2 => ?_)
      have z_q2 := z_q2 _ rfl
      refine lv_if_eq (tgt := 18) C.x C.b dX9_firstIn_13 (by decide) (fun c3 => ?_) (fun c3 => ?_)
      · have hf := it_t hf c3
        obtain ⟨v4, e_v4⟩ : ∃ y : Int32, y = x1 + (1 : Int32) := ⟨_, rfl⟩
        have hf := lt_e hf e_v4
        refine lv_iinc (v := v4) (lv' := [(1, .int v4), (0, .int x0)]) C.x C.b dX9_firstIn_18 hl (k := 1) rfl (by rw [e_v4]; rfl) (by decide) rfl (fun ls hl => ?_)
        refine lv_goto (tgt := 2) C.x C.b dX9_firstIn_21 (by decide) ?_
        exact hk2 _ _ _ _ hf hR hS (lv_sub hl [1, 0] rfl)
      · have hf := it_f hf c3
        refine lv_iload_n C.x C.b dX9_firstIn_16 rfl (lv_at hl 1 rfl) ?_
        have hf := so_e hf
        subst hf
        exact r_iret C hr hlk hR Ext.rf hS dX9_firstIn_17
set_option maxRecDepth 100000 in
set_option maxHeartbeats 4000000 in
theorem k_X9_firstIn {G : Gt} {l : Launch}  {h : Hp} {x0 : Int32} {out : Int32}   (hf : f_X9_firstIn  h x0 = some out) : Mt G l yX9_firstIn cX9_firstIn 2 (some .int) rm_X9_firstIn [.int x0] h (some (.int out)) h 0 0 0 := by
  refine r_met (by decide +kernel) (Nat.le_of_ble_eq_true rfl) ?_
  intro p e s m args below meth c ls C hr hlk hnm hR hS hl
  have hl : lv_has ls 2 [(0, .int x0)] := hl
  rw [f_X9_firstIn] at hf
  refine lv_iconst (v := (0 : Int32)) C.x C.b dX9_firstIn_0 (by decide) ?_
  refine lv_istore_n (lv' := [(1, .int (0 : Int32)), (0, .int x0)]) C.x C.b dX9_firstIn_1 rfl hl (by decide) rfl (fun ls hl => ?_)
  exact w_X9_firstIn_2 C hr hlk FU _ _ _ _ hf hR hS (lv_sub hl [1, 0] rfl)

def rm_X9_laws : Room := { frames := 6, cells := 0, slots := 0, locals := 129 }
def P_X9_laws_43 (G : Gt) (l : Launch) (p : Program) (e : Env) (s : State) (m : MethodId) (args : Array Value) (below : List Frame) (meth : Method) (c : Code) (h0 : Hp) (out : (Int32 × Hp)) (r0 : Nat) (k : Hp → Int32 → Option (Int32 × Hp)) : Prop := ∀ (H : Heap) (locs : List Loc) (ls : Array Slot) (h : Hp) (x1 : Int32), k h x1 = some out → Ext h0 h → Rel G h H → va_S (AA G.2.2) s.heap H locs → hpT h r0 = (1, 9) → lv_has ls 3 [(0, .ref (G.2.2 + r0)), (1, .int x1)] → W p l e rm_X9_laws s m args below meth c H locs 0 0 (MQ below (Qm G h0 out.2 (some (.int out.1)) 0) args s 0 0 (AA G.2.2)) (F0 m 43 ls [])
set_option maxRecDepth 100000 in
set_option maxHeartbeats 4000000 in
theorem w_X9_laws_43 {G : Gt} {l : Launch} {p : Program} {e : Env} {s : State} {m : MethodId} {args : Array Value} {below : List Frame} {meth : Method} {c : Code}  {h0 : Hp} {out : (Int32 × Hp)} {r0 : Nat}  (C : Cx G p m c cX9_laws 3 s args RX9) (hr : meth.sig.returnType = some .int) (hlk : meth.locks = false)   : P_X9_laws_43 G l p e s m args below meth c h0 out r0 (f_X9_laws_43 r0) := by
  intro H locs ls h x1 hf hE hR hS t_r0 hl
  rw [f_X9_laws_43] at hf
  refine lv_iload_n C.x C.b dX9_laws_43 rfl (lv_at hl 1 rfl) ?_
  obtain ⟨q14, h_q14, hf⟩ := bd_e hf
  refine r_callS (As := [.int x1]) (rest := []) C hR hS mk_J6_bitCount_0f7a4 cl_X9_267 (k_J6_bitCount_0f7a4 h_q14) ⟨⟨Nat.le_of_ble_eq_true rfl, Nat.le_of_ble_eq_true rfl⟩, ⟨rfl, rfl⟩, Nat.le_of_ble_eq_true rfl, Nat.le_of_ble_eq_true rfl⟩ rfl hl.1 rfl (Nat.le_of_ble_eq_true rfl) dX9_laws_44 (fun H locs hR hS hE1 z_q14 => ?_)
  have hf := so_e hf
  subst hf
  exact r_iret C hr hlk hR hE hS dX9_laws_47
set_option maxRecDepth 100000 in
set_option maxHeartbeats 4000000 in
theorem k_X9_laws {G : Gt} {l : Launch}  {h : Hp} {r0 : Nat} {out : (Int32 × Hp)} (t_r0 : hpT h r0 = (1, 9))  (hf : f_X9_laws  h r0 = some out) : Mt G l yX9_laws cX9_laws 3 (some .int) rm_X9_laws [.ref (G.2.2 + r0)] h (some (.int out.1)) out.2 0 0 0 := by
  refine r_met (by decide +kernel) (Nat.le_of_ble_eq_true rfl) ?_
  intro p e s m args below meth c ls C hr hlk hnm hR hS hl
  have hE : Ext h h := Ext.rf
  have hl : lv_has ls 3 [(0, .ref (G.2.2 + r0))] := hl
  rw [f_X9_laws] at hf
  refine lv_aload_n C.x C.b dX9_laws_0 rfl (lv_at hl 0 rfl) ?_
  obtain ⟨q1, h_q1, hf⟩ := bd_e hf
  refine r_callV (As := []) (rest := []) C hR hS t_r0 rfl mk_X9_fittingLaws cl_X9_356 (k_X9_fittingLaws t_r0 h_q1) ⟨⟨Nat.le_of_ble_eq_true rfl, Nat.le_of_ble_eq_true rfl⟩, ⟨rfl, rfl⟩, Nat.le_of_ble_eq_true rfl, Nat.le_of_ble_eq_true rfl⟩ rfl hl.1 rfl (Nat.le_of_ble_eq_true rfl) dX9_laws_1 (fun H locs hR hS hE1 z_q1 => ?_)
  have hE := hE.tr hE1
  have t_r0 := hE1.at t_r0 (by decide)
  refine lv_istore_n (lv' := [(1, .int q1.1), (0, .ref (G.2.2 + r0))]) C.x C.b dX9_laws_4 rfl hl (by decide) rfl (fun ls hl => ?_)
  refine lv_aload_n C.x C.b dX9_laws_5 rfl (lv_at hl 1 rfl) ?_
  obtain ⟨g2, hf⟩ := gd_e hf
  refine r_getr C hR t_r0 fl_X9_19 (by decide) (nz_e g2) dX9_laws_6 (fun tq3 => ?_)
  have tg2 := okO tq3 rfl
  obtain ⟨q4, h_q4, hf⟩ := bd_e hf
  refine r_callV (As := []) (rest := []) C hR hS tg2 rfl mk_X7_start cl_X9_220 (k_X7_start tg2 h_q4) ⟨⟨Nat.le_of_ble_eq_true rfl, Nat.le_of_ble_eq_true rfl⟩, ⟨rfl, rfl⟩, Nat.le_of_ble_eq_true rfl, Nat.le_of_ble_eq_true rfl⟩ rfl hl.1 rfl (Nat.le_of_ble_eq_true rfl) dX9_laws_9 (fun H locs hR hS hE1 z_q4 => ?_)
  have hE := hE.tr hE1
  have t_r0 := hE1.at t_r0 (by decide)
  refine lv_iload_n C.x C.b dX9_laws_12 rfl (lv_at hl 0 rfl) ?_
  refine lv_if_eq (tgt := 43) C.x C.b dX9_laws_13 (by decide) (fun c5 => ?_) (fun c5 => ?_)
  · have hf := it_t hf c5
    exact w_X9_laws_43 C hr hlk _ _ _ _ _ hf hE hR hS t_r0 (lv_sub hl [1, 0] rfl)
  · have hf := it_f hf c5
    refine lv_iload_n C.x C.b dX9_laws_16 rfl (lv_at hl 0 rfl) ?_
    obtain ⟨q6, h_q6, hf⟩ := bd_e hf
    refine r_callS (As := [.int q1.1]) (rest := []) C hR hS mk_X9_firstIn cl_X9_359 (k_X9_firstIn h_q6) ⟨⟨Nat.le_of_ble_eq_true rfl, Nat.le_of_ble_eq_true rfl⟩, ⟨rfl, rfl⟩, Nat.le_of_ble_eq_true rfl, Nat.le_of_ble_eq_true rfl⟩ rfl hl.1 rfl (Nat.le_of_ble_eq_true rfl) dX9_laws_17 (fun H locs hR hS hE1 z_q6 => ?_)
    refine lv_istore_n (lv' := [(2, .int q6), (1, .int q1.1), (0, .ref (G.2.2 + r0))]) C.x C.b dX9_laws_20 rfl hl (by decide) rfl (fun ls hl => ?_)
    refine lv_aload_n C.x C.b dX9_laws_21 rfl (lv_at hl 2 rfl) ?_
    obtain ⟨g7, hf⟩ := gd_e hf
    refine r_getr C hR t_r0 fl_X9_19 (by decide) (nz_e g7) dX9_laws_22 (fun tq8 => ?_)
    have tg7 := okO tq8 rfl
    refine lv_iload_n C.x C.b dX9_laws_25 rfl (lv_at hl 0 rfl) ?_
    refine lv_iconst (v := (4 : Int32)) C.x C.b dX9_laws_26 (by decide) ?_
    refine lv_idiv C.x C.b dX9_laws_27 (by decide) ?_
    refine lv_i2l C.x C.b dX9_laws_28 rfl ?_
    obtain ⟨q9, h_q9, hf⟩ := bd_e hf
    refine r_callV (As := [.long ((q6 / (4 : Int32)).toInt64)]) (rest := []) C hR hS tg7 rfl mk_X7_add cl_X9_223 (k_X7_add tg7 h_q9) ⟨⟨Nat.le_of_ble_eq_true rfl, Nat.le_of_ble_eq_true rfl⟩, ⟨rfl, rfl⟩, Nat.le_of_ble_eq_true rfl, Nat.le_of_ble_eq_true rfl⟩ rfl hl.1 rfl (Nat.le_of_ble_eq_true rfl) dX9_laws_29 (fun H locs hR hS hE1 z_q9 => ?_)
    have hE := hE.tr hE1
    have t_r0 := hE1.at t_r0 (by decide)
    refine lv_aload_n C.x C.b dX9_laws_32 rfl (lv_at hl 2 rfl) ?_
    obtain ⟨g10, hf⟩ := gd_e hf
    refine r_getr C hR t_r0 fl_X9_19 (by decide) (nz_e g10) dX9_laws_33 (fun tq11 => ?_)
    have tg10 := okO tq11 rfl
    refine lv_iload_n C.x C.b dX9_laws_36 rfl (lv_at hl 0 rfl) ?_
    refine lv_iconst (v := (4 : Int32)) C.x C.b dX9_laws_37 (by decide) ?_
    refine lv_irem C.x C.b dX9_laws_38 (by decide) ?_
    refine lv_topi (fun v12 e_v12 => ?_)
    have hf := lt_e hf e_v12
    refine lv_i2l C.x C.b dX9_laws_39 rfl ?_
    obtain ⟨q13, h_q13, hf⟩ := bd_e hf
    refine r_callV (As := [.long (v12.toInt64)]) (rest := []) C hR hS tg10 rfl mk_X7_add cl_X9_223 (k_X7_add tg10 h_q13) ⟨⟨Nat.le_of_ble_eq_true rfl, Nat.le_of_ble_eq_true rfl⟩, ⟨rfl, rfl⟩, Nat.le_of_ble_eq_true rfl, Nat.le_of_ble_eq_true rfl⟩ rfl hl.1 rfl (Nat.le_of_ble_eq_true rfl) dX9_laws_40 (fun H locs hR hS hE1 z_q13 => ?_)
    have hE := hE.tr hE1
    have t_r0 := hE1.at t_r0 (by decide)
    exact w_X9_laws_43 C hr hlk _ _ _ _ _ hf hE hR hS t_r0 (lv_sub hl [2, 1] rfl)

def rm_X9_lawsLeft : Room := { frames := 1, cells := 0, slots := 0, locals := 21 }
def P_X9_lawsLeft_44 (G : Gt) (l : Launch) (p : Program) (e : Env) (s : State) (m : MethodId) (args : Array Value) (below : List Frame) (meth : Method) (c : Code) (h : Hp) (out : Int32) (r0 : Nat) (x1 : Int32) (x2 : Int32) (x3 : Int32) (k : Int32 → Int32 → Option Int32) : Prop := ∀ (H : Heap) (locs : List Loc) (ls : Array Slot) (x4 : Int32) (x5 : Int32), k x4 x5 = some out → Rel G h H → va_S (AA G.2.2) s.heap H locs → hpT h r0 = (1, 9) → lv_has ls 6 [(0, .ref (G.2.2 + r0)), (1, .int x1), (2, .int x2), (3, .int x3), (4, .int x4), (5, .int x5)] → W p l e rm_X9_lawsLeft s m args below meth c H locs 0 0 (MQ below (Qm G h h (some (.int out)) 0) args s 0 0 (AA G.2.2)) (F0 m 44 ls [])
def P_X9_lawsLeft_6 (G : Gt) (l : Launch) (p : Program) (e : Env) (s : State) (m : MethodId) (args : Array Value) (below : List Frame) (meth : Method) (c : Code) (h : Hp) (out : Int32) (r0 : Nat) (x1 : Int32) (x2 : Int32) (x3 : Int32) (k : Int32 → Int32 → Option Int32) : Prop := ∀ (H : Heap) (locs : List Loc) (ls : Array Slot) (x4 : Int32) (x5 : Int32), k x4 x5 = some out → Rel G h H → va_S (AA G.2.2) s.heap H locs → hpT h r0 = (1, 9) → lv_has ls 6 [(0, .ref (G.2.2 + r0)), (1, .int x1), (2, .int x2), (3, .int x3), (4, .int x4), (5, .int x5)] → W p l e rm_X9_lawsLeft s m args below meth c H locs 0 0 (MQ below (Qm G h h (some (.int out)) 0) args s 0 0 (AA G.2.2)) (F0 m 6 ls [])
set_option maxRecDepth 100000 in
set_option maxHeartbeats 4000000 in
theorem w_X9_lawsLeft_44 {G : Gt} {l : Launch} {p : Program} {e : Env} {s : State} {m : MethodId} {args : Array Value} {below : List Frame} {meth : Method} {c : Code}  {h : Hp} {out : Int32} {r0 : Nat} {x1 : Int32} {x2 : Int32} {x3 : Int32} {k6 : Int32 → Int32 → Option Int32} (C : Cx G p m c cX9_lawsLeft 6 s args RX9) (hr : meth.sig.returnType = some .int) (hlk : meth.locks = false)  (hk6 : P_X9_lawsLeft_6 G l p e s m args below meth c h out r0 x1 x2 x3 k6) : P_X9_lawsLeft_44 G l p e s m args below meth c h out r0 x1 x2 x3 (f_X9_lawsLeft_44 h r0 x1 x2 x3 k6) := by
  intro H locs ls x4 x5 hf hR hS t_r0 hl
  rw [f_X9_lawsLeft_44] at hf
  obtain ⟨v12, e_v12⟩ : ∃ y : Int32, y = x5 + (1 : Int32) := ⟨_, rfl⟩
  have hf := lt_e hf e_v12
  refine lv_iinc (v := v12) (lv' := [(5, .int v12), (0, .ref (G.2.2 + r0)), (1, .int x1), (2, .int x2), (3, .int x3), (4, .int x4)]) C.x C.b dX9_lawsLeft_44 hl (k := 5) rfl (by rw [e_v12]; rfl) (by decide) rfl (fun ls hl => ?_)
  refine lv_goto (tgt := 6) C.x C.b dX9_lawsLeft_47 (by decide) ?_
  exact hk6 _ _ _ _ _ hf hR hS t_r0 (lv_sub hl [1, 2, 3, 4, 5, 0] rfl)
set_option maxRecDepth 100000 in
set_option maxHeartbeats 4000000 in
theorem w_X9_lawsLeft_6 {G : Gt} {l : Launch} {p : Program} {e : Env} {s : State} {m : MethodId} {args : Array Value} {below : List Frame} {meth : Method} {c : Code}  {h : Hp} {out : Int32} {r0 : Nat} {x1 : Int32} {x2 : Int32} {x3 : Int32}  (C : Cx G p m c cX9_lawsLeft 6 s args RX9) (hr : meth.sig.returnType = some .int) (hlk : meth.locks = false)   (n : Nat) : P_X9_lawsLeft_6 G l p e s m args below meth c h out r0 x1 x2 x3 (f_X9_lawsLeft_6 h r0 x1 x2 x3 n) := by
  induction n with
  | zero => intro H locs ls x4 x5 hf hR hS t_r0 hl; cases hf
  | succ n hk6 =>
    intro H locs ls x4 x5 hf hR hS t_r0 hl
    rw [f_X9_lawsLeft_6] at hf
    obtain ⟨k6, e_k6⟩ : ∃ y, y = f_X9_lawsLeft_6 h r0 x1 x2 x3 n := ⟨_, rfl⟩
    have hf := lt_e hf e_k6
    rw [← e_k6] at hk6
    refine lv_iload C.x C.b dX9_lawsLeft_6 (lv_at hl 5 rfl) ?_
    refine lv_bipush (v := (16 : Int32)) C.x C.b dX9_lawsLeft_8 (by decide) ?_
    refine lv_icmp_ge (tgt := 50) C.x C.b dX9_lawsLeft_10 (by decide) (fun c1 => ?_) (fun c1 => ?_)
    · have hf := it_t hf c1
      refine lv_iload C.x C.b dX9_lawsLeft_50 (lv_at hl 4 rfl) ?_
      refine lv_iload_n C.x C.b dX9_lawsLeft_52 rfl (lv_at hl 1 rfl) ?_
      obtain ⟨q2, h_q2, hf⟩ := bd_e hf
      refine r_callS (As := [.int x1]) (rest := [.int x4]) C hR hS mk_J6_bitCount_0f7a4 cl_X9_267 (k_J6_bitCount_0f7a4 h_q2) ⟨⟨Nat.le_of_ble_eq_true rfl, Nat.le_of_ble_eq_true rfl⟩, ⟨rfl, rfl⟩, Nat.le_of_ble_eq_true rfl, Nat.le_of_ble_eq_true rfl⟩ rfl hl.1 rfl (Nat.le_of_ble_eq_true rfl) dX9_lawsLeft_53 (fun H locs hR hS hE1 z_q2 => ?_)
      refine lv_iload C.x C.b dX9_lawsLeft_56 (lv_at hl 4 rfl) ?_
      refine lv_isub C.x C.b dX9_lawsLeft_58 ?_
      refine va_mmax C.x C.b (C.ml.trans hl.1.symm) C.ow (C.ts _ lk_X9_210) (C.ts _ lk_Mmax_s) (C.ts _ lk_Math) (C.ts _ lk_Mmax_c) (Nat.le_of_ble_eq_true rfl) (Nat.le_of_ble_eq_true rfl) (Nat.le_of_ble_eq_true rfl) (Nat.le_of_ble_eq_true rfl) dX9_lawsLeft_59 ?_
      refine lv_topi (fun v3 e_v3 => ?_)
      have hf := lt_e hf e_v3
      have hf := so_e hf
      subst hf
      exact r_iret C hr hlk hR Ext.rf hS dX9_lawsLeft_62
    · have hf := it_f hf c1
      refine lv_iload_n C.x C.b dX9_lawsLeft_13 rfl (lv_at hl 1 rfl) ?_
      refine lv_iload C.x C.b dX9_lawsLeft_14 (lv_at hl 5 rfl) ?_
      obtain ⟨q4, h_q4, hf⟩ := bd_e hf
      refine r_callS (As := [.int x1, .int x5]) (rest := []) C hR hS mk_X9_isIn cl_X9_291 (k_X9_isIn h_q4) ⟨⟨Nat.le_of_ble_eq_true rfl, Nat.le_of_ble_eq_true rfl⟩, ⟨rfl, rfl⟩, Nat.le_of_ble_eq_true rfl, Nat.le_of_ble_eq_true rfl⟩ rfl hl.1 rfl (Nat.le_of_ble_eq_true rfl) dX9_lawsLeft_16 (fun H locs hR hS hE1 z_q4 => ?_)
      have z_q4 := z_q4 _ rfl
      refine lv_if_eq (tgt := 44) C.x C.b dX9_lawsLeft_19 (by decide) (fun c5 => ?_) (fun c5 => ?_)
      · have hf := it_t hf c5
        exact w_X9_lawsLeft_44 C hr hlk hk6 _ _ _ _ _ hf hR hS t_r0 (lv_sub hl [0, 1, 2, 3, 4, 5] rfl)
      · have hf := it_f hf c5
        refine lv_aload_n C.x C.b dX9_lawsLeft_22 rfl (lv_at hl 0 rfl) ?_
        obtain ⟨g6, hf⟩ := gd_e hf
        refine r_getr C hR t_r0 fl_X9_83 (by decide) (nz_e g6) dX9_lawsLeft_23 (fun tq7 => ?_)
        have tg6 := okA tq7 rfl
        refine lv_iload C.x C.b dX9_lawsLeft_26 (lv_at hl 5 rfl) ?_
        refine lv_bipush (v := (31 : Int32)) C.x C.b dX9_lawsLeft_28 (by decide) ?_
        refine lv_imul C.x C.b dX9_lawsLeft_30 ?_
        refine lv_iload_n C.x C.b dX9_lawsLeft_31 rfl (lv_at hl 3 rfl) ?_
        refine lv_iadd C.x C.b dX9_lawsLeft_32 ?_
        obtain ⟨g8, hf⟩ := gd_e hf
        refine r_iald C hR tg6 g8 dX9_lawsLeft_33 ?_
        refine lv_iload_n C.x C.b dX9_lawsLeft_34 rfl (lv_at hl 2 rfl) ?_
        obtain ⟨q9, h_q9, hf⟩ := bd_e hf
        refine r_callS (As := [.int (hpI h (hpR h r0 14) (ix ((x5 * (31 : Int32)) + x3))), .int x2]) (rest := []) C hR hS mk_X9_isIn cl_X9_291 (k_X9_isIn h_q9) ⟨⟨Nat.le_of_ble_eq_true rfl, Nat.le_of_ble_eq_true rfl⟩, ⟨rfl, rfl⟩, Nat.le_of_ble_eq_true rfl, Nat.le_of_ble_eq_true rfl⟩ rfl hl.1 rfl (Nat.le_of_ble_eq_true rfl) dX9_lawsLeft_35 (fun H locs hR hS hE1 z_q9 => ?_)
        have z_q9 := z_q9 _ rfl
        refine lv_if_eq (tgt := 44) C.x C.b dX9_lawsLeft_38 (by decide) (fun c10 => ?_) (fun c10 => ?_)
        · have hf := it_t hf c10
          exact w_X9_lawsLeft_44 C hr hlk hk6 _ _ _ _ _ hf hR hS t_r0 (lv_sub hl [0, 1, 2, 3, 4, 5] rfl)
        · have hf := it_f hf c10
          obtain ⟨v11, e_v11⟩ : ∃ y : Int32, y = x4 + (1 : Int32) := ⟨_, rfl⟩
          have hf := lt_e hf e_v11
          refine lv_iinc (v := v11) (lv' := [(4, .int v11), (0, .ref (G.2.2 + r0)), (1, .int x1), (2, .int x2), (3, .int x3), (5, .int x5)]) C.x C.b dX9_lawsLeft_41 hl (k := 4) rfl (by rw [e_v11]; rfl) (by decide) rfl (fun ls hl => ?_)
          exact w_X9_lawsLeft_44 C hr hlk hk6 _ _ _ _ _ hf hR hS t_r0 (lv_sub hl [1, 2, 3, 4, 0, 5] rfl)
set_option maxRecDepth 100000 in
set_option maxHeartbeats 4000000 in
theorem k_X9_lawsLeft {G : Gt} {l : Launch}  {h : Hp} {r0 : Nat} {x1 : Int32} {x2 : Int32} {x3 : Int32} {out : Int32} (t_r0 : hpT h r0 = (1, 9))  (hf : f_X9_lawsLeft  h r0 x1 x2 x3 = some out) : Mt G l yX9_lawsLeft cX9_lawsLeft 6 (some .int) rm_X9_lawsLeft [.ref (G.2.2 + r0), .int x1, .int x2, .int x3] h (some (.int out)) h 0 0 0 := by
  refine r_met (by decide +kernel) (Nat.le_of_ble_eq_true rfl) ?_
  intro p e s m args below meth c ls C hr hlk hnm hR hS hl
  have hl : lv_has ls 6 [(0, .ref (G.2.2 + r0)), (1, .int x1), (2, .int x2), (3, .int x3)] := hl
  rw [f_X9_lawsLeft] at hf
  refine lv_iconst (v := (0 : Int32)) C.x C.b dX9_lawsLeft_0 (by decide) ?_
  refine lv_istore (lv' := [(4, .int (0 : Int32)), (0, .ref (G.2.2 + r0)), (1, .int x1), (2, .int x2), (3, .int x3)]) C.x C.b dX9_lawsLeft_1 hl (by decide) rfl (fun ls hl => ?_)
  refine lv_iconst (v := (0 : Int32)) C.x C.b dX9_lawsLeft_3 (by decide) ?_
  refine lv_istore (lv' := [(5, .int (0 : Int32)), (4, .int (0 : Int32)), (0, .ref (G.2.2 + r0)), (1, .int x1), (2, .int x2), (3, .int x3)]) C.x C.b dX9_lawsLeft_4 hl (by decide) rfl (fun ls hl => ?_)
  exact w_X9_lawsLeft_6 C hr hlk FU _ _ _ _ _ hf hR hS t_r0 (lv_sub hl [2, 3, 4, 5, 1, 0] rfl)

def rm_X9_watch : Room := { frames := 6, cells := 0, slots := 0, locals := 129 }
def P_X9_watch_81 (G : Gt) (l : Launch) (p : Program) (e : Env) (s : State) (m : MethodId) (args : Array Value) (below : List Frame) (meth : Method) (c : Code) (h0 : Hp) (out : (Int32 × Hp)) (r0 : Nat) (k : Hp → Int32 → Int32 → Int32 → Int32 → Int32 → Option (Int32 × Hp)) : Prop := ∀ (H : Heap) (locs : List Loc) (ls : Array Slot) (h : Hp) (x1 : Int32) (x2 : Int32) (x3 : Int32) (x4 : Int32) (x5 : Int32), k h x1 x2 x3 x4 x5 = some out → Ext h0 h → Rel G h H → va_S (AA G.2.2) s.heap H locs → hpT h r0 = (1, 9) → lv_has ls 7 [(0, .ref (G.2.2 + r0)), (1, .int x1), (2, .int x2), (3, .int x3), (4, .int x4), (5, .int x5)] → W p l e rm_X9_watch s m args below meth c H locs 0 0 (MQ below (Qm G h0 out.2 (some (.int out.1)) 0) args s 0 0 (AA G.2.2)) (F0 m 81 ls [])
def P_X9_watch_45 (G : Gt) (l : Launch) (p : Program) (e : Env) (s : State) (m : MethodId) (args : Array Value) (below : List Frame) (meth : Method) (c : Code) (h0 : Hp) (out : (Int32 × Hp)) (r0 : Nat) (k : Hp → Int32 → Int32 → Int32 → Int32 → Int32 → Option (Int32 × Hp)) : Prop := ∀ (H : Heap) (locs : List Loc) (ls : Array Slot) (h : Hp) (x1 : Int32) (x2 : Int32) (x3 : Int32) (x4 : Int32) (x5 : Int32), k h x1 x2 x3 x4 x5 = some out → Ext h0 h → Rel G h H → va_S (AA G.2.2) s.heap H locs → hpT h r0 = (1, 9) → lv_has ls 7 [(0, .ref (G.2.2 + r0)), (1, .int x1), (2, .int x2), (3, .int x3), (4, .int x4), (5, .int x5)] → W p l e rm_X9_watch s m args below meth c H locs 0 0 (MQ below (Qm G h0 out.2 (some (.int out.1)) 0) args s 0 0 (AA G.2.2)) (F0 m 45 ls [])
def P_X9_watch_30 (G : Gt) (l : Launch) (p : Program) (e : Env) (s : State) (m : MethodId) (args : Array Value) (below : List Frame) (meth : Method) (c : Code) (h0 : Hp) (out : (Int32 × Hp)) (r0 : Nat) (k : Hp → Int32 → Int32 → Int32 → Int32 → Option (Int32 × Hp)) : Prop := ∀ (H : Heap) (locs : List Loc) (ls : Array Slot) (h : Hp) (x1 : Int32) (x2 : Int32) (x3 : Int32) (x4 : Int32), k h x1 x2 x3 x4 = some out → Ext h0 h → Rel G h H → va_S (AA G.2.2) s.heap H locs → hpT h r0 = (1, 9) → lv_has ls 7 [(0, .ref (G.2.2 + r0)), (1, .int x1), (2, .int x2), (3, .int x3), (4, .int x4)] → W p l e rm_X9_watch s m args below meth c H locs 0 0 (MQ below (Qm G h0 out.2 (some (.int out.1)) 0) args s 0 0 (AA G.2.2)) (F0 m 30 ls [])
set_option maxRecDepth 100000 in
set_option maxHeartbeats 4000000 in
theorem w_X9_watch_81 {G : Gt} {l : Launch} {p : Program} {e : Env} {s : State} {m : MethodId} {args : Array Value} {below : List Frame} {meth : Method} {c : Code}  {h0 : Hp} {out : (Int32 × Hp)} {r0 : Nat} {k30 : Hp → Int32 → Int32 → Int32 → Int32 → Option (Int32 × Hp)} {k45 : Hp → Int32 → Int32 → Int32 → Int32 → Int32 → Option (Int32 × Hp)} (C : Cx G p m c cX9_watch 7 s args RX9) (hr : meth.sig.returnType = some .int) (hlk : meth.locks = false)  (hk30 : P_X9_watch_30 G l p e s m args below meth c h0 out r0 k30) (hk45 : P_X9_watch_45 G l p e s m args below meth c h0 out r0 k45) : P_X9_watch_81 G l p e s m args below meth c h0 out r0 (f_X9_watch_81 r0 k30 k45) := by
  intro H locs ls h x1 x2 x3 x4 x5 hf hE hR hS t_r0 hl
  rw [f_X9_watch_81] at hf
  obtain ⟨v20, e_v20⟩ : ∃ y : Int32, y = x5 + (1 : Int32) := ⟨_, rfl⟩
  have hf := lt_e hf e_v20
  refine lv_iinc (v := v20) (lv' := [(5, .int v20), (0, .ref (G.2.2 + r0)), (1, .int x1), (2, .int x2), (3, .int x3), (4, .int x4)]) C.x C.b dX9_watch_81 hl (k := 5) rfl (by rw [e_v20]; rfl) (by decide) rfl (fun ls hl => ?_)
  refine lv_goto (tgt := 45) C.x C.b dX9_watch_84 (by decide) ?_
  exact hk45 _ _ _ _ _ _ _ _ _ hf hE hR hS t_r0 (lv_sub hl [1, 2, 3, 4, 5, 0] rfl)
set_option maxRecDepth 100000 in
set_option maxHeartbeats 4000000 in
theorem w_X9_watch_45 {G : Gt} {l : Launch} {p : Program} {e : Env} {s : State} {m : MethodId} {args : Array Value} {below : List Frame} {meth : Method} {c : Code}  {h0 : Hp} {out : (Int32 × Hp)} {r0 : Nat} {k30 : Hp → Int32 → Int32 → Int32 → Int32 → Option (Int32 × Hp)} (C : Cx G p m c cX9_watch 7 s args RX9) (hr : meth.sig.returnType = some .int) (hlk : meth.locks = false)  (hk30 : P_X9_watch_30 G l p e s m args below meth c h0 out r0 k30) (n : Nat) : P_X9_watch_45 G l p e s m args below meth c h0 out r0 (f_X9_watch_45 r0 k30 n) := by
  induction n with
  | zero => intro H locs ls h x1 x2 x3 x4 x5 hf hE hR hS t_r0 hl; cases hf
  | succ n hk45 =>
    intro H locs ls h x1 x2 x3 x4 x5 hf hE hR hS t_r0 hl
    rw [f_X9_watch_45] at hf
    obtain ⟨k45, e_k45⟩ : ∃ y, y = f_X9_watch_45 r0 k30 n := ⟨_, rfl⟩
    have hf := lt_e hf e_k45
    rw [← e_k45] at hk45
    refine lv_iload C.x C.b dX9_watch_45 (lv_at hl 5 rfl) ?_
    refine lv_bipush (v := (31 : Int32)) C.x C.b dX9_watch_47 (by decide) ?_
    refine lv_icmp_ge (tgt := 87) C.x C.b dX9_watch_49 (by decide) (fun c15 => ?_) (fun c15 => ?_)
    · have hf := it_t hf c15
      obtain ⟨v16, e_v16⟩ : ∃ y : Int32, y = x4 + (1 : Int32) := ⟨_, rfl⟩
      have hf := lt_e hf e_v16
      refine lv_iinc (v := v16) (lv' := [(4, .int v16), (0, .ref (G.2.2 + r0)), (1, .int x1), (2, .int x2), (3, .int x3), (5, .int x5)]) C.x C.b dX9_watch_87 hl (k := 4) rfl (by rw [e_v16]; rfl) (by decide) rfl (fun ls hl => ?_)
      refine lv_goto (tgt := 30) C.x C.b dX9_watch_90 (by decide) ?_
      exact hk30 _ _ _ _ _ _ _ _ hf hE hR hS t_r0 (lv_sub hl [1, 2, 3, 4, 0] rfl)
    · have hf := it_f hf c15
      refine lv_aload_n C.x C.b dX9_watch_52 rfl (lv_at hl 0 rfl) ?_
      refine lv_iload_n C.x C.b dX9_watch_53 rfl (lv_at hl 1 rfl) ?_
      refine lv_iload C.x C.b dX9_watch_54 (lv_at hl 4 rfl) ?_
      refine lv_iload C.x C.b dX9_watch_56 (lv_at hl 5 rfl) ?_
      obtain ⟨q17, h_q17, hf⟩ := bd_e hf
      refine r_callV (As := [.int x1, .int x4, .int x5]) (rest := []) C hR hS t_r0 rfl mk_X9_lawsLeft cl_X9_362 (k_X9_lawsLeft t_r0 h_q17) ⟨⟨Nat.le_of_ble_eq_true rfl, Nat.le_of_ble_eq_true rfl⟩, ⟨rfl, rfl⟩, Nat.le_of_ble_eq_true rfl, Nat.le_of_ble_eq_true rfl⟩ rfl hl.1 rfl (Nat.le_of_ble_eq_true rfl) dX9_watch_58 (fun H locs hR hS hE1 z_q17 => ?_)
      refine lv_istore (lv' := [(6, .int q17), (0, .ref (G.2.2 + r0)), (1, .int x1), (2, .int x2), (3, .int x3), (4, .int x4), (5, .int x5)]) C.x C.b dX9_watch_61 hl (by decide) rfl (fun ls hl => ?_)
      refine lv_iload C.x C.b dX9_watch_63 (lv_at hl 0 rfl) ?_
      refine lv_iload_n C.x C.b dX9_watch_65 rfl (lv_at hl 4 rfl) ?_
      refine lv_icmp_ge (tgt := 81) C.x C.b dX9_watch_66 (by decide) (fun c18 => ?_) (fun c18 => ?_)
      · have hf := it_t hf c18
        exact w_X9_watch_81 C hr hlk hk30 hk45 _ _ _ _ _ _ _ _ _ hf hE hR hS t_r0 (lv_sub hl [1, 2, 3, 4, 5, 6] rfl)
      · have hf := it_f hf c18
        refine lv_iload C.x C.b dX9_watch_69 (lv_at hl 0 rfl) ?_
        refine lv_istore_n (lv' := [(3, .int q17), (6, .int q17), (0, .ref (G.2.2 + r0)), (1, .int x1), (2, .int x2), (4, .int x4), (5, .int x5)]) C.x C.b dX9_watch_71 rfl hl (by decide) rfl (fun ls hl => ?_)
        refine lv_bipush (v := (31 : Int32)) C.x C.b dX9_watch_72 (by decide) ?_
        refine lv_iload C.x C.b dX9_watch_74 (lv_at hl 5 rfl) ?_
        refine lv_imul C.x C.b dX9_watch_76 ?_
        refine lv_iload C.x C.b dX9_watch_77 (lv_at hl 6 rfl) ?_
        refine lv_iadd C.x C.b dX9_watch_79 ?_
        refine lv_topi (fun v19 e_v19 => ?_)
        have hf := lt_e hf e_v19
        refine lv_istore_n (lv' := [(2, .int v19), (3, .int q17), (6, .int q17), (0, .ref (G.2.2 + r0)), (1, .int x1), (4, .int x4), (5, .int x5)]) C.x C.b dX9_watch_80 rfl hl (by decide) rfl (fun ls hl => ?_)
        exact w_X9_watch_81 C hr hlk hk30 hk45 _ _ _ _ _ _ _ _ _ hf hE hR hS t_r0 (lv_sub hl [3, 4, 0, 1, 5, 6] rfl)
set_option maxRecDepth 100000 in
set_option maxHeartbeats 4000000 in
theorem w_X9_watch_30 {G : Gt} {l : Launch} {p : Program} {e : Env} {s : State} {m : MethodId} {args : Array Value} {below : List Frame} {meth : Method} {c : Code}  {h0 : Hp} {out : (Int32 × Hp)} {r0 : Nat}  (C : Cx G p m c cX9_watch 7 s args RX9) (hr : meth.sig.returnType = some .int) (hlk : meth.locks = false)   (n : Nat) : P_X9_watch_30 G l p e s m args below meth c h0 out r0 (f_X9_watch_30 r0 n) := by
  induction n with
  | zero => intro H locs ls h x1 x2 x3 x4 hf hE hR hS t_r0 hl; cases hf
  | succ n hk30 =>
    intro H locs ls h x1 x2 x3 x4 hf hE hR hS t_r0 hl
    rw [f_X9_watch_30] at hf
    obtain ⟨k30, e_k30⟩ : ∃ y, y = f_X9_watch_30 r0 n := ⟨_, rfl⟩
    have hf := lt_e hf e_k30
    rw [← e_k30] at hk30
    refine lv_iload C.x C.b dX9_watch_30 (lv_at hl 4 rfl) ?_
    refine lv_aload_n C.x C.b dX9_watch_32 rfl (lv_at hl 0 rfl) ?_
    obtain ⟨g6, hf⟩ := gd_e hf
    refine r_getr C hR t_r0 fl_X9_26 (by decide) (nz_e g6) dX9_watch_33 (fun tq7 => ?_)
    have tg6 := okO tq7 rfl
    refine r_geti C hR tg6 fl_X9_146 rfl dX9_watch_36 ?_
    refine lv_icmp_ge (tgt := 93) C.x C.b dX9_watch_39 (by decide) (fun c8 => ?_) (fun c8 => ?_)
    · have hf := it_t hf c8
      refine lv_aload_n C.x C.b dX9_watch_93 rfl (lv_at hl 0 rfl) ?_
      obtain ⟨g9, hf⟩ := gd_e hf
      refine r_getr C hR t_r0 fl_X9_19 (by decide) (nz_e g9) dX9_watch_94 (fun tq10 => ?_)
      have tg9 := okO tq10 rfl
      obtain ⟨q11, h_q11, hf⟩ := bd_e hf
      refine r_callV (As := []) (rest := []) C hR hS tg9 rfl mk_X7_start cl_X9_220 (k_X7_start tg9 h_q11) ⟨⟨Nat.le_of_ble_eq_true rfl, Nat.le_of_ble_eq_true rfl⟩, ⟨rfl, rfl⟩, Nat.le_of_ble_eq_true rfl, Nat.le_of_ble_eq_true rfl⟩ rfl hl.1 rfl (Nat.le_of_ble_eq_true rfl) dX9_watch_97 (fun H locs hR hS hE1 z_q11 => ?_)
      have hE := hE.tr hE1
      have t_r0 := hE1.at t_r0 (by decide)
      refine lv_aload_n C.x C.b dX9_watch_100 rfl (lv_at hl 0 rfl) ?_
      obtain ⟨g12, hf⟩ := gd_e hf
      refine r_getr C hR t_r0 fl_X9_19 (by decide) (nz_e g12) dX9_watch_101 (fun tq13 => ?_)
      have tg12 := okO tq13 rfl
      refine lv_iload_n C.x C.b dX9_watch_104 rfl (lv_at hl 3 rfl) ?_
      refine lv_i2l C.x C.b dX9_watch_105 rfl ?_
      obtain ⟨q14, h_q14, hf⟩ := bd_e hf
      refine r_callV (As := [.long (x3.toInt64)]) (rest := []) C hR hS tg12 rfl mk_X7_add cl_X9_223 (k_X7_add tg12 h_q14) ⟨⟨Nat.le_of_ble_eq_true rfl, Nat.le_of_ble_eq_true rfl⟩, ⟨rfl, rfl⟩, Nat.le_of_ble_eq_true rfl, Nat.le_of_ble_eq_true rfl⟩ rfl hl.1 rfl (Nat.le_of_ble_eq_true rfl) dX9_watch_106 (fun H locs hR hS hE1 z_q14 => ?_)
      have hE := hE.tr hE1
      have t_r0 := hE1.at t_r0 (by decide)
      refine lv_iload_n C.x C.b dX9_watch_109 rfl (lv_at hl 2 rfl) ?_
      have hf := so_e hf
      subst hf
      exact r_iret C hr hlk hR hE hS dX9_watch_110
    · have hf := it_f hf c8
      refine lv_iconst (v := (0 : Int32)) C.x C.b dX9_watch_42 (by decide) ?_
      refine lv_istore (lv' := [(5, .int (0 : Int32)), (0, .ref (G.2.2 + r0)), (1, .int x1), (2, .int x2), (3, .int x3), (4, .int x4)]) C.x C.b dX9_watch_43 hl (by decide) rfl (fun ls hl => ?_)
      exact w_X9_watch_45 C hr hlk hk30 FU _ _ _ _ _ _ _ _ _ hf hE hR hS t_r0 (lv_sub hl [1, 2, 3, 4, 5, 0] rfl)
set_option maxRecDepth 100000 in
set_option maxHeartbeats 4000000 in
theorem k_X9_watch {G : Gt} {l : Launch}  {h : Hp} {r0 : Nat} {out : (Int32 × Hp)} (t_r0 : hpT h r0 = (1, 9))  (hf : f_X9_watch  h r0 = some out) : Mt G l yX9_watch cX9_watch 7 (some .int) rm_X9_watch [.ref (G.2.2 + r0)] h (some (.int out.1)) out.2 0 0 0 := by
  refine r_met (by decide +kernel) (Nat.le_of_ble_eq_true rfl) ?_
  intro p e s m args below meth c ls C hr hlk hnm hR hS hl
  have hE : Ext h h := Ext.rf
  have hl : lv_has ls 7 [(0, .ref (G.2.2 + r0))] := hl
  rw [f_X9_watch] at hf
  refine lv_aload_n C.x C.b dX9_watch_0 rfl (lv_at hl 0 rfl) ?_
  obtain ⟨q1, h_q1, hf⟩ := bd_e hf
  refine r_callV (As := []) (rest := []) C hR hS t_r0 rfl mk_X9_fittingLaws cl_X9_356 (k_X9_fittingLaws t_r0 h_q1) ⟨⟨Nat.le_of_ble_eq_true rfl, Nat.le_of_ble_eq_true rfl⟩, ⟨rfl, rfl⟩, Nat.le_of_ble_eq_true rfl, Nat.le_of_ble_eq_true rfl⟩ rfl hl.1 rfl (Nat.le_of_ble_eq_true rfl) dX9_watch_1 (fun H locs hR hS hE1 z_q1 => ?_)
  have hE := hE.tr hE1
  have t_r0 := hE1.at t_r0 (by decide)
  refine lv_istore_n (lv' := [(1, .int q1.1), (0, .ref (G.2.2 + r0))]) C.x C.b dX9_watch_4 rfl hl (by decide) rfl (fun ls hl => ?_)
  refine lv_iload_n C.x C.b dX9_watch_5 rfl (lv_at hl 0 rfl) ?_
  refine lv_if_eq (tgt := 19) C.x C.b dX9_watch_6 (by decide) (fun c2 => ?_) (fun c2 => ?_)
  · have hf := it_t hf c2
    refine lv_bipush (v := (-2 : Int32)) C.x C.b dX9_watch_19 (by decide) ?_
    have hf := so_e hf
    subst hf
    exact r_iret C hr hlk hR hE hS dX9_watch_21
  · have hf := it_f hf c2
    refine lv_aload_n C.x C.b dX9_watch_9 rfl (lv_at hl 1 rfl) ?_
    obtain ⟨g3, hf⟩ := gd_e hf
    refine r_getr C hR t_r0 fl_X9_26 (by decide) (nz_e g3) dX9_watch_10 (fun tq4 => ?_)
    have tg3 := okO tq4 rfl
    refine r_geti C hR tg3 fl_X9_146 rfl dX9_watch_13 ?_
    refine lv_if_ne (tgt := 22) C.x C.b dX9_watch_16 (by decide) (fun c5 => ?_) (fun c5 => ?_)
    · have hf := it_f hf c5
      refine lv_iconst (v := (0 : Int32)) C.x C.b dX9_watch_22 (by decide) ?_
      refine lv_istore_n (lv' := [(2, .int (0 : Int32)), (1, .int q1.1), (0, .ref (G.2.2 + r0))]) C.x C.b dX9_watch_23 rfl hl (by decide) rfl (fun ls hl => ?_)
      refine lv_bipush (v := (17 : Int32)) C.x C.b dX9_watch_24 (by decide) ?_
      refine lv_istore_n (lv' := [(3, .int (17 : Int32)), (2, .int (0 : Int32)), (1, .int q1.1), (0, .ref (G.2.2 + r0))]) C.x C.b dX9_watch_26 rfl hl (by decide) rfl (fun ls hl => ?_)
      refine lv_iconst (v := (0 : Int32)) C.x C.b dX9_watch_27 (by decide) ?_
      refine lv_istore (lv' := [(4, .int (0 : Int32)), (3, .int (17 : Int32)), (2, .int (0 : Int32)), (1, .int q1.1), (0, .ref (G.2.2 + r0))]) C.x C.b dX9_watch_28 hl (by decide) rfl (fun ls hl => ?_)
      exact w_X9_watch_30 C hr hlk FU _ _ _ _ _ _ _ _ hf hE hR hS t_r0 (lv_sub hl [4, 3, 2, 1, 0] rfl)
    · have hf := it_t hf c5
      refine lv_bipush (v := (-2 : Int32)) C.x C.b dX9_watch_19 (by decide) ?_
      have hf := so_e hf
      subst hf
      exact r_iret C hr hlk hR hE hS dX9_watch_21

def rm_X9_mostHeard : Room := { frames := 0, cells := 0, slots := 0, locals := 0 }
set_option maxRecDepth 100000 in
set_option maxHeartbeats 4000000 in
theorem k_X9_mostHeard {G : Gt} {l : Launch}  {h : Hp} {x0 : Int32} {out : Int32}   (hf : f_X9_mostHeard  h x0 = some out) : Mt G l yX9_mostHeard cX9_mostHeard 1 (some .int) rm_X9_mostHeard [.int x0] h (some (.int out)) h 0 0 0 := by
  refine r_met (by decide +kernel) (Nat.le_of_ble_eq_true rfl) ?_
  intro p e s m args below meth c ls C hr hlk hnm hR hS hl
  have hl : lv_has ls 1 [(0, .int x0)] := hl
  rw [f_X9_mostHeard] at hf
  refine lv_iload_n C.x C.b dX9_mostHeard_0 rfl (lv_at hl 0 rfl) ?_
  by_cases c1_0 : x0 = (0 : Int32)
  · have hf := it_t hf c1_0
    refine lv_tableIn (tgt := 36) C.x C.b dX9_mostHeard_1 (by rw [c1_0]; decide) (by rw [c1_0]; decide) (by rw [c1_0]; rfl) (by decide) ?_
    refine lv_bipush (v := (9 : Int32)) C.x C.b dX9_mostHeard_36 (by decide) ?_
    have hf := so_e hf
    subst hf
    exact r_iret C hr hlk hR Ext.rf hS dX9_mostHeard_38
  have hf := it_f hf c1_0
  by_cases c1_1 : x0 = (1 : Int32)
  · have hf := it_t hf c1_1
    refine lv_tableIn (tgt := 39) C.x C.b dX9_mostHeard_1 (by rw [c1_1]; decide) (by rw [c1_1]; decide) (by rw [c1_1]; rfl) (by decide) ?_
    refine lv_iconst (v := (5 : Int32)) C.x C.b dX9_mostHeard_39 (by decide) ?_
    have hf := so_e hf
    subst hf
    exact r_iret C hr hlk hR Ext.rf hS dX9_mostHeard_40
  have hf := it_f hf c1_1
  by_cases c1_2 : x0 = (2 : Int32)
  · have hf := it_t hf c1_2
    refine lv_tableIn (tgt := 39) C.x C.b dX9_mostHeard_1 (by rw [c1_2]; decide) (by rw [c1_2]; decide) (by rw [c1_2]; rfl) (by decide) ?_
    refine lv_iconst (v := (5 : Int32)) C.x C.b dX9_mostHeard_39 (by decide) ?_
    have hf := so_e hf
    subst hf
    exact r_iret C hr hlk hR Ext.rf hS dX9_mostHeard_40
  have hf := it_f hf c1_2
  by_cases c1_3 : x0 = (3 : Int32)
  · have hf := it_t hf c1_3
    refine lv_tableIn (tgt := 41) C.x C.b dX9_mostHeard_1 (by rw [c1_3]; decide) (by rw [c1_3]; decide) (by rw [c1_3]; rfl) (by decide) ?_
    refine lv_bipush (v := (99 : Int32)) C.x C.b dX9_mostHeard_41 (by decide) ?_
    have hf := so_e hf
    subst hf
    exact r_iret C hr hlk hR Ext.rf hS dX9_mostHeard_43
  have hf := it_f hf c1_3
  by_cases c1_4 : x0 = (4 : Int32)
  · have hf := it_t hf c1_4
    refine lv_tableIn (tgt := 44) C.x C.b dX9_mostHeard_1 (by rw [c1_4]; decide) (by rw [c1_4]; decide) (by rw [c1_4]; rfl) (by decide) ?_
    refine lv_bipush (v := (7 : Int32)) C.x C.b dX9_mostHeard_44 (by decide) ?_
    have hf := so_e hf
    subst hf
    exact r_iret C hr hlk hR Ext.rf hS dX9_mostHeard_46
  have hf := it_f hf c1_4
  refine lv_tableOut (tgt := 47) C.x C.b dX9_mostHeard_1 (tb_out 5 (by decide) (fun j hj => match j, hj with | 0, _ => fun q => c1_0 (q.trans (by decide)) | 1, _ => fun q => c1_1 (q.trans (by decide)) | 2, _ => fun q => c1_2 (q.trans (by decide)) | 3, _ => fun q => c1_3 (q.trans (by decide)) | 4, _ => fun q => c1_4 (q.trans (by decide)) | n + 5, hn => absurd hn (by omega))) (by decide) ?_
  refine lv_iconst (v := (-1 : Int32)) C.x C.b dX9_mostHeard_47 (by decide) ?_
  have hf := so_e hf
  subst hf
  exact r_iret C hr hlk hR Ext.rf hS dX9_mostHeard_48

def rm_X9_heard : Room := { frames := 2, cells := 0, slots := 0, locals := 43 }
set_option maxRecDepth 100000 in
set_option maxHeartbeats 4000000 in
theorem k_X9_heard {G : Gt} {l : Launch}  {h : Hp} {r0 : Nat} {x1 : Int32} {x2 : Int32} {out : (Int32 × Hp)} (t_r0 : hpT h r0 = (1, 9))  (hf : f_X9_heard  h r0 x1 x2 = some out) : Mt G l yX9_heard cX9_heard 3 (some .int) rm_X9_heard [.ref (G.2.2 + r0), .int x1, .int x2] h (some (.int out.1)) out.2 0 0 0 := by
  refine r_met (by decide +kernel) (Nat.le_of_ble_eq_true rfl) ?_
  intro p e s m args below meth c ls C hr hlk hnm hR hS hl
  have hE : Ext h h := Ext.rf
  have hl : lv_has ls 3 [(0, .ref (G.2.2 + r0)), (1, .int x1), (2, .int x2)] := hl
  rw [f_X9_heard] at hf
  refine lv_iload_n C.x C.b dX9_heard_0 rfl (lv_at hl 2 rfl) ?_
  refine lv_if_lt (tgt := 22) C.x C.b dX9_heard_1 (by decide) (fun c1 => ?_) (fun c1 => ?_)
  · have hf := it_t hf c1
    refine lv_iconst (v := (-1 : Int32)) C.x C.b dX9_heard_22 (by decide) ?_
    have hf := so_e hf
    subst hf
    exact r_iret C hr hlk hR hE hS dX9_heard_23
  · have hf := it_f hf c1
    refine lv_iload_n C.x C.b dX9_heard_4 rfl (lv_at hl 2 rfl) ?_
    refine lv_iload_n C.x C.b dX9_heard_5 rfl (lv_at hl 1 rfl) ?_
    obtain ⟨q2, h_q2, hf⟩ := bd_e hf
    refine r_callS (As := [.int x1]) (rest := [.int x2]) C hR hS mk_X9_mostHeard cl_X9_380 (k_X9_mostHeard h_q2) ⟨⟨Nat.le_of_ble_eq_true rfl, Nat.le_of_ble_eq_true rfl⟩, ⟨rfl, rfl⟩, Nat.le_of_ble_eq_true rfl, Nat.le_of_ble_eq_true rfl⟩ rfl hl.1 rfl (Nat.le_of_ble_eq_true rfl) dX9_heard_6 (fun H locs hR hS hE1 z_q2 => ?_)
    refine lv_icmp_gt (tgt := 22) C.x C.b dX9_heard_9 (by decide) (fun c3 => ?_) (fun c3 => ?_)
    · have hf := it_t hf c3
      refine lv_iconst (v := (-1 : Int32)) C.x C.b dX9_heard_22 (by decide) ?_
      have hf := so_e hf
      subst hf
      exact r_iret C hr hlk hR hE hS dX9_heard_23
    · have hf := it_f hf c3
      refine lv_aload_n C.x C.b dX9_heard_12 rfl (lv_at hl 0 rfl) ?_
      obtain ⟨g4, hf⟩ := gd_e hf
      refine r_getr C hR t_r0 fl_X9_73 (by decide) (nz_e g4) dX9_heard_13 (fun tq5 => ?_)
      have tg4 := okO tq5 rfl
      obtain ⟨q6, h_q6, hf⟩ := bd_e hf
      refine r_callV (As := []) (rest := []) C hR hS tg4 rfl mk_X2_isFull cl_X9_348 (k_X2_isFull tg4 h_q6) ⟨⟨Nat.le_of_ble_eq_true rfl, Nat.le_of_ble_eq_true rfl⟩, ⟨rfl, rfl⟩, Nat.le_of_ble_eq_true rfl, Nat.le_of_ble_eq_true rfl⟩ rfl hl.1 rfl (Nat.le_of_ble_eq_true rfl) dX9_heard_16 (fun H locs hR hS hE1 z_q6 => ?_)
      have z_q6 := z_q6 _ rfl
      refine lv_if_eq (tgt := 24) C.x C.b dX9_heard_19 (by decide) (fun c7 => ?_) (fun c7 => ?_)
      · have hf := it_t hf c7
        refine lv_aload_n C.x C.b dX9_heard_24 rfl (lv_at hl 0 rfl) ?_
        refine r_getr C hR t_r0 fl_X9_73 (by decide) (nz_e g4) dX9_heard_25 (fun tq8 => ?_)
        refine lv_iload_n C.x C.b dX9_heard_28 rfl (lv_at hl 1 rfl) ?_
        refine lv_iload_n C.x C.b dX9_heard_29 rfl (lv_at hl 2 rfl) ?_
        refine lv_iconst (v := (0 : Int32)) C.x C.b dX9_heard_30 (by decide) ?_
        obtain ⟨q9, h_q9, hf⟩ := bd_e hf
        refine r_callV (As := [.int x1, .int x2, .int (0 : Int32)]) (rest := []) C hR hS tg4 rfl mk_X2_add cl_X9_352 (k_X2_add tg4 h_q9) ⟨⟨Nat.le_of_ble_eq_true rfl, Nat.le_of_ble_eq_true rfl⟩, ⟨rfl, rfl⟩, Nat.le_of_ble_eq_true rfl, Nat.le_of_ble_eq_true rfl⟩ rfl hl.1 rfl (Nat.le_of_ble_eq_true rfl) dX9_heard_31 (fun H locs hR hS hE1 z_q9 => ?_)
        have hE := hE.tr hE1
        have t_r0 := hE1.at t_r0 (by decide)
        refine lv_aload_n C.x C.b dX9_heard_34 rfl (lv_at hl 0 rfl) ?_
        obtain ⟨g10, hf⟩ := gd_e hf
        refine r_getr C hR t_r0 fl_X9_73 (by decide) (nz_e g10) dX9_heard_35 (fun tq11 => ?_)
        have tg10 := okO tq11 rfl
        refine r_geti C hR tg10 fl_X9_355 rfl dX9_heard_38 ?_
        have hf := so_e hf
        subst hf
        exact r_iret C hr hlk hR hE hS dX9_heard_41
      · have hf := it_f hf c7
        refine lv_iconst (v := (-1 : Int32)) C.x C.b dX9_heard_22 (by decide) ?_
        have hf := so_e hf
        subst hf
        exact r_iret C hr hlk hR hE hS dX9_heard_23

def rm_X9_forget : Room := { frames := 1, cells := 0, slots := 0, locals := 21 }
set_option maxRecDepth 100000 in
set_option maxHeartbeats 4000000 in
theorem k_X9_forget {G : Gt} {l : Launch}  {h : Hp} {r0 : Nat} {out : (Int32 × Hp)} (t_r0 : hpT h r0 = (1, 9))  (hf : f_X9_forget  h r0 = some out) : Mt G l yX9_forget cX9_forget 1 (some .int) rm_X9_forget [.ref (G.2.2 + r0)] h (some (.int out.1)) out.2 0 0 0 := by
  refine r_met (by decide +kernel) (Nat.le_of_ble_eq_true rfl) ?_
  intro p e s m args below meth c ls C hr hlk hnm hR hS hl
  have hE : Ext h h := Ext.rf
  have hl : lv_has ls 1 [(0, .ref (G.2.2 + r0))] := hl
  rw [f_X9_forget] at hf
  refine lv_aload_n C.x C.b dX9_forget_0 rfl (lv_at hl 0 rfl) ?_
  obtain ⟨g1, hf⟩ := gd_e hf
  refine r_getr C hR t_r0 fl_X9_73 (by decide) (nz_e g1) dX9_forget_1 (fun tq2 => ?_)
  have tg1 := okO tq2 rfl
  obtain ⟨q3, h_q3, hf⟩ := bd_e hf
  refine r_callV (As := []) (rest := []) C hR hS tg1 rfl mk_X2_wipe cl_X9_115 (k_X2_wipe tg1 h_q3) ⟨⟨Nat.le_of_ble_eq_true rfl, Nat.le_of_ble_eq_true rfl⟩, ⟨rfl, rfl⟩, Nat.le_of_ble_eq_true rfl, Nat.le_of_ble_eq_true rfl⟩ rfl hl.1 rfl (Nat.le_of_ble_eq_true rfl) dX9_forget_4 (fun H locs hR hS hE1 z_q3 => ?_)
  have hE := hE.tr hE1
  have t_r0 := hE1.at t_r0 (by decide)
  have hf := so_e hf
  subst hf
  exact r_iret C hr hlk hR hE hS dX9_forget_7

