def rm_X9_campsTold : Room := { frames := 3, cells := 0, slots := 0, locals := 69 }
def P_X9_campsTold_102 (G : Gt) (l : Launch) (p : Program) (e : Env) (s : State) (m : MethodId) (args : Array Value) (below : List Frame) (meth : Method) (c : Code) (h0 : Hp) (out : (Int32 × Hp)) (r0 : Nat) (k : Hp → Int32 → Int32 → Int32 → Option (Int32 × Hp)) : Prop := ∀ (H : Heap) (locs : List Loc) (ls : Array Slot) (h : Hp) (x1 : Int32) (x2 : Int32) (x3 : Int32), k h x1 x2 x3 = some out → Ext h0 h → Rel G h H → va_S (AA G.2.2) s.heap H locs → hpT h r0 = (1, 9) → lv_has ls 5 [(0, .ref (G.2.2 + r0)), (1, .int x1), (2, .int x2), (3, .int x3)] → W p l e rm_X9_campsTold s m args below meth c H locs 0 0 (MQ below (Qm G h0 out.2 (some (.int out.1)) 0) args s 0 0 (AA G.2.2)) (F0 m 102 ls [])
def P_X9_campsTold_111 (G : Gt) (l : Launch) (p : Program) (e : Env) (s : State) (m : MethodId) (args : Array Value) (below : List Frame) (meth : Method) (c : Code) (h0 : Hp) (out : (Int32 × Hp)) (r0 : Nat) (k : Hp → Int32 → Int32 → Option (Int32 × Hp)) : Prop := ∀ (H : Heap) (locs : List Loc) (ls : Array Slot) (h : Hp) (x1 : Int32) (x2 : Int32), k h x1 x2 = some out → Ext h0 h → Rel G h H → va_S (AA G.2.2) s.heap H locs → hpT h r0 = (1, 9) → lv_has ls 5 [(0, .ref (G.2.2 + r0)), (1, .int x1), (2, .int x2)] → W p l e rm_X9_campsTold s m args below meth c H locs 0 0 (MQ below (Qm G h0 out.2 (some (.int out.1)) 0) args s 0 0 (AA G.2.2)) (F0 m 111 ls [])
def P_X9_campsTold_40 (G : Gt) (l : Launch) (p : Program) (e : Env) (s : State) (m : MethodId) (args : Array Value) (below : List Frame) (meth : Method) (c : Code) (h0 : Hp) (out : (Int32 × Hp)) (r0 : Nat) (k : Hp → Int32 → Int32 → Int32 → Option (Int32 × Hp)) : Prop := ∀ (H : Heap) (locs : List Loc) (ls : Array Slot) (h : Hp) (x1 : Int32) (x2 : Int32) (x3 : Int32), k h x1 x2 x3 = some out → Ext h0 h → Rel G h H → va_S (AA G.2.2) s.heap H locs → hpT h r0 = (1, 9) → lv_has ls 5 [(0, .ref (G.2.2 + r0)), (1, .int x1), (2, .int x2), (3, .int x3)] → W p l e rm_X9_campsTold s m args below meth c H locs 0 0 (MQ below (Qm G h0 out.2 (some (.int out.1)) 0) args s 0 0 (AA G.2.2)) (F0 m 40 ls [])
set_option maxRecDepth 100000 in
set_option maxHeartbeats 4000000 in
theorem w_X9_campsTold_102 {G : Gt} {l : Launch} {p : Program} {e : Env} {s : State} {m : MethodId} {args : Array Value} {below : List Frame} {meth : Method} {c : Code}  {h0 : Hp} {out : (Int32 × Hp)} {r0 : Nat} {k40 : Hp → Int32 → Int32 → Int32 → Option (Int32 × Hp)} (C : Cx G p m c cX9_campsTold 5 s args RX9) (hr : meth.sig.returnType = some .int) (hlk : meth.locks = false)  (hk40 : P_X9_campsTold_40 G l p e s m args below meth c h0 out r0 k40) : P_X9_campsTold_102 G l p e s m args below meth c h0 out r0 (f_X9_campsTold_102 r0 k40) := by
  intro H locs ls h x1 x2 x3 hf hE hR hS t_r0 hl
  rw [f_X9_campsTold_102] at hf
  obtain ⟨v25, e_v25⟩ : ∃ y : Int32, y = x2 + (1 : Int32) := ⟨_, rfl⟩
  have hf := lt_e hf e_v25
  refine lv_iinc (v := v25) (lv' := [(2, .int v25), (0, .ref (G.2.2 + r0)), (1, .int x1), (3, .int x3)]) C.x C.b dX9_campsTold_102 hl (k := 2) rfl (by rw [e_v25]; rfl) (by decide) rfl (fun ls hl => ?_)
  obtain ⟨v26, e_v26⟩ : ∃ y : Int32, y = x3 + (1 : Int32) := ⟨_, rfl⟩
  have hf := lt_e hf e_v26
  refine lv_iinc (v := v26) (lv' := [(3, .int v26), (2, .int v25), (0, .ref (G.2.2 + r0)), (1, .int x1)]) C.x C.b dX9_campsTold_105 hl (k := 3) rfl (by rw [e_v26]; rfl) (by decide) rfl (fun ls hl => ?_)
  refine lv_goto (tgt := 40) C.x C.b dX9_campsTold_108 (by decide) ?_
  exact hk40 _ _ _ _ _ _ _ hf hE hR hS t_r0 (lv_sub hl [2, 3, 1, 0] rfl)
set_option maxRecDepth 100000 in
set_option maxHeartbeats 4000000 in
theorem w_X9_campsTold_111 {G : Gt} {l : Launch} {p : Program} {e : Env} {s : State} {m : MethodId} {args : Array Value} {below : List Frame} {meth : Method} {c : Code}  {h0 : Hp} {out : (Int32 × Hp)} {r0 : Nat}  (C : Cx G p m c cX9_campsTold 5 s args RX9) (hr : meth.sig.returnType = some .int) (hlk : meth.locks = false)   : P_X9_campsTold_111 G l p e s m args below meth c h0 out r0 (f_X9_campsTold_111 r0) := by
  intro H locs ls h x1 x2 hf hE hR hS t_r0 hl
  rw [f_X9_campsTold_111] at hf
  refine lv_iload_n C.x C.b dX9_campsTold_111 rfl (lv_at hl 2 rfl) ?_
  refine lv_iload_n C.x C.b dX9_campsTold_112 rfl (lv_at hl 1 rfl) ?_
  refine lv_icmp_ne (tgt := 120) C.x C.b dX9_campsTold_113 (by decide) (fun c27 => ?_) (fun c27 => ?_)
  · have hf := it_f hf c27
    refine lv_aload_n C.x C.b dX9_campsTold_120 rfl (lv_at hl 0 rfl) ?_
    obtain ⟨g28, hf⟩ := gd_e hf
    refine r_getr C hR t_r0 fl_X9_10 (by decide) (nz_e g28) dX9_campsTold_121 (fun tq29 => ?_)
    have tg28 := okO tq29 rfl
    refine r_geti C hR tg28 fl_X9_93 rfl dX9_campsTold_124 ?_
    refine lv_bipush (v := (55 : Int32)) C.x C.b dX9_campsTold_127 (by decide) ?_
    refine lv_icmp_le (tgt := 135) C.x C.b dX9_campsTold_129 (by decide) (fun c30 => ?_) (fun c30 => ?_)
    · have hf := it_t hf c30
      refine lv_aload_n C.x C.b dX9_campsTold_135 rfl (lv_at hl 0 rfl) ?_
      obtain ⟨g31, hf⟩ := gd_e hf
      refine r_getr C hR t_r0 fl_X9_33 (by decide) (nz_e g31) dX9_campsTold_136 (fun tq32 => ?_)
      have tg31 := okO tq32 rfl
      refine r_geti C hR tg31 fl_X9_146 rfl dX9_campsTold_139 ?_
      refine lv_aload_n C.x C.b dX9_campsTold_142 rfl (lv_at hl 0 rfl) ?_
      obtain ⟨g33, hf⟩ := gd_e hf
      refine r_getr C hR t_r0 fl_X9_26 (by decide) (nz_e g33) dX9_campsTold_143 (fun tq34 => ?_)
      have tg33 := okO tq34 rfl
      refine r_geti C hR tg33 fl_X9_146 rfl dX9_campsTold_146 ?_
      refine lv_isub C.x C.b dX9_campsTold_149 ?_
      refine lv_topi (fun v35 e_v35 => ?_)
      have hf := lt_e hf e_v35
      refine lv_istore_n (lv' := [(3, .int v35), (0, .ref (G.2.2 + r0)), (1, .int x1), (2, .int x2)]) C.x C.b dX9_campsTold_150 rfl hl (by decide) rfl (fun ls hl => ?_)
      refine lv_aload_n C.x C.b dX9_campsTold_151 rfl (lv_at hl 1 rfl) ?_
      refine r_getr C hR t_r0 fl_X9_26 (by decide) (nz_e g33) dX9_campsTold_152 (fun tq36 => ?_)
      refine lv_aload_n C.x C.b dX9_campsTold_155 rfl (lv_at hl 1 rfl) ?_
      refine r_getr C hR t_r0 fl_X9_33 (by decide) (nz_e g31) dX9_campsTold_156 (fun tq37 => ?_)
      obtain ⟨q38, h_q38, hf⟩ := bd_e hf
      refine r_callV (As := [.ref (G.2.2 + (hpR h r0 4))]) (rest := []) C hR hS tg33 rfl mk_X0_copy cl_X9_134 (k_X0_copy tg33 tg31 h_q38) ⟨⟨Nat.le_of_ble_eq_true rfl, Nat.le_of_ble_eq_true rfl⟩, ⟨rfl, rfl⟩, Nat.le_of_ble_eq_true rfl, Nat.le_of_ble_eq_true rfl⟩ rfl hl.1 rfl (Nat.le_of_ble_eq_true rfl) dX9_campsTold_159 (fun H locs hR hS hE1 z_q38 => ?_)
      have hE := hE.tr hE1
      have t_r0 := hE1.at t_r0 (by decide)
      refine lv_aload_n C.x C.b dX9_campsTold_162 rfl (lv_at hl 1 rfl) ?_
      obtain ⟨q39, h_q39, hf⟩ := bd_e hf
      refine r_callV (As := []) (rest := []) C hR hS t_r0 rfl mk_X9_forgetStates cl_X9_112 (k_X9_forgetStates t_r0 h_q39) ⟨⟨Nat.le_of_ble_eq_true rfl, Nat.le_of_ble_eq_true rfl⟩, ⟨rfl, rfl⟩, Nat.le_of_ble_eq_true rfl, Nat.le_of_ble_eq_true rfl⟩ rfl hl.1 rfl (Nat.le_of_ble_eq_true rfl) dX9_campsTold_163 (fun H locs hR hS hE1 z_q39 => ?_)
      have hE := hE.tr hE1
      have t_r0 := hE1.at t_r0 (by decide)
      refine lv_iload_n C.x C.b dX9_campsTold_166 rfl (lv_at hl 0 rfl) ?_
      have hf := so_e hf
      subst hf
      exact r_iret C hr hlk hR hE hS dX9_campsTold_167
    · have hf := it_f hf c30
      refine lv_bipush (v := (-56 : Int32)) C.x C.b dX9_campsTold_132 (by decide) ?_
      have hf := so_e hf
      subst hf
      exact r_iret C hr hlk hR hE hS dX9_campsTold_134
  · have hf := it_t hf c27
    refine lv_iconst (v := (-1 : Int32)) C.x C.b dX9_campsTold_116 (by decide) ?_
    refine lv_iload_n C.x C.b dX9_campsTold_117 rfl (lv_at hl 1 rfl) ?_
    refine lv_isub C.x C.b dX9_campsTold_118 ?_
    have hf := so_e hf
    subst hf
    exact r_iret C hr hlk hR hE hS dX9_campsTold_119
set_option maxRecDepth 100000 in
set_option maxHeartbeats 4000000 in
theorem w_X9_campsTold_40 {G : Gt} {l : Launch} {p : Program} {e : Env} {s : State} {m : MethodId} {args : Array Value} {below : List Frame} {meth : Method} {c : Code}  {h0 : Hp} {out : (Int32 × Hp)} {r0 : Nat}  (C : Cx G p m c cX9_campsTold 5 s args RX9) (hr : meth.sig.returnType = some .int) (hlk : meth.locks = false)   (n : Nat) : P_X9_campsTold_40 G l p e s m args below meth c h0 out r0 (f_X9_campsTold_40 r0 n) := by
  induction n with
  | zero => intro H locs ls h x1 x2 x3 hf hE hR hS t_r0 hl; cases hf
  | succ n hk40 =>
    intro H locs ls h x1 x2 x3 hf hE hR hS t_r0 hl
    rw [f_X9_campsTold_40] at hf
    obtain ⟨k40, e_k40⟩ : ∃ y, y = f_X9_campsTold_40 r0 n := ⟨_, rfl⟩
    have hf := lt_e hf e_k40
    rw [← e_k40] at hk40
    refine lv_iload_n C.x C.b dX9_campsTold_40 rfl (lv_at hl 3 rfl) ?_
    refine lv_bipush (v := (8 : Int32)) C.x C.b dX9_campsTold_41 (by decide) ?_
    refine lv_icmp_ge (tgt := 111) C.x C.b dX9_campsTold_43 (by decide) (fun c11 => ?_) (fun c11 => ?_)
    · have hf := it_t hf c11
      exact w_X9_campsTold_111 C hr hlk _ _ _ _ _ _ hf hE hR hS t_r0 (lv_sub hl [0, 1, 2] rfl)
    · have hf := it_f hf c11
      refine lv_iload_n C.x C.b dX9_campsTold_46 rfl (lv_at hl 2 rfl) ?_
      refine lv_iload_n C.x C.b dX9_campsTold_47 rfl (lv_at hl 1 rfl) ?_
      refine lv_icmp_ge (tgt := 111) C.x C.b dX9_campsTold_48 (by decide) (fun c12 => ?_) (fun c12 => ?_)
      · have hf := it_t hf c12
        exact w_X9_campsTold_111 C hr hlk _ _ _ _ _ _ hf hE hR hS t_r0 (lv_sub hl [0, 1, 2] rfl)
      · have hf := it_f hf c12
        refine lv_aload_n C.x C.b dX9_campsTold_51 rfl (lv_at hl 0 rfl) ?_
        obtain ⟨g13, hf⟩ := gd_e hf
        refine r_getr C hR t_r0 fl_X9_33 (by decide) (nz_e g13) dX9_campsTold_52 (fun tq14 => ?_)
        have tg13 := okO tq14 rfl
        refine lv_aload_n C.x C.b dX9_campsTold_55 rfl (lv_at hl 0 rfl) ?_
        obtain ⟨g15, hf⟩ := gd_e hf
        refine r_getr C hR t_r0 fl_X9_10 (by decide) (nz_e g15) dX9_campsTold_56 (fun tq16 => ?_)
        have tg15 := okO tq16 rfl
        refine lv_iload_n C.x C.b dX9_campsTold_59 rfl (lv_at hl 2 rfl) ?_
        refine lv_iload_n C.x C.b dX9_campsTold_60 rfl (lv_at hl 1 rfl) ?_
        obtain ⟨q17, h_q17, hf⟩ := bd_e hf
        refine r_callV (As := [.ref (G.2.2 + (hpR h r0 0)), .int x2, .int x1]) (rest := []) C hR hS tg13 rfl mk_X0_readLine cl_X9_138 (k_X0_readLine tg13 tg15 h_q17) ⟨⟨Nat.le_of_ble_eq_true rfl, Nat.le_of_ble_eq_true rfl⟩, ⟨rfl, rfl⟩, Nat.le_of_ble_eq_true rfl, Nat.le_of_ble_eq_true rfl⟩ rfl hl.1 rfl (Nat.le_of_ble_eq_true rfl) dX9_campsTold_61 (fun H locs hR hS hE1 z_q17 => ?_)
        have hE := hE.tr hE1
        have t_r0 := hE1.at t_r0 (by decide)
        refine lv_istore (lv' := [(4, .int q17.1), (0, .ref (G.2.2 + r0)), (1, .int x1), (2, .int x2), (3, .int x3)]) C.x C.b dX9_campsTold_64 hl (by decide) rfl (fun ls hl => ?_)
        refine lv_iload C.x C.b dX9_campsTold_66 (lv_at hl 0 rfl) ?_
        refine lv_iconst (v := (-1 : Int32)) C.x C.b dX9_campsTold_68 (by decide) ?_
        refine lv_icmp_eq (tgt := 77) C.x C.b dX9_campsTold_69 (by decide) (fun c18 => ?_) (fun c18 => ?_)
        · have hf := it_t hf c18
          obtain ⟨v19, e_v19⟩ : ∃ y : Int32, y = x2 + (6 : Int32) := ⟨_, rfl⟩
          have hf := lt_e hf e_v19
          refine lv_iinc (v := v19) (lv' := [(2, .int v19), (4, .int q17.1), (0, .ref (G.2.2 + r0)), (1, .int x1), (3, .int x3)]) C.x C.b dX9_campsTold_77 hl (k := 3) rfl (by rw [e_v19]; rfl) (by decide) rfl (fun ls hl => ?_)
          refine lv_iload_n C.x C.b dX9_campsTold_80 rfl (lv_at hl 0 rfl) ?_
          refine lv_iload_n C.x C.b dX9_campsTold_81 rfl (lv_at hl 3 rfl) ?_
          refine lv_icmp_ge (tgt := 102) C.x C.b dX9_campsTold_82 (by decide) (fun c20 => ?_) (fun c20 => ?_)
          · have hf := it_t hf c20
            exact w_X9_campsTold_102 C hr hlk hk40 _ _ _ _ _ _ _ hf hE hR hS t_r0 (lv_sub hl [2, 3, 0, 4] rfl)
          · have hf := it_f hf c20
            refine lv_aload_n C.x C.b dX9_campsTold_85 rfl (lv_at hl 2 rfl) ?_
            obtain ⟨g21, hf⟩ := gd_e hf
            refine r_getr C hR t_r0 fl_X9_10 (by decide) (nz_e g21) dX9_campsTold_86 (fun tq22 => ?_)
            have tg21 := okO tq22 rfl
            refine lv_iload_n C.x C.b dX9_campsTold_89 rfl (lv_at hl 0 rfl) ?_
            obtain ⟨q23, h_q23, hf⟩ := bd_e hf
            refine r_callV (As := [.int v19]) (rest := []) C hR hS tg21 rfl mk_X6_get cl_X9_142 (k_X6_get tg21 h_q23) ⟨⟨Nat.le_of_ble_eq_true rfl, Nat.le_of_ble_eq_true rfl⟩, ⟨rfl, rfl⟩, Nat.le_of_ble_eq_true rfl, Nat.le_of_ble_eq_true rfl⟩ rfl hl.1 rfl (Nat.le_of_ble_eq_true rfl) dX9_campsTold_90 (fun H locs hR hS hE1 z_q23 => ?_)
            refine lv_bipush (v := (59 : Int32)) C.x C.b dX9_campsTold_93 (by decide) ?_
            refine lv_icmp_eq (tgt := 102) C.x C.b dX9_campsTold_95 (by decide) (fun c24 => ?_) (fun c24 => ?_)
            · have hf := it_t hf c24
              exact w_X9_campsTold_102 C hr hlk hk40 _ _ _ _ _ _ _ hf hE hR hS t_r0 (lv_sub hl [2, 3, 0, 4] rfl)
            · have hf := it_f hf c24
              refine lv_iconst (v := (-1 : Int32)) C.x C.b dX9_campsTold_98 (by decide) ?_
              refine lv_iload_n C.x C.b dX9_campsTold_99 rfl (lv_at hl 0 rfl) ?_
              refine lv_isub C.x C.b dX9_campsTold_100 ?_
              have hf := so_e hf
              subst hf
              exact r_iret C hr hlk hR hE hS dX9_campsTold_101
        · have hf := it_f hf c18
          refine lv_iconst (v := (-1 : Int32)) C.x C.b dX9_campsTold_72 (by decide) ?_
          refine lv_iload C.x C.b dX9_campsTold_73 (lv_at hl 0 rfl) ?_
          refine lv_isub C.x C.b dX9_campsTold_75 ?_
          have hf := so_e hf
          subst hf
          exact r_iret C hr hlk hR hE hS dX9_campsTold_76
set_option maxRecDepth 100000 in
set_option maxHeartbeats 4000000 in
theorem k_X9_campsTold {G : Gt} {l : Launch}  {h : Hp} {r0 : Nat} {out : (Int32 × Hp)} (t_r0 : hpT h r0 = (1, 9))  (hf : f_X9_campsTold  h r0 = some out) : Mt G l yX9_campsTold cX9_campsTold 5 (some .int) rm_X9_campsTold [.ref (G.2.2 + r0)] h (some (.int out.1)) out.2 0 0 0 := by
  refine r_met (by decide +kernel) (Nat.le_of_ble_eq_true rfl) ?_
  intro p e s m args below meth c ls C hr hlk hnm hR hS hl
  have hE : Ext h h := Ext.rf
  have hl : lv_has ls 5 [(0, .ref (G.2.2 + r0))] := hl
  rw [f_X9_campsTold] at hf
  refine lv_aload_n C.x C.b dX9_campsTold_0 rfl (lv_at hl 0 rfl) ?_
  obtain ⟨g1, hf⟩ := gd_e hf
  refine r_getr C hR t_r0 fl_X9_10 (by decide) (nz_e g1) dX9_campsTold_1 (fun tq2 => ?_)
  have tg1 := okO tq2 rfl
  refine r_geti C hR tg1 fl_X9_93 rfl dX9_campsTold_4 ?_
  refine lv_if_ne (tgt := 12) C.x C.b dX9_campsTold_7 (by decide) (fun c3 => ?_) (fun c3 => ?_)
  · have hf := it_f hf c3
    refine lv_aload_n C.x C.b dX9_campsTold_12 rfl (lv_at hl 0 rfl) ?_
    refine r_getr C hR t_r0 fl_X9_10 (by decide) (nz_e g1) dX9_campsTold_13 (fun tq4 => ?_)
    refine r_geti C hR tg1 fl_X9_93 rfl dX9_campsTold_16 ?_
    refine lv_bipush (v := (55 : Int32)) C.x C.b dX9_campsTold_19 (by decide) ?_
    refine va_mmin C.x C.b (C.ml.trans hl.1.symm) C.ow (C.ts _ lk_X9_129) (C.ts _ lk_Mmin_s) (C.ts _ lk_Math) (C.ts _ lk_Mmin_c) (Nat.le_of_ble_eq_true rfl) (Nat.le_of_ble_eq_true rfl) (Nat.le_of_ble_eq_true rfl) (Nat.le_of_ble_eq_true rfl) dX9_campsTold_21 ?_
    refine lv_topi (fun v5 e_v5 => ?_)
    have hf := lt_e hf e_v5
    refine lv_istore_n (lv' := [(1, .int v5), (0, .ref (G.2.2 + r0))]) C.x C.b dX9_campsTold_24 rfl hl (by decide) rfl (fun ls hl => ?_)
    refine lv_iconst (v := (0 : Int32)) C.x C.b dX9_campsTold_25 (by decide) ?_
    refine lv_istore_n (lv' := [(2, .int (0 : Int32)), (1, .int v5), (0, .ref (G.2.2 + r0))]) C.x C.b dX9_campsTold_26 rfl hl (by decide) rfl (fun ls hl => ?_)
    refine lv_aload_n C.x C.b dX9_campsTold_27 rfl (lv_at hl 2 rfl) ?_
    obtain ⟨g6, hf⟩ := gd_e hf
    refine r_getr C hR t_r0 fl_X9_33 (by decide) (nz_e g6) dX9_campsTold_28 (fun tq7 => ?_)
    have tg6 := okO tq7 rfl
    refine lv_aload_n C.x C.b dX9_campsTold_31 rfl (lv_at hl 2 rfl) ?_
    obtain ⟨g8, hf⟩ := gd_e hf
    refine r_getr C hR t_r0 fl_X9_26 (by decide) (nz_e g8) dX9_campsTold_32 (fun tq9 => ?_)
    have tg8 := okO tq9 rfl
    obtain ⟨q10, h_q10, hf⟩ := bd_e hf
    refine r_callV (As := [.ref (G.2.2 + (hpR h r0 2))]) (rest := []) C hR hS tg6 rfl mk_X0_copy cl_X9_134 (k_X0_copy tg6 tg8 h_q10) ⟨⟨Nat.le_of_ble_eq_true rfl, Nat.le_of_ble_eq_true rfl⟩, ⟨rfl, rfl⟩, Nat.le_of_ble_eq_true rfl, Nat.le_of_ble_eq_true rfl⟩ rfl hl.1 rfl (Nat.le_of_ble_eq_true rfl) dX9_campsTold_35 (fun H locs hR hS hE1 z_q10 => ?_)
    have hE := hE.tr hE1
    have t_r0 := hE1.at t_r0 (by decide)
    refine lv_iconst (v := (0 : Int32)) C.x C.b dX9_campsTold_38 (by decide) ?_
    refine lv_istore_n (lv' := [(3, .int (0 : Int32)), (2, .int (0 : Int32)), (1, .int v5), (0, .ref (G.2.2 + r0))]) C.x C.b dX9_campsTold_39 rfl hl (by decide) rfl (fun ls hl => ?_)
    exact w_X9_campsTold_40 C hr hlk FU _ _ _ _ _ _ _ hf hE hR hS t_r0 (lv_sub hl [3, 2, 1, 0] rfl)
  · have hf := it_t hf c3
    refine lv_iconst (v := (0 : Int32)) C.x C.b dX9_campsTold_10 (by decide) ?_
    have hf := so_e hf
    subst hf
    exact r_iret C hr hlk hR hE hS dX9_campsTold_11

def rm_X9_camps : Room := { frames := 4, cells := 0, slots := 0, locals := 93 }
set_option maxRecDepth 100000 in
set_option maxHeartbeats 4000000 in
theorem k_X9_camps {G : Gt} {l : Launch}  {h : Hp} {r0 : Nat} {out : (Int32 × Hp)} (t_r0 : hpT h r0 = (1, 9))  (hf : f_X9_camps  h r0 = some out) : Mt G l yX9_camps cX9_camps 2 (some .int) rm_X9_camps [.ref (G.2.2 + r0)] h (some (.int out.1)) out.2 0 0 0 := by
  refine r_met (by decide +kernel) (Nat.le_of_ble_eq_true rfl) ?_
  intro p e s m args below meth c ls C hr hlk hnm hR hS hl
  have hE : Ext h h := Ext.rf
  have hl : lv_has ls 2 [(0, .ref (G.2.2 + r0))] := hl
  rw [f_X9_camps] at hf
  refine lv_aload_n C.x C.b dX9_camps_0 rfl (lv_at hl 0 rfl) ?_
  obtain ⟨q1, h_q1, hf⟩ := bd_e hf
  refine r_callV (As := []) (rest := []) C hR hS t_r0 rfl mk_X9_campsTold cl_X9_126 (k_X9_campsTold t_r0 h_q1) ⟨⟨Nat.le_of_ble_eq_true rfl, Nat.le_of_ble_eq_true rfl⟩, ⟨rfl, rfl⟩, Nat.le_of_ble_eq_true rfl, Nat.le_of_ble_eq_true rfl⟩ rfl hl.1 rfl (Nat.le_of_ble_eq_true rfl) dX9_camps_1 (fun H locs hR hS hE1 z_q1 => ?_)
  have hE := hE.tr hE1
  have t_r0 := hE1.at t_r0 (by decide)
  refine lv_istore_n (lv' := [(1, .int q1.1), (0, .ref (G.2.2 + r0))]) C.x C.b dX9_camps_4 rfl hl (by decide) rfl (fun ls hl => ?_)
  refine lv_aload_n C.x C.b dX9_camps_5 rfl (lv_at hl 1 rfl) ?_
  obtain ⟨g2, hf⟩ := gd_e hf
  refine r_getr C hR t_r0 fl_X9_10 (by decide) (nz_e g2) dX9_camps_6 (fun tq3 => ?_)
  have tg2 := okO tq3 rfl
  refine lv_iconst (v := (0 : Int32)) C.x C.b dX9_camps_9 (by decide) ?_
  refine r_puti C hR hS tg2 fl_X9_93 fp_X9_6_1 rfl dX9_camps_10 (fun H locs hR hS => ?_)
  obtain ⟨h4, e_h4⟩ : ∃ y, y = upI q1.2 (hpR q1.2 r0 0) 1 (0 : Int32) := ⟨_, rfl⟩
  rw [← e_h4] at hR
  have hf := lt_e hf e_h4
  have hE := eI e_h4 hE
  have t_r0 := tI e_h4 t_r0
  refine lv_iload_n C.x C.b dX9_camps_13 rfl (lv_at hl 0 rfl) ?_
  have hf := so_e hf
  subst hf
  exact r_iret C hr hlk hR hE hS dX9_camps_14

def rm_X9_rule : Room := { frames := 36, cells := 0, slots := 0, locals := 799 }
set_option maxRecDepth 100000 in
set_option maxHeartbeats 4000000 in
theorem k_X9_rule {G : Gt} {l : Launch}  {h : Hp} {r0 : Nat} {out : (Int32 × Hp)} (t_r0 : hpT h r0 = (1, 9))  (hf : f_X9_rule  h r0 = some out) : Mt G l yX9_rule cX9_rule 2 (some .int) rm_X9_rule [.ref (G.2.2 + r0)] h (some (.int out.1)) out.2 0 0 0 := by
  refine r_met (by decide +kernel) (Nat.le_of_ble_eq_true rfl) ?_
  intro p e s m args below meth c ls C hr hlk hnm hR hS hl
  have hE : Ext h h := Ext.rf
  have hl : lv_has ls 2 [(0, .ref (G.2.2 + r0))] := hl
  rw [f_X9_rule] at hf
  refine lv_aload_n C.x C.b dX9_rule_0 rfl (lv_at hl 0 rfl) ?_
  obtain ⟨g1, hf⟩ := gd_e hf
  refine r_getr C hR t_r0 fl_X9_60 (by decide) (nz_e g1) dX9_rule_1 (fun tq2 => ?_)
  have tg1 := okO tq2 rfl
  refine lv_aload_n C.x C.b dX9_rule_4 rfl (lv_at hl 0 rfl) ?_
  obtain ⟨g3, hf⟩ := gd_e hf
  refine r_getr C hR t_r0 fl_X9_10 (by decide) (nz_e g3) dX9_rule_5 (fun tq4 => ?_)
  have tg3 := okO tq4 rfl
  refine lv_aload_n C.x C.b dX9_rule_8 rfl (lv_at hl 0 rfl) ?_
  obtain ⟨g5, hf⟩ := gd_e hf
  refine r_getr C hR t_r0 fl_X9_54 (by decide) (nz_e g5) dX9_rule_9 (fun tq6 => ?_)
  have tg5 := okO tq6 rfl
  obtain ⟨q7, h_q7, hf⟩ := bd_e hf
  refine r_callV (As := [.ref (G.2.2 + (hpR h r0 0)), .ref (G.2.2 + (hpR h r0 9))]) (rest := []) C hR hS tg1 rfl mk_X5_read cl_X9_147 (k_X5_read tg1 tg3 tg5 h_q7) ⟨⟨Nat.le_of_ble_eq_true rfl, Nat.le_of_ble_eq_true rfl⟩, ⟨rfl, rfl⟩, Nat.le_of_ble_eq_true rfl, Nat.le_of_ble_eq_true rfl⟩ rfl hl.1 rfl (Nat.le_of_ble_eq_true rfl) dX9_rule_12 (fun H locs hR hS hE1 z_q7 => ?_)
  have hE := hE.tr hE1
  have t_r0 := hE1.at t_r0 (by decide)
  refine lv_istore_n (lv' := [(1, .int q7.1), (0, .ref (G.2.2 + r0))]) C.x C.b dX9_rule_15 rfl hl (by decide) rfl (fun ls hl => ?_)
  refine lv_aload_n C.x C.b dX9_rule_16 rfl (lv_at hl 1 rfl) ?_
  obtain ⟨g8, hf⟩ := gd_e hf
  refine r_getr C hR t_r0 fl_X9_10 (by decide) (nz_e g8) dX9_rule_17 (fun tq9 => ?_)
  have tg8 := okO tq9 rfl
  refine lv_iconst (v := (0 : Int32)) C.x C.b dX9_rule_20 (by decide) ?_
  refine r_puti C hR hS tg8 fl_X9_93 fp_X9_6_1 rfl dX9_rule_21 (fun H locs hR hS => ?_)
  obtain ⟨h10, e_h10⟩ : ∃ y, y = upI q7.2 (hpR q7.2 r0 0) 1 (0 : Int32) := ⟨_, rfl⟩
  rw [← e_h10] at hR
  have hf := lt_e hf e_h10
  have hE := eI e_h10 hE
  have t_r0 := tI e_h10 t_r0
  refine lv_iload_n C.x C.b dX9_rule_24 rfl (lv_at hl 0 rfl) ?_
  refine lv_iconst (v := (-1 : Int32)) C.x C.b dX9_rule_25 (by decide) ?_
  refine lv_icmp_eq (tgt := 33) C.x C.b dX9_rule_26 (by decide) (fun c11 => ?_) (fun c11 => ?_)
  · have hf := it_t hf c11
    refine lv_aload_n C.x C.b dX9_rule_33 rfl (lv_at hl 1 rfl) ?_
    obtain ⟨g12, hf⟩ := gd_e hf
    refine r_getr C hR t_r0 fl_X9_50 (by decide) (nz_e g12) dX9_rule_34 (fun tq13 => ?_)
    have tg12 := okO tq13 rfl
    refine lv_aload_n C.x C.b dX9_rule_37 rfl (lv_at hl 1 rfl) ?_
    obtain ⟨g14, hf⟩ := gd_e hf
    refine r_getr C hR t_r0 fl_X9_54 (by decide) (nz_e g14) dX9_rule_38 (fun tq15 => ?_)
    have tg14 := okO tq15 rfl
    obtain ⟨q16, h_q16, hf⟩ := bd_e hf
    refine r_callV (As := [.ref (G.2.2 + (hpR h10 r0 9))]) (rest := []) C hR hS tg12 rfl mk_X4_copy cl_X9_151 (k_X4_copy tg12 tg14 h_q16) ⟨⟨Nat.le_of_ble_eq_true rfl, Nat.le_of_ble_eq_true rfl⟩, ⟨rfl, rfl⟩, Nat.le_of_ble_eq_true rfl, Nat.le_of_ble_eq_true rfl⟩ rfl hl.1 rfl (Nat.le_of_ble_eq_true rfl) dX9_rule_41 (fun H locs hR hS hE1 z_q16 => ?_)
    have hE := hE.tr hE1
    have t_r0 := hE1.at t_r0 (by decide)
    refine lv_iconst (v := (0 : Int32)) C.x C.b dX9_rule_44 (by decide) ?_
    have hf := so_e hf
    subst hf
    exact r_iret C hr hlk hR hE hS dX9_rule_45
  · have hf := it_f hf c11
    refine lv_iconst (v := (-1 : Int32)) C.x C.b dX9_rule_29 (by decide) ?_
    refine lv_iload_n C.x C.b dX9_rule_30 rfl (lv_at hl 0 rfl) ?_
    refine lv_isub C.x C.b dX9_rule_31 ?_
    have hf := so_e hf
    subst hf
    exact r_iret C hr hlk hR hE hS dX9_rule_32

def rm_X9_entry : Room := { frames := 0, cells := 0, slots := 0, locals := 0 }
set_option maxRecDepth 100000 in
set_option maxHeartbeats 4000000 in
theorem k_X9_entry {G : Gt} {l : Launch}  {h : Hp} {x0 : Int32} {x1 : Int32} {out : Int32}   (hf : f_X9_entry  h x0 x1 = some out) : Mt G l yX9_entry cX9_entry 2 (some .int) rm_X9_entry [.int x0, .int x1] h (some (.int out)) h 0 0 0 := by
  refine r_met (by decide +kernel) (Nat.le_of_ble_eq_true rfl) ?_
  intro p e s m args below meth c ls C hr hlk hnm hR hS hl
  have hl : lv_has ls 2 [(0, .int x0), (1, .int x1)] := hl
  rw [f_X9_entry] at hf
  refine lv_iload_n C.x C.b dX9_entry_0 rfl (lv_at hl 0 rfl) ?_
  refine lv_if_ne (tgt := 7) C.x C.b dX9_entry_1 (by decide) (fun c1 => ?_) (fun c1 => ?_)
  · have hf := it_f hf c1
    refine lv_iload_n C.x C.b dX9_entry_7 rfl (lv_at hl 0 rfl) ?_
    refine lv_iconst (v := (1 : Int32)) C.x C.b dX9_entry_8 (by decide) ?_
    refine lv_icmp_ne (tgt := 17) C.x C.b dX9_entry_9 (by decide) (fun c2 => ?_) (fun c2 => ?_)
    · have hf := it_f hf c2
      refine lv_iload_n C.x C.b dX9_entry_17 rfl (lv_at hl 1 rfl) ?_
      have hf := so_e hf
      subst hf
      exact r_iret C hr hlk hR Ext.rf hS dX9_entry_18
    · have hf := it_t hf c2
      refine lv_iload_n C.x C.b dX9_entry_12 rfl (lv_at hl 1 rfl) ?_
      refine lv_i2s C.x C.b dX9_entry_13 rfl ?_
      refine lv_goto (tgt := 18) C.x C.b dX9_entry_14 (by decide) ?_
      have hf := so_e hf
      subst hf
      exact r_iret C hr hlk hR Ext.rf hS dX9_entry_18
  · have hf := it_t hf c1
    refine lv_iload_n C.x C.b dX9_entry_4 rfl (lv_at hl 1 rfl) ?_
    refine lv_i2b C.x C.b dX9_entry_5 rfl ?_
    have hf := so_e hf
    subst hf
    exact r_iret C hr hlk hR Ext.rf hS dX9_entry_6

def rm_X9_sheet : Room := { frames := 2, cells := 0, slots := 0, locals := 35 }
def P_X9_sheet_91 (G : Gt) (l : Launch) (p : Program) (e : Env) (s : State) (m : MethodId) (args : Array Value) (below : List Frame) (meth : Method) (c : Code) (h0 : Hp) (out : (Int32 × Hp)) (r0 : Nat) (x1 : Int32) (x2 : Int32) (x3 : Int32) (x4 : Int32) (k : Hp → Option (Int32 × Hp)) : Prop := ∀ (H : Heap) (locs : List Loc) (ls : Array Slot) (h : Hp), k h = some out → Ext h0 h → Rel G h H → va_S (AA G.2.2) s.heap H locs → hpT h r0 = (1, 9) → lv_has ls 6 [(0, .ref (G.2.2 + r0)), (1, .int x1), (2, .int x2), (3, .int x3), (4, .int x4)] → W p l e rm_X9_sheet s m args below meth c H locs 0 0 (MQ below (Qm G h0 out.2 (some (.int out.1)) 0) args s 0 0 (AA G.2.2)) (F0 m 91 ls [])
def P_X9_sheet_43 (G : Gt) (l : Launch) (p : Program) (e : Env) (s : State) (m : MethodId) (args : Array Value) (below : List Frame) (meth : Method) (c : Code) (h0 : Hp) (out : (Int32 × Hp)) (r0 : Nat) (x1 : Int32) (x2 : Int32) (x3 : Int32) (x4 : Int32) (k : Hp → Int32 → Option (Int32 × Hp)) : Prop := ∀ (H : Heap) (locs : List Loc) (ls : Array Slot) (h : Hp) (x5 : Int32), k h x5 = some out → Ext h0 h → Rel G h H → va_S (AA G.2.2) s.heap H locs → hpT h r0 = (1, 9) → lv_has ls 6 [(0, .ref (G.2.2 + r0)), (1, .int x1), (2, .int x2), (3, .int x3), (4, .int x4), (5, .int x5)] → W p l e rm_X9_sheet s m args below meth c H locs 0 0 (MQ below (Qm G h0 out.2 (some (.int out.1)) 0) args s 0 0 (AA G.2.2)) (F0 m 43 ls [])
set_option maxRecDepth 100000 in
set_option maxHeartbeats 4000000 in
theorem w_X9_sheet_91 {G : Gt} {l : Launch} {p : Program} {e : Env} {s : State} {m : MethodId} {args : Array Value} {below : List Frame} {meth : Method} {c : Code}  {h0 : Hp} {out : (Int32 × Hp)} {r0 : Nat} {x1 : Int32} {x2 : Int32} {x3 : Int32} {x4 : Int32}  (C : Cx G p m c cX9_sheet 6 s args RX9) (hr : meth.sig.returnType = some .int) (hlk : meth.locks = false)   : P_X9_sheet_91 G l p e s m args below meth c h0 out r0 x1 x2 x3 x4 (f_X9_sheet_91 r0 x1 x2 x3 x4) := by
  intro H locs ls h hf hE hR hS t_r0 hl
  rw [f_X9_sheet_91] at hf
  refine lv_aload_n C.x C.b dX9_sheet_91 rfl (lv_at hl 0 rfl) ?_
  obtain ⟨g21, hf⟩ := gd_e hf
  refine r_getr C hR t_r0 fl_X9_26 (by decide) (nz_e g21) dX9_sheet_92 (fun tq22 => ?_)
  have tg21 := okO tq22 rfl
  refine lv_iload_n C.x C.b dX9_sheet_95 rfl (lv_at hl 2 rfl) ?_
  obtain ⟨q23, h_q23, hf⟩ := bd_e hf
  refine r_callV (As := [.int x2]) (rest := []) C hR hS tg21 rfl mk_X0_weaken cl_X9_198 (k_X0_weaken tg21 h_q23) ⟨⟨Nat.le_of_ble_eq_true rfl, Nat.le_of_ble_eq_true rfl⟩, ⟨rfl, rfl⟩, Nat.le_of_ble_eq_true rfl, Nat.le_of_ble_eq_true rfl⟩ rfl hl.1 rfl (Nat.le_of_ble_eq_true rfl) dX9_sheet_96 (fun H locs hR hS hE1 z_q23 => ?_)
  have hE := hE.tr hE1
  have t_r0 := hE1.at t_r0 (by decide)
  refine lv_aload_n C.x C.b dX9_sheet_99 rfl (lv_at hl 0 rfl) ?_
  obtain ⟨g24, hf⟩ := gd_e hf
  refine r_getr C hR t_r0 fl_X9_26 (by decide) (nz_e g24) dX9_sheet_100 (fun tq25 => ?_)
  have tg24 := okO tq25 rfl
  obtain ⟨q26, h_q26, hf⟩ := bd_e hf
  refine r_callV (As := []) (rest := []) C hR hS tg24 rfl mk_X0_strengthOfAll cl_X9_207 (k_X0_strengthOfAll tg24 h_q26) ⟨⟨Nat.le_of_ble_eq_true rfl, Nat.le_of_ble_eq_true rfl⟩, ⟨rfl, rfl⟩, Nat.le_of_ble_eq_true rfl, Nat.le_of_ble_eq_true rfl⟩ rfl hl.1 rfl (Nat.le_of_ble_eq_true rfl) dX9_sheet_103 (fun H locs hR hS hE1 z_q26 => ?_)
  have hf := so_e hf
  subst hf
  exact r_iret C hr hlk hR hE hS dX9_sheet_106
set_option maxRecDepth 100000 in
set_option maxHeartbeats 4000000 in
theorem w_X9_sheet_43 {G : Gt} {l : Launch} {p : Program} {e : Env} {s : State} {m : MethodId} {args : Array Value} {below : List Frame} {meth : Method} {c : Code}  {h0 : Hp} {out : (Int32 × Hp)} {r0 : Nat} {x1 : Int32} {x2 : Int32} {x3 : Int32} {x4 : Int32}  (C : Cx G p m c cX9_sheet 6 s args RX9) (hr : meth.sig.returnType = some .int) (hlk : meth.locks = false)   (n : Nat) : P_X9_sheet_43 G l p e s m args below meth c h0 out r0 x1 x2 x3 x4 (f_X9_sheet_43 r0 x1 x2 x3 x4 n) := by
  induction n with
  | zero => intro H locs ls h x5 hf hE hR hS t_r0 hl; cases hf
  | succ n hk43 =>
    intro H locs ls h x5 hf hE hR hS t_r0 hl
    rw [f_X9_sheet_43] at hf
    obtain ⟨k43, e_k43⟩ : ∃ y, y = f_X9_sheet_43 r0 x1 x2 x3 x4 n := ⟨_, rfl⟩
    have hf := lt_e hf e_k43
    rw [← e_k43] at hk43
    refine lv_iload C.x C.b dX9_sheet_43 (lv_at hl 5 rfl) ?_
    refine lv_iload_n C.x C.b dX9_sheet_45 rfl (lv_at hl 2 rfl) ?_
    refine lv_icmp_ge (tgt := 91) C.x C.b dX9_sheet_46 (by decide) (fun c9 => ?_) (fun c9 => ?_)
    · have hf := it_t hf c9
      exact w_X9_sheet_91 C hr hlk _ _ _ _ hf hE hR hS t_r0 (lv_sub hl [0, 1, 2, 3, 4] rfl)
    · have hf := it_f hf c9
      refine lv_iload C.x C.b dX9_sheet_49 (lv_at hl 5 rfl) ?_
      refine lv_aload_n C.x C.b dX9_sheet_51 rfl (lv_at hl 0 rfl) ?_
      obtain ⟨g10, hf⟩ := gd_e hf
      refine r_getr C hR t_r0 fl_X9_26 (by decide) (nz_e g10) dX9_sheet_52 (fun tq11 => ?_)
      have tg10 := okO tq11 rfl
      refine r_geti C hR tg10 fl_X9_146 rfl dX9_sheet_55 ?_
      refine lv_icmp_ge (tgt := 91) C.x C.b dX9_sheet_58 (by decide) (fun c12 => ?_) (fun c12 => ?_)
      · have hf := it_t hf c12
        exact w_X9_sheet_91 C hr hlk _ _ _ _ hf hE hR hS t_r0 (lv_sub hl [0, 1, 2, 3, 4] rfl)
      · have hf := it_f hf c12
        refine lv_aload_n C.x C.b dX9_sheet_61 rfl (lv_at hl 0 rfl) ?_
        refine r_getr C hR t_r0 fl_X9_26 (by decide) (nz_e g10) dX9_sheet_62 (fun tq13 => ?_)
        obtain ⟨g14, hf⟩ := gd_e hf
        refine r_getr C hR tg10 fl_X9_170 (by decide) (nz_e g14) dX9_sheet_65 (fun tq15 => ?_)
        have tg14 := okA tq15 rfl
        refine lv_iload C.x C.b dX9_sheet_68 (lv_at hl 5 rfl) ?_
        refine lv_iload_n C.x C.b dX9_sheet_70 rfl (lv_at hl 1 rfl) ?_
        refine lv_iload_n C.x C.b dX9_sheet_71 rfl (lv_at hl 3 rfl) ?_
        refine lv_iload C.x C.b dX9_sheet_72 (lv_at hl 5 rfl) ?_
        refine lv_iload C.x C.b dX9_sheet_74 (lv_at hl 4 rfl) ?_
        refine lv_imul C.x C.b dX9_sheet_76 ?_
        refine lv_iadd C.x C.b dX9_sheet_77 ?_
        obtain ⟨q16, h_q16, hf⟩ := bd_e hf
        refine r_callS (As := [.int x1, .int (x3 + (x5 * x4))]) (rest := [.int x5, .ref (G.2.2 + (hpR h (hpR h r0 2) 9))]) C hR hS mk_X9_entry cl_X9_201 (k_X9_entry h_q16) ⟨⟨Nat.le_of_ble_eq_true rfl, Nat.le_of_ble_eq_true rfl⟩, ⟨rfl, rfl⟩, Nat.le_of_ble_eq_true rfl, Nat.le_of_ble_eq_true rfl⟩ rfl hl.1 rfl (Nat.le_of_ble_eq_true rfl) dX9_sheet_78 (fun H locs hR hS hE1 z_q16 => ?_)
        obtain ⟨q17, h_q17, hf⟩ := bd_e hf
        refine r_callS (As := [.int q16]) (rest := [.int x5, .ref (G.2.2 + (hpR h (hpR h r0 2) 9))]) C hR hS mk_X9_digitOf cl_X9_204 (k_X9_digitOf h_q17) ⟨⟨Nat.le_of_ble_eq_true rfl, Nat.le_of_ble_eq_true rfl⟩, ⟨rfl, rfl⟩, Nat.le_of_ble_eq_true rfl, Nat.le_of_ble_eq_true rfl⟩ rfl hl.1 rfl (Nat.le_of_ble_eq_true rfl) dX9_sheet_81 (fun H locs hR hS hE1 z_q17 => ?_)
        obtain ⟨g18, hf⟩ := gd_e hf
        refine r_iast C hR hS tg14 g18 dX9_sheet_84 (fun H locs hR hS => ?_)
        obtain ⟨h19, e_h19⟩ : ∃ y, y = upI h (hpR h (hpR h r0 2) 9) (ix x5) q17 := ⟨_, rfl⟩
        rw [← e_h19] at hR
        have hf := lt_e hf e_h19
        have hE := eI e_h19 hE
        have t_r0 := tI e_h19 t_r0
        obtain ⟨v20, e_v20⟩ : ∃ y : Int32, y = x5 + (1 : Int32) := ⟨_, rfl⟩
        have hf := lt_e hf e_v20
        refine lv_iinc (v := v20) (lv' := [(5, .int v20), (0, .ref (G.2.2 + r0)), (1, .int x1), (2, .int x2), (3, .int x3), (4, .int x4)]) C.x C.b dX9_sheet_85 hl (k := 5) rfl (by rw [e_v20]; rfl) (by decide) rfl (fun ls hl => ?_)
        refine lv_goto (tgt := 43) C.x C.b dX9_sheet_88 (by decide) ?_
        exact hk43 _ _ _ _ _ hf hE hR hS t_r0 (lv_sub hl [1, 2, 3, 4, 5, 0] rfl)
set_option maxRecDepth 100000 in
set_option maxHeartbeats 4000000 in
theorem k_X9_sheet {G : Gt} {l : Launch}  {h : Hp} {r0 : Nat} {x1 : Int32} {x2 : Int32} {x3 : Int32} {x4 : Int32} {out : (Int32 × Hp)} (t_r0 : hpT h r0 = (1, 9))  (hf : f_X9_sheet  h r0 x1 x2 x3 x4 = some out) : Mt G l yX9_sheet cX9_sheet 6 (some .int) rm_X9_sheet [.ref (G.2.2 + r0), .int x1, .int x2, .int x3, .int x4] h (some (.int out.1)) out.2 0 0 0 := by
  refine r_met (by decide +kernel) (Nat.le_of_ble_eq_true rfl) ?_
  intro p e s m args below meth c ls C hr hlk hnm hR hS hl
  have hE : Ext h h := Ext.rf
  have hl : lv_has ls 6 [(0, .ref (G.2.2 + r0)), (1, .int x1), (2, .int x2), (3, .int x3), (4, .int x4)] := hl
  rw [f_X9_sheet] at hf
  refine lv_iload_n C.x C.b dX9_sheet_0 rfl (lv_at hl 1 rfl) ?_
  refine lv_if_lt (tgt := 15) C.x C.b dX9_sheet_1 (by decide) (fun c1 => ?_) (fun c1 => ?_)
  · have hf := it_t hf c1
    refine lv_iconst (v := (-1 : Int32)) C.x C.b dX9_sheet_15 (by decide) ?_
    have hf := so_e hf
    subst hf
    exact r_iret C hr hlk hR hE hS dX9_sheet_16
  · have hf := it_f hf c1
    refine lv_iload_n C.x C.b dX9_sheet_4 rfl (lv_at hl 1 rfl) ?_
    refine lv_iconst (v := (3 : Int32)) C.x C.b dX9_sheet_5 (by decide) ?_
    refine lv_icmp_gt (tgt := 15) C.x C.b dX9_sheet_6 (by decide) (fun c2 => ?_) (fun c2 => ?_)
    · have hf := it_t hf c2
      refine lv_iconst (v := (-1 : Int32)) C.x C.b dX9_sheet_15 (by decide) ?_
      have hf := so_e hf
      subst hf
      exact r_iret C hr hlk hR hE hS dX9_sheet_16
    · have hf := it_f hf c2
      refine lv_iload_n C.x C.b dX9_sheet_9 rfl (lv_at hl 2 rfl) ?_
      refine lv_bipush (v := (8 : Int32)) C.x C.b dX9_sheet_10 (by decide) ?_
      refine lv_icmp_le (tgt := 17) C.x C.b dX9_sheet_12 (by decide) (fun c3 => ?_) (fun c3 => ?_)
      · have hf := it_t hf c3
        refine lv_iload_n C.x C.b dX9_sheet_17 rfl (lv_at hl 1 rfl) ?_
        refine lv_iconst (v := (3 : Int32)) C.x C.b dX9_sheet_18 (by decide) ?_
        refine lv_icmp_ne (tgt := 33) C.x C.b dX9_sheet_19 (by decide) (fun c4 => ?_) (fun c4 => ?_)
        · have hf := it_f hf c4
          refine lv_iload_n C.x C.b dX9_sheet_33 rfl (lv_at hl 2 rfl) ?_
          refine lv_if_ge (tgt := 40) C.x C.b dX9_sheet_34 (by decide) (fun c5 => ?_) (fun c5 => ?_)
          · have hf := it_t hf c5
            refine lv_iconst (v := (0 : Int32)) C.x C.b dX9_sheet_40 (by decide) ?_
            refine lv_istore (lv' := [(5, .int (0 : Int32)), (0, .ref (G.2.2 + r0)), (1, .int x1), (2, .int x2), (3, .int x3), (4, .int x4)]) C.x C.b dX9_sheet_41 hl (by decide) rfl (fun ls hl => ?_)
            exact w_X9_sheet_43 C hr hlk FU _ _ _ _ _ hf hE hR hS t_r0 (lv_sub hl [1, 2, 3, 4, 5, 0] rfl)
          · have hf := it_f hf c5
            refine lv_bipush (v := (-2 : Int32)) C.x C.b dX9_sheet_37 (by decide) ?_
            have hf := so_e hf
            subst hf
            exact r_iret C hr hlk hR hE hS dX9_sheet_39
        · have hf := it_t hf c4
          refine lv_aload_n C.x C.b dX9_sheet_22 rfl (lv_at hl 0 rfl) ?_
          obtain ⟨g6, hf⟩ := gd_e hf
          refine r_getr C hR t_r0 fl_X9_26 (by decide) (nz_e g6) dX9_sheet_23 (fun tq7 => ?_)
          have tg6 := okO tq7 rfl
          refine lv_iconst (v := (0 : Int32)) C.x C.b dX9_sheet_26 (by decide) ?_
          obtain ⟨q8, h_q8, hf⟩ := bd_e hf
          refine r_callV (As := [.int (0 : Int32)]) (rest := []) C hR hS tg6 rfl mk_X0_weaken cl_X9_198 (k_X0_weaken tg6 h_q8) ⟨⟨Nat.le_of_ble_eq_true rfl, Nat.le_of_ble_eq_true rfl⟩, ⟨rfl, rfl⟩, Nat.le_of_ble_eq_true rfl, Nat.le_of_ble_eq_true rfl⟩ rfl hl.1 rfl (Nat.le_of_ble_eq_true rfl) dX9_sheet_27 (fun H locs hR hS hE1 z_q8 => ?_)
          have hE := hE.tr hE1
          have t_r0 := hE1.at t_r0 (by decide)
          refine lv_bipush (v := (-3 : Int32)) C.x C.b dX9_sheet_30 (by decide) ?_
          have hf := so_e hf
          subst hf
          exact r_iret C hr hlk hR hE hS dX9_sheet_32
      · have hf := it_f hf c3
        refine lv_iconst (v := (-1 : Int32)) C.x C.b dX9_sheet_15 (by decide) ?_
        have hf := so_e hf
        subst hf
        exact r_iret C hr hlk hR hE hS dX9_sheet_16

def rm_X9_years : Room := { frames := 6, cells := 0, slots := 0, locals := 130 }
set_option maxRecDepth 100000 in
set_option maxHeartbeats 4000000 in
theorem k_X9_years {G : Gt} {l : Launch}  {h : Hp} {r0 : Nat} {x1 : Int32} {out : (Int32 × Hp)} (t_r0 : hpT h r0 = (1, 9))  (hf : f_X9_years  h r0 x1 = some out) : Mt G l yX9_years cX9_years 3 (some .int) rm_X9_years [.ref (G.2.2 + r0), .int x1] h (some (.int out.1)) out.2 0 0 0 := by
  refine r_met (by decide +kernel) (Nat.le_of_ble_eq_true rfl) ?_
  intro p e s m args below meth c ls C hr hlk hnm hR hS hl
  have hE : Ext h h := Ext.rf
  have hl : lv_has ls 3 [(0, .ref (G.2.2 + r0)), (1, .int x1)] := hl
  rw [f_X9_years] at hf
  refine lv_iload_n C.x C.b dX9_years_0 rfl (lv_at hl 1 rfl) ?_
  refine lv_if_lt (tgt := 10) C.x C.b dX9_years_1 (by decide) (fun c1 => ?_) (fun c1 => ?_)
  · have hf := it_t hf c1
    refine lv_iconst (v := (-1 : Int32)) C.x C.b dX9_years_10 (by decide) ?_
    have hf := so_e hf
    subst hf
    exact r_iret C hr hlk hR hE hS dX9_years_11
  · have hf := it_f hf c1
    refine lv_iload_n C.x C.b dX9_years_4 rfl (lv_at hl 1 rfl) ?_
    refine lv_bipush (v := (60 : Int32)) C.x C.b dX9_years_5 (by decide) ?_
    refine lv_icmp_le (tgt := 12) C.x C.b dX9_years_7 (by decide) (fun c2 => ?_) (fun c2 => ?_)
    · have hf := it_t hf c2
      refine lv_aload_n C.x C.b dX9_years_12 rfl (lv_at hl 0 rfl) ?_
      obtain ⟨g3, hf⟩ := gd_e hf
      refine r_getr C hR t_r0 fl_X9_30 (by decide) (nz_e g3) dX9_years_13 (fun tq4 => ?_)
      have tg3 := okO tq4 rfl
      refine lv_aload_n C.x C.b dX9_years_16 rfl (lv_at hl 0 rfl) ?_
      obtain ⟨g5, hf⟩ := gd_e hf
      refine r_getr C hR t_r0 fl_X9_26 (by decide) (nz_e g5) dX9_years_17 (fun tq6 => ?_)
      have tg5 := okO tq6 rfl
      obtain ⟨q7, h_q7, hf⟩ := bd_e hf
      refine r_callV (As := [.ref (G.2.2 + (hpR h r0 2))]) (rest := []) C hR hS tg3 rfl mk_X0_copy cl_X9_134 (k_X0_copy tg3 tg5 h_q7) ⟨⟨Nat.le_of_ble_eq_true rfl, Nat.le_of_ble_eq_true rfl⟩, ⟨rfl, rfl⟩, Nat.le_of_ble_eq_true rfl, Nat.le_of_ble_eq_true rfl⟩ rfl hl.1 rfl (Nat.le_of_ble_eq_true rfl) dX9_years_20 (fun H locs hR hS hE1 z_q7 => ?_)
      have hE := hE.tr hE1
      have t_r0 := hE1.at t_r0 (by decide)
      refine lv_aload_n C.x C.b dX9_years_23 rfl (lv_at hl 0 rfl) ?_
      obtain ⟨g8, hf⟩ := gd_e hf
      refine r_getr C hR t_r0 fl_X9_26 (by decide) (nz_e g8) dX9_years_24 (fun tq9 => ?_)
      have tg8 := okO tq9 rfl
      refine lv_aload_n C.x C.b dX9_years_27 rfl (lv_at hl 0 rfl) ?_
      obtain ⟨g10, hf⟩ := gd_e hf
      refine r_getr C hR t_r0 fl_X9_50 (by decide) (nz_e g10) dX9_years_28 (fun tq11 => ?_)
      have tg10 := okO tq11 rfl
      refine lv_iload_n C.x C.b dX9_years_31 rfl (lv_at hl 1 rfl) ?_
      obtain ⟨q12, h_q12, hf⟩ := bd_e hf
      refine r_callV (As := [.ref (G.2.2 + (hpR q7 r0 8)), .int x1]) (rest := []) C hR hS tg8 rfl mk_X0_goByTimes cl_X9_213 (k_X0_goByTimes tg8 tg10 h_q12) ⟨⟨Nat.le_of_ble_eq_true rfl, Nat.le_of_ble_eq_true rfl⟩, ⟨rfl, rfl⟩, Nat.le_of_ble_eq_true rfl, Nat.le_of_ble_eq_true rfl⟩ rfl hl.1 rfl (Nat.le_of_ble_eq_true rfl) dX9_years_32 (fun H locs hR hS hE1 z_q12 => ?_)
      have hE := hE.tr hE1
      have t_r0 := hE1.at t_r0 (by decide)
      refine lv_istore_n (lv' := [(2, .int q12.1), (0, .ref (G.2.2 + r0)), (1, .int x1)]) C.x C.b dX9_years_35 rfl hl (by decide) rfl (fun ls hl => ?_)
      refine lv_aload_n C.x C.b dX9_years_36 rfl (lv_at hl 1 rfl) ?_
      obtain ⟨g13, hf⟩ := gd_e hf
      refine r_getr C hR t_r0 fl_X9_39 (by decide) (nz_e g13) dX9_years_37 (fun tq14 => ?_)
      have tg13 := okO tq14 rfl
      refine lv_aload_n C.x C.b dX9_years_40 rfl (lv_at hl 1 rfl) ?_
      obtain ⟨g15, hf⟩ := gd_e hf
      refine r_getr C hR t_r0 fl_X9_30 (by decide) (nz_e g15) dX9_years_41 (fun tq16 => ?_)
      have tg15 := okO tq16 rfl
      obtain ⟨q17, h_q17, hf⟩ := bd_e hf
      refine r_callV (As := [.ref (G.2.2 + (hpR q12.2 r0 3))]) (rest := []) C hR hS tg13 rfl mk_X3_push cl_X9_217 (k_X3_push tg13 tg15 h_q17) ⟨⟨Nat.le_of_ble_eq_true rfl, Nat.le_of_ble_eq_true rfl⟩, ⟨rfl, rfl⟩, Nat.le_of_ble_eq_true rfl, Nat.le_of_ble_eq_true rfl⟩ rfl hl.1 rfl (Nat.le_of_ble_eq_true rfl) dX9_years_44 (fun H locs hR hS hE1 z_q17 => ?_)
      have hE := hE.tr hE1
      have t_r0 := hE1.at t_r0 (by decide)
      refine lv_aload_n C.x C.b dX9_years_47 rfl (lv_at hl 1 rfl) ?_
      obtain ⟨g18, hf⟩ := gd_e hf
      refine r_getr C hR t_r0 fl_X9_19 (by decide) (nz_e g18) dX9_years_48 (fun tq19 => ?_)
      have tg18 := okO tq19 rfl
      obtain ⟨q20, h_q20, hf⟩ := bd_e hf
      refine r_callV (As := []) (rest := []) C hR hS tg18 rfl mk_X7_start cl_X9_220 (k_X7_start tg18 h_q20) ⟨⟨Nat.le_of_ble_eq_true rfl, Nat.le_of_ble_eq_true rfl⟩, ⟨rfl, rfl⟩, Nat.le_of_ble_eq_true rfl, Nat.le_of_ble_eq_true rfl⟩ rfl hl.1 rfl (Nat.le_of_ble_eq_true rfl) dX9_years_51 (fun H locs hR hS hE1 z_q20 => ?_)
      have hE := hE.tr hE1
      have t_r0 := hE1.at t_r0 (by decide)
      refine lv_aload_n C.x C.b dX9_years_54 rfl (lv_at hl 1 rfl) ?_
      obtain ⟨g21, hf⟩ := gd_e hf
      refine r_getr C hR t_r0 fl_X9_19 (by decide) (nz_e g21) dX9_years_55 (fun tq22 => ?_)
      have tg21 := okO tq22 rfl
      refine lv_iload_n C.x C.b dX9_years_58 rfl (lv_at hl 0 rfl) ?_
      refine lv_i2l C.x C.b dX9_years_59 rfl ?_
      obtain ⟨q23, h_q23, hf⟩ := bd_e hf
      refine r_callV (As := [.long (q12.1.toInt64)]) (rest := []) C hR hS tg21 rfl mk_X7_add cl_X9_223 (k_X7_add tg21 h_q23) ⟨⟨Nat.le_of_ble_eq_true rfl, Nat.le_of_ble_eq_true rfl⟩, ⟨rfl, rfl⟩, Nat.le_of_ble_eq_true rfl, Nat.le_of_ble_eq_true rfl⟩ rfl hl.1 rfl (Nat.le_of_ble_eq_true rfl) dX9_years_60 (fun H locs hR hS hE1 z_q23 => ?_)
      have hE := hE.tr hE1
      have t_r0 := hE1.at t_r0 (by decide)
      refine lv_aload_n C.x C.b dX9_years_63 rfl (lv_at hl 1 rfl) ?_
      obtain ⟨g24, hf⟩ := gd_e hf
      refine r_getr C hR t_r0 fl_X9_19 (by decide) (nz_e g24) dX9_years_64 (fun tq25 => ?_)
      have tg24 := okO tq25 rfl
      refine lv_aload_n C.x C.b dX9_years_67 rfl (lv_at hl 1 rfl) ?_
      obtain ⟨g26, hf⟩ := gd_e hf
      refine r_getr C hR t_r0 fl_X9_26 (by decide) (nz_e g26) dX9_years_68 (fun tq27 => ?_)
      have tg26 := okO tq27 rfl
      obtain ⟨q28, h_q28, hf⟩ := bd_e hf
      refine r_callV (As := []) (rest := [.ref (G.2.2 + (hpR q23 r0 1))]) C hR hS tg26 rfl mk_X0_strengthOfAll cl_X9_207 (k_X0_strengthOfAll tg26 h_q28) ⟨⟨Nat.le_of_ble_eq_true rfl, Nat.le_of_ble_eq_true rfl⟩, ⟨rfl, rfl⟩, Nat.le_of_ble_eq_true rfl, Nat.le_of_ble_eq_true rfl⟩ rfl hl.1 rfl (Nat.le_of_ble_eq_true rfl) dX9_years_71 (fun H locs hR hS hE1 z_q28 => ?_)
      refine lv_i2l C.x C.b dX9_years_74 rfl ?_
      obtain ⟨q29, h_q29, hf⟩ := bd_e hf
      refine r_callV (As := [.long (q28.toInt64)]) (rest := []) C hR hS tg24 rfl mk_X7_add cl_X9_223 (k_X7_add tg24 h_q29) ⟨⟨Nat.le_of_ble_eq_true rfl, Nat.le_of_ble_eq_true rfl⟩, ⟨rfl, rfl⟩, Nat.le_of_ble_eq_true rfl, Nat.le_of_ble_eq_true rfl⟩ rfl hl.1 rfl (Nat.le_of_ble_eq_true rfl) dX9_years_75 (fun H locs hR hS hE1 z_q29 => ?_)
      have hE := hE.tr hE1
      have t_r0 := hE1.at t_r0 (by decide)
      refine lv_aload_n C.x C.b dX9_years_78 rfl (lv_at hl 1 rfl) ?_
      obtain ⟨g30, hf⟩ := gd_e hf
      refine r_getr C hR t_r0 fl_X9_26 (by decide) (nz_e g30) dX9_years_79 (fun tq31 => ?_)
      have tg30 := okO tq31 rfl
      obtain ⟨q32, h_q32, hf⟩ := bd_e hf
      refine r_callV (As := []) (rest := []) C hR hS tg30 rfl mk_X0_onCount cl_X9_226 (k_X0_onCount tg30 h_q32) ⟨⟨Nat.le_of_ble_eq_true rfl, Nat.le_of_ble_eq_true rfl⟩, ⟨rfl, rfl⟩, Nat.le_of_ble_eq_true rfl, Nat.le_of_ble_eq_true rfl⟩ rfl hl.1 rfl (Nat.le_of_ble_eq_true rfl) dX9_years_82 (fun H locs hR hS hE1 z_q32 => ?_)
      have hf := so_e hf
      subst hf
      exact r_iret C hr hlk hR hE hS dX9_years_85
    · have hf := it_f hf c2
      refine lv_iconst (v := (-1 : Int32)) C.x C.b dX9_years_10 (by decide) ?_
      have hf := so_e hf
      subst hf
      exact r_iret C hr hlk hR hE hS dX9_years_11

def rm_X9_noted : Room := { frames := 3, cells := 0, slots := 0, locals := 60 }
set_option maxRecDepth 100000 in
set_option maxHeartbeats 4000000 in
theorem k_X9_noted {G : Gt} {l : Launch}  {h : Hp} {r0 : Nat} {x1 : Int32} {out : (Int32 × Hp)} (t_r0 : hpT h r0 = (1, 9))  (hf : f_X9_noted  h r0 x1 = some out) : Mt G l yX9_noted cX9_noted 2 (some .int) rm_X9_noted [.ref (G.2.2 + r0), .int x1] h (some (.int out.1)) out.2 0 0 0 := by
  refine r_met (by decide +kernel) (Nat.le_of_ble_eq_true rfl) ?_
  intro p e s m args below meth c ls C hr hlk hnm hR hS hl
  have hE : Ext h h := Ext.rf
  have hl : lv_has ls 2 [(0, .ref (G.2.2 + r0)), (1, .int x1)] := hl
  rw [f_X9_noted] at hf
  refine lv_iload_n C.x C.b dX9_noted_0 rfl (lv_at hl 1 rfl) ?_
  refine lv_if_lt (tgt := 15) C.x C.b dX9_noted_1 (by decide) (fun c1 => ?_) (fun c1 => ?_)
  · have hf := it_t hf c1
    refine lv_iload_n C.x C.b dX9_noted_15 rfl (lv_at hl 1 rfl) ?_
    have hf := so_e hf
    subst hf
    exact r_iret C hr hlk hR hE hS dX9_noted_16
  · have hf := it_f hf c1
    refine lv_aload_n C.x C.b dX9_noted_4 rfl (lv_at hl 0 rfl) ?_
    obtain ⟨g2, hf⟩ := gd_e hf
    refine r_getr C hR t_r0 fl_X9_39 (by decide) (nz_e g2) dX9_noted_5 (fun tq3 => ?_)
    have tg2 := okO tq3 rfl
    refine lv_aload_n C.x C.b dX9_noted_8 rfl (lv_at hl 0 rfl) ?_
    obtain ⟨g4, hf⟩ := gd_e hf
    refine r_getr C hR t_r0 fl_X9_30 (by decide) (nz_e g4) dX9_noted_9 (fun tq5 => ?_)
    have tg4 := okO tq5 rfl
    obtain ⟨q6, h_q6, hf⟩ := bd_e hf
    refine r_callV (As := [.ref (G.2.2 + (hpR h r0 3))]) (rest := []) C hR hS tg2 rfl mk_X3_push cl_X9_217 (k_X3_push tg2 tg4 h_q6) ⟨⟨Nat.le_of_ble_eq_true rfl, Nat.le_of_ble_eq_true rfl⟩, ⟨rfl, rfl⟩, Nat.le_of_ble_eq_true rfl, Nat.le_of_ble_eq_true rfl⟩ rfl hl.1 rfl (Nat.le_of_ble_eq_true rfl) dX9_noted_12 (fun H locs hR hS hE1 z_q6 => ?_)
    have hE := hE.tr hE1
    have t_r0 := hE1.at t_r0 (by decide)
    refine lv_iload_n C.x C.b dX9_noted_15 rfl (lv_at hl 1 rfl) ?_
    have hf := so_e hf
    subst hf
    exact r_iret C hr hlk hR hE hS dX9_noted_16

def rm_X9_pitch : Room := { frames := 5, cells := 0, slots := 0, locals := 113 }
set_option maxRecDepth 100000 in
set_option maxHeartbeats 4000000 in
theorem k_X9_pitch {G : Gt} {l : Launch}  {h : Hp} {r0 : Nat} {x1 : Int32} {x2 : Int32} {x3 : Int32} {x4 : Int32} {x5 : Int32} {out : (Int32 × Hp)} (t_r0 : hpT h r0 = (1, 9))  (hf : f_X9_pitch  h r0 x1 x2 x3 x4 x5 = some out) : Mt G l yX9_pitch cX9_pitch 6 (some .int) rm_X9_pitch [.ref (G.2.2 + r0), .int x1, .int x2, .int x3, .int x4, .int x5] h (some (.int out.1)) out.2 0 0 0 := by
  refine r_met (by decide +kernel) (Nat.le_of_ble_eq_true rfl) ?_
  intro p e s m args below meth c ls C hr hlk hnm hR hS hl
  have hE : Ext h h := Ext.rf
  have hl : lv_has ls 6 [(0, .ref (G.2.2 + r0)), (1, .int x1), (2, .int x2), (3, .int x3), (4, .int x4), (5, .int x5)] := hl
  rw [f_X9_pitch] at hf
  refine lv_aload_n C.x C.b dX9_pitch_0 rfl (lv_at hl 0 rfl) ?_
  obtain ⟨g1, hf⟩ := gd_e hf
  refine r_getr C hR t_r0 fl_X9_30 (by decide) (nz_e g1) dX9_pitch_1 (fun tq2 => ?_)
  have tg1 := okO tq2 rfl
  refine lv_aload_n C.x C.b dX9_pitch_4 rfl (lv_at hl 0 rfl) ?_
  obtain ⟨g3, hf⟩ := gd_e hf
  refine r_getr C hR t_r0 fl_X9_26 (by decide) (nz_e g3) dX9_pitch_5 (fun tq4 => ?_)
  have tg3 := okO tq4 rfl
  obtain ⟨q5, h_q5, hf⟩ := bd_e hf
  refine r_callV (As := [.ref (G.2.2 + (hpR h r0 2))]) (rest := []) C hR hS tg1 rfl mk_X0_copy cl_X9_134 (k_X0_copy tg1 tg3 h_q5) ⟨⟨Nat.le_of_ble_eq_true rfl, Nat.le_of_ble_eq_true rfl⟩, ⟨rfl, rfl⟩, Nat.le_of_ble_eq_true rfl, Nat.le_of_ble_eq_true rfl⟩ rfl hl.1 rfl (Nat.le_of_ble_eq_true rfl) dX9_pitch_8 (fun H locs hR hS hE1 z_q5 => ?_)
  have hE := hE.tr hE1
  have t_r0 := hE1.at t_r0 (by decide)
  refine lv_aload_n C.x C.b dX9_pitch_11 rfl (lv_at hl 0 rfl) ?_
  refine lv_aload_n C.x C.b dX9_pitch_12 rfl (lv_at hl 0 rfl) ?_
  obtain ⟨g6, hf⟩ := gd_e hf
  refine r_getr C hR t_r0 fl_X9_26 (by decide) (nz_e g6) dX9_pitch_13 (fun tq7 => ?_)
  have tg6 := okO tq7 rfl
  refine lv_iload_n C.x C.b dX9_pitch_16 rfl (lv_at hl 1 rfl) ?_
  refine lv_iload_n C.x C.b dX9_pitch_17 rfl (lv_at hl 2 rfl) ?_
  refine lv_iload_n C.x C.b dX9_pitch_18 rfl (lv_at hl 3 rfl) ?_
  refine lv_iload C.x C.b dX9_pitch_19 (lv_at hl 4 rfl) ?_
  refine lv_iload C.x C.b dX9_pitch_21 (lv_at hl 5 rfl) ?_
  obtain ⟨q8, h_q8, hf⟩ := bd_e hf
  refine r_callV (As := [.int x1, .int x2, .int x3, .int x4, .int x5]) (rest := [.ref (G.2.2 + r0)]) C hR hS tg6 rfl mk_X0_pitchOn cl_X9_229 (k_X0_pitchOn tg6 h_q8) ⟨⟨Nat.le_of_ble_eq_true rfl, Nat.le_of_ble_eq_true rfl⟩, ⟨rfl, rfl⟩, Nat.le_of_ble_eq_true rfl, Nat.le_of_ble_eq_true rfl⟩ rfl hl.1 rfl (Nat.le_of_ble_eq_true rfl) dX9_pitch_23 (fun H locs hR hS hE1 z_q8 => ?_)
  have hE := hE.tr hE1
  have t_r0 := hE1.at t_r0 (by decide)
  obtain ⟨q9, h_q9, hf⟩ := bd_e hf
  refine r_callV (As := [.int q8.1]) (rest := []) C hR hS t_r0 rfl mk_X9_noted cl_X9_233 (k_X9_noted t_r0 h_q9) ⟨⟨Nat.le_of_ble_eq_true rfl, Nat.le_of_ble_eq_true rfl⟩, ⟨rfl, rfl⟩, Nat.le_of_ble_eq_true rfl, Nat.le_of_ble_eq_true rfl⟩ rfl hl.1 rfl (Nat.le_of_ble_eq_true rfl) dX9_pitch_26 (fun H locs hR hS hE1 z_q9 => ?_)
  have hE := hE.tr hE1
  have t_r0 := hE1.at t_r0 (by decide)
  have hf := so_e hf
  subst hf
  exact r_iret C hr hlk hR hE hS dX9_pitch_29

def rm_X9_treads : Room := { frames := 4, cells := 0, slots := 0, locals := 81 }
set_option maxRecDepth 100000 in
set_option maxHeartbeats 4000000 in
theorem k_X9_treads {G : Gt} {l : Launch}  {h : Hp} {r0 : Nat} {x1 : Int32} {x2 : Int32} {out : (Int32 × Hp)} (t_r0 : hpT h r0 = (1, 9))  (hf : f_X9_treads  h r0 x1 x2 = some out) : Mt G l yX9_treads cX9_treads 3 (some .int) rm_X9_treads [.ref (G.2.2 + r0), .int x1, .int x2] h (some (.int out.1)) out.2 0 0 0 := by
  refine r_met (by decide +kernel) (Nat.le_of_ble_eq_true rfl) ?_
  intro p e s m args below meth c ls C hr hlk hnm hR hS hl
  have hE : Ext h h := Ext.rf
  have hl : lv_has ls 3 [(0, .ref (G.2.2 + r0)), (1, .int x1), (2, .int x2)] := hl
  rw [f_X9_treads] at hf
  refine lv_aload_n C.x C.b dX9_treads_0 rfl (lv_at hl 0 rfl) ?_
  obtain ⟨g1, hf⟩ := gd_e hf
  refine r_getr C hR t_r0 fl_X9_30 (by decide) (nz_e g1) dX9_treads_1 (fun tq2 => ?_)
  have tg1 := okO tq2 rfl
  refine lv_aload_n C.x C.b dX9_treads_4 rfl (lv_at hl 0 rfl) ?_
  obtain ⟨g3, hf⟩ := gd_e hf
  refine r_getr C hR t_r0 fl_X9_26 (by decide) (nz_e g3) dX9_treads_5 (fun tq4 => ?_)
  have tg3 := okO tq4 rfl
  obtain ⟨q5, h_q5, hf⟩ := bd_e hf
  refine r_callV (As := [.ref (G.2.2 + (hpR h r0 2))]) (rest := []) C hR hS tg1 rfl mk_X0_copy cl_X9_134 (k_X0_copy tg1 tg3 h_q5) ⟨⟨Nat.le_of_ble_eq_true rfl, Nat.le_of_ble_eq_true rfl⟩, ⟨rfl, rfl⟩, Nat.le_of_ble_eq_true rfl, Nat.le_of_ble_eq_true rfl⟩ rfl hl.1 rfl (Nat.le_of_ble_eq_true rfl) dX9_treads_8 (fun H locs hR hS hE1 z_q5 => ?_)
  have hE := hE.tr hE1
  have t_r0 := hE1.at t_r0 (by decide)
  refine lv_aload_n C.x C.b dX9_treads_11 rfl (lv_at hl 0 rfl) ?_
  refine lv_aload_n C.x C.b dX9_treads_12 rfl (lv_at hl 0 rfl) ?_
  obtain ⟨g6, hf⟩ := gd_e hf
  refine r_getr C hR t_r0 fl_X9_26 (by decide) (nz_e g6) dX9_treads_13 (fun tq7 => ?_)
  have tg6 := okO tq7 rfl
  refine lv_iload_n C.x C.b dX9_treads_16 rfl (lv_at hl 1 rfl) ?_
  refine lv_iload_n C.x C.b dX9_treads_17 rfl (lv_at hl 2 rfl) ?_
  obtain ⟨q8, h_q8, hf⟩ := bd_e hf
  refine r_callV (As := [.int x1, .int x2]) (rest := [.ref (G.2.2 + r0)]) C hR hS tg6 rfl mk_X0_treadOn cl_X9_236 (k_X0_treadOn tg6 h_q8) ⟨⟨Nat.le_of_ble_eq_true rfl, Nat.le_of_ble_eq_true rfl⟩, ⟨rfl, rfl⟩, Nat.le_of_ble_eq_true rfl, Nat.le_of_ble_eq_true rfl⟩ rfl hl.1 rfl (Nat.le_of_ble_eq_true rfl) dX9_treads_18 (fun H locs hR hS hE1 z_q8 => ?_)
  have hE := hE.tr hE1
  have t_r0 := hE1.at t_r0 (by decide)
  obtain ⟨q9, h_q9, hf⟩ := bd_e hf
  refine r_callV (As := [.int q8.1]) (rest := []) C hR hS t_r0 rfl mk_X9_noted cl_X9_233 (k_X9_noted t_r0 h_q9) ⟨⟨Nat.le_of_ble_eq_true rfl, Nat.le_of_ble_eq_true rfl⟩, ⟨rfl, rfl⟩, Nat.le_of_ble_eq_true rfl, Nat.le_of_ble_eq_true rfl⟩ rfl hl.1 rfl (Nat.le_of_ble_eq_true rfl) dX9_treads_21 (fun H locs hR hS hE1 z_q9 => ?_)
  have hE := hE.tr hE1
  have t_r0 := hE1.at t_r0 (by decide)
  have hf := so_e hf
  subst hf
  exact r_iret C hr hlk hR hE hS dX9_treads_24

def rm_X9_sings : Room := { frames := 4, cells := 0, slots := 0, locals := 81 }
set_option maxRecDepth 100000 in
set_option maxHeartbeats 4000000 in
theorem k_X9_sings {G : Gt} {l : Launch}  {h : Hp} {r0 : Nat} {x1 : Int32} {x2 : Int32} {out : (Int32 × Hp)} (t_r0 : hpT h r0 = (1, 9))  (hf : f_X9_sings  h r0 x1 x2 = some out) : Mt G l yX9_sings cX9_sings 3 (some .int) rm_X9_sings [.ref (G.2.2 + r0), .int x1, .int x2] h (some (.int out.1)) out.2 0 0 0 := by
  refine r_met (by decide +kernel) (Nat.le_of_ble_eq_true rfl) ?_
  intro p e s m args below meth c ls C hr hlk hnm hR hS hl
  have hE : Ext h h := Ext.rf
  have hl : lv_has ls 3 [(0, .ref (G.2.2 + r0)), (1, .int x1), (2, .int x2)] := hl
  rw [f_X9_sings] at hf
  refine lv_aload_n C.x C.b dX9_sings_0 rfl (lv_at hl 0 rfl) ?_
  obtain ⟨g1, hf⟩ := gd_e hf
  refine r_getr C hR t_r0 fl_X9_30 (by decide) (nz_e g1) dX9_sings_1 (fun tq2 => ?_)
  have tg1 := okO tq2 rfl
  refine lv_aload_n C.x C.b dX9_sings_4 rfl (lv_at hl 0 rfl) ?_
  obtain ⟨g3, hf⟩ := gd_e hf
  refine r_getr C hR t_r0 fl_X9_26 (by decide) (nz_e g3) dX9_sings_5 (fun tq4 => ?_)
  have tg3 := okO tq4 rfl
  obtain ⟨q5, h_q5, hf⟩ := bd_e hf
  refine r_callV (As := [.ref (G.2.2 + (hpR h r0 2))]) (rest := []) C hR hS tg1 rfl mk_X0_copy cl_X9_134 (k_X0_copy tg1 tg3 h_q5) ⟨⟨Nat.le_of_ble_eq_true rfl, Nat.le_of_ble_eq_true rfl⟩, ⟨rfl, rfl⟩, Nat.le_of_ble_eq_true rfl, Nat.le_of_ble_eq_true rfl⟩ rfl hl.1 rfl (Nat.le_of_ble_eq_true rfl) dX9_sings_8 (fun H locs hR hS hE1 z_q5 => ?_)
  have hE := hE.tr hE1
  have t_r0 := hE1.at t_r0 (by decide)
  refine lv_aload_n C.x C.b dX9_sings_11 rfl (lv_at hl 0 rfl) ?_
  refine lv_aload_n C.x C.b dX9_sings_12 rfl (lv_at hl 0 rfl) ?_
  obtain ⟨g6, hf⟩ := gd_e hf
  refine r_getr C hR t_r0 fl_X9_26 (by decide) (nz_e g6) dX9_sings_13 (fun tq7 => ?_)
  have tg6 := okO tq7 rfl
  refine lv_iload_n C.x C.b dX9_sings_16 rfl (lv_at hl 1 rfl) ?_
  refine lv_iload_n C.x C.b dX9_sings_17 rfl (lv_at hl 2 rfl) ?_
  obtain ⟨q8, h_q8, hf⟩ := bd_e hf
  refine r_callV (As := [.int x1, .int x2]) (rest := [.ref (G.2.2 + r0)]) C hR hS tg6 rfl mk_X0_singTo cl_X9_239 (k_X0_singTo tg6 h_q8) ⟨⟨Nat.le_of_ble_eq_true rfl, Nat.le_of_ble_eq_true rfl⟩, ⟨rfl, rfl⟩, Nat.le_of_ble_eq_true rfl, Nat.le_of_ble_eq_true rfl⟩ rfl hl.1 rfl (Nat.le_of_ble_eq_true rfl) dX9_sings_18 (fun H locs hR hS hE1 z_q8 => ?_)
  have hE := hE.tr hE1
  have t_r0 := hE1.at t_r0 (by decide)
  obtain ⟨q9, h_q9, hf⟩ := bd_e hf
  refine r_callV (As := [.int q8.1]) (rest := []) C hR hS t_r0 rfl mk_X9_noted cl_X9_233 (k_X9_noted t_r0 h_q9) ⟨⟨Nat.le_of_ble_eq_true rfl, Nat.le_of_ble_eq_true rfl⟩, ⟨rfl, rfl⟩, Nat.le_of_ble_eq_true rfl, Nat.le_of_ble_eq_true rfl⟩ rfl hl.1 rfl (Nat.le_of_ble_eq_true rfl) dX9_sings_21 (fun H locs hR hS hE1 z_q9 => ?_)
  have hE := hE.tr hE1
  have t_r0 := hE1.at t_r0 (by decide)
  have hf := so_e hf
  subst hf
  exact r_iret C hr hlk hR hE hS dX9_sings_24

def rm_X9_moves : Room := { frames := 4, cells := 0, slots := 0, locals := 88 }
set_option maxRecDepth 100000 in
set_option maxHeartbeats 4000000 in
theorem k_X9_moves {G : Gt} {l : Launch}  {h : Hp} {r0 : Nat} {x1 : Int32} {x2 : Int32} {out : (Int32 × Hp)} (t_r0 : hpT h r0 = (1, 9))  (hf : f_X9_moves  h r0 x1 x2 = some out) : Mt G l yX9_moves cX9_moves 3 (some .int) rm_X9_moves [.ref (G.2.2 + r0), .int x1, .int x2] h (some (.int out.1)) out.2 0 0 0 := by
  refine r_met (by decide +kernel) (Nat.le_of_ble_eq_true rfl) ?_
  intro p e s m args below meth c ls C hr hlk hnm hR hS hl
  have hE : Ext h h := Ext.rf
  have hl : lv_has ls 3 [(0, .ref (G.2.2 + r0)), (1, .int x1), (2, .int x2)] := hl
  rw [f_X9_moves] at hf
  refine lv_aload_n C.x C.b dX9_moves_0 rfl (lv_at hl 0 rfl) ?_
  obtain ⟨g1, hf⟩ := gd_e hf
  refine r_getr C hR t_r0 fl_X9_30 (by decide) (nz_e g1) dX9_moves_1 (fun tq2 => ?_)
  have tg1 := okO tq2 rfl
  refine lv_aload_n C.x C.b dX9_moves_4 rfl (lv_at hl 0 rfl) ?_
  obtain ⟨g3, hf⟩ := gd_e hf
  refine r_getr C hR t_r0 fl_X9_26 (by decide) (nz_e g3) dX9_moves_5 (fun tq4 => ?_)
  have tg3 := okO tq4 rfl
  obtain ⟨q5, h_q5, hf⟩ := bd_e hf
  refine r_callV (As := [.ref (G.2.2 + (hpR h r0 2))]) (rest := []) C hR hS tg1 rfl mk_X0_copy cl_X9_134 (k_X0_copy tg1 tg3 h_q5) ⟨⟨Nat.le_of_ble_eq_true rfl, Nat.le_of_ble_eq_true rfl⟩, ⟨rfl, rfl⟩, Nat.le_of_ble_eq_true rfl, Nat.le_of_ble_eq_true rfl⟩ rfl hl.1 rfl (Nat.le_of_ble_eq_true rfl) dX9_moves_8 (fun H locs hR hS hE1 z_q5 => ?_)
  have hE := hE.tr hE1
  have t_r0 := hE1.at t_r0 (by decide)
  refine lv_aload_n C.x C.b dX9_moves_11 rfl (lv_at hl 0 rfl) ?_
  refine lv_aload_n C.x C.b dX9_moves_12 rfl (lv_at hl 0 rfl) ?_
  obtain ⟨g6, hf⟩ := gd_e hf
  refine r_getr C hR t_r0 fl_X9_26 (by decide) (nz_e g6) dX9_moves_13 (fun tq7 => ?_)
  have tg6 := okO tq7 rfl
  refine lv_iload_n C.x C.b dX9_moves_16 rfl (lv_at hl 1 rfl) ?_
  refine lv_iload_n C.x C.b dX9_moves_17 rfl (lv_at hl 2 rfl) ?_
  obtain ⟨q8, h_q8, hf⟩ := bd_e hf
  refine r_callV (As := [.int x1, .int x2]) (rest := [.ref (G.2.2 + r0)]) C hR hS tg6 rfl mk_X0_move cl_X9_242 (k_X0_move tg6 h_q8) ⟨⟨Nat.le_of_ble_eq_true rfl, Nat.le_of_ble_eq_true rfl⟩, ⟨rfl, rfl⟩, Nat.le_of_ble_eq_true rfl, Nat.le_of_ble_eq_true rfl⟩ rfl hl.1 rfl (Nat.le_of_ble_eq_true rfl) dX9_moves_18 (fun H locs hR hS hE1 z_q8 => ?_)
  have hE := hE.tr hE1
  have t_r0 := hE1.at t_r0 (by decide)
  obtain ⟨q9, h_q9, hf⟩ := bd_e hf
  refine r_callV (As := [.int q8.1]) (rest := []) C hR hS t_r0 rfl mk_X9_noted cl_X9_233 (k_X9_noted t_r0 h_q9) ⟨⟨Nat.le_of_ble_eq_true rfl, Nat.le_of_ble_eq_true rfl⟩, ⟨rfl, rfl⟩, Nat.le_of_ble_eq_true rfl, Nat.le_of_ble_eq_true rfl⟩ rfl hl.1 rfl (Nat.le_of_ble_eq_true rfl) dX9_moves_21 (fun H locs hR hS hE1 z_q9 => ?_)
  have hE := hE.tr hE1
  have t_r0 := hE1.at t_r0 (by decide)
  have hf := so_e hf
  subst hf
  exact r_iret C hr hlk hR hE hS dX9_moves_24

def rm_X9_digitsBehind : Room := { frames := 0, cells := 0, slots := 0, locals := 0 }
set_option maxRecDepth 100000 in
set_option maxHeartbeats 4000000 in
theorem k_X9_digitsBehind {G : Gt} {l : Launch}  {h : Hp} {x0 : Int32} {out : Int32}   (hf : f_X9_digitsBehind  h x0 = some out) : Mt G l yX9_digitsBehind cX9_digitsBehind 1 (some .int) rm_X9_digitsBehind [.int x0] h (some (.int out)) h 0 0 0 := by
  refine r_met (by decide +kernel) (Nat.le_of_ble_eq_true rfl) ?_
  intro p e s m args below meth c ls C hr hlk hnm hR hS hl
  have hl : lv_has ls 1 [(0, .int x0)] := hl
  rw [f_X9_digitsBehind] at hf
  refine lv_iload_n C.x C.b dX9_digitsBehind_0 rfl (lv_at hl 0 rfl) ?_
  by_cases c1_0 : x0 = (109 : Int32)
  · have hf := it_t hf c1_0
    refine lv_tableIn (tgt := 53) C.x C.b dX9_digitsBehind_1 (by rw [c1_0]; decide) (by rw [c1_0]; decide) (by rw [c1_0]; rfl) (by decide) ?_
    refine lv_iconst (v := (2 : Int32)) C.x C.b dX9_digitsBehind_53 (by decide) ?_
    have hf := so_e hf
    subst hf
    exact r_iret C hr hlk hR Ext.rf hS dX9_digitsBehind_54
  have hf := it_f hf c1_0
  by_cases c1_1 : x0 = (110 : Int32)
  · have hf := it_t hf c1_1
    refine lv_tableIn (tgt := 48) C.x C.b dX9_digitsBehind_1 (by rw [c1_1]; decide) (by rw [c1_1]; decide) (by rw [c1_1]; rfl) (by decide) ?_
    refine lv_iconst (v := (1 : Int32)) C.x C.b dX9_digitsBehind_48 (by decide) ?_
    have hf := so_e hf
    subst hf
    exact r_iret C hr hlk hR Ext.rf hS dX9_digitsBehind_49
  have hf := it_f hf c1_1
  by_cases c1_2 : x0 = (111 : Int32)
  · have hf := it_t hf c1_2
    refine lv_tableIn (tgt := 55) C.x C.b dX9_digitsBehind_1 (by rw [c1_2]; decide) (by rw [c1_2]; decide) (by rw [c1_2]; rfl) (by decide) ?_
    refine lv_iconst (v := (0 : Int32)) C.x C.b dX9_digitsBehind_55 (by decide) ?_
    have hf := so_e hf
    subst hf
    exact r_iret C hr hlk hR Ext.rf hS dX9_digitsBehind_56
  have hf := it_f hf c1_2
  by_cases c1_3 : x0 = (112 : Int32)
  · have hf := it_t hf c1_3
    refine lv_tableIn (tgt := 50) C.x C.b dX9_digitsBehind_1 (by rw [c1_3]; decide) (by rw [c1_3]; decide) (by rw [c1_3]; rfl) (by decide) ?_
    refine lv_bipush (v := (6 : Int32)) C.x C.b dX9_digitsBehind_50 (by decide) ?_
    have hf := so_e hf
    subst hf
    exact r_iret C hr hlk hR Ext.rf hS dX9_digitsBehind_52
  have hf := it_f hf c1_3
  by_cases c1_4 : x0 = (113 : Int32)
  · have hf := it_t hf c1_4
    refine lv_tableIn (tgt := 55) C.x C.b dX9_digitsBehind_1 (by rw [c1_4]; decide) (by rw [c1_4]; decide) (by rw [c1_4]; rfl) (by decide) ?_
    refine lv_iconst (v := (0 : Int32)) C.x C.b dX9_digitsBehind_55 (by decide) ?_
    have hf := so_e hf
    subst hf
    exact r_iret C hr hlk hR Ext.rf hS dX9_digitsBehind_56
  have hf := it_f hf c1_4
  by_cases c1_5 : x0 = (114 : Int32)
  · have hf := it_t hf c1_5
    refine lv_tableIn (tgt := 55) C.x C.b dX9_digitsBehind_1 (by rw [c1_5]; decide) (by rw [c1_5]; decide) (by rw [c1_5]; rfl) (by decide) ?_
    refine lv_iconst (v := (0 : Int32)) C.x C.b dX9_digitsBehind_55 (by decide) ?_
    have hf := so_e hf
    subst hf
    exact r_iret C hr hlk hR Ext.rf hS dX9_digitsBehind_56
  have hf := it_f hf c1_5
  by_cases c1_6 : x0 = (115 : Int32)
  · have hf := it_t hf c1_6
    refine lv_tableIn (tgt := 53) C.x C.b dX9_digitsBehind_1 (by rw [c1_6]; decide) (by rw [c1_6]; decide) (by rw [c1_6]; rfl) (by decide) ?_
    refine lv_iconst (v := (2 : Int32)) C.x C.b dX9_digitsBehind_53 (by decide) ?_
    have hf := so_e hf
    subst hf
    exact r_iret C hr hlk hR Ext.rf hS dX9_digitsBehind_54
  have hf := it_f hf c1_6
  by_cases c1_7 : x0 = (116 : Int32)
  · have hf := it_t hf c1_7
    refine lv_tableIn (tgt := 53) C.x C.b dX9_digitsBehind_1 (by rw [c1_7]; decide) (by rw [c1_7]; decide) (by rw [c1_7]; rfl) (by decide) ?_
    refine lv_iconst (v := (2 : Int32)) C.x C.b dX9_digitsBehind_53 (by decide) ?_
    have hf := so_e hf
    subst hf
    exact r_iret C hr hlk hR Ext.rf hS dX9_digitsBehind_54
  have hf := it_f hf c1_7
  refine lv_tableOut (tgt := 55) C.x C.b dX9_digitsBehind_1 (tb_out 8 (by decide) (fun j hj => match j, hj with | 0, _ => fun q => c1_0 (q.trans (by decide)) | 1, _ => fun q => c1_1 (q.trans (by decide)) | 2, _ => fun q => c1_2 (q.trans (by decide)) | 3, _ => fun q => c1_3 (q.trans (by decide)) | 4, _ => fun q => c1_4 (q.trans (by decide)) | 5, _ => fun q => c1_5 (q.trans (by decide)) | 6, _ => fun q => c1_6 (q.trans (by decide)) | 7, _ => fun q => c1_7 (q.trans (by decide)) | n + 8, hn => absurd hn (by omega))) (by decide) ?_
  refine lv_iconst (v := (0 : Int32)) C.x C.b dX9_digitsBehind_55 (by decide) ?_
  have hf := so_e hf
  subst hf
  exact r_iret C hr hlk hR Ext.rf hS dX9_digitsBehind_56

def rm_X9_badInStory : Room := { frames := 2, cells := 0, slots := 0, locals := 44 }
def P_X9_badInStory_109 (G : Gt) (l : Launch) (p : Program) (e : Env) (s : State) (m : MethodId) (args : Array Value) (below : List Frame) (meth : Method) (c : Code) (h : Hp) (out : Int32) (r0 : Nat) (k : Int32 → Int32 → Int32 → Int32 → Option Int32) : Prop := ∀ (H : Heap) (locs : List Loc) (ls : Array Slot) (x1 : Int32) (x2 : Int32) (x3 : Int32) (x4 : Int32), k x1 x2 x3 x4 = some out → Rel G h H → va_S (AA G.2.2) s.heap H locs → hpT h r0 = (1, 9) → lv_has ls 7 [(0, .ref (G.2.2 + r0)), (1, .int x1), (2, .int x2), (3, .int x3), (4, .int x4)] → W p l e rm_X9_badInStory s m args below meth c H locs 0 0 (MQ below (Qm G h h (some (.int out)) 0) args s 0 0 (AA G.2.2)) (F0 m 109 ls [])
def P_X9_badInStory_100 (G : Gt) (l : Launch) (p : Program) (e : Env) (s : State) (m : MethodId) (args : Array Value) (below : List Frame) (meth : Method) (c : Code) (h : Hp) (out : Int32) (r0 : Nat) (k : Int32 → Int32 → Int32 → Int32 → Int32 → Int32 → Option Int32) : Prop := ∀ (H : Heap) (locs : List Loc) (ls : Array Slot) (s0 : Int32) (s1 : Int32) (x1 : Int32) (x2 : Int32) (x3 : Int32) (x4 : Int32), k s0 s1 x1 x2 x3 x4 = some out → Rel G h H → va_S (AA G.2.2) s.heap H locs → hpT h r0 = (1, 9) → narrow .boolean (.int s1) = .int s1 → lv_has ls 7 [(0, .ref (G.2.2 + r0)), (1, .int x1), (2, .int x2), (3, .int x3), (4, .int x4)] → W p l e rm_X9_badInStory s m args below meth c H locs 0 0 (MQ below (Qm G h h (some (.int out)) 0) args s 0 0 (AA G.2.2)) (F0 m 100 ls [.int s1, .int s0])
def P_X9_badInStory_86 (G : Gt) (l : Launch) (p : Program) (e : Env) (s : State) (m : MethodId) (args : Array Value) (below : List Frame) (meth : Method) (c : Code) (h : Hp) (out : Int32) (r0 : Nat) (k : Int32 → Int32 → Int32 → Int32 → Int32 → Int32 → Option Int32) : Prop := ∀ (H : Heap) (locs : List Loc) (ls : Array Slot) (s0 : Int32) (x1 : Int32) (x2 : Int32) (x3 : Int32) (x4 : Int32) (x5 : Int32), k s0 x1 x2 x3 x4 x5 = some out → Rel G h H → va_S (AA G.2.2) s.heap H locs → hpT h r0 = (1, 9) → narrow .boolean (.int s0) = .int s0 → lv_has ls 7 [(0, .ref (G.2.2 + r0)), (1, .int x1), (2, .int x2), (3, .int x3), (4, .int x4), (5, .int x5)] → W p l e rm_X9_badInStory s m args below meth c H locs 0 0 (MQ below (Qm G h h (some (.int out)) 0) args s 0 0 (AA G.2.2)) (F0 m 86 ls [.int s0])
def P_X9_badInStory_85 (G : Gt) (l : Launch) (p : Program) (e : Env) (s : State) (m : MethodId) (args : Array Value) (below : List Frame) (meth : Method) (c : Code) (h : Hp) (out : Int32) (r0 : Nat) (k : Int32 → Int32 → Int32 → Int32 → Int32 → Option Int32) : Prop := ∀ (H : Heap) (locs : List Loc) (ls : Array Slot) (x1 : Int32) (x2 : Int32) (x3 : Int32) (x4 : Int32) (x5 : Int32), k x1 x2 x3 x4 x5 = some out → Rel G h H → va_S (AA G.2.2) s.heap H locs → hpT h r0 = (1, 9) → lv_has ls 7 [(0, .ref (G.2.2 + r0)), (1, .int x1), (2, .int x2), (3, .int x3), (4, .int x4), (5, .int x5)] → W p l e rm_X9_badInStory s m args below meth c H locs 0 0 (MQ below (Qm G h h (some (.int out)) 0) args s 0 0 (AA G.2.2)) (F0 m 85 ls [])
def P_X9_badInStory_81 (G : Gt) (l : Launch) (p : Program) (e : Env) (s : State) (m : MethodId) (args : Array Value) (below : List Frame) (meth : Method) (c : Code) (h : Hp) (out : Int32) (r0 : Nat) (k : Int32 → Int32 → Int32 → Int32 → Int32 → Option Int32) : Prop := ∀ (H : Heap) (locs : List Loc) (ls : Array Slot) (x1 : Int32) (x2 : Int32) (x3 : Int32) (x4 : Int32) (x5 : Int32), k x1 x2 x3 x4 x5 = some out → Rel G h H → va_S (AA G.2.2) s.heap H locs → hpT h r0 = (1, 9) → lv_has ls 7 [(0, .ref (G.2.2 + r0)), (1, .int x1), (2, .int x2), (3, .int x3), (4, .int x4), (5, .int x5)] → W p l e rm_X9_badInStory s m args below meth c H locs 0 0 (MQ below (Qm G h h (some (.int out)) 0) args s 0 0 (AA G.2.2)) (F0 m 81 ls [])
def P_X9_badInStory_131 (G : Gt) (l : Launch) (p : Program) (e : Env) (s : State) (m : MethodId) (args : Array Value) (below : List Frame) (meth : Method) (c : Code) (h : Hp) (out : Int32) (r0 : Nat) (k : Int32 → Option Int32) : Prop := ∀ (H : Heap) (locs : List Loc) (ls : Array Slot) (x1 : Int32), k x1 = some out → Rel G h H → va_S (AA G.2.2) s.heap H locs → hpT h r0 = (1, 9) → lv_has ls 7 [(0, .ref (G.2.2 + r0)), (1, .int x1)] → W p l e rm_X9_badInStory s m args below meth c H locs 0 0 (MQ below (Qm G h h (some (.int out)) 0) args s 0 0 (AA G.2.2)) (F0 m 131 ls [])
def P_X9_badInStory_20 (G : Gt) (l : Launch) (p : Program) (e : Env) (s : State) (m : MethodId) (args : Array Value) (below : List Frame) (meth : Method) (c : Code) (h : Hp) (out : Int32) (r0 : Nat) (k : Int32 → Int32 → Int32 → Int32 → Option Int32) : Prop := ∀ (H : Heap) (locs : List Loc) (ls : Array Slot) (x1 : Int32) (x2 : Int32) (x3 : Int32) (x4 : Int32), k x1 x2 x3 x4 = some out → Rel G h H → va_S (AA G.2.2) s.heap H locs → hpT h r0 = (1, 9) → lv_has ls 7 [(0, .ref (G.2.2 + r0)), (1, .int x1), (2, .int x2), (3, .int x3), (4, .int x4)] → W p l e rm_X9_badInStory s m args below meth c H locs 0 0 (MQ below (Qm G h h (some (.int out)) 0) args s 0 0 (AA G.2.2)) (F0 m 20 ls [])
set_option maxRecDepth 100000 in
set_option maxHeartbeats 4000000 in
theorem w_X9_badInStory_109 {G : Gt} {l : Launch} {p : Program} {e : Env} {s : State} {m : MethodId} {args : Array Value} {below : List Frame} {meth : Method} {c : Code}  {h : Hp} {out : Int32} {r0 : Nat} {k20 : Int32 → Int32 → Int32 → Int32 → Option Int32} (C : Cx G p m c cX9_badInStory 7 s args RX9) (hr : meth.sig.returnType = some .int) (hlk : meth.locks = false)  (hk20 : P_X9_badInStory_20 G l p e s m args below meth c h out r0 k20) : P_X9_badInStory_109 G l p e s m args below meth c h out r0 (f_X9_badInStory_109 h r0 k20) := by
  intro H locs ls x1 x2 x3 x4 hf hR hS t_r0 hl
  rw [f_X9_badInStory_109] at hf
  obtain ⟨v21, e_v21⟩ : ∃ y : Int32, y = x4 + (1 : Int32) := ⟨_, rfl⟩
  have hf := lt_e hf e_v21
  refine lv_iinc (v := v21) (lv' := [(4, .int v21), (0, .ref (G.2.2 + r0)), (1, .int x1), (2, .int x2), (3, .int x3)]) C.x C.b dX9_badInStory_109 hl (k := 4) rfl (by rw [e_v21]; rfl) (by decide) rfl (fun ls hl => ?_)
  refine lv_goto (tgt := 20) C.x C.b dX9_badInStory_112 (by decide) ?_
  exact hk20 _ _ _ _ _ _ _ hf hR hS t_r0 (lv_sub hl [1, 2, 3, 4, 0] rfl)
set_option maxRecDepth 100000 in
set_option maxHeartbeats 4000000 in
theorem w_X9_badInStory_100 {G : Gt} {l : Launch} {p : Program} {e : Env} {s : State} {m : MethodId} {args : Array Value} {below : List Frame} {meth : Method} {c : Code}  {h : Hp} {out : Int32} {r0 : Nat} {k20 : Int32 → Int32 → Int32 → Int32 → Option Int32} (C : Cx G p m c cX9_badInStory 7 s args RX9) (hr : meth.sig.returnType = some .int) (hlk : meth.locks = false)  (hk20 : P_X9_badInStory_20 G l p e s m args below meth c h out r0 k20) : P_X9_badInStory_100 G l p e s m args below meth c h out r0 (f_X9_badInStory_100 h r0 k20) := by
  intro H locs ls s0 s1 x1 x2 x3 x4 hf hR hS t_r0 z_s1 hl
  rw [f_X9_badInStory_100] at hf
  refine lv_icmp_ge (tgt := 106) C.x C.b dX9_badInStory_100 (by decide) (fun c23 => ?_) (fun c23 => ?_)
  · have hf := it_t hf c23
    obtain ⟨v24, e_v24⟩ : ∃ y : Int32, y = x2 + (-1 : Int32) := ⟨_, rfl⟩
    have hf := lt_e hf e_v24
    refine lv_iinc (v := v24) (lv' := [(2, .int v24), (0, .ref (G.2.2 + r0)), (1, .int x1), (3, .int x3), (4, .int x4)]) C.x C.b dX9_badInStory_106 hl (k := 2) rfl (by rw [e_v24]; rfl) (by decide) rfl (fun ls hl => ?_)
    exact w_X9_badInStory_109 C hr hlk hk20 _ _ _ _ _ _ _ hf hR hS t_r0 (lv_sub hl [1, 2, 0, 3, 4] rfl)
  · have hf := it_f hf c23
    refine lv_iload C.x C.b dX9_badInStory_103 (lv_at hl 4 rfl) ?_
    have hf := so_e hf
    subst hf
    exact r_iret C hr hlk hR Ext.rf hS dX9_badInStory_105
set_option maxRecDepth 100000 in
set_option maxHeartbeats 4000000 in
theorem w_X9_badInStory_86 {G : Gt} {l : Launch} {p : Program} {e : Env} {s : State} {m : MethodId} {args : Array Value} {below : List Frame} {meth : Method} {c : Code}  {h : Hp} {out : Int32} {r0 : Nat} {k20 : Int32 → Int32 → Int32 → Int32 → Option Int32} (C : Cx G p m c cX9_badInStory 7 s args RX9) (hr : meth.sig.returnType = some .int) (hlk : meth.locks = false)  (hk20 : P_X9_badInStory_20 G l p e s m args below meth c h out r0 k20) : P_X9_badInStory_86 G l p e s m args below meth c h out r0 (f_X9_badInStory_86 h r0 k20) := by
  intro H locs ls s0 x1 x2 x3 x4 x5 hf hR hS t_r0 z_s0 hl
  rw [f_X9_badInStory_86] at hf
  refine lv_istore (lv' := [(6, .int s0), (0, .ref (G.2.2 + r0)), (1, .int x1), (2, .int x2), (3, .int x3), (4, .int x4), (5, .int x5)]) C.x C.b dX9_badInStory_86 hl (by decide) rfl (fun ls hl => ?_)
  refine lv_iload C.x C.b dX9_badInStory_88 (lv_at hl 6 rfl) ?_
  refine lv_iload C.x C.b dX9_badInStory_90 (lv_at hl 0 rfl) ?_
  refine lv_if_eq (tgt := 99) C.x C.b dX9_badInStory_92 (by decide) (fun c22 => ?_) (fun c22 => ?_)
  · simp only [if_pos c22] at hf
    refine lv_iconst (v := (0 : Int32)) C.x C.b dX9_badInStory_99 (by decide) ?_
    exact w_X9_badInStory_100 C hr hlk hk20 _ _ _ _ _ _ _ _ _ hf hR hS t_r0 z_0 (lv_sub hl [1, 2, 3, 4, 5] rfl)
  · simp only [if_neg c22] at hf
    refine lv_iconst (v := (1 : Int32)) C.x C.b dX9_badInStory_95 (by decide) ?_
    refine lv_goto (tgt := 100) C.x C.b dX9_badInStory_96 (by decide) ?_
    exact w_X9_badInStory_100 C hr hlk hk20 _ _ _ _ _ _ _ _ _ hf hR hS t_r0 z_1 (lv_sub hl [1, 2, 3, 4, 5] rfl)
set_option maxRecDepth 100000 in
set_option maxHeartbeats 4000000 in
theorem w_X9_badInStory_85 {G : Gt} {l : Launch} {p : Program} {e : Env} {s : State} {m : MethodId} {args : Array Value} {below : List Frame} {meth : Method} {c : Code}  {h : Hp} {out : Int32} {r0 : Nat} {k20 : Int32 → Int32 → Int32 → Int32 → Option Int32} (C : Cx G p m c cX9_badInStory 7 s args RX9) (hr : meth.sig.returnType = some .int) (hlk : meth.locks = false)  (hk20 : P_X9_badInStory_20 G l p e s m args below meth c h out r0 k20) : P_X9_badInStory_85 G l p e s m args below meth c h out r0 (f_X9_badInStory_85 h r0 k20) := by
  intro H locs ls x1 x2 x3 x4 x5 hf hR hS t_r0 hl
  rw [f_X9_badInStory_85] at hf
  refine lv_iconst (v := (0 : Int32)) C.x C.b dX9_badInStory_85 (by decide) ?_
  exact w_X9_badInStory_86 C hr hlk hk20 _ _ _ _ _ _ _ _ _ hf hR hS t_r0 z_0 (lv_sub hl [0, 1, 2, 3, 4, 5] rfl)
set_option maxRecDepth 100000 in
set_option maxHeartbeats 4000000 in
theorem w_X9_badInStory_81 {G : Gt} {l : Launch} {p : Program} {e : Env} {s : State} {m : MethodId} {args : Array Value} {below : List Frame} {meth : Method} {c : Code}  {h : Hp} {out : Int32} {r0 : Nat} {k20 : Int32 → Int32 → Int32 → Int32 → Option Int32} (C : Cx G p m c cX9_badInStory 7 s args RX9) (hr : meth.sig.returnType = some .int) (hlk : meth.locks = false)  (hk20 : P_X9_badInStory_20 G l p e s m args below meth c h out r0 k20) : P_X9_badInStory_81 G l p e s m args below meth c h out r0 (f_X9_badInStory_81 h r0 k20) := by
  intro H locs ls x1 x2 x3 x4 x5 hf hR hS t_r0 hl
  rw [f_X9_badInStory_81] at hf
  refine lv_iconst (v := (1 : Int32)) C.x C.b dX9_badInStory_81 (by decide) ?_
  refine lv_goto (tgt := 86) C.x C.b dX9_badInStory_82 (by decide) ?_
  exact w_X9_badInStory_86 C hr hlk hk20 _ _ _ _ _ _ _ _ _ hf hR hS t_r0 z_1 (lv_sub hl [0, 1, 2, 3, 4, 5] rfl)
set_option maxRecDepth 100000 in
set_option maxHeartbeats 4000000 in
theorem w_X9_badInStory_131 {G : Gt} {l : Launch} {p : Program} {e : Env} {s : State} {m : MethodId} {args : Array Value} {below : List Frame} {meth : Method} {c : Code}  {h : Hp} {out : Int32} {r0 : Nat}  (C : Cx G p m c cX9_badInStory 7 s args RX9) (hr : meth.sig.returnType = some .int) (hlk : meth.locks = false)   : P_X9_badInStory_131 G l p e s m args below meth c h out r0 (f_X9_badInStory_131 h r0) := by
  intro H locs ls x1 hf hR hS t_r0 hl
  rw [f_X9_badInStory_131] at hf
  refine lv_iload_n C.x C.b dX9_badInStory_131 rfl (lv_at hl 1 rfl) ?_
  refine lv_goto (tgt := 136) C.x C.b dX9_badInStory_132 (by decide) ?_
  have hf := so_e hf
  subst hf
  exact r_iret C hr hlk hR Ext.rf hS dX9_badInStory_136
set_option maxRecDepth 100000 in
set_option maxHeartbeats 4000000 in
theorem w_X9_badInStory_20 {G : Gt} {l : Launch} {p : Program} {e : Env} {s : State} {m : MethodId} {args : Array Value} {below : List Frame} {meth : Method} {c : Code}  {h : Hp} {out : Int32} {r0 : Nat}  (C : Cx G p m c cX9_badInStory 7 s args RX9) (hr : meth.sig.returnType = some .int) (hlk : meth.locks = false)   (n : Nat) : P_X9_badInStory_20 G l p e s m args below meth c h out r0 (f_X9_badInStory_20 h r0 n) := by
  induction n with
  | zero => intro H locs ls x1 x2 x3 x4 hf hR hS t_r0 hl; cases hf
  | succ n hk20 =>
    intro H locs ls x1 x2 x3 x4 hf hR hS t_r0 hl
    rw [f_X9_badInStory_20] at hf
    obtain ⟨k20, e_k20⟩ : ∃ y, y = f_X9_badInStory_20 h r0 n := ⟨_, rfl⟩
    have hf := lt_e hf e_k20
    rw [← e_k20] at hk20
    refine lv_iload C.x C.b dX9_badInStory_20 (lv_at hl 4 rfl) ?_
    refine lv_iload_n C.x C.b dX9_badInStory_22 rfl (lv_at hl 1 rfl) ?_
    refine lv_icmp_ge (tgt := 115) C.x C.b dX9_badInStory_23 (by decide) (fun c4 => ?_) (fun c4 => ?_)
    · have hf := it_t hf c4
      refine lv_iload_n C.x C.b dX9_badInStory_115 rfl (lv_at hl 2 rfl) ?_
      refine lv_if_gt (tgt := 131) C.x C.b dX9_badInStory_116 (by decide) (fun c5 => ?_) (fun c5 => ?_)
      · have hf := it_t hf c5
        exact w_X9_badInStory_131 C hr hlk _ _ _ _ hf hR hS t_r0 (lv_sub hl [0, 1] rfl)
      · have hf := it_f hf c5
        refine lv_aload_n C.x C.b dX9_badInStory_119 rfl (lv_at hl 0 rfl) ?_
        obtain ⟨g6, hf⟩ := gd_e hf
        refine r_getr C hR t_r0 fl_X9_10 (by decide) (nz_e g6) dX9_badInStory_120 (fun tq7 => ?_)
        have tg6 := okO tq7 rfl
        refine r_geti C hR tg6 fl_X9_93 rfl dX9_badInStory_123 ?_
        refine lv_bipush (v := (60 : Int32)) C.x C.b dX9_badInStory_126 (by decide) ?_
        refine lv_icmp_le (tgt := 135) C.x C.b dX9_badInStory_128 (by decide) (fun c8 => ?_) (fun c8 => ?_)
        · have hf := it_t hf c8
          refine lv_iconst (v := (-1 : Int32)) C.x C.b dX9_badInStory_135 (by decide) ?_
          have hf := so_e hf
          subst hf
          exact r_iret C hr hlk hR Ext.rf hS dX9_badInStory_136
        · have hf := it_f hf c8
          exact w_X9_badInStory_131 C hr hlk _ _ _ _ hf hR hS t_r0 (lv_sub hl [0, 1] rfl)
    · have hf := it_f hf c4
      refine lv_iload_n C.x C.b dX9_badInStory_26 rfl (lv_at hl 2 rfl) ?_
      refine lv_if_ne (tgt := 52) C.x C.b dX9_badInStory_27 (by decide) (fun c9 => ?_) (fun c9 => ?_)
      · have hf := it_f hf c9
        refine lv_aload_n C.x C.b dX9_badInStory_52 rfl (lv_at hl 0 rfl) ?_
        obtain ⟨g10, hf⟩ := gd_e hf
        refine r_getr C hR t_r0 fl_X9_10 (by decide) (nz_e g10) dX9_badInStory_53 (fun tq11 => ?_)
        have tg10 := okO tq11 rfl
        refine lv_iload C.x C.b dX9_badInStory_56 (lv_at hl 4 rfl) ?_
        refine lv_iload_n C.x C.b dX9_badInStory_58 rfl (lv_at hl 1 rfl) ?_
        obtain ⟨q12, h_q12, hf⟩ := bd_e hf
        refine r_callV (As := [.int x4, .int x1]) (rest := []) C hR hS tg10 rfl mk_X6_digit cl_X9_104 (k_X6_digit tg10 h_q12) ⟨⟨Nat.le_of_ble_eq_true rfl, Nat.le_of_ble_eq_true rfl⟩, ⟨rfl, rfl⟩, Nat.le_of_ble_eq_true rfl, Nat.le_of_ble_eq_true rfl⟩ rfl hl.1 rfl (Nat.le_of_ble_eq_true rfl) dX9_badInStory_59 (fun H locs hR hS hE1 z_q12 => ?_)
        refine lv_istore (lv' := [(5, .int q12), (0, .ref (G.2.2 + r0)), (1, .int x1), (2, .int x2), (3, .int x3), (4, .int x4)]) C.x C.b dX9_badInStory_62 hl (by decide) rfl (fun ls hl => ?_)
        refine lv_iload_n C.x C.b dX9_badInStory_64 rfl (lv_at hl 3 rfl) ?_
        refine lv_iconst (v := (1 : Int32)) C.x C.b dX9_badInStory_65 (by decide) ?_
        refine lv_icmp_ne (tgt := 85) C.x C.b dX9_badInStory_66 (by decide) (fun c13 => ?_) (fun c13 => ?_)
        · have hf := it_f hf c13
          exact w_X9_badInStory_85 C hr hlk hk20 _ _ _ _ _ _ _ _ hf hR hS t_r0 (lv_sub hl [1, 2, 3, 4, 5, 0] rfl)
        · have hf := it_t hf c13
          refine lv_iload_n C.x C.b dX9_badInStory_69 rfl (lv_at hl 4 rfl) ?_
          refine lv_bipush (v := (116 : Int32)) C.x C.b dX9_badInStory_70 (by decide) ?_
          refine lv_icmp_eq (tgt := 81) C.x C.b dX9_badInStory_72 (by decide) (fun c14 => ?_) (fun c14 => ?_)
          · have hf := it_t hf c14
            exact w_X9_badInStory_81 C hr hlk hk20 _ _ _ _ _ _ _ _ hf hR hS t_r0 (lv_sub hl [1, 2, 3, 4, 5, 0] rfl)
          · have hf := it_f hf c14
            refine lv_iload_n C.x C.b dX9_badInStory_75 rfl (lv_at hl 4 rfl) ?_
            refine lv_bipush (v := (115 : Int32)) C.x C.b dX9_badInStory_76 (by decide) ?_
            refine lv_icmp_ne (tgt := 85) C.x C.b dX9_badInStory_78 (by decide) (fun c15 => ?_) (fun c15 => ?_)
            · have hf := it_f hf c15
              exact w_X9_badInStory_85 C hr hlk hk20 _ _ _ _ _ _ _ _ hf hR hS t_r0 (lv_sub hl [1, 2, 3, 4, 5, 0] rfl)
            · have hf := it_t hf c15
              exact w_X9_badInStory_81 C hr hlk hk20 _ _ _ _ _ _ _ _ hf hR hS t_r0 (lv_sub hl [1, 2, 3, 4, 5, 0] rfl)
      · have hf := it_t hf c9
        refine lv_aload_n C.x C.b dX9_badInStory_30 rfl (lv_at hl 0 rfl) ?_
        obtain ⟨g16, hf⟩ := gd_e hf
        refine r_getr C hR t_r0 fl_X9_10 (by decide) (nz_e g16) dX9_badInStory_31 (fun tq17 => ?_)
        have tg16 := okO tq17 rfl
        refine lv_iload C.x C.b dX9_badInStory_34 (lv_at hl 4 rfl) ?_
        obtain ⟨q18, h_q18, hf⟩ := bd_e hf
        refine r_callV (As := [.int x4]) (rest := []) C hR hS tg16 rfl mk_X6_get cl_X9_142 (k_X6_get tg16 h_q18) ⟨⟨Nat.le_of_ble_eq_true rfl, Nat.le_of_ble_eq_true rfl⟩, ⟨rfl, rfl⟩, Nat.le_of_ble_eq_true rfl, Nat.le_of_ble_eq_true rfl⟩ rfl hl.1 rfl (Nat.le_of_ble_eq_true rfl) dX9_badInStory_36 (fun H locs hR hS hE1 z_q18 => ?_)
        refine lv_istore_n (lv' := [(3, .int q18), (0, .ref (G.2.2 + r0)), (1, .int x1), (2, .int x2), (4, .int x4)]) C.x C.b dX9_badInStory_39 rfl hl (by decide) rfl (fun ls hl => ?_)
        refine lv_iload_n C.x C.b dX9_badInStory_40 rfl (lv_at hl 0 rfl) ?_
        obtain ⟨q19, h_q19, hf⟩ := bd_e hf
        refine r_callS (As := [.int q18]) (rest := []) C hR hS mk_X9_digitsBehind cl_X9_251 (k_X9_digitsBehind h_q19) ⟨⟨Nat.le_of_ble_eq_true rfl, Nat.le_of_ble_eq_true rfl⟩, ⟨rfl, rfl⟩, Nat.le_of_ble_eq_true rfl, Nat.le_of_ble_eq_true rfl⟩ rfl hl.1 rfl (Nat.le_of_ble_eq_true rfl) dX9_badInStory_41 (fun H locs hR hS hE1 z_q19 => ?_)
        refine lv_istore_n (lv' := [(2, .int q19), (3, .int q18), (0, .ref (G.2.2 + r0)), (1, .int x1), (4, .int x4)]) C.x C.b dX9_badInStory_44 rfl hl (by decide) rfl (fun ls hl => ?_)
        refine lv_iload_n C.x C.b dX9_badInStory_45 rfl (lv_at hl 0 rfl) ?_
        refine lv_if_ne (tgt := 109) C.x C.b dX9_badInStory_46 (by decide) (fun c20 => ?_) (fun c20 => ?_)
        · have hf := it_f hf c20
          exact w_X9_badInStory_109 C hr hlk hk20 _ _ _ _ _ _ _ hf hR hS t_r0 (lv_sub hl [2, 3, 0, 1, 4] rfl)
        · have hf := it_t hf c20
          refine lv_iload C.x C.b dX9_badInStory_49 (lv_at hl 4 rfl) ?_
          have hf := so_e hf
          subst hf
          exact r_iret C hr hlk hR Ext.rf hS dX9_badInStory_51
set_option maxRecDepth 100000 in
set_option maxHeartbeats 4000000 in
theorem k_X9_badInStory {G : Gt} {l : Launch}  {h : Hp} {r0 : Nat} {out : Int32} (t_r0 : hpT h r0 = (1, 9))  (hf : f_X9_badInStory  h r0 = some out) : Mt G l yX9_badInStory cX9_badInStory 7 (some .int) rm_X9_badInStory [.ref (G.2.2 + r0)] h (some (.int out)) h 0 0 0 := by
  refine r_met (by decide +kernel) (Nat.le_of_ble_eq_true rfl) ?_
  intro p e s m args below meth c ls C hr hlk hnm hR hS hl
  have hl : lv_has ls 7 [(0, .ref (G.2.2 + r0))] := hl
  rw [f_X9_badInStory] at hf
  refine lv_aload_n C.x C.b dX9_badInStory_0 rfl (lv_at hl 0 rfl) ?_
  obtain ⟨g1, hf⟩ := gd_e hf
  refine r_getr C hR t_r0 fl_X9_10 (by decide) (nz_e g1) dX9_badInStory_1 (fun tq2 => ?_)
  have tg1 := okO tq2 rfl
  refine r_geti C hR tg1 fl_X9_93 rfl dX9_badInStory_4 ?_
  refine lv_bipush (v := (60 : Int32)) C.x C.b dX9_badInStory_7 (by decide) ?_
  refine va_mmin C.x C.b (C.ml.trans hl.1.symm) C.ow (C.ts _ lk_X9_129) (C.ts _ lk_Mmin_s) (C.ts _ lk_Math) (C.ts _ lk_Mmin_c) (Nat.le_of_ble_eq_true rfl) (Nat.le_of_ble_eq_true rfl) (Nat.le_of_ble_eq_true rfl) (Nat.le_of_ble_eq_true rfl) dX9_badInStory_9 ?_
  refine lv_topi (fun v3 e_v3 => ?_)
  have hf := lt_e hf e_v3
  refine lv_istore_n (lv' := [(1, .int v3), (0, .ref (G.2.2 + r0))]) C.x C.b dX9_badInStory_12 rfl hl (by decide) rfl (fun ls hl => ?_)
  refine lv_iconst (v := (0 : Int32)) C.x C.b dX9_badInStory_13 (by decide) ?_
  refine lv_istore_n (lv' := [(2, .int (0 : Int32)), (1, .int v3), (0, .ref (G.2.2 + r0))]) C.x C.b dX9_badInStory_14 rfl hl (by decide) rfl (fun ls hl => ?_)
  refine lv_iconst (v := (0 : Int32)) C.x C.b dX9_badInStory_15 (by decide) ?_
  refine lv_istore_n (lv' := [(3, .int (0 : Int32)), (2, .int (0 : Int32)), (1, .int v3), (0, .ref (G.2.2 + r0))]) C.x C.b dX9_badInStory_16 rfl hl (by decide) rfl (fun ls hl => ?_)
  refine lv_iconst (v := (0 : Int32)) C.x C.b dX9_badInStory_17 (by decide) ?_
  refine lv_istore (lv' := [(4, .int (0 : Int32)), (3, .int (0 : Int32)), (2, .int (0 : Int32)), (1, .int v3), (0, .ref (G.2.2 + r0))]) C.x C.b dX9_badInStory_18 hl (by decide) rfl (fun ls hl => ?_)
  exact w_X9_badInStory_20 C hr hlk FU _ _ _ _ _ _ _ hf hR hS t_r0 (lv_sub hl [4, 3, 2, 1, 0] rfl)

def rm_X9_storyDigit : Room := { frames := 2, cells := 0, slots := 0, locals := 44 }
set_option maxRecDepth 100000 in
set_option maxHeartbeats 4000000 in
theorem k_X9_storyDigit {G : Gt} {l : Launch}  {h : Hp} {r0 : Nat} {x1 : Int32} {out : Int32} (t_r0 : hpT h r0 = (1, 9))  (hf : f_X9_storyDigit  h r0 x1 = some out) : Mt G l yX9_storyDigit cX9_storyDigit 2 (some .int) rm_X9_storyDigit [.ref (G.2.2 + r0), .int x1] h (some (.int out)) h 0 0 0 := by
  refine r_met (by decide +kernel) (Nat.le_of_ble_eq_true rfl) ?_
  intro p e s m args below meth c ls C hr hlk hnm hR hS hl
  have hl : lv_has ls 2 [(0, .ref (G.2.2 + r0)), (1, .int x1)] := hl
  rw [f_X9_storyDigit] at hf
  refine lv_aload_n C.x C.b dX9_storyDigit_0 rfl (lv_at hl 0 rfl) ?_
  obtain ⟨g1, hf⟩ := gd_e hf
  refine r_getr C hR t_r0 fl_X9_10 (by decide) (nz_e g1) dX9_storyDigit_1 (fun tq2 => ?_)
  have tg1 := okO tq2 rfl
  refine lv_iload_n C.x C.b dX9_storyDigit_4 rfl (lv_at hl 1 rfl) ?_
  refine lv_aload_n C.x C.b dX9_storyDigit_5 rfl (lv_at hl 0 rfl) ?_
  refine r_getr C hR t_r0 fl_X9_10 (by decide) (nz_e g1) dX9_storyDigit_6 (fun tq3 => ?_)
  refine r_geti C hR tg1 fl_X9_93 rfl dX9_storyDigit_9 ?_
  obtain ⟨q4, h_q4, hf⟩ := bd_e hf
  refine r_callV (As := [.int x1, .int (hpI h (hpR h r0 0) 1)]) (rest := []) C hR hS tg1 rfl mk_X6_digit cl_X9_104 (k_X6_digit tg1 h_q4) ⟨⟨Nat.le_of_ble_eq_true rfl, Nat.le_of_ble_eq_true rfl⟩, ⟨rfl, rfl⟩, Nat.le_of_ble_eq_true rfl, Nat.le_of_ble_eq_true rfl⟩ rfl hl.1 rfl (Nat.le_of_ble_eq_true rfl) dX9_storyDigit_12 (fun H locs hR hS hE1 z_q4 => ?_)
  have hf := so_e hf
  subst hf
  exact r_iret C hr hlk hR Ext.rf hS dX9_storyDigit_15

def rm_X9_actDone : Room := { frames := 6, cells := 0, slots := 0, locals := 130 }
set_option maxRecDepth 100000 in
set_option maxHeartbeats 4000000 in
theorem k_X9_actDone {G : Gt} {l : Launch}  {h : Hp} {r0 : Nat} {x1 : Int32} {out : (Int32 × Hp)} (t_r0 : hpT h r0 = (1, 9))  (hf : f_X9_actDone  h r0 x1 = some out) : Mt G l yX9_actDone cX9_actDone 3 (some .int) rm_X9_actDone [.ref (G.2.2 + r0), .int x1] h (some (.int out.1)) out.2 0 0 0 := by
  refine r_met (by decide +kernel) (Nat.le_of_ble_eq_true rfl) ?_
  intro p e s m args below meth c ls C hr hlk hnm hR hS hl
  have hE : Ext h h := Ext.rf
  have hl : lv_has ls 3 [(0, .ref (G.2.2 + r0)), (1, .int x1)] := hl
  rw [f_X9_actDone] at hf
  refine lv_aload_n C.x C.b dX9_actDone_0 rfl (lv_at hl 0 rfl) ?_
  refine lv_iload_n C.x C.b dX9_actDone_1 rfl (lv_at hl 1 rfl) ?_
  refine lv_iconst (v := (1 : Int32)) C.x C.b dX9_actDone_2 (by decide) ?_
  refine lv_iadd C.x C.b dX9_actDone_3 ?_
  obtain ⟨q1, h_q1, hf⟩ := bd_e hf
  refine r_callV (As := [.int (x1 + (1 : Int32))]) (rest := []) C hR hS t_r0 rfl mk_X9_storyDigit cl_X9_257 (k_X9_storyDigit t_r0 h_q1) ⟨⟨Nat.le_of_ble_eq_true rfl, Nat.le_of_ble_eq_true rfl⟩, ⟨rfl, rfl⟩, Nat.le_of_ble_eq_true rfl, Nat.le_of_ble_eq_true rfl⟩ rfl hl.1 rfl (Nat.le_of_ble_eq_true rfl) dX9_actDone_4 (fun H locs hR hS hE1 z_q1 => ?_)
  refine lv_istore_n (lv' := [(2, .int q1), (0, .ref (G.2.2 + r0)), (1, .int x1)]) C.x C.b dX9_actDone_7 rfl hl (by decide) rfl (fun ls hl => ?_)
  refine lv_aload_n C.x C.b dX9_actDone_8 rfl (lv_at hl 1 rfl) ?_
  obtain ⟨g2, hf⟩ := gd_e hf
  refine r_getr C hR t_r0 fl_X9_10 (by decide) (nz_e g2) dX9_actDone_9 (fun tq3 => ?_)
  have tg2 := okO tq3 rfl
  refine lv_iload_n C.x C.b dX9_actDone_12 rfl (lv_at hl 2 rfl) ?_
  obtain ⟨q4, h_q4, hf⟩ := bd_e hf
  refine r_callV (As := [.int x1]) (rest := []) C hR hS tg2 rfl mk_X6_get cl_X9_142 (k_X6_get tg2 h_q4) ⟨⟨Nat.le_of_ble_eq_true rfl, Nat.le_of_ble_eq_true rfl⟩, ⟨rfl, rfl⟩, Nat.le_of_ble_eq_true rfl, Nat.le_of_ble_eq_true rfl⟩ rfl hl.1 rfl (Nat.le_of_ble_eq_true rfl) dX9_actDone_13 (fun H locs hR hS hE1 z_q4 => ?_)
  by_cases c44_0 : q4 = (110 : Int32)
  · have hf := it_t hf c44_0
    refine lv_tableIn (tgt := 60) C.x C.b dX9_actDone_16 (by rw [c44_0]; decide) (by rw [c44_0]; decide) (by rw [c44_0]; rfl) (by decide) ?_
    refine lv_aload_n C.x C.b dX9_actDone_60 rfl (lv_at hl 1 rfl) ?_
    obtain ⟨g5, hf⟩ := gd_e hf
    refine r_getr C hR t_r0 fl_X9_26 (by decide) (nz_e g5) dX9_actDone_61 (fun tq6 => ?_)
    have tg5 := okO tq6 rfl
    refine lv_aload_n C.x C.b dX9_actDone_64 rfl (lv_at hl 1 rfl) ?_
    obtain ⟨g7, hf⟩ := gd_e hf
    refine r_getr C hR t_r0 fl_X9_50 (by decide) (nz_e g7) dX9_actDone_65 (fun tq8 => ?_)
    have tg7 := okO tq8 rfl
    refine lv_iload_n C.x C.b dX9_actDone_68 rfl (lv_at hl 0 rfl) ?_
    obtain ⟨q9, h_q9, hf⟩ := bd_e hf
    refine r_callV (As := [.ref (G.2.2 + (hpR h r0 8)), .int q1]) (rest := []) C hR hS tg5 rfl mk_X0_goByTimes cl_X9_213 (k_X0_goByTimes tg5 tg7 h_q9) ⟨⟨Nat.le_of_ble_eq_true rfl, Nat.le_of_ble_eq_true rfl⟩, ⟨rfl, rfl⟩, Nat.le_of_ble_eq_true rfl, Nat.le_of_ble_eq_true rfl⟩ rfl hl.1 rfl (Nat.le_of_ble_eq_true rfl) dX9_actDone_69 (fun H locs hR hS hE1 z_q9 => ?_)
    have hE := hE.tr hE1
    have t_r0 := hE1.at t_r0 (by decide)
    have hf := so_e hf
    subst hf
    exact r_iret C hr hlk hR hE hS dX9_actDone_72
  have hf := it_f hf c44_0
  by_cases c44_1 : q4 = (111 : Int32)
  · have hf := it_t hf c44_1
    refine lv_tableIn (tgt := 157) C.x C.b dX9_actDone_16 (by rw [c44_1]; decide) (by rw [c44_1]; decide) (by rw [c44_1]; rfl) (by decide) ?_
    refine lv_aload_n C.x C.b dX9_actDone_157 rfl (lv_at hl 1 rfl) ?_
    obtain ⟨g10, hf⟩ := gd_e hf
    refine r_getr C hR t_r0 fl_X9_26 (by decide) (nz_e g10) dX9_actDone_158 (fun tq11 => ?_)
    have tg10 := okO tq11 rfl
    refine lv_iload_n C.x C.b dX9_actDone_161 rfl (lv_at hl 0 rfl) ?_
    refine lv_aload_n C.x C.b dX9_actDone_162 rfl (lv_at hl 1 rfl) ?_
    refine lv_iload_n C.x C.b dX9_actDone_163 rfl (lv_at hl 2 rfl) ?_
    refine lv_iconst (v := (2 : Int32)) C.x C.b dX9_actDone_164 (by decide) ?_
    refine lv_iadd C.x C.b dX9_actDone_165 ?_
    obtain ⟨q12, h_q12, hf⟩ := bd_e hf
    refine r_callV (As := [.int (x1 + (2 : Int32))]) (rest := [.int q1, .ref (G.2.2 + (hpR h r0 2))]) C hR hS t_r0 rfl mk_X9_storyDigit cl_X9_257 (k_X9_storyDigit t_r0 h_q12) ⟨⟨Nat.le_of_ble_eq_true rfl, Nat.le_of_ble_eq_true rfl⟩, ⟨rfl, rfl⟩, Nat.le_of_ble_eq_true rfl, Nat.le_of_ble_eq_true rfl⟩ rfl hl.1 rfl (Nat.le_of_ble_eq_true rfl) dX9_actDone_166 (fun H locs hR hS hE1 z_q12 => ?_)
    obtain ⟨q13, h_q13, hf⟩ := bd_e hf
    refine r_callV (As := [.int q1, .int q12]) (rest := []) C hR hS tg10 rfl mk_X0_move cl_X9_242 (k_X0_move tg10 h_q13) ⟨⟨Nat.le_of_ble_eq_true rfl, Nat.le_of_ble_eq_true rfl⟩, ⟨rfl, rfl⟩, Nat.le_of_ble_eq_true rfl, Nat.le_of_ble_eq_true rfl⟩ rfl hl.1 rfl (Nat.le_of_ble_eq_true rfl) dX9_actDone_169 (fun H locs hR hS hE1 z_q13 => ?_)
    have hE := hE.tr hE1
    have t_r0 := hE1.at t_r0 (by decide)
    have hf := so_e hf
    subst hf
    exact r_iret C hr hlk hR hE hS dX9_actDone_172
  have hf := it_f hf c44_1
  by_cases c44_2 : q4 = (112 : Int32)
  · have hf := it_t hf c44_2
    refine lv_tableIn (tgt := 73) C.x C.b dX9_actDone_16 (by rw [c44_2]; decide) (by rw [c44_2]; decide) (by rw [c44_2]; rfl) (by decide) ?_
    refine lv_aload_n C.x C.b dX9_actDone_73 rfl (lv_at hl 1 rfl) ?_
    obtain ⟨g14, hf⟩ := gd_e hf
    refine r_getr C hR t_r0 fl_X9_26 (by decide) (nz_e g14) dX9_actDone_74 (fun tq15 => ?_)
    have tg14 := okO tq15 rfl
    refine lv_aload_n C.x C.b dX9_actDone_77 rfl (lv_at hl 1 rfl) ?_
    refine r_getr C hR t_r0 fl_X9_26 (by decide) (nz_e g14) dX9_actDone_78 (fun tq16 => ?_)
    refine lv_iload_n C.x C.b dX9_actDone_81 rfl (lv_at hl 0 rfl) ?_
    refine lv_aload_n C.x C.b dX9_actDone_82 rfl (lv_at hl 1 rfl) ?_
    refine lv_iload_n C.x C.b dX9_actDone_83 rfl (lv_at hl 2 rfl) ?_
    refine lv_iconst (v := (2 : Int32)) C.x C.b dX9_actDone_84 (by decide) ?_
    refine lv_iadd C.x C.b dX9_actDone_85 ?_
    obtain ⟨q17, h_q17, hf⟩ := bd_e hf
    refine r_callV (As := [.int (x1 + (2 : Int32))]) (rest := [.int q1, .ref (G.2.2 + (hpR h r0 2)), .ref (G.2.2 + (hpR h r0 2))]) C hR hS t_r0 rfl mk_X9_storyDigit cl_X9_257 (k_X9_storyDigit t_r0 h_q17) ⟨⟨Nat.le_of_ble_eq_true rfl, Nat.le_of_ble_eq_true rfl⟩, ⟨rfl, rfl⟩, Nat.le_of_ble_eq_true rfl, Nat.le_of_ble_eq_true rfl⟩ rfl hl.1 rfl (Nat.le_of_ble_eq_true rfl) dX9_actDone_86 (fun H locs hR hS hE1 z_q17 => ?_)
    obtain ⟨q18, h_q18, hf⟩ := bd_e hf
    refine r_callV (As := [.int q1, .int q17]) (rest := [.ref (G.2.2 + (hpR h r0 2))]) C hR hS tg14 rfl mk_X0_cellAt cl_X9_260 (k_X0_cellAt tg14 h_q18) ⟨⟨Nat.le_of_ble_eq_true rfl, Nat.le_of_ble_eq_true rfl⟩, ⟨rfl, rfl⟩, Nat.le_of_ble_eq_true rfl, Nat.le_of_ble_eq_true rfl⟩ rfl hl.1 rfl (Nat.le_of_ble_eq_true rfl) dX9_actDone_89 (fun H locs hR hS hE1 z_q18 => ?_)
    refine lv_aload_n C.x C.b dX9_actDone_92 rfl (lv_at hl 1 rfl) ?_
    refine lv_iload_n C.x C.b dX9_actDone_93 rfl (lv_at hl 2 rfl) ?_
    refine lv_iconst (v := (3 : Int32)) C.x C.b dX9_actDone_94 (by decide) ?_
    refine lv_iadd C.x C.b dX9_actDone_95 ?_
    obtain ⟨q19, h_q19, hf⟩ := bd_e hf
    refine r_callV (As := [.int (x1 + (3 : Int32))]) (rest := [.int q18, .ref (G.2.2 + (hpR h r0 2))]) C hR hS t_r0 rfl mk_X9_storyDigit cl_X9_257 (k_X9_storyDigit t_r0 h_q19) ⟨⟨Nat.le_of_ble_eq_true rfl, Nat.le_of_ble_eq_true rfl⟩, ⟨rfl, rfl⟩, Nat.le_of_ble_eq_true rfl, Nat.le_of_ble_eq_true rfl⟩ rfl hl.1 rfl (Nat.le_of_ble_eq_true rfl) dX9_actDone_96 (fun H locs hR hS hE1 z_q19 => ?_)
    refine lv_aload_n C.x C.b dX9_actDone_99 rfl (lv_at hl 1 rfl) ?_
    refine lv_iload_n C.x C.b dX9_actDone_100 rfl (lv_at hl 2 rfl) ?_
    refine lv_iconst (v := (4 : Int32)) C.x C.b dX9_actDone_101 (by decide) ?_
    refine lv_iadd C.x C.b dX9_actDone_102 ?_
    obtain ⟨q20, h_q20, hf⟩ := bd_e hf
    refine r_callV (As := [.int (x1 + (4 : Int32))]) (rest := [.int q19, .int q18, .ref (G.2.2 + (hpR h r0 2))]) C hR hS t_r0 rfl mk_X9_storyDigit cl_X9_257 (k_X9_storyDigit t_r0 h_q20) ⟨⟨Nat.le_of_ble_eq_true rfl, Nat.le_of_ble_eq_true rfl⟩, ⟨rfl, rfl⟩, Nat.le_of_ble_eq_true rfl, Nat.le_of_ble_eq_true rfl⟩ rfl hl.1 rfl (Nat.le_of_ble_eq_true rfl) dX9_actDone_103 (fun H locs hR hS hE1 z_q20 => ?_)
    refine lv_aload_n C.x C.b dX9_actDone_106 rfl (lv_at hl 1 rfl) ?_
    refine lv_iload_n C.x C.b dX9_actDone_107 rfl (lv_at hl 2 rfl) ?_
    refine lv_iconst (v := (5 : Int32)) C.x C.b dX9_actDone_108 (by decide) ?_
    refine lv_iadd C.x C.b dX9_actDone_109 ?_
    obtain ⟨q21, h_q21, hf⟩ := bd_e hf
    refine r_callV (As := [.int (x1 + (5 : Int32))]) (rest := [.int q20, .int q19, .int q18, .ref (G.2.2 + (hpR h r0 2))]) C hR hS t_r0 rfl mk_X9_storyDigit cl_X9_257 (k_X9_storyDigit t_r0 h_q21) ⟨⟨Nat.le_of_ble_eq_true rfl, Nat.le_of_ble_eq_true rfl⟩, ⟨rfl, rfl⟩, Nat.le_of_ble_eq_true rfl, Nat.le_of_ble_eq_true rfl⟩ rfl hl.1 rfl (Nat.le_of_ble_eq_true rfl) dX9_actDone_110 (fun H locs hR hS hE1 z_q21 => ?_)
    refine lv_aload_n C.x C.b dX9_actDone_113 rfl (lv_at hl 1 rfl) ?_
    refine lv_iload_n C.x C.b dX9_actDone_114 rfl (lv_at hl 2 rfl) ?_
    refine lv_bipush (v := (6 : Int32)) C.x C.b dX9_actDone_115 (by decide) ?_
    refine lv_iadd C.x C.b dX9_actDone_117 ?_
    obtain ⟨q22, h_q22, hf⟩ := bd_e hf
    refine r_callV (As := [.int (x1 + (6 : Int32))]) (rest := [.int q21, .int q20, .int q19, .int q18, .ref (G.2.2 + (hpR h r0 2))]) C hR hS t_r0 rfl mk_X9_storyDigit cl_X9_257 (k_X9_storyDigit t_r0 h_q22) ⟨⟨Nat.le_of_ble_eq_true rfl, Nat.le_of_ble_eq_true rfl⟩, ⟨rfl, rfl⟩, Nat.le_of_ble_eq_true rfl, Nat.le_of_ble_eq_true rfl⟩ rfl hl.1 rfl (Nat.le_of_ble_eq_true rfl) dX9_actDone_118 (fun H locs hR hS hE1 z_q22 => ?_)
    obtain ⟨q23, h_q23, hf⟩ := bd_e hf
    refine r_callV (As := [.int q18, .int q19, .int q20, .int q21, .int q22]) (rest := []) C hR hS tg14 rfl mk_X0_pitchOn cl_X9_229 (k_X0_pitchOn tg14 h_q23) ⟨⟨Nat.le_of_ble_eq_true rfl, Nat.le_of_ble_eq_true rfl⟩, ⟨rfl, rfl⟩, Nat.le_of_ble_eq_true rfl, Nat.le_of_ble_eq_true rfl⟩ rfl hl.1 rfl (Nat.le_of_ble_eq_true rfl) dX9_actDone_121 (fun H locs hR hS hE1 z_q23 => ?_)
    have hE := hE.tr hE1
    have t_r0 := hE1.at t_r0 (by decide)
    have hf := so_e hf
    subst hf
    exact r_iret C hr hlk hR hE hS dX9_actDone_124
  have hf := it_f hf c44_2
  by_cases c44_3 : q4 = (113 : Int32)
  · have hf := it_t hf c44_3
    refine lv_tableIn (tgt := 157) C.x C.b dX9_actDone_16 (by rw [c44_3]; decide) (by rw [c44_3]; decide) (by rw [c44_3]; rfl) (by decide) ?_
    refine lv_aload_n C.x C.b dX9_actDone_157 rfl (lv_at hl 1 rfl) ?_
    obtain ⟨g24, hf⟩ := gd_e hf
    refine r_getr C hR t_r0 fl_X9_26 (by decide) (nz_e g24) dX9_actDone_158 (fun tq25 => ?_)
    have tg24 := okO tq25 rfl
    refine lv_iload_n C.x C.b dX9_actDone_161 rfl (lv_at hl 0 rfl) ?_
    refine lv_aload_n C.x C.b dX9_actDone_162 rfl (lv_at hl 1 rfl) ?_
    refine lv_iload_n C.x C.b dX9_actDone_163 rfl (lv_at hl 2 rfl) ?_
    refine lv_iconst (v := (2 : Int32)) C.x C.b dX9_actDone_164 (by decide) ?_
    refine lv_iadd C.x C.b dX9_actDone_165 ?_
    obtain ⟨q26, h_q26, hf⟩ := bd_e hf
    refine r_callV (As := [.int (x1 + (2 : Int32))]) (rest := [.int q1, .ref (G.2.2 + (hpR h r0 2))]) C hR hS t_r0 rfl mk_X9_storyDigit cl_X9_257 (k_X9_storyDigit t_r0 h_q26) ⟨⟨Nat.le_of_ble_eq_true rfl, Nat.le_of_ble_eq_true rfl⟩, ⟨rfl, rfl⟩, Nat.le_of_ble_eq_true rfl, Nat.le_of_ble_eq_true rfl⟩ rfl hl.1 rfl (Nat.le_of_ble_eq_true rfl) dX9_actDone_166 (fun H locs hR hS hE1 z_q26 => ?_)
    obtain ⟨q27, h_q27, hf⟩ := bd_e hf
    refine r_callV (As := [.int q1, .int q26]) (rest := []) C hR hS tg24 rfl mk_X0_move cl_X9_242 (k_X0_move tg24 h_q27) ⟨⟨Nat.le_of_ble_eq_true rfl, Nat.le_of_ble_eq_true rfl⟩, ⟨rfl, rfl⟩, Nat.le_of_ble_eq_true rfl, Nat.le_of_ble_eq_true rfl⟩ rfl hl.1 rfl (Nat.le_of_ble_eq_true rfl) dX9_actDone_169 (fun H locs hR hS hE1 z_q27 => ?_)
    have hE := hE.tr hE1
    have t_r0 := hE1.at t_r0 (by decide)
    have hf := so_e hf
    subst hf
    exact r_iret C hr hlk hR hE hS dX9_actDone_172
  have hf := it_f hf c44_3
  by_cases c44_4 : q4 = (114 : Int32)
  · have hf := it_t hf c44_4
    refine lv_tableIn (tgt := 157) C.x C.b dX9_actDone_16 (by rw [c44_4]; decide) (by rw [c44_4]; decide) (by rw [c44_4]; rfl) (by decide) ?_
    refine lv_aload_n C.x C.b dX9_actDone_157 rfl (lv_at hl 1 rfl) ?_
    obtain ⟨g28, hf⟩ := gd_e hf
    refine r_getr C hR t_r0 fl_X9_26 (by decide) (nz_e g28) dX9_actDone_158 (fun tq29 => ?_)
    have tg28 := okO tq29 rfl
    refine lv_iload_n C.x C.b dX9_actDone_161 rfl (lv_at hl 0 rfl) ?_
    refine lv_aload_n C.x C.b dX9_actDone_162 rfl (lv_at hl 1 rfl) ?_
    refine lv_iload_n C.x C.b dX9_actDone_163 rfl (lv_at hl 2 rfl) ?_
    refine lv_iconst (v := (2 : Int32)) C.x C.b dX9_actDone_164 (by decide) ?_
    refine lv_iadd C.x C.b dX9_actDone_165 ?_
    obtain ⟨q30, h_q30, hf⟩ := bd_e hf
    refine r_callV (As := [.int (x1 + (2 : Int32))]) (rest := [.int q1, .ref (G.2.2 + (hpR h r0 2))]) C hR hS t_r0 rfl mk_X9_storyDigit cl_X9_257 (k_X9_storyDigit t_r0 h_q30) ⟨⟨Nat.le_of_ble_eq_true rfl, Nat.le_of_ble_eq_true rfl⟩, ⟨rfl, rfl⟩, Nat.le_of_ble_eq_true rfl, Nat.le_of_ble_eq_true rfl⟩ rfl hl.1 rfl (Nat.le_of_ble_eq_true rfl) dX9_actDone_166 (fun H locs hR hS hE1 z_q30 => ?_)
    obtain ⟨q31, h_q31, hf⟩ := bd_e hf
    refine r_callV (As := [.int q1, .int q30]) (rest := []) C hR hS tg28 rfl mk_X0_move cl_X9_242 (k_X0_move tg28 h_q31) ⟨⟨Nat.le_of_ble_eq_true rfl, Nat.le_of_ble_eq_true rfl⟩, ⟨rfl, rfl⟩, Nat.le_of_ble_eq_true rfl, Nat.le_of_ble_eq_true rfl⟩ rfl hl.1 rfl (Nat.le_of_ble_eq_true rfl) dX9_actDone_169 (fun H locs hR hS hE1 z_q31 => ?_)
    have hE := hE.tr hE1
    have t_r0 := hE1.at t_r0 (by decide)
    have hf := so_e hf
    subst hf
    exact r_iret C hr hlk hR hE hS dX9_actDone_172
  have hf := it_f hf c44_4
  by_cases c44_5 : q4 = (115 : Int32)
  · have hf := it_t hf c44_5
    refine lv_tableIn (tgt := 141) C.x C.b dX9_actDone_16 (by rw [c44_5]; decide) (by rw [c44_5]; decide) (by rw [c44_5]; rfl) (by decide) ?_
    refine lv_aload_n C.x C.b dX9_actDone_141 rfl (lv_at hl 1 rfl) ?_
    obtain ⟨g32, hf⟩ := gd_e hf
    refine r_getr C hR t_r0 fl_X9_26 (by decide) (nz_e g32) dX9_actDone_142 (fun tq33 => ?_)
    have tg32 := okO tq33 rfl
    refine lv_iload_n C.x C.b dX9_actDone_145 rfl (lv_at hl 0 rfl) ?_
    refine lv_aload_n C.x C.b dX9_actDone_146 rfl (lv_at hl 1 rfl) ?_
    refine lv_iload_n C.x C.b dX9_actDone_147 rfl (lv_at hl 2 rfl) ?_
    refine lv_iconst (v := (2 : Int32)) C.x C.b dX9_actDone_148 (by decide) ?_
    refine lv_iadd C.x C.b dX9_actDone_149 ?_
    obtain ⟨q34, h_q34, hf⟩ := bd_e hf
    refine r_callV (As := [.int (x1 + (2 : Int32))]) (rest := [.int q1, .ref (G.2.2 + (hpR h r0 2))]) C hR hS t_r0 rfl mk_X9_storyDigit cl_X9_257 (k_X9_storyDigit t_r0 h_q34) ⟨⟨Nat.le_of_ble_eq_true rfl, Nat.le_of_ble_eq_true rfl⟩, ⟨rfl, rfl⟩, Nat.le_of_ble_eq_true rfl, Nat.le_of_ble_eq_true rfl⟩ rfl hl.1 rfl (Nat.le_of_ble_eq_true rfl) dX9_actDone_150 (fun H locs hR hS hE1 z_q34 => ?_)
    obtain ⟨q35, h_q35, hf⟩ := bd_e hf
    refine r_callV (As := [.int q1, .int q34]) (rest := []) C hR hS tg32 rfl mk_X0_singTo cl_X9_239 (k_X0_singTo tg32 h_q35) ⟨⟨Nat.le_of_ble_eq_true rfl, Nat.le_of_ble_eq_true rfl⟩, ⟨rfl, rfl⟩, Nat.le_of_ble_eq_true rfl, Nat.le_of_ble_eq_true rfl⟩ rfl hl.1 rfl (Nat.le_of_ble_eq_true rfl) dX9_actDone_153 (fun H locs hR hS hE1 z_q35 => ?_)
    have hE := hE.tr hE1
    have t_r0 := hE1.at t_r0 (by decide)
    have hf := so_e hf
    subst hf
    exact r_iret C hr hlk hR hE hS dX9_actDone_156
  have hf := it_f hf c44_5
  by_cases c44_6 : q4 = (116 : Int32)
  · have hf := it_t hf c44_6
    refine lv_tableIn (tgt := 125) C.x C.b dX9_actDone_16 (by rw [c44_6]; decide) (by rw [c44_6]; decide) (by rw [c44_6]; rfl) (by decide) ?_
    refine lv_aload_n C.x C.b dX9_actDone_125 rfl (lv_at hl 1 rfl) ?_
    obtain ⟨g36, hf⟩ := gd_e hf
    refine r_getr C hR t_r0 fl_X9_26 (by decide) (nz_e g36) dX9_actDone_126 (fun tq37 => ?_)
    have tg36 := okO tq37 rfl
    refine lv_iload_n C.x C.b dX9_actDone_129 rfl (lv_at hl 0 rfl) ?_
    refine lv_aload_n C.x C.b dX9_actDone_130 rfl (lv_at hl 1 rfl) ?_
    refine lv_iload_n C.x C.b dX9_actDone_131 rfl (lv_at hl 2 rfl) ?_
    refine lv_iconst (v := (2 : Int32)) C.x C.b dX9_actDone_132 (by decide) ?_
    refine lv_iadd C.x C.b dX9_actDone_133 ?_
    obtain ⟨q38, h_q38, hf⟩ := bd_e hf
    refine r_callV (As := [.int (x1 + (2 : Int32))]) (rest := [.int q1, .ref (G.2.2 + (hpR h r0 2))]) C hR hS t_r0 rfl mk_X9_storyDigit cl_X9_257 (k_X9_storyDigit t_r0 h_q38) ⟨⟨Nat.le_of_ble_eq_true rfl, Nat.le_of_ble_eq_true rfl⟩, ⟨rfl, rfl⟩, Nat.le_of_ble_eq_true rfl, Nat.le_of_ble_eq_true rfl⟩ rfl hl.1 rfl (Nat.le_of_ble_eq_true rfl) dX9_actDone_134 (fun H locs hR hS hE1 z_q38 => ?_)
    obtain ⟨q39, h_q39, hf⟩ := bd_e hf
    refine r_callV (As := [.int q1, .int q38]) (rest := []) C hR hS tg36 rfl mk_X0_treadOn cl_X9_236 (k_X0_treadOn tg36 h_q39) ⟨⟨Nat.le_of_ble_eq_true rfl, Nat.le_of_ble_eq_true rfl⟩, ⟨rfl, rfl⟩, Nat.le_of_ble_eq_true rfl, Nat.le_of_ble_eq_true rfl⟩ rfl hl.1 rfl (Nat.le_of_ble_eq_true rfl) dX9_actDone_137 (fun H locs hR hS hE1 z_q39 => ?_)
    have hE := hE.tr hE1
    have t_r0 := hE1.at t_r0 (by decide)
    have hf := so_e hf
    subst hf
    exact r_iret C hr hlk hR hE hS dX9_actDone_140
  have hf := it_f hf c44_6
  refine lv_tableOut (tgt := 157) C.x C.b dX9_actDone_16 (tb_out 7 (by decide) (fun j hj => match j, hj with | 0, _ => fun q => c44_0 (q.trans (by decide)) | 1, _ => fun q => c44_1 (q.trans (by decide)) | 2, _ => fun q => c44_2 (q.trans (by decide)) | 3, _ => fun q => c44_3 (q.trans (by decide)) | 4, _ => fun q => c44_4 (q.trans (by decide)) | 5, _ => fun q => c44_5 (q.trans (by decide)) | 6, _ => fun q => c44_6 (q.trans (by decide)) | n + 7, hn => absurd hn (by omega))) (by decide) ?_
  refine lv_aload_n C.x C.b dX9_actDone_157 rfl (lv_at hl 1 rfl) ?_
  obtain ⟨g40, hf⟩ := gd_e hf
  refine r_getr C hR t_r0 fl_X9_26 (by decide) (nz_e g40) dX9_actDone_158 (fun tq41 => ?_)
  have tg40 := okO tq41 rfl
  refine lv_iload_n C.x C.b dX9_actDone_161 rfl (lv_at hl 0 rfl) ?_
  refine lv_aload_n C.x C.b dX9_actDone_162 rfl (lv_at hl 1 rfl) ?_
  refine lv_iload_n C.x C.b dX9_actDone_163 rfl (lv_at hl 2 rfl) ?_
  refine lv_iconst (v := (2 : Int32)) C.x C.b dX9_actDone_164 (by decide) ?_
  refine lv_iadd C.x C.b dX9_actDone_165 ?_
  obtain ⟨q42, h_q42, hf⟩ := bd_e hf
  refine r_callV (As := [.int (x1 + (2 : Int32))]) (rest := [.int q1, .ref (G.2.2 + (hpR h r0 2))]) C hR hS t_r0 rfl mk_X9_storyDigit cl_X9_257 (k_X9_storyDigit t_r0 h_q42) ⟨⟨Nat.le_of_ble_eq_true rfl, Nat.le_of_ble_eq_true rfl⟩, ⟨rfl, rfl⟩, Nat.le_of_ble_eq_true rfl, Nat.le_of_ble_eq_true rfl⟩ rfl hl.1 rfl (Nat.le_of_ble_eq_true rfl) dX9_actDone_166 (fun H locs hR hS hE1 z_q42 => ?_)
  obtain ⟨q43, h_q43, hf⟩ := bd_e hf
  refine r_callV (As := [.int q1, .int q42]) (rest := []) C hR hS tg40 rfl mk_X0_move cl_X9_242 (k_X0_move tg40 h_q43) ⟨⟨Nat.le_of_ble_eq_true rfl, Nat.le_of_ble_eq_true rfl⟩, ⟨rfl, rfl⟩, Nat.le_of_ble_eq_true rfl, Nat.le_of_ble_eq_true rfl⟩ rfl hl.1 rfl (Nat.le_of_ble_eq_true rfl) dX9_actDone_169 (fun H locs hR hS hE1 z_q43 => ?_)
  have hE := hE.tr hE1
  have t_r0 := hE1.at t_r0 (by decide)
  have hf := so_e hf
  subst hf
  exact r_iret C hr hlk hR hE hS dX9_actDone_172

def rm_X9_story : Room := { frames := 7, cells := 0, slots := 0, locals := 152 }
def P_X9_story_83 (G : Gt) (l : Launch) (p : Program) (e : Env) (s : State) (m : MethodId) (args : Array Value) (below : List Frame) (meth : Method) (c : Code) (h0 : Hp) (out : (Int32 × Hp)) (r0 : Nat) (k : Hp → Int32 → Int32 → Int32 → Int32 → Option (Int32 × Hp)) : Prop := ∀ (H : Heap) (locs : List Loc) (ls : Array Slot) (h : Hp) (x2 : Int32) (x3 : Int32) (x4 : Int32) (x5 : Int32), k h x2 x3 x4 x5 = some out → Ext h0 h → Rel G h H → va_S (AA G.2.2) s.heap H locs → hpT h r0 = (1, 9) → narrow .boolean (.int x3) = .int x3 → lv_has ls 6 [(0, .ref (G.2.2 + r0)), (2, .int x2), (3, .int x3), (4, .int x4), (5, .int x5)] → W p l e rm_X9_story s m args below meth c H locs 0 0 (MQ below (Qm G h0 out.2 (some (.int out.1)) 0) args s 0 0 (AA G.2.2)) (F0 m 83 ls [])
def P_X9_story_131 (G : Gt) (l : Launch) (p : Program) (e : Env) (s : State) (m : MethodId) (args : Array Value) (below : List Frame) (meth : Method) (c : Code) (h0 : Hp) (out : (Int32 × Hp)) (r0 : Nat) (k : Hp → Int32 → Int32 → Option (Int32 × Hp)) : Prop := ∀ (H : Heap) (locs : List Loc) (ls : Array Slot) (h : Hp) (x2 : Int32) (x3 : Int32), k h x2 x3 = some out → Ext h0 h → Rel G h H → va_S (AA G.2.2) s.heap H locs → hpT h r0 = (1, 9) → narrow .boolean (.int x3) = .int x3 → lv_has ls 6 [(0, .ref (G.2.2 + r0)), (2, .int x2), (3, .int x3)] → W p l e rm_X9_story s m args below meth c H locs 0 0 (MQ below (Qm G h0 out.2 (some (.int out.1)) 0) args s 0 0 (AA G.2.2)) (F0 m 131 ls [])
def P_X9_story_108 (G : Gt) (l : Launch) (p : Program) (e : Env) (s : State) (m : MethodId) (args : Array Value) (below : List Frame) (meth : Method) (c : Code) (h0 : Hp) (out : (Int32 × Hp)) (r0 : Nat) (k : Hp → Int32 → Int32 → Option (Int32 × Hp)) : Prop := ∀ (H : Heap) (locs : List Loc) (ls : Array Slot) (h : Hp) (x2 : Int32) (x3 : Int32), k h x2 x3 = some out → Ext h0 h → Rel G h H → va_S (AA G.2.2) s.heap H locs → hpT h r0 = (1, 9) → narrow .boolean (.int x3) = .int x3 → lv_has ls 6 [(0, .ref (G.2.2 + r0)), (2, .int x2), (3, .int x3)] → W p l e rm_X9_story s m args below meth c H locs 0 0 (MQ below (Qm G h0 out.2 (some (.int out.1)) 0) args s 0 0 (AA G.2.2)) (F0 m 108 ls [])
def P_X9_story_43 (G : Gt) (l : Launch) (p : Program) (e : Env) (s : State) (m : MethodId) (args : Array Value) (below : List Frame) (meth : Method) (c : Code) (h0 : Hp) (out : (Int32 × Hp)) (r0 : Nat) (k : Hp → Int32 → Int32 → Int32 → Int32 → Option (Int32 × Hp)) : Prop := ∀ (H : Heap) (locs : List Loc) (ls : Array Slot) (h : Hp) (x2 : Int32) (x3 : Int32) (x4 : Int32) (x5 : Int32), k h x2 x3 x4 x5 = some out → Ext h0 h → Rel G h H → va_S (AA G.2.2) s.heap H locs → hpT h r0 = (1, 9) → narrow .boolean (.int x3) = .int x3 → lv_has ls 6 [(0, .ref (G.2.2 + r0)), (2, .int x2), (3, .int x3), (4, .int x4), (5, .int x5)] → W p l e rm_X9_story s m args below meth c H locs 0 0 (MQ below (Qm G h0 out.2 (some (.int out.1)) 0) args s 0 0 (AA G.2.2)) (F0 m 43 ls [])
set_option maxRecDepth 100000 in
set_option maxHeartbeats 4000000 in
theorem w_X9_story_83 {G : Gt} {l : Launch} {p : Program} {e : Env} {s : State} {m : MethodId} {args : Array Value} {below : List Frame} {meth : Method} {c : Code}  {h0 : Hp} {out : (Int32 × Hp)} {r0 : Nat} {k43 : Hp → Int32 → Int32 → Int32 → Int32 → Option (Int32 × Hp)} (C : Cx G p m c cX9_story 6 s args RX9) (hr : meth.sig.returnType = some .int) (hlk : meth.locks = false)  (hk43 : P_X9_story_43 G l p e s m args below meth c h0 out r0 k43) : P_X9_story_83 G l p e s m args below meth c h0 out r0 (f_X9_story_83 r0 k43) := by
  intro H locs ls h x2 x3 x4 x5 hf hE hR hS t_r0 z_x3 hl
  rw [f_X9_story_83] at hf
  refine lv_iload C.x C.b dX9_story_83 (lv_at hl 3 rfl) ?_
  refine lv_iconst (v := (1 : Int32)) C.x C.b dX9_story_85 (by decide) ?_
  refine lv_aload_n C.x C.b dX9_story_86 rfl (lv_at hl 0 rfl) ?_
  obtain ⟨g19, hf⟩ := gd_e hf
  refine r_getr C hR t_r0 fl_X9_10 (by decide) (nz_e g19) dX9_story_87 (fun tq20 => ?_)
  have tg19 := okO tq20 rfl
  refine lv_iload C.x C.b dX9_story_90 (lv_at hl 3 rfl) ?_
  obtain ⟨q21, h_q21, hf⟩ := bd_e hf
  refine r_callV (As := [.int x4]) (rest := [.int (1 : Int32), .int x4]) C hR hS tg19 rfl mk_X6_get cl_X9_142 (k_X6_get tg19 h_q21) ⟨⟨Nat.le_of_ble_eq_true rfl, Nat.le_of_ble_eq_true rfl⟩, ⟨rfl, rfl⟩, Nat.le_of_ble_eq_true rfl, Nat.le_of_ble_eq_true rfl⟩ rfl hl.1 rfl (Nat.le_of_ble_eq_true rfl) dX9_story_92 (fun H locs hR hS hE1 z_q21 => ?_)
  obtain ⟨q22, h_q22, hf⟩ := bd_e hf
  refine r_callS (As := [.int q21]) (rest := [.int (1 : Int32), .int x4]) C hR hS mk_X9_digitsBehind cl_X9_251 (k_X9_digitsBehind h_q22) ⟨⟨Nat.le_of_ble_eq_true rfl, Nat.le_of_ble_eq_true rfl⟩, ⟨rfl, rfl⟩, Nat.le_of_ble_eq_true rfl, Nat.le_of_ble_eq_true rfl⟩ rfl hl.1 rfl (Nat.le_of_ble_eq_true rfl) dX9_story_95 (fun H locs hR hS hE1 z_q22 => ?_)
  refine lv_iadd C.x C.b dX9_story_98 ?_
  refine lv_iadd C.x C.b dX9_story_99 ?_
  refine lv_topi (fun v23 e_v23 => ?_)
  have hf := lt_e hf e_v23
  refine lv_istore (lv' := [(4, .int v23), (0, .ref (G.2.2 + r0)), (2, .int x2), (3, .int x3), (5, .int x5)]) C.x C.b dX9_story_100 hl (by decide) rfl (fun ls hl => ?_)
  obtain ⟨v24, e_v24⟩ : ∃ y : Int32, y = x5 + (1 : Int32) := ⟨_, rfl⟩
  have hf := lt_e hf e_v24
  refine lv_iinc (v := v24) (lv' := [(5, .int v24), (4, .int v23), (0, .ref (G.2.2 + r0)), (2, .int x2), (3, .int x3)]) C.x C.b dX9_story_102 hl (k := 4) rfl (by rw [e_v24]; rfl) (by decide) rfl (fun ls hl => ?_)
  refine lv_goto (tgt := 43) C.x C.b dX9_story_105 (by decide) ?_
  exact hk43 _ _ _ _ _ _ _ _ hf hE hR hS t_r0 z_x3 (lv_sub hl [2, 3, 4, 1, 0] rfl)
set_option maxRecDepth 100000 in
set_option maxHeartbeats 4000000 in
theorem w_X9_story_131 {G : Gt} {l : Launch} {p : Program} {e : Env} {s : State} {m : MethodId} {args : Array Value} {below : List Frame} {meth : Method} {c : Code}  {h0 : Hp} {out : (Int32 × Hp)} {r0 : Nat}  (C : Cx G p m c cX9_story 6 s args RX9) (hr : meth.sig.returnType = some .int) (hlk : meth.locks = false)   : P_X9_story_131 G l p e s m args below meth c h0 out r0 (f_X9_story_131 r0) := by
  intro H locs ls h x2 x3 hf hE hR hS t_r0 z_x3 hl
  rw [f_X9_story_131] at hf
  refine lv_aload_n C.x C.b dX9_story_131 rfl (lv_at hl 0 rfl) ?_
  obtain ⟨g34, hf⟩ := gd_e hf
  refine r_getr C hR t_r0 fl_X9_19 (by decide) (nz_e g34) dX9_story_132 (fun tq35 => ?_)
  have tg34 := okO tq35 rfl
  obtain ⟨q36, h_q36, hf⟩ := bd_e hf
  refine r_callV (As := []) (rest := []) C hR hS tg34 rfl mk_X7_start cl_X9_220 (k_X7_start tg34 h_q36) ⟨⟨Nat.le_of_ble_eq_true rfl, Nat.le_of_ble_eq_true rfl⟩, ⟨rfl, rfl⟩, Nat.le_of_ble_eq_true rfl, Nat.le_of_ble_eq_true rfl⟩ rfl hl.1 rfl (Nat.le_of_ble_eq_true rfl) dX9_story_135 (fun H locs hR hS hE1 z_q36 => ?_)
  have hE := hE.tr hE1
  have t_r0 := hE1.at t_r0 (by decide)
  refine lv_aload_n C.x C.b dX9_story_138 rfl (lv_at hl 0 rfl) ?_
  obtain ⟨g37, hf⟩ := gd_e hf
  refine r_getr C hR t_r0 fl_X9_19 (by decide) (nz_e g37) dX9_story_139 (fun tq38 => ?_)
  have tg37 := okO tq38 rfl
  refine lv_iload_n C.x C.b dX9_story_142 rfl (lv_at hl 2 rfl) ?_
  refine lv_i2l C.x C.b dX9_story_143 rfl ?_
  obtain ⟨q39, h_q39, hf⟩ := bd_e hf
  refine r_callV (As := [.long (x3.toInt64)]) (rest := []) C hR hS tg37 rfl mk_X7_add cl_X9_223 (k_X7_add tg37 h_q39) ⟨⟨Nat.le_of_ble_eq_true rfl, Nat.le_of_ble_eq_true rfl⟩, ⟨rfl, rfl⟩, Nat.le_of_ble_eq_true rfl, Nat.le_of_ble_eq_true rfl⟩ rfl hl.1 rfl (Nat.le_of_ble_eq_true rfl) dX9_story_144 (fun H locs hR hS hE1 z_q39 => ?_)
  have hE := hE.tr hE1
  have t_r0 := hE1.at t_r0 (by decide)
  refine lv_aload_n C.x C.b dX9_story_147 rfl (lv_at hl 0 rfl) ?_
  obtain ⟨g40, hf⟩ := gd_e hf
  refine r_getr C hR t_r0 fl_X9_19 (by decide) (nz_e g40) dX9_story_148 (fun tq41 => ?_)
  have tg40 := okO tq41 rfl
  refine lv_aload_n C.x C.b dX9_story_151 rfl (lv_at hl 0 rfl) ?_
  obtain ⟨g42, hf⟩ := gd_e hf
  refine r_getr C hR t_r0 fl_X9_26 (by decide) (nz_e g42) dX9_story_152 (fun tq43 => ?_)
  have tg42 := okO tq43 rfl
  refine r_geti C hR tg42 fl_X9_254 rfl dX9_story_155 ?_
  refine lv_i2l C.x C.b dX9_story_158 rfl ?_
  obtain ⟨q44, h_q44, hf⟩ := bd_e hf
  refine r_callV (As := [.long ((hpI q39 (hpR q39 r0 2) 3).toInt64)]) (rest := []) C hR hS tg40 rfl mk_X7_add cl_X9_223 (k_X7_add tg40 h_q44) ⟨⟨Nat.le_of_ble_eq_true rfl, Nat.le_of_ble_eq_true rfl⟩, ⟨rfl, rfl⟩, Nat.le_of_ble_eq_true rfl, Nat.le_of_ble_eq_true rfl⟩ rfl hl.1 rfl (Nat.le_of_ble_eq_true rfl) dX9_story_159 (fun H locs hR hS hE1 z_q44 => ?_)
  have hE := hE.tr hE1
  have t_r0 := hE1.at t_r0 (by decide)
  refine lv_iload_n C.x C.b dX9_story_162 rfl (lv_at hl 1 rfl) ?_
  have hf := so_e hf
  subst hf
  exact r_iret C hr hlk hR hE hS dX9_story_163
set_option maxRecDepth 100000 in
set_option maxHeartbeats 4000000 in
theorem w_X9_story_108 {G : Gt} {l : Launch} {p : Program} {e : Env} {s : State} {m : MethodId} {args : Array Value} {below : List Frame} {meth : Method} {c : Code}  {h0 : Hp} {out : (Int32 × Hp)} {r0 : Nat}  (C : Cx G p m c cX9_story 6 s args RX9) (hr : meth.sig.returnType = some .int) (hlk : meth.locks = false)   : P_X9_story_108 G l p e s m args below meth c h0 out r0 (f_X9_story_108 r0) := by
  intro H locs ls h x2 x3 hf hE hR hS t_r0 z_x3 hl
  rw [f_X9_story_108] at hf
  refine lv_aload_n C.x C.b dX9_story_108 rfl (lv_at hl 0 rfl) ?_
  obtain ⟨g25, hf⟩ := gd_e hf
  refine r_getr C hR t_r0 fl_X9_10 (by decide) (nz_e g25) dX9_story_109 (fun tq26 => ?_)
  have tg25 := okO tq26 rfl
  refine lv_iconst (v := (0 : Int32)) C.x C.b dX9_story_112 (by decide) ?_
  refine r_puti C hR hS tg25 fl_X9_93 fp_X9_6_1 rfl dX9_story_113 (fun H locs hR hS => ?_)
  obtain ⟨h27, e_h27⟩ : ∃ y, y = upI h (hpR h r0 0) 1 (0 : Int32) := ⟨_, rfl⟩
  rw [← e_h27] at hR
  have hf := lt_e hf e_h27
  have hE := eI e_h27 hE
  have t_r0 := tI e_h27 t_r0
  refine lv_iload_n C.x C.b dX9_story_116 rfl (lv_at hl 1 rfl) ?_
  refine lv_if_le (tgt := 131) C.x C.b dX9_story_117 (by decide) (fun c28 => ?_) (fun c28 => ?_)
  · have hf := it_t hf c28
    exact w_X9_story_131 C hr hlk _ _ _ _ _ _ hf hE hR hS t_r0 z_x3 (lv_sub hl [0, 1, 2] rfl)
  · have hf := it_f hf c28
    refine lv_aload_n C.x C.b dX9_story_120 rfl (lv_at hl 0 rfl) ?_
    obtain ⟨g29, hf⟩ := gd_e hf
    refine r_getr C hR t_r0 fl_X9_39 (by decide) (nz_e g29) dX9_story_121 (fun tq30 => ?_)
    have tg29 := okO tq30 rfl
    refine lv_aload_n C.x C.b dX9_story_124 rfl (lv_at hl 0 rfl) ?_
    obtain ⟨g31, hf⟩ := gd_e hf
    refine r_getr C hR t_r0 fl_X9_30 (by decide) (nz_e g31) dX9_story_125 (fun tq32 => ?_)
    have tg31 := okO tq32 rfl
    obtain ⟨q33, h_q33, hf⟩ := bd_e hf
    refine r_callV (As := [.ref (G.2.2 + (hpR h27 r0 3))]) (rest := []) C hR hS tg29 rfl mk_X3_push cl_X9_217 (k_X3_push tg29 tg31 h_q33) ⟨⟨Nat.le_of_ble_eq_true rfl, Nat.le_of_ble_eq_true rfl⟩, ⟨rfl, rfl⟩, Nat.le_of_ble_eq_true rfl, Nat.le_of_ble_eq_true rfl⟩ rfl hl.1 rfl (Nat.le_of_ble_eq_true rfl) dX9_story_128 (fun H locs hR hS hE1 z_q33 => ?_)
    have hE := hE.tr hE1
    have t_r0 := hE1.at t_r0 (by decide)
    exact w_X9_story_131 C hr hlk _ _ _ _ _ _ hf hE hR hS t_r0 z_x3 (lv_sub hl [0, 1, 2] rfl)
set_option maxRecDepth 100000 in
set_option maxHeartbeats 4000000 in
theorem w_X9_story_43 {G : Gt} {l : Launch} {p : Program} {e : Env} {s : State} {m : MethodId} {args : Array Value} {below : List Frame} {meth : Method} {c : Code}  {h0 : Hp} {out : (Int32 × Hp)} {r0 : Nat}  (C : Cx G p m c cX9_story 6 s args RX9) (hr : meth.sig.returnType = some .int) (hlk : meth.locks = false)   (n : Nat) : P_X9_story_43 G l p e s m args below meth c h0 out r0 (f_X9_story_43 r0 n) := by
  induction n with
  | zero => intro H locs ls h x2 x3 x4 x5 hf hE hR hS t_r0 z_x3 hl; cases hf
  | succ n hk43 =>
    intro H locs ls h x2 x3 x4 x5 hf hE hR hS t_r0 z_x3 hl
    rw [f_X9_story_43] at hf
    obtain ⟨k43, e_k43⟩ : ∃ y, y = f_X9_story_43 r0 n := ⟨_, rfl⟩
    have hf := lt_e hf e_k43
    rw [← e_k43] at hk43
    refine lv_iload C.x C.b dX9_story_43 (lv_at hl 4 rfl) ?_
    refine lv_bipush (v := (60 : Int32)) C.x C.b dX9_story_45 (by decide) ?_
    refine lv_icmp_ge (tgt := 108) C.x C.b dX9_story_47 (by decide) (fun c11 => ?_) (fun c11 => ?_)
    · have hf := it_t hf c11
      exact w_X9_story_108 C hr hlk _ _ _ _ _ _ hf hE hR hS t_r0 z_x3 (lv_sub hl [0, 1, 2] rfl)
    · have hf := it_f hf c11
      refine lv_iload C.x C.b dX9_story_50 (lv_at hl 3 rfl) ?_
      refine lv_aload_n C.x C.b dX9_story_52 rfl (lv_at hl 0 rfl) ?_
      obtain ⟨g12, hf⟩ := gd_e hf
      refine r_getr C hR t_r0 fl_X9_10 (by decide) (nz_e g12) dX9_story_53 (fun tq13 => ?_)
      have tg12 := okO tq13 rfl
      refine r_geti C hR tg12 fl_X9_93 rfl dX9_story_56 ?_
      refine lv_icmp_ge (tgt := 108) C.x C.b dX9_story_59 (by decide) (fun c14 => ?_) (fun c14 => ?_)
      · have hf := it_t hf c14
        exact w_X9_story_108 C hr hlk _ _ _ _ _ _ hf hE hR hS t_r0 z_x3 (lv_sub hl [0, 1, 2] rfl)
      · have hf := it_f hf c14
        refine lv_iload_n C.x C.b dX9_story_62 rfl (lv_at hl 2 rfl) ?_
        refine lv_if_ne (tgt := 108) C.x C.b dX9_story_63 (by decide) (fun c15 => ?_) (fun c15 => ?_)
        · have hf := it_f hf c15
          exact w_X9_story_108 C hr hlk _ _ _ _ _ _ hf hE hR hS t_r0 z_x3 (lv_sub hl [0, 1, 2] rfl)
        · have hf := it_t hf c15
          refine lv_aload_n C.x C.b dX9_story_66 rfl (lv_at hl 0 rfl) ?_
          refine lv_iload C.x C.b dX9_story_67 (lv_at hl 3 rfl) ?_
          obtain ⟨q16, h_q16, hf⟩ := bd_e hf
          refine r_callV (As := [.int x4]) (rest := []) C hR hS t_r0 rfl mk_X9_actDone cl_X9_248 (k_X9_actDone t_r0 h_q16) ⟨⟨Nat.le_of_ble_eq_true rfl, Nat.le_of_ble_eq_true rfl⟩, ⟨rfl, rfl⟩, Nat.le_of_ble_eq_true rfl, Nat.le_of_ble_eq_true rfl⟩ rfl hl.1 rfl (Nat.le_of_ble_eq_true rfl) dX9_story_69 (fun H locs hR hS hE1 z_q16 => ?_)
          have hE := hE.tr hE1
          have t_r0 := hE1.at t_r0 (by decide)
          refine lv_if_ge (tgt := 80) C.x C.b dX9_story_72 (by decide) (fun c17 => ?_) (fun c17 => ?_)
          · have hf := it_t hf c17
            obtain ⟨v18, e_v18⟩ : ∃ y : Int32, y = x2 + (1 : Int32) := ⟨_, rfl⟩
            have hf := lt_e hf e_v18
            refine lv_iinc (v := v18) (lv' := [(2, .int v18), (0, .ref (G.2.2 + r0)), (3, .int x3), (4, .int x4), (5, .int x5)]) C.x C.b dX9_story_80 hl (k := 1) rfl (by rw [e_v18]; rfl) (by decide) rfl (fun ls hl => ?_)
            exact w_X9_story_83 C hr hlk hk43 _ _ _ _ _ _ _ _ hf hE hR hS t_r0 z_x3 (lv_sub hl [1, 0, 2, 3, 4] rfl)
          · have hf := it_f hf c17
            refine lv_iconst (v := (1 : Int32)) C.x C.b dX9_story_75 (by decide) ?_
            refine lv_istore_n (lv' := [(3, .int (1 : Int32)), (0, .ref (G.2.2 + r0)), (2, .int x2), (4, .int x4), (5, .int x5)]) C.x C.b dX9_story_76 rfl hl (by decide) rfl (fun ls hl => ?_)
            refine lv_goto (tgt := 83) C.x C.b dX9_story_77 (by decide) ?_
            exact w_X9_story_83 C hr hlk hk43 _ _ _ _ _ _ _ _ hf hE hR hS t_r0 z_1 (lv_sub hl [1, 2, 0, 3, 4] rfl)
set_option maxRecDepth 100000 in
set_option maxHeartbeats 4000000 in
theorem k_X9_story {G : Gt} {l : Launch}  {h : Hp} {r0 : Nat} {out : (Int32 × Hp)} (t_r0 : hpT h r0 = (1, 9))  (hf : f_X9_story  h r0 = some out) : Mt G l yX9_story cX9_story 6 (some .int) rm_X9_story [.ref (G.2.2 + r0)] h (some (.int out.1)) out.2 0 0 0 := by
  refine r_met (by decide +kernel) (Nat.le_of_ble_eq_true rfl) ?_
  intro p e s m args below meth c ls C hr hlk hnm hR hS hl
  have hE : Ext h h := Ext.rf
  have hl : lv_has ls 6 [(0, .ref (G.2.2 + r0))] := hl
  rw [f_X9_story] at hf
  refine lv_aload_n C.x C.b dX9_story_0 rfl (lv_at hl 0 rfl) ?_
  obtain ⟨q1, h_q1, hf⟩ := bd_e hf
  refine r_callV (As := []) (rest := []) C hR hS t_r0 rfl mk_X9_badInStory cl_X9_245 (k_X9_badInStory t_r0 h_q1) ⟨⟨Nat.le_of_ble_eq_true rfl, Nat.le_of_ble_eq_true rfl⟩, ⟨rfl, rfl⟩, Nat.le_of_ble_eq_true rfl, Nat.le_of_ble_eq_true rfl⟩ rfl hl.1 rfl (Nat.le_of_ble_eq_true rfl) dX9_story_1 (fun H locs hR hS hE1 z_q1 => ?_)
  refine lv_istore_n (lv' := [(1, .int q1), (0, .ref (G.2.2 + r0))]) C.x C.b dX9_story_4 rfl hl (by decide) rfl (fun ls hl => ?_)
  refine lv_iload_n C.x C.b dX9_story_5 rfl (lv_at hl 0 rfl) ?_
  refine lv_iconst (v := (-1 : Int32)) C.x C.b dX9_story_6 (by decide) ?_
  refine lv_icmp_eq (tgt := 22) C.x C.b dX9_story_7 (by decide) (fun c2 => ?_) (fun c2 => ?_)
  · have hf := it_t hf c2
    refine lv_aload_n C.x C.b dX9_story_22 rfl (lv_at hl 1 rfl) ?_
    obtain ⟨g3, hf⟩ := gd_e hf
    refine r_getr C hR t_r0 fl_X9_30 (by decide) (nz_e g3) dX9_story_23 (fun tq4 => ?_)
    have tg3 := okO tq4 rfl
    refine lv_aload_n C.x C.b dX9_story_26 rfl (lv_at hl 1 rfl) ?_
    obtain ⟨g5, hf⟩ := gd_e hf
    refine r_getr C hR t_r0 fl_X9_26 (by decide) (nz_e g5) dX9_story_27 (fun tq6 => ?_)
    have tg5 := okO tq6 rfl
    obtain ⟨q7, h_q7, hf⟩ := bd_e hf
    refine r_callV (As := [.ref (G.2.2 + (hpR h r0 2))]) (rest := []) C hR hS tg3 rfl mk_X0_copy cl_X9_134 (k_X0_copy tg3 tg5 h_q7) ⟨⟨Nat.le_of_ble_eq_true rfl, Nat.le_of_ble_eq_true rfl⟩, ⟨rfl, rfl⟩, Nat.le_of_ble_eq_true rfl, Nat.le_of_ble_eq_true rfl⟩ rfl hl.1 rfl (Nat.le_of_ble_eq_true rfl) dX9_story_30 (fun H locs hR hS hE1 z_q7 => ?_)
    have hE := hE.tr hE1
    have t_r0 := hE1.at t_r0 (by decide)
    refine lv_iconst (v := (0 : Int32)) C.x C.b dX9_story_33 (by decide) ?_
    refine lv_istore_n (lv' := [(2, .int (0 : Int32)), (1, .int q1), (0, .ref (G.2.2 + r0))]) C.x C.b dX9_story_34 rfl hl (by decide) rfl (fun ls hl => ?_)
    refine lv_iconst (v := (0 : Int32)) C.x C.b dX9_story_35 (by decide) ?_
    refine lv_istore_n (lv' := [(3, .int (0 : Int32)), (2, .int (0 : Int32)), (1, .int q1), (0, .ref (G.2.2 + r0))]) C.x C.b dX9_story_36 rfl hl (by decide) rfl (fun ls hl => ?_)
    refine lv_iconst (v := (0 : Int32)) C.x C.b dX9_story_37 (by decide) ?_
    refine lv_istore (lv' := [(4, .int (0 : Int32)), (3, .int (0 : Int32)), (2, .int (0 : Int32)), (1, .int q1), (0, .ref (G.2.2 + r0))]) C.x C.b dX9_story_38 hl (by decide) rfl (fun ls hl => ?_)
    refine lv_iconst (v := (0 : Int32)) C.x C.b dX9_story_40 (by decide) ?_
    refine lv_istore (lv' := [(5, .int (0 : Int32)), (4, .int (0 : Int32)), (3, .int (0 : Int32)), (2, .int (0 : Int32)), (1, .int q1), (0, .ref (G.2.2 + r0))]) C.x C.b dX9_story_41 hl (by decide) rfl (fun ls hl => ?_)
    exact w_X9_story_43 C hr hlk FU _ _ _ _ _ _ _ _ hf hE hR hS t_r0 z_0 (lv_sub hl [5, 3, 2, 1, 0] rfl)
  · have hf := it_f hf c2
    refine lv_aload_n C.x C.b dX9_story_10 rfl (lv_at hl 1 rfl) ?_
    obtain ⟨g8, hf⟩ := gd_e hf
    refine r_getr C hR t_r0 fl_X9_10 (by decide) (nz_e g8) dX9_story_11 (fun tq9 => ?_)
    have tg8 := okO tq9 rfl
    refine lv_iconst (v := (0 : Int32)) C.x C.b dX9_story_14 (by decide) ?_
    refine r_puti C hR hS tg8 fl_X9_93 fp_X9_6_1 rfl dX9_story_15 (fun H locs hR hS => ?_)
    obtain ⟨h10, e_h10⟩ : ∃ y, y = upI h (hpR h r0 0) 1 (0 : Int32) := ⟨_, rfl⟩
    rw [← e_h10] at hR
    have hf := lt_e hf e_h10
    have hE := eI e_h10 hE
    have t_r0 := tI e_h10 t_r0
    refine lv_iconst (v := (-1 : Int32)) C.x C.b dX9_story_18 (by decide) ?_
    refine lv_iload_n C.x C.b dX9_story_19 rfl (lv_at hl 0 rfl) ?_
    refine lv_isub C.x C.b dX9_story_20 ?_
    have hf := so_e hf
    subst hf
    exact r_iret C hr hlk hR hE hS dX9_story_21

