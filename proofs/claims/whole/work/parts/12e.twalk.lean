def rm_X9_camp : Room := { frames := 6, cells := 1, slots := 6, locals := 82 }
def P_X9_camp_21 (G : Gt) (l : Launch) (p : Program) (e : Env) (s : State) (m : MethodId) (args : Array Value) (below : List Frame) (meth : Method) (c : Code) (h0 : Hp) (out : (Option Int32 × Hp)) (r0 : Nat) (x1 : Int32) (x2 : Int32) (k : Hp → Option (Option Int32 × Hp)) : Prop := ∀ (H : Heap) (locs : List Loc) (ls : Array Slot) (h : Hp), k h = some out → Ext h0 h → Rel G h H → va_S (AA G.2.2) s.heap H locs → hpT h r0 = (1, 9) → lv_has ls 3 [(0, .ref (G.2.2 + r0)), (1, .int x1), (2, .int x2)] → W p l e rm_X9_camp s m args below meth c H locs 0 0 (vx_MQ below (Qx G h0 (out.1.map Value.int) out.2) (Xx G h0 (out.1.map Value.int) out.2) args s 1 6 (AA G.2.2)) (F0 m 21 ls [])
set_option maxRecDepth 100000 in
set_option maxHeartbeats 4000000 in
theorem w_X9_camp_21 {G : Gt} {l : Launch} {p : Program} {e : Env} {s : State} {m : MethodId} {args : Array Value} {below : List Frame} {meth : Method} {c : Code}  {h0 : Hp} {out : (Option Int32 × Hp)} {r0 : Nat} {x1 : Int32} {x2 : Int32}  (C : Cx G p m c cX9_camp 3 s args RX9) (hr : meth.sig.returnType = some .int) (hlk : meth.locks = false) (hxt : ∀ x ∈ c.exceptionTable.toList, False) (xk : XK G) (hl0 : l.stackTraces = false)   : P_X9_camp_21 G l p e s m args below meth c h0 out r0 x1 x2 (f_X9_camp_21 r0 x1 x2) := by
  intro H locs ls h hf hE hR hS t_r0 hl
  rw [f_X9_camp_21] at hf
  have hf := so_e hf
  subst hf
  exact r_thr hl0 xk C hlk hxt hR hE hS hl.1 dX9_camp_21 dX9_camp_24 dX9_camp_25 dX9_camp_28 (by decide) (by decide) (by decide) (by decide)
set_option maxRecDepth 100000 in
set_option maxHeartbeats 4000000 in
theorem k_X9_camp {G : Gt} {l : Launch} (xk : XK G) (hl0 : l.stackTraces = false)  {h : Hp} {r0 : Nat} {x1 : Int32} {x2 : Int32} {out : (Option Int32 × Hp)} (t_r0 : hpT h r0 = (1, 9))  (hf : f_X9_camp  h r0 x1 x2 = some out) : Mx G l yX9_camp cX9_camp 3 (some .int) rm_X9_camp [.ref (G.2.2 + r0), .int x1, .int x2] h (out.1.map Value.int) out.2 1 6 := by
  refine r_metX (by decide +kernel) (Nat.le_of_ble_eq_true rfl) ?_
  intro p e s m args below meth c ls C hr hlk hxt hR hS hl
  have hE : Ext h h := Ext.rf
  have hl : lv_has ls 3 [(0, .ref (G.2.2 + r0)), (1, .int x1), (2, .int x2)] := hl
  rw [f_X9_camp] at hf
  refine lv_aload_n C.x C.b dX9_camp_0 rfl (lv_at hl 0 rfl) ?_
  obtain ⟨g1, hf⟩ := gd_e hf
  refine r_getr C hR t_r0 fl_X9_26 (by decide) (nz_e g1) dX9_camp_1 (fun tq2 => ?_)
  have tg1 := okO tq2 rfl
  refine lv_iload_n C.x C.b dX9_camp_4 rfl (lv_at hl 1 rfl) ?_
  obtain ⟨q3, h_q3, hf⟩ := bd_e hf
  refine r_callV (As := [.int x1]) (rest := []) C hR hS tg1 rfl mk_X0_has cl_X9_154 (k_X0_has tg1 h_q3) ⟨⟨Nat.le_of_ble_eq_true rfl, Nat.le_of_ble_eq_true rfl⟩, ⟨rfl, rfl⟩, Nat.le_of_ble_eq_true rfl, Nat.le_of_ble_eq_true rfl⟩ rfl hl.1 rfl (Nat.le_of_ble_eq_true rfl) dX9_camp_5 (fun H locs hR hS hE1 z_q3 => ?_)
  have z_q3 := z_q3 _ rfl
  refine lv_if_eq (tgt := 21) C.x C.b dX9_camp_8 (by decide) (fun c4 => ?_) (fun c4 => ?_)
  · have hf := it_t hf c4
    exact w_X9_camp_21 C hr hlk hxt xk hl0 _ _ _ _ hf hE hR hS t_r0 (lv_sub hl [0, 1, 2] rfl)
  · have hf := it_f hf c4
    refine lv_iload_n C.x C.b dX9_camp_11 rfl (lv_at hl 2 rfl) ?_
    refine lv_if_lt (tgt := 21) C.x C.b dX9_camp_12 (by decide) (fun c5 => ?_) (fun c5 => ?_)
    · have hf := it_t hf c5
      exact w_X9_camp_21 C hr hlk hxt xk hl0 _ _ _ _ hf hE hR hS t_r0 (lv_sub hl [0, 1, 2] rfl)
    · have hf := it_f hf c5
      refine lv_iload_n C.x C.b dX9_camp_15 rfl (lv_at hl 2 rfl) ?_
      refine lv_bipush (v := (7 : Int32)) C.x C.b dX9_camp_16 (by decide) ?_
      refine lv_icmp_le (tgt := 29) C.x C.b dX9_camp_18 (by decide) (fun c6 => ?_) (fun c6 => ?_)
      · have hf := it_t hf c6
        refine lv_iload_n C.x C.b dX9_camp_29 rfl (lv_at hl 2 rfl) ?_
        by_cases c36_0 : x2 = (0 : Int32)
        · have hf := it_t hf c36_0
          refine lv_tableIn (tgt := 72) C.x C.b dX9_camp_30 (by rw [c36_0]; decide) (by rw [c36_0]; decide) (by rw [c36_0]; rfl) (by decide) ?_
          refine lv_aload_n C.x C.b dX9_camp_72 rfl (lv_at hl 0 rfl) ?_
          refine r_getr C hR t_r0 fl_X9_26 (by decide) (nz_e g1) dX9_camp_73 (fun tq7 => ?_)
          refine lv_iload_n C.x C.b dX9_camp_76 rfl (lv_at hl 1 rfl) ?_
          obtain ⟨q8, h_q8, hf⟩ := bd_e hf
          refine r_callV (As := [.int x1]) (rest := []) C hR hS tg1 rfl mk_X0_firstCell cl_X9_161 (k_X0_firstCell tg1 h_q8) ⟨⟨Nat.le_of_ble_eq_true rfl, Nat.le_of_ble_eq_true rfl⟩, ⟨rfl, rfl⟩, Nat.le_of_ble_eq_true rfl, Nat.le_of_ble_eq_true rfl⟩ rfl hl.1 rfl (Nat.le_of_ble_eq_true rfl) dX9_camp_77 (fun H locs hR hS hE1 z_q8 => ?_)
          have hf := so_e hf
          subst hf
          refine W.widen (k := 1) (n := 6) (Nat.le_of_ble_eq_true rfl) (Nat.le_of_ble_eq_true rfl) ?_
          exact r_iretX C hr hlk hR hE hS dX9_camp_80
        have hf := it_f hf c36_0
        by_cases c36_1 : x2 = (1 : Int32)
        · have hf := it_t hf c36_1
          refine lv_tableIn (tgt := 81) C.x C.b dX9_camp_30 (by rw [c36_1]; decide) (by rw [c36_1]; decide) (by rw [c36_1]; rfl) (by decide) ?_
          refine lv_aload_n C.x C.b dX9_camp_81 rfl (lv_at hl 0 rfl) ?_
          refine r_getr C hR t_r0 fl_X9_26 (by decide) (nz_e g1) dX9_camp_82 (fun tq9 => ?_)
          obtain ⟨g10, hf⟩ := gd_e hf
          refine r_getr C hR tg1 fl_X9_164 (by decide) (nz_e g10) dX9_camp_85 (fun tq11 => ?_)
          have tg10 := okA tq11 rfl
          refine lv_iload_n C.x C.b dX9_camp_88 rfl (lv_at hl 1 rfl) ?_
          obtain ⟨g12, hf⟩ := gd_e hf
          refine r_iald C hR tg10 g12 dX9_camp_89 ?_
          have hf := so_e hf
          subst hf
          refine W.widen (k := 1) (n := 6) (Nat.le_of_ble_eq_true rfl) (Nat.le_of_ble_eq_true rfl) ?_
          exact r_iretX C hr hlk hR hE hS dX9_camp_90
        have hf := it_f hf c36_1
        by_cases c36_2 : x2 = (2 : Int32)
        · have hf := it_t hf c36_2
          refine lv_tableIn (tgt := 91) C.x C.b dX9_camp_30 (by rw [c36_2]; decide) (by rw [c36_2]; decide) (by rw [c36_2]; rfl) (by decide) ?_
          refine lv_aload_n C.x C.b dX9_camp_91 rfl (lv_at hl 0 rfl) ?_
          refine r_getr C hR t_r0 fl_X9_26 (by decide) (nz_e g1) dX9_camp_92 (fun tq13 => ?_)
          obtain ⟨g14, hf⟩ := gd_e hf
          refine r_getr C hR tg1 fl_X9_167 (by decide) (nz_e g14) dX9_camp_95 (fun tq15 => ?_)
          have tg14 := okA tq15 rfl
          refine lv_iload_n C.x C.b dX9_camp_98 rfl (lv_at hl 1 rfl) ?_
          obtain ⟨g16, hf⟩ := gd_e hf
          refine r_iald C hR tg14 g16 dX9_camp_99 ?_
          have hf := so_e hf
          subst hf
          refine W.widen (k := 1) (n := 6) (Nat.le_of_ble_eq_true rfl) (Nat.le_of_ble_eq_true rfl) ?_
          exact r_iretX C hr hlk hR hE hS dX9_camp_100
        have hf := it_f hf c36_2
        by_cases c36_3 : x2 = (3 : Int32)
        · have hf := it_t hf c36_3
          refine lv_tableIn (tgt := 101) C.x C.b dX9_camp_30 (by rw [c36_3]; decide) (by rw [c36_3]; decide) (by rw [c36_3]; rfl) (by decide) ?_
          refine lv_aload_n C.x C.b dX9_camp_101 rfl (lv_at hl 0 rfl) ?_
          refine r_getr C hR t_r0 fl_X9_26 (by decide) (nz_e g1) dX9_camp_102 (fun tq17 => ?_)
          obtain ⟨g18, hf⟩ := gd_e hf
          refine r_getr C hR tg1 fl_X9_170 (by decide) (nz_e g18) dX9_camp_105 (fun tq19 => ?_)
          have tg18 := okA tq19 rfl
          refine lv_iload_n C.x C.b dX9_camp_108 rfl (lv_at hl 1 rfl) ?_
          obtain ⟨g20, hf⟩ := gd_e hf
          refine r_iald C hR tg18 g20 dX9_camp_109 ?_
          have hf := so_e hf
          subst hf
          refine W.widen (k := 1) (n := 6) (Nat.le_of_ble_eq_true rfl) (Nat.le_of_ble_eq_true rfl) ?_
          exact r_iretX C hr hlk hR hE hS dX9_camp_110
        have hf := it_f hf c36_3
        by_cases c36_4 : x2 = (4 : Int32)
        · have hf := it_t hf c36_4
          refine lv_tableIn (tgt := 111) C.x C.b dX9_camp_30 (by rw [c36_4]; decide) (by rw [c36_4]; decide) (by rw [c36_4]; rfl) (by decide) ?_
          refine lv_aload_n C.x C.b dX9_camp_111 rfl (lv_at hl 0 rfl) ?_
          refine r_getr C hR t_r0 fl_X9_26 (by decide) (nz_e g1) dX9_camp_112 (fun tq21 => ?_)
          obtain ⟨g22, hf⟩ := gd_e hf
          refine r_getr C hR tg1 fl_X9_173 (by decide) (nz_e g22) dX9_camp_115 (fun tq23 => ?_)
          have tg22 := okA tq23 rfl
          refine lv_iload_n C.x C.b dX9_camp_118 rfl (lv_at hl 1 rfl) ?_
          obtain ⟨g24, hf⟩ := gd_e hf
          refine r_iald C hR tg22 g24 dX9_camp_119 ?_
          have hf := so_e hf
          subst hf
          refine W.widen (k := 1) (n := 6) (Nat.le_of_ble_eq_true rfl) (Nat.le_of_ble_eq_true rfl) ?_
          exact r_iretX C hr hlk hR hE hS dX9_camp_120
        have hf := it_f hf c36_4
        by_cases c36_5 : x2 = (5 : Int32)
        · have hf := it_t hf c36_5
          refine lv_tableIn (tgt := 121) C.x C.b dX9_camp_30 (by rw [c36_5]; decide) (by rw [c36_5]; decide) (by rw [c36_5]; rfl) (by decide) ?_
          refine lv_aload_n C.x C.b dX9_camp_121 rfl (lv_at hl 0 rfl) ?_
          refine r_getr C hR t_r0 fl_X9_26 (by decide) (nz_e g1) dX9_camp_122 (fun tq25 => ?_)
          obtain ⟨g26, hf⟩ := gd_e hf
          refine r_getr C hR tg1 fl_X9_176 (by decide) (nz_e g26) dX9_camp_125 (fun tq27 => ?_)
          have tg26 := okA tq27 rfl
          refine lv_iload_n C.x C.b dX9_camp_128 rfl (lv_at hl 1 rfl) ?_
          obtain ⟨g28, hf⟩ := gd_e hf
          refine r_iald C hR tg26 g28 dX9_camp_129 ?_
          have hf := so_e hf
          subst hf
          refine W.widen (k := 1) (n := 6) (Nat.le_of_ble_eq_true rfl) (Nat.le_of_ble_eq_true rfl) ?_
          exact r_iretX C hr hlk hR hE hS dX9_camp_130
        have hf := it_f hf c36_5
        by_cases c36_6 : x2 = (6 : Int32)
        · have hf := it_t hf c36_6
          refine lv_tableIn (tgt := 131) C.x C.b dX9_camp_30 (by rw [c36_6]; decide) (by rw [c36_6]; decide) (by rw [c36_6]; rfl) (by decide) ?_
          refine lv_aload_n C.x C.b dX9_camp_131 rfl (lv_at hl 0 rfl) ?_
          obtain ⟨g29, hf⟩ := gd_e hf
          refine r_getr C hR t_r0 fl_X9_50 (by decide) (nz_e g29) dX9_camp_132 (fun tq30 => ?_)
          have tg29 := okO tq30 rfl
          refine lv_aload_n C.x C.b dX9_camp_135 rfl (lv_at hl 0 rfl) ?_
          refine r_getr C hR t_r0 fl_X9_26 (by decide) (nz_e g1) dX9_camp_136 (fun tq31 => ?_)
          obtain ⟨q32, h_q32, hf⟩ := bd_e hf
          refine r_callV (As := [.ref (G.2.2 + (hpR h r0 2))]) (rest := []) C hR hS tg29 rfl mk_X4_losses cl_X9_179 (k_X4_losses tg29 tg1 h_q32) ⟨⟨Nat.le_of_ble_eq_true rfl, Nat.le_of_ble_eq_true rfl⟩, ⟨rfl, rfl⟩, Nat.le_of_ble_eq_true rfl, Nat.le_of_ble_eq_true rfl⟩ rfl hl.1 rfl (Nat.le_of_ble_eq_true rfl) dX9_camp_139 (fun H locs hR hS hE1 z_q32 => ?_)
          have hE := hE.tr hE1
          have t_r0 := hE1.at t_r0 (by decide)
          have t_q32 := z_q32 _ rfl
          refine lv_iload_n C.x C.b dX9_camp_142 rfl (lv_at hl 1 rfl) ?_
          obtain ⟨g33, hf⟩ := gd_e hf
          refine r_iald C hR t_q32 g33 dX9_camp_143 ?_
          have hf := so_e hf
          subst hf
          refine W.widen (k := 1) (n := 6) (Nat.le_of_ble_eq_true rfl) (Nat.le_of_ble_eq_true rfl) ?_
          exact r_iretX C hr hlk hR hE hS dX9_camp_144
        have hf := it_f hf c36_6
        refine lv_tableOut (tgt := 145) C.x C.b dX9_camp_30 (tb_out 7 (by decide) (fun j hj => match j, hj with | 0, _ => fun q => c36_0 (q.trans (by decide)) | 1, _ => fun q => c36_1 (q.trans (by decide)) | 2, _ => fun q => c36_2 (q.trans (by decide)) | 3, _ => fun q => c36_3 (q.trans (by decide)) | 4, _ => fun q => c36_4 (q.trans (by decide)) | 5, _ => fun q => c36_5 (q.trans (by decide)) | 6, _ => fun q => c36_6 (q.trans (by decide)) | n + 7, hn => absurd hn (by omega))) (by decide) ?_
        refine lv_aload_n C.x C.b dX9_camp_145 rfl (lv_at hl 0 rfl) ?_
        refine r_getr C hR t_r0 fl_X9_26 (by decide) (nz_e g1) dX9_camp_146 (fun tq34 => ?_)
        refine lv_iload_n C.x C.b dX9_camp_149 rfl (lv_at hl 1 rfl) ?_
        obtain ⟨q35, h_q35, hf⟩ := bd_e hf
        refine r_callV (As := [.int x1]) (rest := []) C hR hS tg1 rfl mk_X0_crossedBy cl_X9_183 (k_X0_crossedBy tg1 h_q35) ⟨⟨Nat.le_of_ble_eq_true rfl, Nat.le_of_ble_eq_true rfl⟩, ⟨rfl, rfl⟩, Nat.le_of_ble_eq_true rfl, Nat.le_of_ble_eq_true rfl⟩ rfl hl.1 rfl (Nat.le_of_ble_eq_true rfl) dX9_camp_150 (fun H locs hR hS hE1 z_q35 => ?_)
        have hf := so_e hf
        subst hf
        refine W.widen (k := 1) (n := 6) (Nat.le_of_ble_eq_true rfl) (Nat.le_of_ble_eq_true rfl) ?_
        exact r_iretX C hr hlk hR hE hS dX9_camp_153
      · have hf := it_f hf c6
        exact w_X9_camp_21 C hr hlk hxt xk hl0 _ _ _ _ hf hE hR hS t_r0 (lv_sub hl [0, 1, 2] rfl)

def rm_X9_cell : Room := { frames := 6, cells := 1, slots := 6, locals := 133 }
def P_X9_cell_20 (G : Gt) (l : Launch) (p : Program) (e : Env) (s : State) (m : MethodId) (args : Array Value) (below : List Frame) (meth : Method) (c : Code) (h0 : Hp) (out : (Option Int32 × Hp)) (r0 : Nat) (x1 : Int32) (x2 : Int32) (k : Hp → Option (Option Int32 × Hp)) : Prop := ∀ (H : Heap) (locs : List Loc) (ls : Array Slot) (h : Hp), k h = some out → Ext h0 h → Rel G h H → va_S (AA G.2.2) s.heap H locs → hpT h r0 = (1, 9) → lv_has ls 3 [(0, .ref (G.2.2 + r0)), (1, .int x1), (2, .int x2)] → W p l e rm_X9_cell s m args below meth c H locs 0 0 (vx_MQ below (Qx G h0 (out.1.map Value.int) out.2) (Xx G h0 (out.1.map Value.int) out.2) args s 1 6 (AA G.2.2)) (F0 m 20 ls [])
set_option maxRecDepth 100000 in
set_option maxHeartbeats 4000000 in
theorem w_X9_cell_20 {G : Gt} {l : Launch} {p : Program} {e : Env} {s : State} {m : MethodId} {args : Array Value} {below : List Frame} {meth : Method} {c : Code}  {h0 : Hp} {out : (Option Int32 × Hp)} {r0 : Nat} {x1 : Int32} {x2 : Int32}  (C : Cx G p m c cX9_cell 3 s args RX9) (hr : meth.sig.returnType = some .int) (hlk : meth.locks = false) (hxt : ∀ x ∈ c.exceptionTable.toList, False) (xk : XK G) (hl0 : l.stackTraces = false)   : P_X9_cell_20 G l p e s m args below meth c h0 out r0 x1 x2 (f_X9_cell_20 r0 x1 x2) := by
  intro H locs ls h hf hE hR hS t_r0 hl
  rw [f_X9_cell_20] at hf
  have hf := so_e hf
  subst hf
  exact r_thr hl0 xk C hlk hxt hR hE hS hl.1 dX9_cell_20 dX9_cell_23 dX9_cell_24 dX9_cell_27 (by decide) (by decide) (by decide) (by decide)
set_option maxRecDepth 100000 in
set_option maxHeartbeats 4000000 in
theorem k_X9_cell {G : Gt} {l : Launch} (xk : XK G) (hl0 : l.stackTraces = false)  {h : Hp} {r0 : Nat} {x1 : Int32} {x2 : Int32} {out : (Option Int32 × Hp)} (t_r0 : hpT h r0 = (1, 9))  (hf : f_X9_cell  h r0 x1 x2 = some out) : Mx G l yX9_cell cX9_cell 3 (some .int) rm_X9_cell [.ref (G.2.2 + r0), .int x1, .int x2] h (out.1.map Value.int) out.2 1 6 := by
  refine r_metX (by decide +kernel) (Nat.le_of_ble_eq_true rfl) ?_
  intro p e s m args below meth c ls C hr hlk hxt hR hS hl
  have hE : Ext h h := Ext.rf
  have hl : lv_has ls 3 [(0, .ref (G.2.2 + r0)), (1, .int x1), (2, .int x2)] := hl
  rw [f_X9_cell] at hf
  refine lv_aload_n C.x C.b dX9_cell_0 rfl (lv_at hl 0 rfl) ?_
  obtain ⟨g1, hf⟩ := gd_e hf
  refine r_getr C hR t_r0 fl_X9_26 (by decide) (nz_e g1) dX9_cell_1 (fun tq2 => ?_)
  have tg1 := okO tq2 rfl
  refine lv_iload_n C.x C.b dX9_cell_4 rfl (lv_at hl 1 rfl) ?_
  obtain ⟨q3, h_q3, hf⟩ := bd_e hf
  refine r_callV (As := [.int x1]) (rest := []) C hR hS tg1 rfl mk_X0_hasCell cl_X9_186 (k_X0_hasCell tg1 h_q3) ⟨⟨Nat.le_of_ble_eq_true rfl, Nat.le_of_ble_eq_true rfl⟩, ⟨rfl, rfl⟩, Nat.le_of_ble_eq_true rfl, Nat.le_of_ble_eq_true rfl⟩ rfl hl.1 rfl (Nat.le_of_ble_eq_true rfl) dX9_cell_5 (fun H locs hR hS hE1 z_q3 => ?_)
  have z_q3 := z_q3 _ rfl
  refine lv_if_eq (tgt := 20) C.x C.b dX9_cell_8 (by decide) (fun c4 => ?_) (fun c4 => ?_)
  · have hf := it_t hf c4
    exact w_X9_cell_20 C hr hlk hxt xk hl0 _ _ _ _ hf hE hR hS t_r0 (lv_sub hl [0, 1, 2] rfl)
  · have hf := it_f hf c4
    refine lv_iload_n C.x C.b dX9_cell_11 rfl (lv_at hl 2 rfl) ?_
    refine lv_if_lt (tgt := 20) C.x C.b dX9_cell_12 (by decide) (fun c5 => ?_) (fun c5 => ?_)
    · have hf := it_t hf c5
      exact w_X9_cell_20 C hr hlk hxt xk hl0 _ _ _ _ hf hE hR hS t_r0 (lv_sub hl [0, 1, 2] rfl)
    · have hf := it_f hf c5
      refine lv_iload_n C.x C.b dX9_cell_15 rfl (lv_at hl 2 rfl) ?_
      refine lv_iconst (v := (2 : Int32)) C.x C.b dX9_cell_16 (by decide) ?_
      refine lv_icmp_le (tgt := 28) C.x C.b dX9_cell_17 (by decide) (fun c6 => ?_) (fun c6 => ?_)
      · have hf := it_t hf c6
        refine lv_iload_n C.x C.b dX9_cell_28 rfl (lv_at hl 2 rfl) ?_
        refine lv_if_ne (tgt := 41) C.x C.b dX9_cell_29 (by decide) (fun c7 => ?_) (fun c7 => ?_)
        · have hf := it_f hf c7
          refine lv_iload_n C.x C.b dX9_cell_41 rfl (lv_at hl 2 rfl) ?_
          refine lv_iconst (v := (1 : Int32)) C.x C.b dX9_cell_42 (by decide) ?_
          refine lv_icmp_ne (tgt := 57) C.x C.b dX9_cell_43 (by decide) (fun c8 => ?_) (fun c8 => ?_)
          · have hf := it_f hf c8
            refine lv_aload_n C.x C.b dX9_cell_57 rfl (lv_at hl 0 rfl) ?_
            refine r_getr C hR t_r0 fl_X9_26 (by decide) (nz_e g1) dX9_cell_58 (fun tq9 => ?_)
            refine lv_iload_n C.x C.b dX9_cell_61 rfl (lv_at hl 1 rfl) ?_
            obtain ⟨q10, h_q10, hf⟩ := bd_e hf
            refine r_callV (As := [.int x1]) (rest := []) C hR hS tg1 rfl mk_X0_strongestOver cl_X9_195 (k_X0_strongestOver tg1 h_q10) ⟨⟨Nat.le_of_ble_eq_true rfl, Nat.le_of_ble_eq_true rfl⟩, ⟨rfl, rfl⟩, Nat.le_of_ble_eq_true rfl, Nat.le_of_ble_eq_true rfl⟩ rfl hl.1 rfl (Nat.le_of_ble_eq_true rfl) dX9_cell_62 (fun H locs hR hS hE1 z_q10 => ?_)
            have hf := so_e hf
            subst hf
            refine W.widen (k := 1) (n := 6) (Nat.le_of_ble_eq_true rfl) (Nat.le_of_ble_eq_true rfl) ?_
            exact r_iretX C hr hlk hR hE hS dX9_cell_65
          · have hf := it_t hf c8
            refine lv_aload_n C.x C.b dX9_cell_46 rfl (lv_at hl 0 rfl) ?_
            refine r_getr C hR t_r0 fl_X9_26 (by decide) (nz_e g1) dX9_cell_47 (fun tq11 => ?_)
            refine lv_iload_n C.x C.b dX9_cell_50 rfl (lv_at hl 1 rfl) ?_
            obtain ⟨q12, h_q12, hf⟩ := bd_e hf
            refine r_callV (As := [.int x1]) (rest := []) C hR hS tg1 rfl mk_X0_strengthOver cl_X9_192 (k_X0_strengthOver tg1 h_q12) ⟨⟨Nat.le_of_ble_eq_true rfl, Nat.le_of_ble_eq_true rfl⟩, ⟨rfl, rfl⟩, Nat.le_of_ble_eq_true rfl, Nat.le_of_ble_eq_true rfl⟩ rfl hl.1 rfl (Nat.le_of_ble_eq_true rfl) dX9_cell_51 (fun H locs hR hS hE1 z_q12 => ?_)
            refine lv_goto (tgt := 65) C.x C.b dX9_cell_54 (by decide) ?_
            have hf := so_e hf
            subst hf
            refine W.widen (k := 1) (n := 6) (Nat.le_of_ble_eq_true rfl) (Nat.le_of_ble_eq_true rfl) ?_
            exact r_iretX C hr hlk hR hE hS dX9_cell_65
        · have hf := it_t hf c7
          refine lv_aload_n C.x C.b dX9_cell_32 rfl (lv_at hl 0 rfl) ?_
          refine r_getr C hR t_r0 fl_X9_26 (by decide) (nz_e g1) dX9_cell_33 (fun tq13 => ?_)
          refine lv_iload_n C.x C.b dX9_cell_36 rfl (lv_at hl 1 rfl) ?_
          obtain ⟨q14, h_q14, hf⟩ := bd_e hf
          refine r_callV (As := [.int x1]) (rest := []) C hR hS tg1 rfl mk_X0_onOver cl_X9_189 (k_X0_onOver tg1 h_q14) ⟨⟨Nat.le_of_ble_eq_true rfl, Nat.le_of_ble_eq_true rfl⟩, ⟨rfl, rfl⟩, Nat.le_of_ble_eq_true rfl, Nat.le_of_ble_eq_true rfl⟩ rfl hl.1 rfl (Nat.le_of_ble_eq_true rfl) dX9_cell_37 (fun H locs hR hS hE1 z_q14 => ?_)
          have hf := so_e hf
          subst hf
          refine W.widen (k := 1) (n := 6) (Nat.le_of_ble_eq_true rfl) (Nat.le_of_ble_eq_true rfl) ?_
          exact r_iretX C hr hlk hR hE hS dX9_cell_40
      · have hf := it_f hf c6
        exact w_X9_cell_20 C hr hlk hxt xk hl0 _ _ _ _ hf hE hR hS t_r0 (lv_sub hl [0, 1, 2] rfl)

def rm_X9_row : Room := { frames := 6, cells := 1, slots := 6, locals := 81 }
def P_X9_row_15 (G : Gt) (l : Launch) (p : Program) (e : Env) (s : State) (m : MethodId) (args : Array Value) (below : List Frame) (meth : Method) (c : Code) (h0 : Hp) (out : (Option Int64 × Hp)) (r0 : Nat) (x1 : Int32) (k : Hp → Option (Option Int64 × Hp)) : Prop := ∀ (H : Heap) (locs : List Loc) (ls : Array Slot) (h : Hp), k h = some out → Ext h0 h → Rel G h H → va_S (AA G.2.2) s.heap H locs → hpT h r0 = (1, 9) → lv_has ls 2 [(0, .ref (G.2.2 + r0)), (1, .int x1)] → W p l e rm_X9_row s m args below meth c H locs 0 0 (vx_MQ below (Qx G h0 (out.1.map Value.long) out.2) (Xx G h0 (out.1.map Value.long) out.2) args s 1 6 (AA G.2.2)) (F0 m 15 ls [])
set_option maxRecDepth 100000 in
set_option maxHeartbeats 4000000 in
theorem w_X9_row_15 {G : Gt} {l : Launch} {p : Program} {e : Env} {s : State} {m : MethodId} {args : Array Value} {below : List Frame} {meth : Method} {c : Code}  {h0 : Hp} {out : (Option Int64 × Hp)} {r0 : Nat} {x1 : Int32}  (C : Cx G p m c cX9_row 2 s args RX9) (hr : meth.sig.returnType = some .long) (hlk : meth.locks = false) (hxt : ∀ x ∈ c.exceptionTable.toList, False) (xk : XK G) (hl0 : l.stackTraces = false)   : P_X9_row_15 G l p e s m args below meth c h0 out r0 x1 (f_X9_row_15 r0 x1) := by
  intro H locs ls h hf hE hR hS t_r0 hl
  rw [f_X9_row_15] at hf
  have hf := so_e hf
  subst hf
  exact r_thr hl0 xk C hlk hxt hR hE hS hl.1 dX9_row_15 dX9_row_18 dX9_row_19 dX9_row_22 (by decide) (by decide) (by decide) (by decide)
set_option maxRecDepth 100000 in
set_option maxHeartbeats 4000000 in
theorem k_X9_row {G : Gt} {l : Launch} (xk : XK G) (hl0 : l.stackTraces = false)  {h : Hp} {r0 : Nat} {x1 : Int32} {out : (Option Int64 × Hp)} (t_r0 : hpT h r0 = (1, 9))  (hf : f_X9_row  h r0 x1 = some out) : Mx G l yX9_row cX9_row 2 (some .long) rm_X9_row [.ref (G.2.2 + r0), .int x1] h (out.1.map Value.long) out.2 1 6 := by
  refine r_metX (by decide +kernel) (Nat.le_of_ble_eq_true rfl) ?_
  intro p e s m args below meth c ls C hr hlk hxt hR hS hl
  have hE : Ext h h := Ext.rf
  have hl : lv_has ls 2 [(0, .ref (G.2.2 + r0)), (1, .int x1)] := hl
  rw [f_X9_row] at hf
  refine lv_iload_n C.x C.b dX9_row_0 rfl (lv_at hl 1 rfl) ?_
  refine lv_if_lt (tgt := 15) C.x C.b dX9_row_1 (by decide) (fun c1 => ?_) (fun c1 => ?_)
  · have hf := it_t hf c1
    exact w_X9_row_15 C hr hlk hxt xk hl0 _ _ _ _ hf hE hR hS t_r0 (lv_sub hl [0, 1] rfl)
  · have hf := it_f hf c1
    refine lv_iload_n C.x C.b dX9_row_4 rfl (lv_at hl 1 rfl) ?_
    refine lv_aload_n C.x C.b dX9_row_5 rfl (lv_at hl 0 rfl) ?_
    obtain ⟨g2, hf⟩ := gd_e hf
    refine r_getr C hR t_r0 fl_X9_19 (by decide) (nz_e g2) dX9_row_6 (fun tq3 => ?_)
    have tg2 := okO tq3 rfl
    refine r_geti C hR tg2 fl_X9_434 rfl dX9_row_9 ?_
    refine lv_icmp_lt (tgt := 23) C.x C.b dX9_row_12 (by decide) (fun c4 => ?_) (fun c4 => ?_)
    · have hf := it_t hf c4
      refine lv_aload_n C.x C.b dX9_row_23 rfl (lv_at hl 0 rfl) ?_
      refine r_getr C hR t_r0 fl_X9_19 (by decide) (nz_e g2) dX9_row_24 (fun tq5 => ?_)
      obtain ⟨g6, hf⟩ := gd_e hf
      refine r_getr C hR tg2 fl_X9_435 (by decide) (nz_e g6) dX9_row_27 (fun tq7 => ?_)
      have tg6 := okA tq7 rfl
      refine lv_iload_n C.x C.b dX9_row_30 rfl (lv_at hl 1 rfl) ?_
      obtain ⟨g8, hf⟩ := gd_e hf
      refine r_lald C hR tg6 g8 dX9_row_31 ?_
      have hf := so_e hf
      subst hf
      refine W.widen (k := 1) (n := 6) (Nat.le_of_ble_eq_true rfl) (Nat.le_of_ble_eq_true rfl) ?_
      exact r_lretX C hr hlk hR hE hS dX9_row_32
    · have hf := it_f hf c4
      exact w_X9_row_15 C hr hlk hxt xk hl0 _ _ _ _ hf hE hR hS t_r0 (lv_sub hl [0, 1] rfl)
