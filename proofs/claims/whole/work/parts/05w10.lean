def rm_X10_isDigit : Room := { frames := 1, cells := 0, slots := 0, locals := 25 }
set_option maxRecDepth 100000 in
set_option maxHeartbeats 4000000 in
theorem k_X10_isDigit {G : Gt} {l : Launch} {h : Hp} {r0 : Nat} {out : Int32} (t_r0 : hpT h r0 = (1, 10))  (hf : f_X10_isDigit h r0 = some out) : Mt G l yX10_isDigit cX10_isDigit 1 (some .boolean) rm_X10_isDigit [.ref (G.2.2 + r0)] h (some (.int out)) h 1 0 0 := by
  refine r_met (by decide +kernel) (Nat.le_of_ble_eq_true rfl) ?_
  intro p e s m args below meth c ls C hr hlk hnm hR hS hl
  have hl : lv_has ls 1 [(0, .ref (G.2.2 + r0))] := hl
  rw [f_X10_isDigit] at hf
  refine lv_aload_n C.x C.b dX10_isDigit_0 rfl (lv_at hl 0 rfl) ?_
  refine r_geti C hR t_r0 fl_X10_148 rfl dX10_isDigit_1 ?_
  refine lv_aload_n C.x C.b dX10_isDigit_4 rfl (lv_at hl 0 rfl) ?_
  refine r_geti C hR t_r0 fl_X10_160 rfl dX10_isDigit_5 ?_
  refine lv_icmp_ge (tgt := 37) C.x C.b dX10_isDigit_8 (by decide) (fun c1 => ?_) (fun c1 => ?_)
  · have hf := it_t hf c1
    refine lv_iconst (v := (0 : Int32)) C.x C.b dX10_isDigit_37 (by decide) ?_
    have hf := so_e hf
    subst hf
    exact r_zret C hr hlk hR Ext.rf hS z_0 dX10_isDigit_38
  · have hf := it_f hf c1
    refine lv_aload_n C.x C.b dX10_isDigit_11 rfl (lv_at hl 0 rfl) ?_
    obtain ⟨g2, hf⟩ := gd_e hf
    refine r_getr C hR t_r0 fl_X10_27 (by decide) (nz_e g2) dX10_isDigit_12 (fun tq3 => ?_)
    have tg2 := okA tq3 rfl
    refine lv_aload_n C.x C.b dX10_isDigit_15 rfl (lv_at hl 0 rfl) ?_
    refine r_geti C hR t_r0 fl_X10_148 rfl dX10_isDigit_16 ?_
    obtain ⟨g4, hf⟩ := gd_e hf
    refine r_iald C hR tg2 g4 dX10_isDigit_19 ?_
    refine lv_i2l C.x C.b dX10_isDigit_20 rfl ?_
    refine lv_ldc2 C.x C.b C.ow (C.ts _ lk_X10_167) dX10_isDigit_21 ?_
    refine lv_ldc2 C.x C.b C.ow (C.ts _ lk_X10_169) dX10_isDigit_24 ?_
    obtain ⟨q5, h_q5, hf⟩ := bd_e hf
    refine r_callS (As := [.long ((hpI h (hpR h r0 8) (ix (hpI h r0 10))).toInt64), .long (48 : Int64), .long (57 : Int64)]) (rest := []) C hR hS mk_X10_in cl_X10_117 (k_X10_in h_q5) ⟨⟨Nat.le_of_ble_eq_true rfl, Nat.le_of_ble_eq_true rfl⟩, ⟨rfl, rfl⟩, Nat.le_of_ble_eq_true rfl, Nat.le_of_ble_eq_true rfl⟩ rfl hl.1 rfl (Nat.le_of_ble_eq_true rfl) dX10_isDigit_27 (fun H locs hR hS hE1 z_q5 => ?_)
    have z_q5 := z_q5 _ rfl
    refine lv_if_eq (tgt := 37) C.x C.b dX10_isDigit_30 (by decide) (fun c6 => ?_) (fun c6 => ?_)
    · have hf := it_t hf c6
      refine lv_iconst (v := (0 : Int32)) C.x C.b dX10_isDigit_37 (by decide) ?_
      have hf := so_e hf
      subst hf
      exact r_zret C hr hlk hR Ext.rf hS z_0 dX10_isDigit_38
    · have hf := it_f hf c6
      refine lv_iconst (v := (1 : Int32)) C.x C.b dX10_isDigit_33 (by decide) ?_
      refine lv_goto (tgt := 38) C.x C.b dX10_isDigit_34 (by decide) ?_
      have hf := so_e hf
      subst hf
      exact r_zret C hr hlk hR Ext.rf hS z_1 dX10_isDigit_38

def rm_X10_number : Room := { frames := 2, cells := 0, slots := 0, locals := 45 }
def P_X10_number_13 (G : Gt) (l : Launch) (p : Program) (e : Env) (s : State) (m : MethodId) (args : Array Value) (below : List Frame) (meth : Method) (c : Code) (h0 : Hp) (out : (Int32 × Hp)) (r0 : Nat) (x1 : Int32) (k : Hp → Int32 → Int32 → Option (Int32 × Hp)) : Prop := ∀ (H : Heap) (locs : List Loc) (ls : Array Slot) (h : Hp) (x2 : Int32) (x3 : Int32), k h x2 x3 = some out → Ext h0 h → Rel G h H → va_S (AA G.2.2) s.heap H locs → hpT h r0 = (1, 10) → lv_has ls 4 [(0, .ref (G.2.2 + r0)), (1, .int x1), (2, .int x2), (3, .int x3)] → W p l e rm_X10_number s m args below meth c H locs 0 0 (MQ below (Qm G h0 out.2 (some (.int out.1)) 0) args s 0 0 (AA G.2.2)) (F0 m 13 ls [])
set_option maxRecDepth 100000 in
set_option maxHeartbeats 4000000 in
theorem w_X10_number_13 {G : Gt} {l : Launch} {p : Program} {e : Env} {s : State} {m : MethodId} {args : Array Value} {below : List Frame} {meth : Method} {c : Code} {h0 : Hp} {out : (Int32 × Hp)} {r0 : Nat} {x1 : Int32}  (C : Cx G p m c cX10_number 4 s args RX10) (hr : meth.sig.returnType = some .int) (hlk : meth.locks = false)  (n : Nat) : P_X10_number_13 G l p e s m args below meth c h0 out r0 x1 (f_X10_number_13 r0 x1 n) := by
  induction n with
  | zero => intro H locs ls h x2 x3 hf hE hR hS t_r0 hl; cases hf
  | succ n hk13 =>
    intro H locs ls h x2 x3 hf hE hR hS t_r0 hl
    rw [f_X10_number_13] at hf
    obtain ⟨k13, e_k13⟩ : ∃ y, y = f_X10_number_13 r0 x1 n := ⟨_, rfl⟩
    have hf := lt_e hf e_k13
    rw [← e_k13] at hk13
    refine lv_iload_n C.x C.b dX10_number_13 rfl (lv_at hl 3 rfl) ?_
    refine lv_iload_n C.x C.b dX10_number_14 rfl (lv_at hl 1 rfl) ?_
    refine lv_icmp_ge (tgt := 59) C.x C.b dX10_number_15 (by decide) (fun c3 => ?_) (fun c3 => ?_)
    · have hf := it_t hf c3
      refine lv_iload_n C.x C.b dX10_number_59 rfl (lv_at hl 2 rfl) ?_
      have hf := so_e hf
      subst hf
      exact r_iret C hr hlk hR hE hS dX10_number_60
    · have hf := it_f hf c3
      refine lv_aload_n C.x C.b dX10_number_18 rfl (lv_at hl 0 rfl) ?_
      obtain ⟨q4, h_q4, hf⟩ := bd_e hf
      refine r_callV (As := []) (rest := []) C hR hS t_r0 rfl mk_X10_isDigit cl_X10_180 (k_X10_isDigit t_r0 h_q4) ⟨⟨Nat.le_of_ble_eq_true rfl, Nat.le_of_ble_eq_true rfl⟩, ⟨rfl, rfl⟩, Nat.le_of_ble_eq_true rfl, Nat.le_of_ble_eq_true rfl⟩ rfl hl.1 rfl (Nat.le_of_ble_eq_true rfl) dX10_number_19 (fun H locs hR hS hE1 z_q4 => ?_)
      have z_q4 := z_q4 _ rfl
      refine lv_if_eq (tgt := 59) C.x C.b dX10_number_22 (by decide) (fun c5 => ?_) (fun c5 => ?_)
      · have hf := it_t hf c5
        refine lv_iload_n C.x C.b dX10_number_59 rfl (lv_at hl 2 rfl) ?_
        have hf := so_e hf
        subst hf
        exact r_iret C hr hlk hR hE hS dX10_number_60
      · have hf := it_f hf c5
        refine lv_bipush (v := (10 : Int32)) C.x C.b dX10_number_25 (by decide) ?_
        refine lv_iload_n C.x C.b dX10_number_27 rfl (lv_at hl 2 rfl) ?_
        refine lv_imul C.x C.b dX10_number_28 ?_
        refine lv_aload_n C.x C.b dX10_number_29 rfl (lv_at hl 0 rfl) ?_
        obtain ⟨g6, hf⟩ := gd_e hf
        refine r_getr C hR t_r0 fl_X10_27 (by decide) (nz_e g6) dX10_number_30 (fun tq7 => ?_)
        have tg6 := okA tq7 rfl
        refine lv_aload_n C.x C.b dX10_number_33 rfl (lv_at hl 0 rfl) ?_
        refine r_geti C hR t_r0 fl_X10_148 rfl dX10_number_34 ?_
        obtain ⟨g8, hf⟩ := gd_e hf
        refine r_iald C hR tg6 g8 dX10_number_37 ?_
        refine lv_iadd C.x C.b dX10_number_38 ?_
        refine lv_bipush (v := (48 : Int32)) C.x C.b dX10_number_39 (by decide) ?_
        refine lv_isub C.x C.b dX10_number_41 ?_
        refine lv_topi (fun v9 e_v9 => ?_)
        have hf := lt_e hf e_v9
        refine lv_istore_n (lv' := [(2, .int v9), (0, .ref (G.2.2 + r0)), (1, .int x1), (3, .int x3)]) C.x C.b dX10_number_42 rfl hl (by decide) rfl (fun ls hl => ?_)
        refine lv_aload_n C.x C.b dX10_number_43 rfl (lv_at hl 1 rfl) ?_
        refine lv_dup C.x C.b dX10_number_44 rfl ?_
        refine r_geti C hR t_r0 fl_X10_148 rfl dX10_number_45 ?_
        refine lv_iconst (v := (1 : Int32)) C.x C.b dX10_number_48 (by decide) ?_
        refine lv_iadd C.x C.b dX10_number_49 ?_
        refine r_puti C hR hS t_r0 fl_X10_148 fp_X10_10_10 rfl dX10_number_50 (fun H locs hR hS => ?_)
        obtain ⟨h10, e_h10⟩ : ∃ y, y = upI h r0 10 ((hpI h r0 10) + (1 : Int32)) := ⟨_, rfl⟩
        rw [← e_h10] at hR
        have hf := lt_e hf e_h10
        have hE := eI e_h10 hE
        have t_r0 := tI e_h10 t_r0
        obtain ⟨v11, e_v11⟩ : ∃ y : Int32, y = x3 + (1 : Int32) := ⟨_, rfl⟩
        have hf := lt_e hf e_v11
        refine lv_iinc (v := v11) (lv' := [(3, .int v11), (2, .int v9), (0, .ref (G.2.2 + r0)), (1, .int x1)]) C.x C.b dX10_number_53 hl (k := 3) rfl (by rw [e_v11]; rfl) (by decide) rfl (fun ls hl => ?_)
        refine lv_goto (tgt := 13) C.x C.b dX10_number_56 (by decide) ?_
        exact hk13 _ _ _ _ _ _ hf hE hR hS t_r0 (lv_sub hl [2, 3, 1, 0] rfl)
set_option maxRecDepth 100000 in
set_option maxHeartbeats 4000000 in
theorem k_X10_number {G : Gt} {l : Launch} {h : Hp} {r0 : Nat} {x1 : Int32} {out : (Int32 × Hp)} (t_r0 : hpT h r0 = (1, 10))  (hf : f_X10_number h r0 x1 = some out) : Mt G l yX10_number cX10_number 4 (some .int) rm_X10_number [.ref (G.2.2 + r0), .int x1] h (some (.int out.1)) out.2 0 0 0 := by
  refine r_met (by decide +kernel) (Nat.le_of_ble_eq_true rfl) ?_
  intro p e s m args below meth c ls C hr hlk hnm hR hS hl
  have hE : Ext h h := Ext.rf
  have hl : lv_has ls 4 [(0, .ref (G.2.2 + r0)), (1, .int x1)] := hl
  rw [f_X10_number] at hf
  refine lv_aload_n C.x C.b dX10_number_0 rfl (lv_at hl 0 rfl) ?_
  obtain ⟨q1, h_q1, hf⟩ := bd_e hf
  refine r_callV (As := []) (rest := []) C hR hS t_r0 rfl mk_X10_isDigit cl_X10_180 (k_X10_isDigit t_r0 h_q1) ⟨⟨Nat.le_of_ble_eq_true rfl, Nat.le_of_ble_eq_true rfl⟩, ⟨rfl, rfl⟩, Nat.le_of_ble_eq_true rfl, Nat.le_of_ble_eq_true rfl⟩ rfl hl.1 rfl (Nat.le_of_ble_eq_true rfl) dX10_number_1 (fun H locs hR hS hE1 z_q1 => ?_)
  have z_q1 := z_q1 _ rfl
  refine lv_if_ne (tgt := 9) C.x C.b dX10_number_4 (by decide) (fun c2 => ?_) (fun c2 => ?_)
  · have hf := it_f hf c2
    refine lv_iconst (v := (0 : Int32)) C.x C.b dX10_number_9 (by decide) ?_
    refine lv_istore_n (lv' := [(2, .int (0 : Int32)), (0, .ref (G.2.2 + r0)), (1, .int x1)]) C.x C.b dX10_number_10 rfl hl (by decide) rfl (fun ls hl => ?_)
    refine lv_iconst (v := (0 : Int32)) C.x C.b dX10_number_11 (by decide) ?_
    refine lv_istore_n (lv' := [(3, .int (0 : Int32)), (2, .int (0 : Int32)), (0, .ref (G.2.2 + r0)), (1, .int x1)]) C.x C.b dX10_number_12 rfl hl (by decide) rfl (fun ls hl => ?_)
    exact w_X10_number_13 C hr hlk FU _ _ _ _ _ _ hf hE hR hS t_r0 (lv_sub hl [2, 3, 1, 0] rfl)
  · have hf := it_t hf c2
    refine lv_iconst (v := (-1 : Int32)) C.x C.b dX10_number_7 (by decide) ?_
    have hf := so_e hf
    subst hf
    exact r_iret C hr hlk hR hE hS dX10_number_8

def rm_X10_digitIn : Room := { frames := 1, cells := 0, slots := 0, locals := 25 }
set_option maxRecDepth 100000 in
set_option maxHeartbeats 4000000 in
theorem k_X10_digitIn {G : Gt} {l : Launch} {h : Hp} {r0 : Nat} {x1 : Int32} {x2 : Int32} {out : (Int32 × Hp)} (t_r0 : hpT h r0 = (1, 10))  (hf : f_X10_digitIn h r0 x1 x2 = some out) : Mt G l yX10_digitIn cX10_digitIn 3 (some .int) rm_X10_digitIn [.ref (G.2.2 + r0), .int x1, .int x2] h (some (.int out.1)) out.2 0 0 0 := by
  refine r_met (by decide +kernel) (Nat.le_of_ble_eq_true rfl) ?_
  intro p e s m args below meth c ls C hr hlk hnm hR hS hl
  have hE : Ext h h := Ext.rf
  have hl : lv_has ls 3 [(0, .ref (G.2.2 + r0)), (1, .int x1), (2, .int x2)] := hl
  rw [f_X10_digitIn] at hf
  refine lv_aload_n C.x C.b dX10_digitIn_0 rfl (lv_at hl 0 rfl) ?_
  refine r_geti C hR t_r0 fl_X10_148 rfl dX10_digitIn_1 ?_
  refine lv_aload_n C.x C.b dX10_digitIn_4 rfl (lv_at hl 0 rfl) ?_
  refine r_geti C hR t_r0 fl_X10_160 rfl dX10_digitIn_5 ?_
  refine lv_icmp_ge (tgt := 34) C.x C.b dX10_digitIn_8 (by decide) (fun c1 => ?_) (fun c1 => ?_)
  · have hf := it_t hf c1
    refine lv_iconst (v := (-1 : Int32)) C.x C.b dX10_digitIn_34 (by decide) ?_
    have hf := so_e hf
    subst hf
    exact r_iret C hr hlk hR hE hS dX10_digitIn_35
  · have hf := it_f hf c1
    refine lv_aload_n C.x C.b dX10_digitIn_11 rfl (lv_at hl 0 rfl) ?_
    obtain ⟨g2, hf⟩ := gd_e hf
    refine r_getr C hR t_r0 fl_X10_27 (by decide) (nz_e g2) dX10_digitIn_12 (fun tq3 => ?_)
    have tg2 := okA tq3 rfl
    refine lv_aload_n C.x C.b dX10_digitIn_15 rfl (lv_at hl 0 rfl) ?_
    refine r_geti C hR t_r0 fl_X10_148 rfl dX10_digitIn_16 ?_
    obtain ⟨g4, hf⟩ := gd_e hf
    refine r_iald C hR tg2 g4 dX10_digitIn_19 ?_
    refine lv_bipush (v := (48 : Int32)) C.x C.b dX10_digitIn_20 (by decide) ?_
    refine lv_isub C.x C.b dX10_digitIn_22 ?_
    refine lv_i2l C.x C.b dX10_digitIn_23 rfl ?_
    refine lv_iload_n C.x C.b dX10_digitIn_24 rfl (lv_at hl 1 rfl) ?_
    refine lv_i2l C.x C.b dX10_digitIn_25 rfl ?_
    refine lv_iload_n C.x C.b dX10_digitIn_26 rfl (lv_at hl 2 rfl) ?_
    refine lv_i2l C.x C.b dX10_digitIn_27 rfl ?_
    obtain ⟨q5, h_q5, hf⟩ := bd_e hf
    refine r_callS (As := [.long (((hpI h (hpR h r0 8) (ix (hpI h r0 10))) - (48 : Int32)).toInt64), .long (x1.toInt64), .long (x2.toInt64)]) (rest := []) C hR hS mk_X10_in cl_X10_117 (k_X10_in h_q5) ⟨⟨Nat.le_of_ble_eq_true rfl, Nat.le_of_ble_eq_true rfl⟩, ⟨rfl, rfl⟩, Nat.le_of_ble_eq_true rfl, Nat.le_of_ble_eq_true rfl⟩ rfl hl.1 rfl (Nat.le_of_ble_eq_true rfl) dX10_digitIn_28 (fun H locs hR hS hE1 z_q5 => ?_)
    have z_q5 := z_q5 _ rfl
    refine lv_if_ne (tgt := 36) C.x C.b dX10_digitIn_31 (by decide) (fun c6 => ?_) (fun c6 => ?_)
    · have hf := it_f hf c6
      refine lv_aload_n C.x C.b dX10_digitIn_36 rfl (lv_at hl 0 rfl) ?_
      refine lv_dup C.x C.b dX10_digitIn_37 rfl ?_
      refine r_geti C hR t_r0 fl_X10_148 rfl dX10_digitIn_38 ?_
      refine lv_iconst (v := (1 : Int32)) C.x C.b dX10_digitIn_41 (by decide) ?_
      refine lv_iadd C.x C.b dX10_digitIn_42 ?_
      refine r_puti C hR hS t_r0 fl_X10_148 fp_X10_10_10 rfl dX10_digitIn_43 (fun H locs hR hS => ?_)
      obtain ⟨h7, e_h7⟩ : ∃ y, y = upI h r0 10 ((hpI h r0 10) + (1 : Int32)) := ⟨_, rfl⟩
      rw [← e_h7] at hR
      have hf := lt_e hf e_h7
      have hE := eI e_h7 hE
      have t_r0 := tI e_h7 t_r0
      refine lv_aload_n C.x C.b dX10_digitIn_46 rfl (lv_at hl 0 rfl) ?_
      obtain ⟨g8, hf⟩ := gd_e hf
      refine r_getr C hR t_r0 fl_X10_27 (by decide) (nz_e g8) dX10_digitIn_47 (fun tq9 => ?_)
      have tg8 := okA tq9 rfl
      refine lv_aload_n C.x C.b dX10_digitIn_50 rfl (lv_at hl 0 rfl) ?_
      refine r_geti C hR t_r0 fl_X10_148 rfl dX10_digitIn_51 ?_
      refine lv_iconst (v := (1 : Int32)) C.x C.b dX10_digitIn_54 (by decide) ?_
      refine lv_isub C.x C.b dX10_digitIn_55 ?_
      obtain ⟨g10, hf⟩ := gd_e hf
      refine r_iald C hR tg8 g10 dX10_digitIn_56 ?_
      refine lv_bipush (v := (48 : Int32)) C.x C.b dX10_digitIn_57 (by decide) ?_
      refine lv_isub C.x C.b dX10_digitIn_59 ?_
      have hf := so_e hf
      subst hf
      exact r_iret C hr hlk hR hE hS dX10_digitIn_60
    · have hf := it_t hf c6
      refine lv_iconst (v := (-1 : Int32)) C.x C.b dX10_digitIn_34 (by decide) ?_
      have hf := so_e hf
      subst hf
      exact r_iret C hr hlk hR hE hS dX10_digitIn_35

def rm_X10_faultOf : Room := { frames := 0, cells := 0, slots := 0, locals := 0 }
def P_X10_faultOf_44 (G : Gt) (l : Launch) (p : Program) (e : Env) (s : State) (m : MethodId) (args : Array Value) (below : List Frame) (meth : Method) (c : Code) (h : Hp) (out : Int32) (r0 : Nat) (x1 : Int32) (x2 : Int32) (x3 : Int32) (k : Int32 → Option Int32) : Prop := ∀ (H : Heap) (locs : List Loc) (ls : Array Slot) (x4 : Int32), k x4 = some out → Rel G h H → va_S (AA G.2.2) s.heap H locs → hpT h r0 = (1, 10) → narrow .boolean (.int x4) = .int x4 → lv_has ls 5 [(0, .ref (G.2.2 + r0)), (1, .int x1), (2, .int x2), (3, .int x3), (4, .int x4)] → W p l e rm_X10_faultOf s m args below meth c H locs 0 0 (MQ below (Qm G h h (some (.int out)) 0) args s 0 0 (AA G.2.2)) (F0 m 44 ls [])
def P_X10_faultOf_40 (G : Gt) (l : Launch) (p : Program) (e : Env) (s : State) (m : MethodId) (args : Array Value) (below : List Frame) (meth : Method) (c : Code) (h : Hp) (out : Int32) (r0 : Nat) (x1 : Int32) (x2 : Int32) (x3 : Int32) (k : Option Int32) : Prop := ∀ (H : Heap) (locs : List Loc) (ls : Array Slot), k = some out → Rel G h H → va_S (AA G.2.2) s.heap H locs → hpT h r0 = (1, 10) → lv_has ls 5 [(0, .ref (G.2.2 + r0)), (1, .int x1), (2, .int x2), (3, .int x3)] → W p l e rm_X10_faultOf s m args below meth c H locs 0 0 (MQ below (Qm G h h (some (.int out)) 0) args s 0 0 (AA G.2.2)) (F0 m 40 ls [])
def P_X10_faultOf_20 (G : Gt) (l : Launch) (p : Program) (e : Env) (s : State) (m : MethodId) (args : Array Value) (below : List Frame) (meth : Method) (c : Code) (h : Hp) (out : Int32) (r0 : Nat) (x1 : Int32) (x2 : Int32) (x3 : Int32) (k : Int32 → Option Int32) : Prop := ∀ (H : Heap) (locs : List Loc) (ls : Array Slot) (s0 : Int32), k s0 = some out → Rel G h H → va_S (AA G.2.2) s.heap H locs → hpT h r0 = (1, 10) → narrow .boolean (.int s0) = .int s0 → lv_has ls 5 [(0, .ref (G.2.2 + r0)), (1, .int x1), (2, .int x2), (3, .int x3)] → W p l e rm_X10_faultOf s m args below meth c H locs 0 0 (MQ below (Qm G h h (some (.int out)) 0) args s 0 0 (AA G.2.2)) (F0 m 20 ls [.int s0])
def P_X10_faultOf_19 (G : Gt) (l : Launch) (p : Program) (e : Env) (s : State) (m : MethodId) (args : Array Value) (below : List Frame) (meth : Method) (c : Code) (h : Hp) (out : Int32) (r0 : Nat) (x1 : Int32) (x2 : Int32) (x3 : Int32) (k : Option Int32) : Prop := ∀ (H : Heap) (locs : List Loc) (ls : Array Slot), k = some out → Rel G h H → va_S (AA G.2.2) s.heap H locs → hpT h r0 = (1, 10) → lv_has ls 5 [(0, .ref (G.2.2 + r0)), (1, .int x1), (2, .int x2), (3, .int x3)] → W p l e rm_X10_faultOf s m args below meth c H locs 0 0 (MQ below (Qm G h h (some (.int out)) 0) args s 0 0 (AA G.2.2)) (F0 m 19 ls [])
set_option maxRecDepth 100000 in
set_option maxHeartbeats 4000000 in
theorem w_X10_faultOf_44 {G : Gt} {l : Launch} {p : Program} {e : Env} {s : State} {m : MethodId} {args : Array Value} {below : List Frame} {meth : Method} {c : Code} {h : Hp} {out : Int32} {r0 : Nat} {x1 : Int32} {x2 : Int32} {x3 : Int32}  (C : Cx G p m c cX10_faultOf 5 s args RX10) (hr : meth.sig.returnType = some .int) (hlk : meth.locks = false)  : P_X10_faultOf_44 G l p e s m args below meth c h out r0 x1 x2 x3 (f_X10_faultOf_44 h r0 x1 x2 x3) := by
  intro H locs ls x4 hf hR hS t_r0 z_x4 hl
  rw [f_X10_faultOf_44] at hf
  refine lv_iload C.x C.b dX10_faultOf_44 (lv_at hl 4 rfl) ?_
  refine lv_if_eq (tgt := 53) C.x C.b dX10_faultOf_46 (by decide) (fun c6 => ?_) (fun c6 => ?_)
  · have hf := it_t hf c6
    refine lv_iconst (v := (-1 : Int32)) C.x C.b dX10_faultOf_53 (by decide) ?_
    refine lv_aload_n C.x C.b dX10_faultOf_54 rfl (lv_at hl 0 rfl) ?_
    refine r_geti C hR t_r0 fl_X10_148 rfl dX10_faultOf_55 ?_
    refine lv_isub C.x C.b dX10_faultOf_58 ?_
    have hf := so_e hf
    subst hf
    exact r_iret C hr hlk hR Ext.rf hS dX10_faultOf_59
  · have hf := it_f hf c6
    refine lv_iconst (v := (0 : Int32)) C.x C.b dX10_faultOf_49 (by decide) ?_
    refine lv_goto (tgt := 59) C.x C.b dX10_faultOf_50 (by decide) ?_
    have hf := so_e hf
    subst hf
    exact r_iret C hr hlk hR Ext.rf hS dX10_faultOf_59
set_option maxRecDepth 100000 in
set_option maxHeartbeats 4000000 in
theorem w_X10_faultOf_40 {G : Gt} {l : Launch} {p : Program} {e : Env} {s : State} {m : MethodId} {args : Array Value} {below : List Frame} {meth : Method} {c : Code} {h : Hp} {out : Int32} {r0 : Nat} {x1 : Int32} {x2 : Int32} {x3 : Int32}  (C : Cx G p m c cX10_faultOf 5 s args RX10) (hr : meth.sig.returnType = some .int) (hlk : meth.locks = false)  : P_X10_faultOf_40 G l p e s m args below meth c h out r0 x1 x2 x3 (f_X10_faultOf_40 h r0 x1 x2 x3) := by
  intro H locs ls  hf hR hS t_r0 hl
  rw [f_X10_faultOf_40] at hf
  refine lv_iconst (v := (-1 : Int32)) C.x C.b dX10_faultOf_40 (by decide) ?_
  refine lv_iload_n C.x C.b dX10_faultOf_41 rfl (lv_at hl 2 rfl) ?_
  refine lv_isub C.x C.b dX10_faultOf_42 ?_
  have hf := so_e hf
  subst hf
  exact r_iret C hr hlk hR Ext.rf hS dX10_faultOf_43
set_option maxRecDepth 100000 in
set_option maxHeartbeats 4000000 in
theorem w_X10_faultOf_20 {G : Gt} {l : Launch} {p : Program} {e : Env} {s : State} {m : MethodId} {args : Array Value} {below : List Frame} {meth : Method} {c : Code} {h : Hp} {out : Int32} {r0 : Nat} {x1 : Int32} {x2 : Int32} {x3 : Int32}  (C : Cx G p m c cX10_faultOf 5 s args RX10) (hr : meth.sig.returnType = some .int) (hlk : meth.locks = false)  : P_X10_faultOf_20 G l p e s m args below meth c h out r0 x1 x2 x3 (f_X10_faultOf_20 h r0 x1 x2 x3) := by
  intro H locs ls s0 hf hR hS t_r0 z_s0 hl
  rw [f_X10_faultOf_20] at hf
  refine lv_istore (lv' := [(4, .int s0), (0, .ref (G.2.2 + r0)), (1, .int x1), (2, .int x2), (3, .int x3)]) C.x C.b dX10_faultOf_20 hl (by decide) rfl (fun ls hl => ?_)
  refine lv_iload_n C.x C.b dX10_faultOf_22 rfl (lv_at hl 2 rfl) ?_
  refine lv_iload_n C.x C.b dX10_faultOf_23 rfl (lv_at hl 3 rfl) ?_
  refine lv_icmp_le (tgt := 44) C.x C.b dX10_faultOf_24 (by decide) (fun c3 => ?_) (fun c3 => ?_)
  · have hf := it_t hf c3
    exact w_X10_faultOf_44 C hr hlk _ _ _ _ hf hR hS t_r0 z_s0 (lv_sub hl [1, 2, 3, 4, 0] rfl)
  · have hf := it_f hf c3
    refine lv_iload C.x C.b dX10_faultOf_27 (lv_at hl 0 rfl) ?_
    refine lv_if_ne (tgt := 40) C.x C.b dX10_faultOf_29 (by decide) (fun c4 => ?_) (fun c4 => ?_)
    · have hf := it_f hf c4
      exact w_X10_faultOf_40 C hr hlk _ _ _ hf hR hS t_r0 (lv_sub hl [1, 2, 3, 4] rfl)
    · have hf := it_t hf c4
      refine lv_aload_n C.x C.b dX10_faultOf_32 rfl (lv_at hl 1 rfl) ?_
      refine r_geti C hR t_r0 fl_X10_148 rfl dX10_faultOf_33 ?_
      refine lv_iload_n C.x C.b dX10_faultOf_36 rfl (lv_at hl 3 rfl) ?_
      refine lv_icmp_lt (tgt := 44) C.x C.b dX10_faultOf_37 (by decide) (fun c5 => ?_) (fun c5 => ?_)
      · have hf := it_t hf c5
        exact w_X10_faultOf_44 C hr hlk _ _ _ _ hf hR hS t_r0 z_s0 (lv_sub hl [1, 2, 3, 4, 0] rfl)
      · have hf := it_f hf c5
        exact w_X10_faultOf_40 C hr hlk _ _ _ hf hR hS t_r0 (lv_sub hl [1, 2, 3, 4] rfl)
set_option maxRecDepth 100000 in
set_option maxHeartbeats 4000000 in
theorem w_X10_faultOf_19 {G : Gt} {l : Launch} {p : Program} {e : Env} {s : State} {m : MethodId} {args : Array Value} {below : List Frame} {meth : Method} {c : Code} {h : Hp} {out : Int32} {r0 : Nat} {x1 : Int32} {x2 : Int32} {x3 : Int32}  (C : Cx G p m c cX10_faultOf 5 s args RX10) (hr : meth.sig.returnType = some .int) (hlk : meth.locks = false)  : P_X10_faultOf_19 G l p e s m args below meth c h out r0 x1 x2 x3 (f_X10_faultOf_19 h r0 x1 x2 x3) := by
  intro H locs ls  hf hR hS t_r0 hl
  rw [f_X10_faultOf_19] at hf
  refine lv_iconst (v := (0 : Int32)) C.x C.b dX10_faultOf_19 (by decide) ?_
  exact w_X10_faultOf_20 C hr hlk _ _ _ _ hf hR hS t_r0 z_0 (lv_sub hl [0, 1, 2, 3] rfl)
set_option maxRecDepth 100000 in
set_option maxHeartbeats 4000000 in
theorem k_X10_faultOf {G : Gt} {l : Launch} {h : Hp} {r0 : Nat} {x1 : Int32} {x2 : Int32} {x3 : Int32} {out : Int32} (t_r0 : hpT h r0 = (1, 10))  (hf : f_X10_faultOf h r0 x1 x2 x3 = some out) : Mt G l yX10_faultOf cX10_faultOf 5 (some .int) rm_X10_faultOf [.ref (G.2.2 + r0), .int x1, .int x2, .int x3] h (some (.int out)) h 0 0 0 := by
  refine r_met (by decide +kernel) (Nat.le_of_ble_eq_true rfl) ?_
  intro p e s m args below meth c ls C hr hlk hnm hR hS hl
  have hl : lv_has ls 5 [(0, .ref (G.2.2 + r0)), (1, .int x1), (2, .int x2), (3, .int x3)] := hl
  rw [f_X10_faultOf] at hf
  refine lv_iload_n C.x C.b dX10_faultOf_0 rfl (lv_at hl 3 rfl) ?_
  refine lv_if_eq (tgt := 19) C.x C.b dX10_faultOf_1 (by decide) (fun c1 => ?_) (fun c1 => ?_)
  · have hf := it_t hf c1
    exact w_X10_faultOf_19 C hr hlk _ _ _ hf hR hS t_r0 (lv_sub hl [0, 1, 2, 3] rfl)
  · have hf := it_f hf c1
    refine lv_aload_n C.x C.b dX10_faultOf_4 rfl (lv_at hl 0 rfl) ?_
    refine r_geti C hR t_r0 fl_X10_148 rfl dX10_faultOf_5 ?_
    refine lv_aload_n C.x C.b dX10_faultOf_8 rfl (lv_at hl 0 rfl) ?_
    refine r_geti C hR t_r0 fl_X10_160 rfl dX10_faultOf_9 ?_
    refine lv_icmp_ne (tgt := 19) C.x C.b dX10_faultOf_12 (by decide) (fun c2 => ?_) (fun c2 => ?_)
    · have hf := it_f hf c2
      exact w_X10_faultOf_19 C hr hlk _ _ _ hf hR hS t_r0 (lv_sub hl [0, 1, 2, 3] rfl)
    · have hf := it_t hf c2
      refine lv_iconst (v := (1 : Int32)) C.x C.b dX10_faultOf_15 (by decide) ?_
      refine lv_goto (tgt := 20) C.x C.b dX10_faultOf_16 (by decide) ?_
      exact w_X10_faultOf_20 C hr hlk _ _ _ _ hf hR hS t_r0 z_1 (lv_sub hl [0, 1, 2, 3] rfl)

def rm_X10_field : Room := { frames := 2, cells := 0, slots := 0, locals := 47 }
def P_X10_field_51 (G : Gt) (l : Launch) (p : Program) (e : Env) (s : State) (m : MethodId) (args : Array Value) (below : List Frame) (meth : Method) (c : Code) (h0 : Hp) (out : (Int32 × Hp)) (r0 : Nat) (k : Hp → Option (Int32 × Hp)) : Prop := ∀ (H : Heap) (locs : List Loc) (ls : Array Slot) (h : Hp), k h = some out → Ext h0 h → Rel G h H → va_S (AA G.2.2) s.heap H locs → hpT h r0 = (1, 10) → lv_has ls 3 [(0, .ref (G.2.2 + r0))] → W p l e rm_X10_field s m args below meth c H locs 0 0 (MQ below (Qm G h0 out.2 (some (.int out.1)) 0) args s 0 0 (AA G.2.2)) (F0 m 51 ls [])
def P_X10_field_35 (G : Gt) (l : Launch) (p : Program) (e : Env) (s : State) (m : MethodId) (args : Array Value) (below : List Frame) (meth : Method) (c : Code) (h0 : Hp) (out : (Int32 × Hp)) (r0 : Nat) (k : Hp → Int32 → Int32 → Option (Int32 × Hp)) : Prop := ∀ (H : Heap) (locs : List Loc) (ls : Array Slot) (h : Hp) (s0 : Int32) (x1 : Int32), k h s0 x1 = some out → Ext h0 h → Rel G h H → va_S (AA G.2.2) s.heap H locs → hpT h r0 = (1, 10) → lv_has ls 3 [(0, .ref (G.2.2 + r0)), (1, .int x1)] → W p l e rm_X10_field s m args below meth c H locs 0 0 (MQ below (Qm G h0 out.2 (some (.int out.1)) 0) args s 0 0 (AA G.2.2)) (F0 m 35 ls [.int s0])
set_option maxRecDepth 100000 in
set_option maxHeartbeats 4000000 in
theorem w_X10_field_51 {G : Gt} {l : Launch} {p : Program} {e : Env} {s : State} {m : MethodId} {args : Array Value} {below : List Frame} {meth : Method} {c : Code} {h0 : Hp} {out : (Int32 × Hp)} {r0 : Nat}  (C : Cx G p m c cX10_field 3 s args RX10) (hr : meth.sig.returnType = some .int) (hlk : meth.locks = false)  : P_X10_field_51 G l p e s m args below meth c h0 out r0 (f_X10_field_51 r0) := by
  intro H locs ls h hf hE hR hS t_r0 hl
  rw [f_X10_field_51] at hf
  refine lv_iconst (v := (-1 : Int32)) C.x C.b dX10_field_51 (by decide) ?_
  refine lv_aload_n C.x C.b dX10_field_52 rfl (lv_at hl 0 rfl) ?_
  refine r_geti C hR t_r0 fl_X10_148 rfl dX10_field_53 ?_
  refine lv_isub C.x C.b dX10_field_56 ?_
  have hf := so_e hf
  subst hf
  exact r_iret C hr hlk hR hE hS dX10_field_57
set_option maxRecDepth 100000 in
set_option maxHeartbeats 4000000 in
theorem w_X10_field_35 {G : Gt} {l : Launch} {p : Program} {e : Env} {s : State} {m : MethodId} {args : Array Value} {below : List Frame} {meth : Method} {c : Code} {h0 : Hp} {out : (Int32 × Hp)} {r0 : Nat}  (C : Cx G p m c cX10_field 3 s args RX10) (hr : meth.sig.returnType = some .int) (hlk : meth.locks = false)  : P_X10_field_35 G l p e s m args below meth c h0 out r0 (f_X10_field_35 r0) := by
  intro H locs ls h s0 x1 hf hE hR hS t_r0 hl
  rw [f_X10_field_35] at hf
  refine lv_istore_n (lv' := [(2, .int s0), (0, .ref (G.2.2 + r0)), (1, .int x1)]) C.x C.b dX10_field_35 rfl hl (by decide) rfl (fun ls hl => ?_)
  refine lv_iload_n C.x C.b dX10_field_36 rfl (lv_at hl 0 rfl) ?_
  refine lv_if_lt (tgt := 51) C.x C.b dX10_field_37 (by decide) (fun c6 => ?_) (fun c6 => ?_)
  · have hf := it_t hf c6
    exact w_X10_field_51 C hr hlk _ _ _ _ hf hE hR hS t_r0 (lv_sub hl [1] rfl)
  · have hf := it_f hf c6
    refine lv_aload_n C.x C.b dX10_field_40 rfl (lv_at hl 1 rfl) ?_
    refine r_geti C hR t_r0 fl_X10_148 rfl dX10_field_41 ?_
    refine lv_aload_n C.x C.b dX10_field_44 rfl (lv_at hl 1 rfl) ?_
    refine r_geti C hR t_r0 fl_X10_160 rfl dX10_field_45 ?_
    refine lv_icmp_ge (tgt := 58) C.x C.b dX10_field_48 (by decide) (fun c7 => ?_) (fun c7 => ?_)
    · have hf := it_t hf c7
      refine lv_aload_n C.x C.b dX10_field_58 rfl (lv_at hl 1 rfl) ?_
      refine lv_iload_n C.x C.b dX10_field_59 rfl (lv_at hl 2 rfl) ?_
      refine r_puti C hR hS t_r0 fl_X10_13 fp_X10_10_3 rfl dX10_field_60 (fun H locs hR hS => ?_)
      obtain ⟨h8, e_h8⟩ : ∃ y, y = upI h r0 3 x1 := ⟨_, rfl⟩
      rw [← e_h8] at hR
      have hf := lt_e hf e_h8
      have hE := eI e_h8 hE
      have t_r0 := tI e_h8 t_r0
      refine lv_aload_n C.x C.b dX10_field_63 rfl (lv_at hl 1 rfl) ?_
      refine lv_iload_n C.x C.b dX10_field_64 rfl (lv_at hl 0 rfl) ?_
      refine r_puti C hR hS t_r0 fl_X10_17 fp_X10_10_4 rfl dX10_field_65 (fun H locs hR hS => ?_)
      obtain ⟨h9, e_h9⟩ : ∃ y, y = upI h8 r0 4 s0 := ⟨_, rfl⟩
      rw [← e_h9] at hR
      have hf := lt_e hf e_h9
      have hE := eI e_h9 hE
      have t_r0 := tI e_h9 t_r0
      refine lv_aload_n C.x C.b dX10_field_68 rfl (lv_at hl 1 rfl) ?_
      obtain ⟨g10, hf⟩ := gd_e hf
      refine r_getr C hR t_r0 fl_X10_20 (by decide) (nz_e g10) dX10_field_69 (fun tq11 => ?_)
      have tg10 := okA tq11 rfl
      refine lv_bipush (v := (48 : Int32)) C.x C.b dX10_field_72 (by decide) ?_
      refine lv_iconst (v := (0 : Int32)) C.x C.b dX10_field_74 (by decide) ?_
      obtain ⟨g12, hf⟩ := gd_e hf
      refine r_iast C hR hS tg10 g12 dX10_field_75 (fun H locs hR hS => ?_)
      obtain ⟨h13, e_h13⟩ : ∃ y, y = upI h9 (hpR h9 r0 6) (ix (48 : Int32)) (0 : Int32) := ⟨_, rfl⟩
      rw [← e_h13] at hR
      have hf := lt_e hf e_h13
      have hE := eI e_h13 hE
      have t_r0 := tI e_h13 t_r0
      refine lv_aload_n C.x C.b dX10_field_76 rfl (lv_at hl 1 rfl) ?_
      obtain ⟨g14, hf⟩ := gd_e hf
      refine r_getr C hR t_r0 fl_X10_20 (by decide) (nz_e g14) dX10_field_77 (fun tq15 => ?_)
      have tg14 := okA tq15 rfl
      refine lv_bipush (v := (49 : Int32)) C.x C.b dX10_field_80 (by decide) ?_
      refine lv_iconst (v := (0 : Int32)) C.x C.b dX10_field_82 (by decide) ?_
      obtain ⟨g16, hf⟩ := gd_e hf
      refine r_iast C hR hS tg14 g16 dX10_field_83 (fun H locs hR hS => ?_)
      obtain ⟨h17, e_h17⟩ : ∃ y, y = upI h13 (hpR h13 r0 6) (ix (49 : Int32)) (0 : Int32) := ⟨_, rfl⟩
      rw [← e_h17] at hR
      have hf := lt_e hf e_h17
      have hE := eI e_h17 hE
      have t_r0 := tI e_h17 t_r0
      refine lv_aload_n C.x C.b dX10_field_84 rfl (lv_at hl 1 rfl) ?_
      obtain ⟨g18, hf⟩ := gd_e hf
      refine r_getr C hR t_r0 fl_X10_20 (by decide) (nz_e g18) dX10_field_85 (fun tq19 => ?_)
      have tg18 := okA tq19 rfl
      refine lv_bipush (v := (50 : Int32)) C.x C.b dX10_field_88 (by decide) ?_
      refine lv_iconst (v := (0 : Int32)) C.x C.b dX10_field_90 (by decide) ?_
      obtain ⟨g20, hf⟩ := gd_e hf
      refine r_iast C hR hS tg18 g20 dX10_field_91 (fun H locs hR hS => ?_)
      obtain ⟨h21, e_h21⟩ : ∃ y, y = upI h17 (hpR h17 r0 6) (ix (50 : Int32)) (0 : Int32) := ⟨_, rfl⟩
      rw [← e_h21] at hR
      have hf := lt_e hf e_h21
      have hE := eI e_h21 hE
      have t_r0 := tI e_h21 t_r0
      refine lv_aload_n C.x C.b dX10_field_92 rfl (lv_at hl 1 rfl) ?_
      refine lv_iconst (v := (0 : Int32)) C.x C.b dX10_field_93 (by decide) ?_
      refine r_puti C hR hS t_r0 fl_X10_191 fp_X10_10_22 rfl dX10_field_94 (fun H locs hR hS => ?_)
      obtain ⟨h22, e_h22⟩ : ∃ y, y = upI h21 r0 22 (0 : Int32) := ⟨_, rfl⟩
      rw [← e_h22] at hR
      have hf := lt_e hf e_h22
      have hE := eI e_h22 hE
      have t_r0 := tI e_h22 t_r0
      refine lv_aload_n C.x C.b dX10_field_97 rfl (lv_at hl 1 rfl) ?_
      refine lv_dup C.x C.b dX10_field_98 rfl ?_
      refine r_geti C hR t_r0 fl_X10_194 rfl dX10_field_99 ?_
      refine lv_iconst (v := (1 : Int32)) C.x C.b dX10_field_102 (by decide) ?_
      refine lv_iadd C.x C.b dX10_field_103 ?_
      refine r_puti C hR hS t_r0 fl_X10_194 fp_X10_10_5 rfl dX10_field_104 (fun H locs hR hS => ?_)
      obtain ⟨h23, e_h23⟩ : ∃ y, y = upI h22 r0 5 ((hpI h22 r0 5) + (1 : Int32)) := ⟨_, rfl⟩
      rw [← e_h23] at hR
      have hf := lt_e hf e_h23
      have hE := eI e_h23 hE
      have t_r0 := tI e_h23 t_r0
      refine lv_aload_n C.x C.b dX10_field_107 rfl (lv_at hl 1 rfl) ?_
      refine lv_iconst (v := (0 : Int32)) C.x C.b dX10_field_108 (by decide) ?_
      refine r_puti C hR hS t_r0 fl_X10_197 fp_X10_10_31 rfl dX10_field_109 (fun H locs hR hS => ?_)
      obtain ⟨h24, e_h24⟩ : ∃ y, y = upI h23 r0 31 (0 : Int32) := ⟨_, rfl⟩
      rw [← e_h24] at hR
      have hf := lt_e hf e_h24
      have hE := eI e_h24 hE
      have t_r0 := tI e_h24 t_r0
      refine lv_aload_n C.x C.b dX10_field_112 rfl (lv_at hl 1 rfl) ?_
      obtain ⟨q25, h_q25, hf⟩ := bd_e hf
      refine r_callV (As := []) (rest := []) C hR hS t_r0 rfl mk_X10_cells cl_X10_113 (k_X10_cells t_r0 h_q25) ⟨⟨Nat.le_of_ble_eq_true rfl, Nat.le_of_ble_eq_true rfl⟩, ⟨rfl, rfl⟩, Nat.le_of_ble_eq_true rfl, Nat.le_of_ble_eq_true rfl⟩ rfl hl.1 rfl (Nat.le_of_ble_eq_true rfl) dX10_field_113 (fun H locs hR hS hE1 z_q25 => ?_)
      have hf := so_e hf
      subst hf
      exact r_iret C hr hlk hR hE hS dX10_field_116
    · have hf := it_f hf c7
      exact w_X10_field_51 C hr hlk _ _ _ _ hf hE hR hS t_r0 (lv_sub hl [1] rfl)
set_option maxRecDepth 100000 in
set_option maxHeartbeats 4000000 in
theorem k_X10_field {G : Gt} {l : Launch} {h : Hp} {r0 : Nat} {out : (Int32 × Hp)} (t_r0 : hpT h r0 = (1, 10))  (hf : f_X10_field h r0 = some out) : Mt G l yX10_field cX10_field 3 (some .int) rm_X10_field [.ref (G.2.2 + r0)] h (some (.int out.1)) out.2 0 0 0 := by
  refine r_met (by decide +kernel) (Nat.le_of_ble_eq_true rfl) ?_
  intro p e s m args below meth c ls C hr hlk hnm hR hS hl
  have hE : Ext h h := Ext.rf
  have hl : lv_has ls 3 [(0, .ref (G.2.2 + r0))] := hl
  rw [f_X10_field] at hf
  refine lv_aload_n C.x C.b dX10_field_0 rfl (lv_at hl 0 rfl) ?_
  refine lv_iconst (v := (0 : Int32)) C.x C.b dX10_field_1 (by decide) ?_
  refine r_puti C hR hS t_r0 fl_X10_103 fp_X10_10_0 rfl dX10_field_2 (fun H locs hR hS => ?_)
  obtain ⟨h1, e_h1⟩ : ∃ y, y = upI h r0 0 (0 : Int32) := ⟨_, rfl⟩
  rw [← e_h1] at hR
  have hf := lt_e hf e_h1
  have hE := eI e_h1 hE
  have t_r0 := tI e_h1 t_r0
  refine lv_aload_n C.x C.b dX10_field_5 rfl (lv_at hl 0 rfl) ?_
  refine lv_bipush (v := (80 : Int32)) C.x C.b dX10_field_6 (by decide) ?_
  obtain ⟨q2, h_q2, hf⟩ := bd_e hf
  refine r_callV (As := [.int (80 : Int32)]) (rest := []) C hR hS t_r0 rfl mk_X10_begins cl_X10_184 (k_X10_begins t_r0 h_q2) ⟨⟨Nat.le_of_ble_eq_true rfl, Nat.le_of_ble_eq_true rfl⟩, ⟨rfl, rfl⟩, Nat.le_of_ble_eq_true rfl, Nat.le_of_ble_eq_true rfl⟩ rfl hl.1 rfl (Nat.le_of_ble_eq_true rfl) dX10_field_8 (fun H locs hR hS hE1 z_q2 => ?_)
  have hE := hE.tr hE1
  have t_r0 := hE1.at t_r0 (by decide)
  refine lv_pop C.x C.b dX10_field_11 rfl ?_
  refine lv_aload_n C.x C.b dX10_field_12 rfl (lv_at hl 0 rfl) ?_
  refine lv_iconst (v := (3 : Int32)) C.x C.b dX10_field_13 (by decide) ?_
  refine lv_bipush (v := (6 : Int32)) C.x C.b dX10_field_14 (by decide) ?_
  obtain ⟨q3, h_q3, hf⟩ := bd_e hf
  refine r_callV (As := [.int (3 : Int32), .int (6 : Int32)]) (rest := []) C hR hS t_r0 rfl mk_X10_digitIn cl_X10_188 (k_X10_digitIn t_r0 h_q3) ⟨⟨Nat.le_of_ble_eq_true rfl, Nat.le_of_ble_eq_true rfl⟩, ⟨rfl, rfl⟩, Nat.le_of_ble_eq_true rfl, Nat.le_of_ble_eq_true rfl⟩ rfl hl.1 rfl (Nat.le_of_ble_eq_true rfl) dX10_field_16 (fun H locs hR hS hE1 z_q3 => ?_)
  have hE := hE.tr hE1
  have t_r0 := hE1.at t_r0 (by decide)
  refine lv_istore_n (lv' := [(1, .int q3.1), (0, .ref (G.2.2 + r0))]) C.x C.b dX10_field_19 rfl hl (by decide) rfl (fun ls hl => ?_)
  refine lv_iload_n C.x C.b dX10_field_20 rfl (lv_at hl 0 rfl) ?_
  refine lv_if_ge (tgt := 28) C.x C.b dX10_field_21 (by decide) (fun c4 => ?_) (fun c4 => ?_)
  · have hf := it_t hf c4
    refine lv_aload_n C.x C.b dX10_field_28 rfl (lv_at hl 1 rfl) ?_
    refine lv_iconst (v := (3 : Int32)) C.x C.b dX10_field_29 (by decide) ?_
    refine lv_bipush (v := (6 : Int32)) C.x C.b dX10_field_30 (by decide) ?_
    obtain ⟨q5, h_q5, hf⟩ := bd_e hf
    refine r_callV (As := [.int (3 : Int32), .int (6 : Int32)]) (rest := []) C hR hS t_r0 rfl mk_X10_digitIn cl_X10_188 (k_X10_digitIn t_r0 h_q5) ⟨⟨Nat.le_of_ble_eq_true rfl, Nat.le_of_ble_eq_true rfl⟩, ⟨rfl, rfl⟩, Nat.le_of_ble_eq_true rfl, Nat.le_of_ble_eq_true rfl⟩ rfl hl.1 rfl (Nat.le_of_ble_eq_true rfl) dX10_field_32 (fun H locs hR hS hE1 z_q5 => ?_)
    have hE := hE.tr hE1
    have t_r0 := hE1.at t_r0 (by decide)
    exact w_X10_field_35 C hr hlk _ _ _ _ _ _ hf hE hR hS t_r0 (lv_sub hl [1, 0] rfl)
  · have hf := it_f hf c4
    refine lv_iconst (v := (-1 : Int32)) C.x C.b dX10_field_24 (by decide) ?_
    refine lv_goto (tgt := 35) C.x C.b dX10_field_25 (by decide) ?_
    exact w_X10_field_35 C hr hlk _ _ _ _ _ _ hf hE hR hS t_r0 (lv_sub hl [1, 0] rfl)

def rm_X10_readsCamp : Room := { frames := 2, cells := 0, slots := 0, locals := 47 }
def P_X10_readsCamp_172 (G : Gt) (l : Launch) (p : Program) (e : Env) (s : State) (m : MethodId) (args : Array Value) (below : List Frame) (meth : Method) (c : Code) (h0 : Hp) (out : (Int32 × Hp)) (r0 : Nat) (k : Hp → Int32 → Int32 → Int32 → Option (Int32 × Hp)) : Prop := ∀ (H : Heap) (locs : List Loc) (ls : Array Slot) (h : Hp) (s0 : Int32) (x1 : Int32) (x3 : Int32), k h s0 x1 x3 = some out → Ext h0 h → Rel G h H → va_S (AA G.2.2) s.heap H locs → hpT h r0 = (1, 10) → narrow .boolean (.int s0) = .int s0 → lv_has ls 6 [(0, .ref (G.2.2 + r0)), (1, .int x1), (3, .int x3)] → W p l e rm_X10_readsCamp s m args below meth c H locs 0 0 (MQ below (Qm G h0 out.2 (some (.int out.1)) 1) args s 0 0 (AA G.2.2)) (F0 m 172 ls [.int s0])
def P_X10_readsCamp_138 (G : Gt) (l : Launch) (p : Program) (e : Env) (s : State) (m : MethodId) (args : Array Value) (below : List Frame) (meth : Method) (c : Code) (h0 : Hp) (out : (Int32 × Hp)) (r0 : Nat) (k : Hp → Int32 → Int32 → Int32 → Int32 → Option (Int32 × Hp)) : Prop := ∀ (H : Heap) (locs : List Loc) (ls : Array Slot) (h : Hp) (s0 : Int32) (x1 : Int32) (x3 : Int32) (x4 : Int32), k h s0 x1 x3 x4 = some out → Ext h0 h → Rel G h H → va_S (AA G.2.2) s.heap H locs → hpT h r0 = (1, 10) → lv_has ls 6 [(0, .ref (G.2.2 + r0)), (1, .int x1), (3, .int x3), (4, .int x4)] → W p l e rm_X10_readsCamp s m args below meth c H locs 0 0 (MQ below (Qm G h0 out.2 (some (.int out.1)) 1) args s 0 0 (AA G.2.2)) (F0 m 138 ls [.int s0])
def P_X10_readsCamp_56 (G : Gt) (l : Launch) (p : Program) (e : Env) (s : State) (m : MethodId) (args : Array Value) (below : List Frame) (meth : Method) (c : Code) (h0 : Hp) (out : (Int32 × Hp)) (r0 : Nat) (k : Hp → Int32 → Int32 → Int32 → Option (Int32 × Hp)) : Prop := ∀ (H : Heap) (locs : List Loc) (ls : Array Slot) (h : Hp) (s0 : Int32) (x1 : Int32) (x3 : Int32), k h s0 x1 x3 = some out → Ext h0 h → Rel G h H → va_S (AA G.2.2) s.heap H locs → hpT h r0 = (1, 10) → narrow .boolean (.int s0) = .int s0 → lv_has ls 6 [(0, .ref (G.2.2 + r0)), (1, .int x1), (3, .int x3)] → W p l e rm_X10_readsCamp s m args below meth c H locs 0 0 (MQ below (Qm G h0 out.2 (some (.int out.1)) 1) args s 0 0 (AA G.2.2)) (F0 m 56 ls [.int s0])
def P_X10_readsCamp_179 (G : Gt) (l : Launch) (p : Program) (e : Env) (s : State) (m : MethodId) (args : Array Value) (below : List Frame) (meth : Method) (c : Code) (h0 : Hp) (out : (Int32 × Hp)) (r0 : Nat) (k : Hp → Int32 → Option (Int32 × Hp)) : Prop := ∀ (H : Heap) (locs : List Loc) (ls : Array Slot) (h : Hp) (x2 : Int32), k h x2 = some out → Ext h0 h → Rel G h H → va_S (AA G.2.2) s.heap H locs → hpT h r0 = (1, 10) → narrow .boolean (.int x2) = .int x2 → lv_has ls 6 [(0, .ref (G.2.2 + r0)), (2, .int x2)] → W p l e rm_X10_readsCamp s m args below meth c H locs 0 0 (MQ below (Qm G h0 out.2 (some (.int out.1)) 1) args s 0 0 (AA G.2.2)) (F0 m 179 ls [])
def P_X10_readsCamp_55 (G : Gt) (l : Launch) (p : Program) (e : Env) (s : State) (m : MethodId) (args : Array Value) (below : List Frame) (meth : Method) (c : Code) (h0 : Hp) (out : (Int32 × Hp)) (r0 : Nat) (k : Hp → Int32 → Int32 → Option (Int32 × Hp)) : Prop := ∀ (H : Heap) (locs : List Loc) (ls : Array Slot) (h : Hp) (x1 : Int32) (x3 : Int32), k h x1 x3 = some out → Ext h0 h → Rel G h H → va_S (AA G.2.2) s.heap H locs → hpT h r0 = (1, 10) → lv_has ls 6 [(0, .ref (G.2.2 + r0)), (1, .int x1), (3, .int x3)] → W p l e rm_X10_readsCamp s m args below meth c H locs 0 0 (MQ below (Qm G h0 out.2 (some (.int out.1)) 1) args s 0 0 (AA G.2.2)) (F0 m 55 ls [])
def P_X10_readsCamp_31 (G : Gt) (l : Launch) (p : Program) (e : Env) (s : State) (m : MethodId) (args : Array Value) (below : List Frame) (meth : Method) (c : Code) (h0 : Hp) (out : (Int32 × Hp)) (r0 : Nat) (k : Hp → Int32 → Int32 → Int32 → Option (Int32 × Hp)) : Prop := ∀ (H : Heap) (locs : List Loc) (ls : Array Slot) (h : Hp) (x1 : Int32) (x2 : Int32) (x3 : Int32), k h x1 x2 x3 = some out → Ext h0 h → Rel G h H → va_S (AA G.2.2) s.heap H locs → hpT h r0 = (1, 10) → narrow .boolean (.int x2) = .int x2 → lv_has ls 6 [(0, .ref (G.2.2 + r0)), (1, .int x1), (2, .int x2), (3, .int x3)] → W p l e rm_X10_readsCamp s m args below meth c H locs 0 0 (MQ below (Qm G h0 out.2 (some (.int out.1)) 1) args s 0 0 (AA G.2.2)) (F0 m 31 ls [])
set_option maxRecDepth 100000 in
set_option maxHeartbeats 4000000 in
theorem w_X10_readsCamp_172 {G : Gt} {l : Launch} {p : Program} {e : Env} {s : State} {m : MethodId} {args : Array Value} {below : List Frame} {meth : Method} {c : Code} {h0 : Hp} {out : (Int32 × Hp)} {r0 : Nat} {k31 : Hp → Int32 → Int32 → Int32 → Option (Int32 × Hp)} (C : Cx G p m c cX10_readsCamp 6 s args RX10) (hr : meth.sig.returnType = some .boolean) (hlk : meth.locks = false) (hk31 : P_X10_readsCamp_31 G l p e s m args below meth c h0 out r0 k31) : P_X10_readsCamp_172 G l p e s m args below meth c h0 out r0 (f_X10_readsCamp_172 r0 k31) := by
  intro H locs ls h s0 x1 x3 hf hE hR hS t_r0 z_s0 hl
  rw [f_X10_readsCamp_172] at hf
  refine lv_istore_n (lv' := [(2, .int s0), (0, .ref (G.2.2 + r0)), (1, .int x1), (3, .int x3)]) C.x C.b dX10_readsCamp_172 rfl hl (by decide) rfl (fun ls hl => ?_)
  obtain ⟨v32, e_v32⟩ : ∃ y : Int32, y = x3 + (1 : Int32) := ⟨_, rfl⟩
  have hf := lt_e hf e_v32
  refine lv_iinc (v := v32) (lv' := [(3, .int v32), (2, .int s0), (0, .ref (G.2.2 + r0)), (1, .int x1)]) C.x C.b dX10_readsCamp_173 hl (k := 3) rfl (by rw [e_v32]; rfl) (by decide) rfl (fun ls hl => ?_)
  refine lv_goto (tgt := 31) C.x C.b dX10_readsCamp_176 (by decide) ?_
  exact hk31 _ _ _ _ _ _ _ hf hE hR hS t_r0 z_s0 (lv_sub hl [2, 3, 1, 0] rfl)
set_option maxRecDepth 100000 in
set_option maxHeartbeats 4000000 in
theorem w_X10_readsCamp_138 {G : Gt} {l : Launch} {p : Program} {e : Env} {s : State} {m : MethodId} {args : Array Value} {below : List Frame} {meth : Method} {c : Code} {h0 : Hp} {out : (Int32 × Hp)} {r0 : Nat} {k31 : Hp → Int32 → Int32 → Int32 → Option (Int32 × Hp)} (C : Cx G p m c cX10_readsCamp 6 s args RX10) (hr : meth.sig.returnType = some .boolean) (hlk : meth.locks = false) (hk31 : P_X10_readsCamp_31 G l p e s m args below meth c h0 out r0 k31) : P_X10_readsCamp_138 G l p e s m args below meth c h0 out r0 (f_X10_readsCamp_138 r0 k31) := by
  intro H locs ls h s0 x1 x3 x4 hf hE hR hS t_r0 hl
  rw [f_X10_readsCamp_138] at hf
  refine lv_istore (lv' := [(5, .int s0), (0, .ref (G.2.2 + r0)), (1, .int x1), (3, .int x3), (4, .int x4)]) C.x C.b dX10_readsCamp_138 hl (by decide) rfl (fun ls hl => ?_)
  refine lv_aload_n C.x C.b dX10_readsCamp_140 rfl (lv_at hl 1 rfl) ?_
  obtain ⟨g23, hf⟩ := gd_e hf
  refine r_getr C hR t_r0 fl_X10_30 (by decide) (nz_e g23) dX10_readsCamp_141 (fun tq24 => ?_)
  have tg23 := okA tq24 rfl
  refine lv_iload_n C.x C.b dX10_readsCamp_144 rfl (lv_at hl 2 rfl) ?_
  refine lv_iload_n C.x C.b dX10_readsCamp_145 rfl (lv_at hl 3 rfl) ?_
  refine lv_iadd C.x C.b dX10_readsCamp_146 ?_
  refine lv_aload_n C.x C.b dX10_readsCamp_147 rfl (lv_at hl 1 rfl) ?_
  refine lv_iload C.x C.b dX10_readsCamp_148 (lv_at hl 4 rfl) ?_
  refine lv_iload C.x C.b dX10_readsCamp_150 (lv_at hl 0 rfl) ?_
  obtain ⟨q25, h_q25, hf⟩ := bd_e hf
  refine r_callV (As := [.int x4, .int s0]) (rest := [.int (x1 + x3), .ref (G.2.2 + (hpR h r0 13))]) C hR hS t_r0 rfl mk_X10_digitIn cl_X10_188 (k_X10_digitIn t_r0 h_q25) ⟨⟨Nat.le_of_ble_eq_true rfl, Nat.le_of_ble_eq_true rfl⟩, ⟨rfl, rfl⟩, Nat.le_of_ble_eq_true rfl, Nat.le_of_ble_eq_true rfl⟩ rfl hl.1 rfl (Nat.le_of_ble_eq_true rfl) dX10_readsCamp_152 (fun H locs hR hS hE1 z_q25 => ?_)
  have hE := hE.tr hE1
  have tg23 := hE1.k tg23 (by decide)
  have t_r0 := hE1.at t_r0 (by decide)
  obtain ⟨g26, hf⟩ := gd_e hf
  refine r_iast C hR hS tg23 g26 dX10_readsCamp_155 (fun H locs hR hS => ?_)
  obtain ⟨h27, e_h27⟩ : ∃ y, y = upI q25.2 (hpR h r0 13) (ix (x1 + x3)) q25.1 := ⟨_, rfl⟩
  rw [← e_h27] at hR
  have hf := lt_e hf e_h27
  have hE := eI e_h27 hE
  have t_r0 := tI e_h27 t_r0
  refine lv_aload_n C.x C.b dX10_readsCamp_156 rfl (lv_at hl 1 rfl) ?_
  obtain ⟨g28, hf⟩ := gd_e hf
  refine r_getr C hR t_r0 fl_X10_30 (by decide) (nz_e g28) dX10_readsCamp_157 (fun tq29 => ?_)
  have tg28 := okA tq29 rfl
  refine lv_iload_n C.x C.b dX10_readsCamp_160 rfl (lv_at hl 2 rfl) ?_
  refine lv_iload_n C.x C.b dX10_readsCamp_161 rfl (lv_at hl 3 rfl) ?_
  refine lv_iadd C.x C.b dX10_readsCamp_162 ?_
  obtain ⟨g30, hf⟩ := gd_e hf
  refine r_iald C hR tg28 g30 dX10_readsCamp_163 ?_
  refine lv_if_lt (tgt := 171) C.x C.b dX10_readsCamp_164 (by decide) (fun c31 => ?_) (fun c31 => ?_)
  · simp only [if_pos c31] at hf
    refine lv_iconst (v := (0 : Int32)) C.x C.b dX10_readsCamp_171 (by decide) ?_
    exact w_X10_readsCamp_172 C hr hlk hk31 _ _ _ _ _ _ _ hf hE hR hS t_r0 z_0 (lv_sub hl [1, 2, 3] rfl)
  · simp only [if_neg c31] at hf
    refine lv_iconst (v := (1 : Int32)) C.x C.b dX10_readsCamp_167 (by decide) ?_
    refine lv_goto (tgt := 172) C.x C.b dX10_readsCamp_168 (by decide) ?_
    exact w_X10_readsCamp_172 C hr hlk hk31 _ _ _ _ _ _ _ hf hE hR hS t_r0 z_1 (lv_sub hl [1, 2, 3] rfl)
set_option maxRecDepth 100000 in
set_option maxHeartbeats 4000000 in
theorem w_X10_readsCamp_56 {G : Gt} {l : Launch} {p : Program} {e : Env} {s : State} {m : MethodId} {args : Array Value} {below : List Frame} {meth : Method} {c : Code} {h0 : Hp} {out : (Int32 × Hp)} {r0 : Nat} {k31 : Hp → Int32 → Int32 → Int32 → Option (Int32 × Hp)} (C : Cx G p m c cX10_readsCamp 6 s args RX10) (hr : meth.sig.returnType = some .boolean) (hlk : meth.locks = false) (hk31 : P_X10_readsCamp_31 G l p e s m args below meth c h0 out r0 k31) : P_X10_readsCamp_56 G l p e s m args below meth c h0 out r0 (f_X10_readsCamp_56 r0 k31) := by
  intro H locs ls h s0 x1 x3 hf hE hR hS t_r0 z_s0 hl
  rw [f_X10_readsCamp_56] at hf
  obtain ⟨q10, h_q10, hf⟩ := bd_e hf
  refine r_callS (As := [.int s0]) (rest := []) C hR hS mk_X10_flag cl_X10_163 (k_X10_flag h_q10) ⟨⟨Nat.le_of_ble_eq_true rfl, Nat.le_of_ble_eq_true rfl⟩, ⟨rfl, rfl⟩, Nat.le_of_ble_eq_true rfl, Nat.le_of_ble_eq_true rfl⟩ rfl hl.1 rfl (Nat.le_of_ble_eq_true rfl) dX10_readsCamp_56 (fun H locs hR hS hE1 z_q10 => ?_)
  refine lv_istore (lv' := [(4, .int q10), (0, .ref (G.2.2 + r0)), (1, .int x1), (3, .int x3)]) C.x C.b dX10_readsCamp_59 hl (by decide) rfl (fun ls hl => ?_)
  refine lv_iload_n C.x C.b dX10_readsCamp_61 rfl (lv_at hl 3 rfl) ?_
  refine lv_if_ne (tgt := 74) C.x C.b dX10_readsCamp_62 (by decide) (fun c11 => ?_) (fun c11 => ?_)
  · have hf := it_f hf c11
    refine lv_iload_n C.x C.b dX10_readsCamp_74 rfl (lv_at hl 3 rfl) ?_
    refine lv_iconst (v := (1 : Int32)) C.x C.b dX10_readsCamp_75 (by decide) ?_
    refine lv_icmp_ne (tgt := 88) C.x C.b dX10_readsCamp_76 (by decide) (fun c12 => ?_) (fun c12 => ?_)
    · have hf := it_f hf c12
      refine lv_iload_n C.x C.b dX10_readsCamp_88 rfl (lv_at hl 3 rfl) ?_
      refine lv_iconst (v := (2 : Int32)) C.x C.b dX10_readsCamp_89 (by decide) ?_
      refine lv_icmp_ne (tgt := 111) C.x C.b dX10_readsCamp_90 (by decide) (fun c13 => ?_) (fun c13 => ?_)
      · have hf := it_f hf c13
        refine lv_iload_n C.x C.b dX10_readsCamp_111 rfl (lv_at hl 3 rfl) ?_
        refine lv_iconst (v := (3 : Int32)) C.x C.b dX10_readsCamp_112 (by decide) ?_
        refine lv_icmp_ne (tgt := 136) C.x C.b dX10_readsCamp_113 (by decide) (fun c14 => ?_) (fun c14 => ?_)
        · have hf := it_f hf c14
          refine lv_bipush (v := (9 : Int32)) C.x C.b dX10_readsCamp_136 (by decide) ?_
          exact w_X10_readsCamp_138 C hr hlk hk31 _ _ _ _ _ _ _ _ hf hE hR hS t_r0 (lv_sub hl [1, 2, 3, 0] rfl)
        · have hf := it_t hf c14
          refine lv_iconst (v := (3 : Int32)) C.x C.b dX10_readsCamp_116 (by decide) ?_
          refine lv_aload_n C.x C.b dX10_readsCamp_117 rfl (lv_at hl 1 rfl) ?_
          refine r_geti C hR t_r0 fl_X10_17 rfl dX10_readsCamp_118 ?_
          refine lv_aload_n C.x C.b dX10_readsCamp_121 rfl (lv_at hl 1 rfl) ?_
          obtain ⟨g15, hf⟩ := gd_e hf
          refine r_getr C hR t_r0 fl_X10_30 (by decide) (nz_e g15) dX10_readsCamp_122 (fun tq16 => ?_)
          have tg15 := okA tq16 rfl
          refine lv_iload_n C.x C.b dX10_readsCamp_125 rfl (lv_at hl 2 rfl) ?_
          refine lv_iconst (v := (1 : Int32)) C.x C.b dX10_readsCamp_126 (by decide) ?_
          refine lv_iadd C.x C.b dX10_readsCamp_127 ?_
          obtain ⟨g17, hf⟩ := gd_e hf
          refine r_iald C hR tg15 g17 dX10_readsCamp_128 ?_
          refine lv_isub C.x C.b dX10_readsCamp_129 ?_
          refine va_mmin C.x C.b (C.ml.trans hl.1.symm) C.ow (C.ts _ lk_X10_154) (C.ts _ lk_Mmin_s) (C.ts _ lk_Math) (C.ts _ lk_Mmin_c) (Nat.le_of_ble_eq_true rfl) (Nat.le_of_ble_eq_true rfl) (Nat.le_of_ble_eq_true rfl) (Nat.le_of_ble_eq_true rfl) dX10_readsCamp_130 ?_
          refine lv_topi (fun v18 e_v18 => ?_)
          have hf := lt_e hf e_v18
          refine lv_goto (tgt := 138) C.x C.b dX10_readsCamp_133 (by decide) ?_
          exact w_X10_readsCamp_138 C hr hlk hk31 _ _ _ _ _ _ _ _ hf hE hR hS t_r0 (lv_sub hl [1, 2, 3, 0] rfl)
      · have hf := it_t hf c13
        refine lv_iconst (v := (3 : Int32)) C.x C.b dX10_readsCamp_93 (by decide) ?_
        refine lv_aload_n C.x C.b dX10_readsCamp_94 rfl (lv_at hl 1 rfl) ?_
        refine r_geti C hR t_r0 fl_X10_13 rfl dX10_readsCamp_95 ?_
        refine lv_aload_n C.x C.b dX10_readsCamp_98 rfl (lv_at hl 1 rfl) ?_
        obtain ⟨g19, hf⟩ := gd_e hf
        refine r_getr C hR t_r0 fl_X10_30 (by decide) (nz_e g19) dX10_readsCamp_99 (fun tq20 => ?_)
        have tg19 := okA tq20 rfl
        refine lv_iload_n C.x C.b dX10_readsCamp_102 rfl (lv_at hl 2 rfl) ?_
        obtain ⟨g21, hf⟩ := gd_e hf
        refine r_iald C hR tg19 g21 dX10_readsCamp_103 ?_
        refine lv_isub C.x C.b dX10_readsCamp_104 ?_
        refine va_mmin C.x C.b (C.ml.trans hl.1.symm) C.ow (C.ts _ lk_X10_154) (C.ts _ lk_Mmin_s) (C.ts _ lk_Math) (C.ts _ lk_Mmin_c) (Nat.le_of_ble_eq_true rfl) (Nat.le_of_ble_eq_true rfl) (Nat.le_of_ble_eq_true rfl) (Nat.le_of_ble_eq_true rfl) dX10_readsCamp_105 ?_
        refine lv_topi (fun v22 e_v22 => ?_)
        have hf := lt_e hf e_v22
        refine lv_goto (tgt := 138) C.x C.b dX10_readsCamp_108 (by decide) ?_
        exact w_X10_readsCamp_138 C hr hlk hk31 _ _ _ _ _ _ _ _ hf hE hR hS t_r0 (lv_sub hl [1, 2, 3, 0] rfl)
    · have hf := it_t hf c12
      refine lv_aload_n C.x C.b dX10_readsCamp_79 rfl (lv_at hl 1 rfl) ?_
      refine r_geti C hR t_r0 fl_X10_17 rfl dX10_readsCamp_80 ?_
      refine lv_iconst (v := (1 : Int32)) C.x C.b dX10_readsCamp_83 (by decide) ?_
      refine lv_isub C.x C.b dX10_readsCamp_84 ?_
      refine lv_goto (tgt := 138) C.x C.b dX10_readsCamp_85 (by decide) ?_
      exact w_X10_readsCamp_138 C hr hlk hk31 _ _ _ _ _ _ _ _ hf hE hR hS t_r0 (lv_sub hl [1, 2, 3, 0] rfl)
  · have hf := it_t hf c11
    refine lv_aload_n C.x C.b dX10_readsCamp_65 rfl (lv_at hl 1 rfl) ?_
    refine r_geti C hR t_r0 fl_X10_13 rfl dX10_readsCamp_66 ?_
    refine lv_iconst (v := (1 : Int32)) C.x C.b dX10_readsCamp_69 (by decide) ?_
    refine lv_isub C.x C.b dX10_readsCamp_70 ?_
    refine lv_goto (tgt := 138) C.x C.b dX10_readsCamp_71 (by decide) ?_
    exact w_X10_readsCamp_138 C hr hlk hk31 _ _ _ _ _ _ _ _ hf hE hR hS t_r0 (lv_sub hl [1, 2, 3, 0] rfl)
set_option maxRecDepth 100000 in
set_option maxHeartbeats 4000000 in
theorem w_X10_readsCamp_179 {G : Gt} {l : Launch} {p : Program} {e : Env} {s : State} {m : MethodId} {args : Array Value} {below : List Frame} {meth : Method} {c : Code} {h0 : Hp} {out : (Int32 × Hp)} {r0 : Nat}  (C : Cx G p m c cX10_readsCamp 6 s args RX10) (hr : meth.sig.returnType = some .boolean) (hlk : meth.locks = false)  : P_X10_readsCamp_179 G l p e s m args below meth c h0 out r0 (f_X10_readsCamp_179 r0) := by
  intro H locs ls h x2 hf hE hR hS t_r0 z_x2 hl
  rw [f_X10_readsCamp_179] at hf
  refine lv_aload_n C.x C.b dX10_readsCamp_179 rfl (lv_at hl 0 rfl) ?_
  refine lv_dup C.x C.b dX10_readsCamp_180 rfl ?_
  refine r_geti C hR t_r0 fl_X10_200 rfl dX10_readsCamp_181 ?_
  refine lv_iconst (v := (1 : Int32)) C.x C.b dX10_readsCamp_184 (by decide) ?_
  refine lv_iadd C.x C.b dX10_readsCamp_185 ?_
  refine r_puti C hR hS t_r0 fl_X10_200 fp_X10_10_14 rfl dX10_readsCamp_186 (fun H locs hR hS => ?_)
  obtain ⟨h33, e_h33⟩ : ∃ y, y = upI h r0 14 ((hpI h r0 14) + (1 : Int32)) := ⟨_, rfl⟩
  rw [← e_h33] at hR
  have hf := lt_e hf e_h33
  have hE := eI e_h33 hE
  have t_r0 := tI e_h33 t_r0
  refine lv_iload_n C.x C.b dX10_readsCamp_189 rfl (lv_at hl 1 rfl) ?_
  have hf := so_e hf
  subst hf
  exact r_zret C hr hlk hR hE hS z_x2 dX10_readsCamp_190
set_option maxRecDepth 100000 in
set_option maxHeartbeats 4000000 in
theorem w_X10_readsCamp_55 {G : Gt} {l : Launch} {p : Program} {e : Env} {s : State} {m : MethodId} {args : Array Value} {below : List Frame} {meth : Method} {c : Code} {h0 : Hp} {out : (Int32 × Hp)} {r0 : Nat} {k31 : Hp → Int32 → Int32 → Int32 → Option (Int32 × Hp)} (C : Cx G p m c cX10_readsCamp 6 s args RX10) (hr : meth.sig.returnType = some .boolean) (hlk : meth.locks = false) (hk31 : P_X10_readsCamp_31 G l p e s m args below meth c h0 out r0 k31) : P_X10_readsCamp_55 G l p e s m args below meth c h0 out r0 (f_X10_readsCamp_55 r0 k31) := by
  intro H locs ls h x1 x3 hf hE hR hS t_r0 hl
  rw [f_X10_readsCamp_55] at hf
  refine lv_iconst (v := (0 : Int32)) C.x C.b dX10_readsCamp_55 (by decide) ?_
  exact w_X10_readsCamp_56 C hr hlk hk31 _ _ _ _ _ _ _ hf hE hR hS t_r0 z_0 (lv_sub hl [0, 1, 2] rfl)
set_option maxRecDepth 100000 in
set_option maxHeartbeats 4000000 in
theorem w_X10_readsCamp_31 {G : Gt} {l : Launch} {p : Program} {e : Env} {s : State} {m : MethodId} {args : Array Value} {below : List Frame} {meth : Method} {c : Code} {h0 : Hp} {out : (Int32 × Hp)} {r0 : Nat}  (C : Cx G p m c cX10_readsCamp 6 s args RX10) (hr : meth.sig.returnType = some .boolean) (hlk : meth.locks = false)  (n : Nat) : P_X10_readsCamp_31 G l p e s m args below meth c h0 out r0 (f_X10_readsCamp_31 r0 n) := by
  induction n with
  | zero => intro H locs ls h x1 x2 x3 hf hE hR hS t_r0 z_x2 hl; cases hf
  | succ n hk31 =>
    intro H locs ls h x1 x2 x3 hf hE hR hS t_r0 z_x2 hl
    rw [f_X10_readsCamp_31] at hf
    obtain ⟨k31, e_k31⟩ : ∃ y, y = f_X10_readsCamp_31 r0 n := ⟨_, rfl⟩
    have hf := lt_e hf e_k31
    rw [← e_k31] at hk31
    refine lv_iload_n C.x C.b dX10_readsCamp_31 rfl (lv_at hl 3 rfl) ?_
    refine lv_bipush (v := (6 : Int32)) C.x C.b dX10_readsCamp_32 (by decide) ?_
    refine lv_icmp_ge (tgt := 179) C.x C.b dX10_readsCamp_34 (by decide) (fun c6 => ?_) (fun c6 => ?_)
    · have hf := it_t hf c6
      exact w_X10_readsCamp_179 C hr hlk _ _ _ _ _ hf hE hR hS t_r0 z_x2 (lv_sub hl [0, 2] rfl)
    · have hf := it_f hf c6
      refine lv_iload_n C.x C.b dX10_readsCamp_37 rfl (lv_at hl 2 rfl) ?_
      refine lv_if_eq (tgt := 179) C.x C.b dX10_readsCamp_38 (by decide) (fun c7 => ?_) (fun c7 => ?_)
      · have hf := it_t hf c7
        exact w_X10_readsCamp_179 C hr hlk _ _ _ _ _ hf hE hR hS t_r0 z_x2 (lv_sub hl [0, 2] rfl)
      · have hf := it_f hf c7
        refine lv_iload_n C.x C.b dX10_readsCamp_41 rfl (lv_at hl 3 rfl) ?_
        refine lv_iconst (v := (1 : Int32)) C.x C.b dX10_readsCamp_42 (by decide) ?_
        refine lv_icmp_le (tgt := 55) C.x C.b dX10_readsCamp_43 (by decide) (fun c8 => ?_) (fun c8 => ?_)
        · have hf := it_t hf c8
          exact w_X10_readsCamp_55 C hr hlk hk31 _ _ _ _ _ _ hf hE hR hS t_r0 (lv_sub hl [0, 1, 3] rfl)
        · have hf := it_f hf c8
          refine lv_iload_n C.x C.b dX10_readsCamp_46 rfl (lv_at hl 3 rfl) ?_
          refine lv_iconst (v := (5 : Int32)) C.x C.b dX10_readsCamp_47 (by decide) ?_
          refine lv_icmp_ge (tgt := 55) C.x C.b dX10_readsCamp_48 (by decide) (fun c9 => ?_) (fun c9 => ?_)
          · have hf := it_t hf c9
            exact w_X10_readsCamp_55 C hr hlk hk31 _ _ _ _ _ _ hf hE hR hS t_r0 (lv_sub hl [0, 1, 3] rfl)
          · have hf := it_f hf c9
            refine lv_iconst (v := (1 : Int32)) C.x C.b dX10_readsCamp_51 (by decide) ?_
            refine lv_goto (tgt := 56) C.x C.b dX10_readsCamp_52 (by decide) ?_
            exact w_X10_readsCamp_56 C hr hlk hk31 _ _ _ _ _ _ _ hf hE hR hS t_r0 z_1 (lv_sub hl [0, 1, 3] rfl)
set_option maxRecDepth 100000 in
set_option maxHeartbeats 4000000 in
theorem k_X10_readsCamp {G : Gt} {l : Launch} {h : Hp} {r0 : Nat} {out : (Int32 × Hp)} (t_r0 : hpT h r0 = (1, 10))  (hf : f_X10_readsCamp h r0 = some out) : Mt G l yX10_readsCamp cX10_readsCamp 6 (some .boolean) rm_X10_readsCamp [.ref (G.2.2 + r0)] h (some (.int out.1)) out.2 1 0 0 := by
  refine r_met (by decide +kernel) (Nat.le_of_ble_eq_true rfl) ?_
  intro p e s m args below meth c ls C hr hlk hnm hR hS hl
  have hE : Ext h h := Ext.rf
  have hl : lv_has ls 6 [(0, .ref (G.2.2 + r0))] := hl
  rw [f_X10_readsCamp] at hf
  refine lv_aload_n C.x C.b dX10_readsCamp_0 rfl (lv_at hl 0 rfl) ?_
  obtain ⟨g1, hf⟩ := gd_e hf
  refine r_getr C hR t_r0 fl_X10_20 (by decide) (nz_e g1) dX10_readsCamp_1 (fun tq2 => ?_)
  have tg1 := okA tq2 rfl
  refine lv_bipush (v := (48 : Int32)) C.x C.b dX10_readsCamp_4 (by decide) ?_
  obtain ⟨g3, hf⟩ := gd_e hf
  refine r_iald C hR tg1 g3 dX10_readsCamp_6 ?_
  refine lv_aload_n C.x C.b dX10_readsCamp_7 rfl (lv_at hl 0 rfl) ?_
  refine r_geti C hR t_r0 fl_X10_200 rfl dX10_readsCamp_8 ?_
  refine lv_iadd C.x C.b dX10_readsCamp_11 ?_
  refine lv_bipush (v := (8 : Int32)) C.x C.b dX10_readsCamp_12 (by decide) ?_
  refine lv_icmp_ne (tgt := 19) C.x C.b dX10_readsCamp_14 (by decide) (fun c4 => ?_) (fun c4 => ?_)
  · have hf := it_f hf c4
    refine lv_bipush (v := (6 : Int32)) C.x C.b dX10_readsCamp_19 (by decide) ?_
    refine lv_aload_n C.x C.b dX10_readsCamp_21 rfl (lv_at hl 0 rfl) ?_
    refine r_geti C hR t_r0 fl_X10_200 rfl dX10_readsCamp_22 ?_
    refine lv_imul C.x C.b dX10_readsCamp_25 ?_
    refine lv_topi (fun v5 e_v5 => ?_)
    have hf := lt_e hf e_v5
    refine lv_istore_n (lv' := [(1, .int v5), (0, .ref (G.2.2 + r0))]) C.x C.b dX10_readsCamp_26 rfl hl (by decide) rfl (fun ls hl => ?_)
    refine lv_iconst (v := (1 : Int32)) C.x C.b dX10_readsCamp_27 (by decide) ?_
    refine lv_istore_n (lv' := [(2, .int (1 : Int32)), (1, .int v5), (0, .ref (G.2.2 + r0))]) C.x C.b dX10_readsCamp_28 rfl hl (by decide) rfl (fun ls hl => ?_)
    refine lv_iconst (v := (0 : Int32)) C.x C.b dX10_readsCamp_29 (by decide) ?_
    refine lv_istore_n (lv' := [(3, .int (0 : Int32)), (2, .int (1 : Int32)), (1, .int v5), (0, .ref (G.2.2 + r0))]) C.x C.b dX10_readsCamp_30 rfl hl (by decide) rfl (fun ls hl => ?_)
    exact w_X10_readsCamp_31 C hr hlk FU _ _ _ _ _ _ _ hf hE hR hS t_r0 z_1 (lv_sub hl [3, 2, 1, 0] rfl)
  · have hf := it_t hf c4
    refine lv_iconst (v := (0 : Int32)) C.x C.b dX10_readsCamp_17 (by decide) ?_
    have hf := so_e hf
    subst hf
    exact r_zret C hr hlk hR hE hS z_0 dX10_readsCamp_18

def rm_X10_comes : Room := { frames := 0, cells := 0, slots := 0, locals := 0 }
set_option maxRecDepth 100000 in
set_option maxHeartbeats 4000000 in
theorem k_X10_comes {G : Gt} {l : Launch} {h : Hp} {r0 : Nat} {x1 : Int32} {x2 : Int32} {x3 : Int32} {x4 : Int32} {x5 : Int32} {out : Hp} (t_r0 : (hpT h r0).1 = 2)  (hf : f_X10_comes h r0 x1 x2 x3 x4 x5 = some out) : Mt G l yX10_comes cX10_comes 7 (none) rm_X10_comes [.ref (G.2.2 + r0), .int x1, .int x2, .int x3, .int x4, .int x5] h (none) out 0 0 0 := by
  refine r_met (by decide +kernel) (Nat.le_of_ble_eq_true rfl) ?_
  intro p e s m args below meth c ls C hr hlk hnm hR hS hl
  have hE : Ext h h := Ext.rf
  have hl : lv_has ls 7 [(0, .ref (G.2.2 + r0)), (1, .int x1), (2, .int x2), (3, .int x3), (4, .int x4), (5, .int x5)] := hl
  rw [f_X10_comes] at hf
  refine lv_aload_n C.x C.b dX10_comes_0 rfl (lv_at hl 0 rfl) ?_
  refine lv_bipush (v := (48 : Int32)) C.x C.b dX10_comes_1 (by decide) ?_
  obtain ⟨g1, hf⟩ := gd_e hf
  refine r_iald C hR t_r0 g1 dX10_comes_3 ?_
  refine lv_topi (fun v2 e_v2 => ?_)
  have hf := lt_e hf e_v2
  refine lv_istore (lv' := [(6, .int v2), (0, .ref (G.2.2 + r0)), (1, .int x1), (2, .int x2), (3, .int x3), (4, .int x4), (5, .int x5)]) C.x C.b dX10_comes_4 hl (by decide) rfl (fun ls hl => ?_)
  refine lv_aload_n C.x C.b dX10_comes_6 rfl (lv_at hl 1 rfl) ?_
  refine lv_iload C.x C.b dX10_comes_7 (lv_at hl 0 rfl) ?_
  refine lv_iload_n C.x C.b dX10_comes_9 rfl (lv_at hl 2 rfl) ?_
  obtain ⟨g3, hf⟩ := gd_e hf
  refine r_iast C hR hS t_r0 g3 dX10_comes_10 (fun H locs hR hS => ?_)
  obtain ⟨h4, e_h4⟩ : ∃ y, y = upI h r0 (ix v2) x1 := ⟨_, rfl⟩
  rw [← e_h4] at hR
  have hf := lt_e hf e_h4
  have hE := eI e_h4 hE
  have t_r0 := tIk e_h4 t_r0
  refine lv_aload_n C.x C.b dX10_comes_11 rfl (lv_at hl 1 rfl) ?_
  refine lv_bipush (v := (8 : Int32)) C.x C.b dX10_comes_12 (by decide) ?_
  refine lv_iload C.x C.b dX10_comes_14 (lv_at hl 0 rfl) ?_
  refine lv_iadd C.x C.b dX10_comes_16 ?_
  refine lv_iload_n C.x C.b dX10_comes_17 rfl (lv_at hl 3 rfl) ?_
  obtain ⟨g5, hf⟩ := gd_e hf
  refine r_iast C hR hS t_r0 g5 dX10_comes_18 (fun H locs hR hS => ?_)
  obtain ⟨h6, e_h6⟩ : ∃ y, y = upI h4 r0 (ix ((8 : Int32) + v2)) x2 := ⟨_, rfl⟩
  rw [← e_h6] at hR
  have hf := lt_e hf e_h6
  have hE := eI e_h6 hE
  have t_r0 := tIk e_h6 t_r0
  refine lv_aload_n C.x C.b dX10_comes_19 rfl (lv_at hl 1 rfl) ?_
  refine lv_bipush (v := (16 : Int32)) C.x C.b dX10_comes_20 (by decide) ?_
  refine lv_iload C.x C.b dX10_comes_22 (lv_at hl 0 rfl) ?_
  refine lv_iadd C.x C.b dX10_comes_24 ?_
  refine lv_iload_n C.x C.b dX10_comes_25 rfl (lv_at hl 4 rfl) ?_
  obtain ⟨g7, hf⟩ := gd_e hf
  refine r_iast C hR hS t_r0 g7 dX10_comes_26 (fun H locs hR hS => ?_)
  obtain ⟨h8, e_h8⟩ : ∃ y, y = upI h6 r0 (ix ((16 : Int32) + v2)) x3 := ⟨_, rfl⟩
  rw [← e_h8] at hR
  have hf := lt_e hf e_h8
  have hE := eI e_h8 hE
  have t_r0 := tIk e_h8 t_r0
  refine lv_aload_n C.x C.b dX10_comes_27 rfl (lv_at hl 1 rfl) ?_
  refine lv_bipush (v := (24 : Int32)) C.x C.b dX10_comes_28 (by decide) ?_
  refine lv_iload C.x C.b dX10_comes_30 (lv_at hl 0 rfl) ?_
  refine lv_iadd C.x C.b dX10_comes_32 ?_
  refine lv_iload C.x C.b dX10_comes_33 (lv_at hl 5 rfl) ?_
  obtain ⟨g9, hf⟩ := gd_e hf
  refine r_iast C hR hS t_r0 g9 dX10_comes_35 (fun H locs hR hS => ?_)
  obtain ⟨h10, e_h10⟩ : ∃ y, y = upI h8 r0 (ix ((24 : Int32) + v2)) x4 := ⟨_, rfl⟩
  rw [← e_h10] at hR
  have hf := lt_e hf e_h10
  have hE := eI e_h10 hE
  have t_r0 := tIk e_h10 t_r0
  refine lv_aload_n C.x C.b dX10_comes_36 rfl (lv_at hl 1 rfl) ?_
  refine lv_bipush (v := (32 : Int32)) C.x C.b dX10_comes_37 (by decide) ?_
  refine lv_iload C.x C.b dX10_comes_39 (lv_at hl 0 rfl) ?_
  refine lv_iadd C.x C.b dX10_comes_41 ?_
  refine lv_iload C.x C.b dX10_comes_42 (lv_at hl 6 rfl) ?_
  obtain ⟨g11, hf⟩ := gd_e hf
  refine r_iast C hR hS t_r0 g11 dX10_comes_44 (fun H locs hR hS => ?_)
  obtain ⟨h12, e_h12⟩ : ∃ y, y = upI h10 r0 (ix ((32 : Int32) + v2)) x5 := ⟨_, rfl⟩
  rw [← e_h12] at hR
  have hf := lt_e hf e_h12
  have hE := eI e_h12 hE
  have t_r0 := tIk e_h12 t_r0
  refine lv_aload_n C.x C.b dX10_comes_45 rfl (lv_at hl 1 rfl) ?_
  refine lv_bipush (v := (40 : Int32)) C.x C.b dX10_comes_46 (by decide) ?_
  refine lv_iload C.x C.b dX10_comes_48 (lv_at hl 0 rfl) ?_
  refine lv_iadd C.x C.b dX10_comes_50 ?_
  refine lv_iconst (v := (0 : Int32)) C.x C.b dX10_comes_51 (by decide) ?_
  obtain ⟨g13, hf⟩ := gd_e hf
  refine r_iast C hR hS t_r0 g13 dX10_comes_52 (fun H locs hR hS => ?_)
  obtain ⟨h14, e_h14⟩ : ∃ y, y = upI h12 r0 (ix ((40 : Int32) + v2)) (0 : Int32) := ⟨_, rfl⟩
  rw [← e_h14] at hR
  have hf := lt_e hf e_h14
  have hE := eI e_h14 hE
  have t_r0 := tIk e_h14 t_r0
  refine lv_aload_n C.x C.b dX10_comes_53 rfl (lv_at hl 1 rfl) ?_
  refine lv_bipush (v := (48 : Int32)) C.x C.b dX10_comes_54 (by decide) ?_
  refine lv_dup2_11 C.x C.b dX10_comes_56 rfl rfl ?_
  obtain ⟨g15, hf⟩ := gd_e hf
  refine r_iald C hR t_r0 g15 dX10_comes_57 ?_
  refine lv_iconst (v := (1 : Int32)) C.x C.b dX10_comes_58 (by decide) ?_
  refine lv_iadd C.x C.b dX10_comes_59 ?_
  obtain ⟨g16, hf⟩ := gd_e hf
  refine r_iast C hR hS t_r0 g16 dX10_comes_60 (fun H locs hR hS => ?_)
  obtain ⟨h17, e_h17⟩ : ∃ y, y = upI h14 r0 (ix (48 : Int32)) ((hpI h14 r0 (ix (48 : Int32))) + (1 : Int32)) := ⟨_, rfl⟩
  rw [← e_h17] at hR
  have hf := lt_e hf e_h17
  have hE := eI e_h17 hE
  have t_r0 := tIk e_h17 t_r0
  have hf := so_e hf
  subst hf
  exact r_vret C hr hlk hR hE hS dX10_comes_61

def rm_X10_camps : Room := { frames := 3, cells := 0, slots := 0, locals := 72 }
def P_X10_camps_56 (G : Gt) (l : Launch) (p : Program) (e : Env) (s : State) (m : MethodId) (args : Array Value) (below : List Frame) (meth : Method) (c : Code) (h0 : Hp) (out : (Int32 × Hp)) (r0 : Nat) (k : Hp → Int32 → Int32 → Int32 → Option (Int32 × Hp)) : Prop := ∀ (H : Heap) (locs : List Loc) (ls : Array Slot) (h : Hp) (s0 : Int32) (x1 : Int32) (x2 : Int32), k h s0 x1 x2 = some out → Ext h0 h → Rel G h H → va_S (AA G.2.2) s.heap H locs → hpT h r0 = (1, 10) → narrow .boolean (.int s0) = .int s0 → narrow .boolean (.int x2) = .int x2 → lv_has ls 7 [(0, .ref (G.2.2 + r0)), (1, .int x1), (2, .int x2)] → W p l e rm_X10_camps s m args below meth c H locs 0 0 (MQ below (Qm G h0 out.2 (some (.int out.1)) 0) args s 0 0 (AA G.2.2)) (F0 m 56 ls [.int s0])
def P_X10_camps_204 (G : Gt) (l : Launch) (p : Program) (e : Env) (s : State) (m : MethodId) (args : Array Value) (below : List Frame) (meth : Method) (c : Code) (h0 : Hp) (out : (Int32 × Hp)) (r0 : Nat) (k : Hp → Nat → Int32 → Int32 → Option (Int32 × Hp)) : Prop := ∀ (H : Heap) (locs : List Loc) (ls : Array Slot) (h : Hp) (s0 : Nat) (s1 : Int32) (s2 : Int32), k h s0 s1 s2 = some out → Ext h0 h → Rel G h H → va_S (AA G.2.2) s.heap H locs → hpT h r0 = (1, 10) → hpT h s0 = (1, 10) → narrow .boolean (.int s2) = .int s2 → lv_has ls 7 [(0, .ref (G.2.2 + r0))] → W p l e rm_X10_camps s m args below meth c H locs 0 0 (MQ below (Qm G h0 out.2 (some (.int out.1)) 0) args s 0 0 (AA G.2.2)) (F0 m 204 ls [.int s2, .int s1, .ref (G.2.2 + s0)])
def P_X10_camps_184 (G : Gt) (l : Launch) (p : Program) (e : Env) (s : State) (m : MethodId) (args : Array Value) (below : List Frame) (meth : Method) (c : Code) (h0 : Hp) (out : (Int32 × Hp)) (r0 : Nat) (k : Hp → Nat → Int32 → Option (Int32 × Hp)) : Prop := ∀ (H : Heap) (locs : List Loc) (ls : Array Slot) (h : Hp) (s0 : Nat) (s1 : Int32), k h s0 s1 = some out → Ext h0 h → Rel G h H → va_S (AA G.2.2) s.heap H locs → hpT h r0 = (1, 10) → hpT h s0 = (1, 10) → lv_has ls 7 [(0, .ref (G.2.2 + r0))] → W p l e rm_X10_camps s m args below meth c H locs 0 0 (MQ below (Qm G h0 out.2 (some (.int out.1)) 0) args s 0 0 (AA G.2.2)) (F0 m 184 ls [.int s1, .ref (G.2.2 + s0)])
def P_X10_camps_81 (G : Gt) (l : Launch) (p : Program) (e : Env) (s : State) (m : MethodId) (args : Array Value) (below : List Frame) (meth : Method) (c : Code) (h0 : Hp) (out : (Int32 × Hp)) (r0 : Nat) (k : Hp → Int32 → Option (Int32 × Hp)) : Prop := ∀ (H : Heap) (locs : List Loc) (ls : Array Slot) (h : Hp) (x5 : Int32), k h x5 = some out → Ext h0 h → Rel G h H → va_S (AA G.2.2) s.heap H locs → hpT h r0 = (1, 10) → lv_has ls 7 [(0, .ref (G.2.2 + r0)), (5, .int x5)] → W p l e rm_X10_camps s m args below meth c H locs 0 0 (MQ below (Qm G h0 out.2 (some (.int out.1)) 0) args s 0 0 (AA G.2.2)) (F0 m 81 ls [])
def P_X10_camps_55 (G : Gt) (l : Launch) (p : Program) (e : Env) (s : State) (m : MethodId) (args : Array Value) (below : List Frame) (meth : Method) (c : Code) (h0 : Hp) (out : (Int32 × Hp)) (r0 : Nat) (k : Hp → Int32 → Int32 → Option (Int32 × Hp)) : Prop := ∀ (H : Heap) (locs : List Loc) (ls : Array Slot) (h : Hp) (x1 : Int32) (x2 : Int32), k h x1 x2 = some out → Ext h0 h → Rel G h H → va_S (AA G.2.2) s.heap H locs → hpT h r0 = (1, 10) → narrow .boolean (.int x2) = .int x2 → lv_has ls 7 [(0, .ref (G.2.2 + r0)), (1, .int x1), (2, .int x2)] → W p l e rm_X10_camps s m args below meth c H locs 0 0 (MQ below (Qm G h0 out.2 (some (.int out.1)) 0) args s 0 0 (AA G.2.2)) (F0 m 55 ls [])
def P_X10_camps_29 (G : Gt) (l : Launch) (p : Program) (e : Env) (s : State) (m : MethodId) (args : Array Value) (below : List Frame) (meth : Method) (c : Code) (h0 : Hp) (out : (Int32 × Hp)) (r0 : Nat) (k : Hp → Int32 → Int32 → Int32 → Option (Int32 × Hp)) : Prop := ∀ (H : Heap) (locs : List Loc) (ls : Array Slot) (h : Hp) (x1 : Int32) (x2 : Int32) (x3 : Int32), k h x1 x2 x3 = some out → Ext h0 h → Rel G h H → va_S (AA G.2.2) s.heap H locs → hpT h r0 = (1, 10) → narrow .boolean (.int x2) = .int x2 → narrow .boolean (.int x3) = .int x3 → lv_has ls 7 [(0, .ref (G.2.2 + r0)), (1, .int x1), (2, .int x2), (3, .int x3)] → W p l e rm_X10_camps s m args below meth c H locs 0 0 (MQ below (Qm G h0 out.2 (some (.int out.1)) 0) args s 0 0 (AA G.2.2)) (F0 m 29 ls [])
def P_X10_camps_28 (G : Gt) (l : Launch) (p : Program) (e : Env) (s : State) (m : MethodId) (args : Array Value) (below : List Frame) (meth : Method) (c : Code) (h0 : Hp) (out : (Int32 × Hp)) (r0 : Nat) (k : Hp → Int32 → Int32 → Int32 → Option (Int32 × Hp)) : Prop := ∀ (H : Heap) (locs : List Loc) (ls : Array Slot) (h : Hp) (s0 : Int32) (x1 : Int32) (x2 : Int32), k h s0 x1 x2 = some out → Ext h0 h → Rel G h H → va_S (AA G.2.2) s.heap H locs → hpT h r0 = (1, 10) → narrow .boolean (.int s0) = .int s0 → narrow .boolean (.int x2) = .int x2 → lv_has ls 7 [(0, .ref (G.2.2 + r0)), (1, .int x1), (2, .int x2)] → W p l e rm_X10_camps s m args below meth c H locs 0 0 (MQ below (Qm G h0 out.2 (some (.int out.1)) 0) args s 0 0 (AA G.2.2)) (F0 m 28 ls [.int s0])
set_option maxRecDepth 100000 in
set_option maxHeartbeats 4000000 in
theorem w_X10_camps_56 {G : Gt} {l : Launch} {p : Program} {e : Env} {s : State} {m : MethodId} {args : Array Value} {below : List Frame} {meth : Method} {c : Code} {h0 : Hp} {out : (Int32 × Hp)} {r0 : Nat} {k29 : Hp → Int32 → Int32 → Int32 → Option (Int32 × Hp)} (C : Cx G p m c cX10_camps 7 s args RX10) (hr : meth.sig.returnType = some .int) (hlk : meth.locks = false) (hk29 : P_X10_camps_29 G l p e s m args below meth c h0 out r0 k29) : P_X10_camps_56 G l p e s m args below meth c h0 out r0 (f_X10_camps_56 r0 k29) := by
  intro H locs ls h s0 x1 x2 hf hE hR hS t_r0 z_s0 z_x2 hl
  rw [f_X10_camps_56] at hf
  refine lv_istore_n (lv' := [(3, .int s0), (0, .ref (G.2.2 + r0)), (1, .int x1), (2, .int x2)]) C.x C.b dX10_camps_56 rfl hl (by decide) rfl (fun ls hl => ?_)
  refine lv_goto (tgt := 29) C.x C.b dX10_camps_57 (by decide) ?_
  exact hk29 _ _ _ _ _ _ _ hf hE hR hS t_r0 z_x2 z_s0 (lv_sub hl [1, 2, 3, 0] rfl)
set_option maxRecDepth 100000 in
set_option maxHeartbeats 4000000 in
theorem w_X10_camps_204 {G : Gt} {l : Launch} {p : Program} {e : Env} {s : State} {m : MethodId} {args : Array Value} {below : List Frame} {meth : Method} {c : Code} {h0 : Hp} {out : (Int32 × Hp)} {r0 : Nat}  (C : Cx G p m c cX10_camps 7 s args RX10) (hr : meth.sig.returnType = some .int) (hlk : meth.locks = false)  : P_X10_camps_204 G l p e s m args below meth c h0 out r0 (f_X10_camps_204 r0) := by
  intro H locs ls h s0 s1 s2 hf hE hR hS t_r0 t_s0 z_s2 hl
  rw [f_X10_camps_204] at hf
  obtain ⟨q34, h_q34, hf⟩ := bd_e hf
  refine r_callS (As := [.int s2]) (rest := [.int s1, .ref (G.2.2 + s0)]) C hR hS mk_X10_flag cl_X10_163 (k_X10_flag h_q34) ⟨⟨Nat.le_of_ble_eq_true rfl, Nat.le_of_ble_eq_true rfl⟩, ⟨rfl, rfl⟩, Nat.le_of_ble_eq_true rfl, Nat.le_of_ble_eq_true rfl⟩ rfl hl.1 rfl (Nat.le_of_ble_eq_true rfl) dX10_camps_204 (fun H locs hR hS hE1 z_q34 => ?_)
  refine lv_iadd C.x C.b dX10_camps_207 ?_
  refine r_puti C hR hS t_s0 fl_X10_194 fp_X10_10_5 rfl dX10_camps_208 (fun H locs hR hS => ?_)
  obtain ⟨h35, e_h35⟩ : ∃ y, y = upI h s0 5 (s1 + q34) := ⟨_, rfl⟩
  rw [← e_h35] at hR
  have hf := lt_e hf e_h35
  have hE := eI e_h35 hE
  have t_r0 := tI e_h35 t_r0
  refine lv_aload_n C.x C.b dX10_camps_211 rfl (lv_at hl 0 rfl) ?_
  refine r_geti C hR t_r0 fl_X10_200 rfl dX10_camps_212 ?_
  have hf := so_e hf
  subst hf
  exact r_iret C hr hlk hR hE hS dX10_camps_215
set_option maxRecDepth 100000 in
set_option maxHeartbeats 4000000 in
theorem w_X10_camps_184 {G : Gt} {l : Launch} {p : Program} {e : Env} {s : State} {m : MethodId} {args : Array Value} {below : List Frame} {meth : Method} {c : Code} {h0 : Hp} {out : (Int32 × Hp)} {r0 : Nat}  (C : Cx G p m c cX10_camps 7 s args RX10) (hr : meth.sig.returnType = some .int) (hlk : meth.locks = false)  : P_X10_camps_184 G l p e s m args below meth c h0 out r0 (f_X10_camps_184 r0) := by
  intro H locs ls h s0 s1 hf hE hR hS t_r0 t_s0 hl
  rw [f_X10_camps_184] at hf
  refine r_puti C hR hS t_s0 fl_X10_191 fp_X10_10_22 rfl dX10_camps_184 (fun H locs hR hS => ?_)
  obtain ⟨h32, e_h32⟩ : ∃ y, y = upI h s0 22 s1 := ⟨_, rfl⟩
  rw [← e_h32] at hR
  have hf := lt_e hf e_h32
  have hE := eI e_h32 hE
  have t_r0 := tI e_h32 t_r0
  refine lv_aload_n C.x C.b dX10_camps_187 rfl (lv_at hl 0 rfl) ?_
  refine lv_dup C.x C.b dX10_camps_188 rfl ?_
  refine r_geti C hR t_r0 fl_X10_194 rfl dX10_camps_189 ?_
  refine lv_aload_n C.x C.b dX10_camps_192 rfl (lv_at hl 0 rfl) ?_
  refine r_geti C hR t_r0 fl_X10_200 rfl dX10_camps_193 ?_
  refine lv_if_le (tgt := 203) C.x C.b dX10_camps_196 (by decide) (fun c33 => ?_) (fun c33 => ?_)
  · simp only [if_pos c33] at hf
    refine lv_iconst (v := (0 : Int32)) C.x C.b dX10_camps_203 (by decide) ?_
    exact w_X10_camps_204 C hr hlk _ _ _ _ _ _ _ hf hE hR hS t_r0 t_r0 z_0 (lv_sub hl [0] rfl)
  · simp only [if_neg c33] at hf
    refine lv_iconst (v := (1 : Int32)) C.x C.b dX10_camps_199 (by decide) ?_
    refine lv_goto (tgt := 204) C.x C.b dX10_camps_200 (by decide) ?_
    exact w_X10_camps_204 C hr hlk _ _ _ _ _ _ _ hf hE hR hS t_r0 t_r0 z_1 (lv_sub hl [0] rfl)
set_option maxRecDepth 100000 in
set_option maxHeartbeats 4000000 in
theorem w_X10_camps_81 {G : Gt} {l : Launch} {p : Program} {e : Env} {s : State} {m : MethodId} {args : Array Value} {below : List Frame} {meth : Method} {c : Code} {h0 : Hp} {out : (Int32 × Hp)} {r0 : Nat}  (C : Cx G p m c cX10_camps 7 s args RX10) (hr : meth.sig.returnType = some .int) (hlk : meth.locks = false)  (n : Nat) : P_X10_camps_81 G l p e s m args below meth c h0 out r0 (f_X10_camps_81 r0 n) := by
  induction n with
  | zero => intro H locs ls h x5 hf hE hR hS t_r0 hl; cases hf
  | succ n hk81 =>
    intro H locs ls h x5 hf hE hR hS t_r0 hl
    rw [f_X10_camps_81] at hf
    obtain ⟨k81, e_k81⟩ : ∃ y, y = f_X10_camps_81 r0 n := ⟨_, rfl⟩
    have hf := lt_e hf e_k81
    rw [← e_k81] at hk81
    refine lv_iload C.x C.b dX10_camps_81 (lv_at hl 1 rfl) ?_
    refine lv_aload_n C.x C.b dX10_camps_83 rfl (lv_at hl 0 rfl) ?_
    refine r_geti C hR t_r0 fl_X10_200 rfl dX10_camps_84 ?_
    refine lv_icmp_ge (tgt := 168) C.x C.b dX10_camps_87 (by decide) (fun c12 => ?_) (fun c12 => ?_)
    · have hf := it_t hf c12
      refine lv_aload_n C.x C.b dX10_camps_168 rfl (lv_at hl 0 rfl) ?_
      refine lv_aload_n C.x C.b dX10_camps_169 rfl (lv_at hl 0 rfl) ?_
      refine r_geti C hR t_r0 fl_X10_200 rfl dX10_camps_170 ?_
      refine lv_if_le (tgt := 180) C.x C.b dX10_camps_173 (by decide) (fun c13 => ?_) (fun c13 => ?_)
      · simp only [if_pos c13] at hf
        refine lv_aload_n C.x C.b dX10_camps_180 rfl (lv_at hl 0 rfl) ?_
        refine r_geti C hR t_r0 fl_X10_191 rfl dX10_camps_181 ?_
        exact w_X10_camps_184 C hr hlk _ _ _ _ _ _ hf hE hR hS t_r0 t_r0 (lv_sub hl [0] rfl)
      · simp only [if_neg c13] at hf
        refine lv_iconst (v := (0 : Int32)) C.x C.b dX10_camps_176 (by decide) ?_
        refine lv_goto (tgt := 184) C.x C.b dX10_camps_177 (by decide) ?_
        exact w_X10_camps_184 C hr hlk _ _ _ _ _ _ hf hE hR hS t_r0 t_r0 (lv_sub hl [0] rfl)
    · have hf := it_f hf c12
      refine lv_bipush (v := (6 : Int32)) C.x C.b dX10_camps_90 (by decide) ?_
      refine lv_iload C.x C.b dX10_camps_92 (lv_at hl 1 rfl) ?_
      refine lv_imul C.x C.b dX10_camps_94 ?_
      refine lv_topi (fun v14 e_v14 => ?_)
      have hf := lt_e hf e_v14
      refine lv_istore (lv' := [(6, .int v14), (0, .ref (G.2.2 + r0)), (5, .int x5)]) C.x C.b dX10_camps_95 hl (by decide) rfl (fun ls hl => ?_)
      refine lv_aload_n C.x C.b dX10_camps_97 rfl (lv_at hl 1 rfl) ?_
      obtain ⟨g15, hf⟩ := gd_e hf
      refine r_getr C hR t_r0 fl_X10_20 (by decide) (nz_e g15) dX10_camps_98 (fun tq16 => ?_)
      have tg15 := okA tq16 rfl
      refine lv_aload_n C.x C.b dX10_camps_101 rfl (lv_at hl 1 rfl) ?_
      refine r_geti C hR t_r0 fl_X10_17 rfl dX10_camps_102 ?_
      refine lv_aload_n C.x C.b dX10_camps_105 rfl (lv_at hl 1 rfl) ?_
      obtain ⟨g17, hf⟩ := gd_e hf
      refine r_getr C hR t_r0 fl_X10_30 (by decide) (nz_e g17) dX10_camps_106 (fun tq18 => ?_)
      have tg17 := okA tq18 rfl
      refine lv_iload C.x C.b dX10_camps_109 (lv_at hl 0 rfl) ?_
      obtain ⟨g19, hf⟩ := gd_e hf
      refine r_iald C hR tg17 g19 dX10_camps_111 ?_
      refine lv_imul C.x C.b dX10_camps_112 ?_
      refine lv_aload_n C.x C.b dX10_camps_113 rfl (lv_at hl 1 rfl) ?_
      refine r_getr C hR t_r0 fl_X10_30 (by decide) (nz_e g17) dX10_camps_114 (fun tq20 => ?_)
      refine lv_iload C.x C.b dX10_camps_117 (lv_at hl 0 rfl) ?_
      refine lv_iconst (v := (1 : Int32)) C.x C.b dX10_camps_119 (by decide) ?_
      refine lv_iadd C.x C.b dX10_camps_120 ?_
      obtain ⟨g21, hf⟩ := gd_e hf
      refine r_iald C hR tg17 g21 dX10_camps_121 ?_
      refine lv_iadd C.x C.b dX10_camps_122 ?_
      refine lv_aload_n C.x C.b dX10_camps_123 rfl (lv_at hl 1 rfl) ?_
      refine r_getr C hR t_r0 fl_X10_30 (by decide) (nz_e g17) dX10_camps_124 (fun tq22 => ?_)
      refine lv_iload C.x C.b dX10_camps_127 (lv_at hl 0 rfl) ?_
      refine lv_iconst (v := (2 : Int32)) C.x C.b dX10_camps_129 (by decide) ?_
      refine lv_iadd C.x C.b dX10_camps_130 ?_
      obtain ⟨g23, hf⟩ := gd_e hf
      refine r_iald C hR tg17 g23 dX10_camps_131 ?_
      refine lv_aload_n C.x C.b dX10_camps_132 rfl (lv_at hl 1 rfl) ?_
      refine r_getr C hR t_r0 fl_X10_30 (by decide) (nz_e g17) dX10_camps_133 (fun tq24 => ?_)
      refine lv_iload C.x C.b dX10_camps_136 (lv_at hl 0 rfl) ?_
      refine lv_iconst (v := (3 : Int32)) C.x C.b dX10_camps_138 (by decide) ?_
      refine lv_iadd C.x C.b dX10_camps_139 ?_
      obtain ⟨g25, hf⟩ := gd_e hf
      refine r_iald C hR tg17 g25 dX10_camps_140 ?_
      refine lv_aload_n C.x C.b dX10_camps_141 rfl (lv_at hl 1 rfl) ?_
      refine r_getr C hR t_r0 fl_X10_30 (by decide) (nz_e g17) dX10_camps_142 (fun tq26 => ?_)
      refine lv_iload C.x C.b dX10_camps_145 (lv_at hl 0 rfl) ?_
      refine lv_iconst (v := (4 : Int32)) C.x C.b dX10_camps_147 (by decide) ?_
      refine lv_iadd C.x C.b dX10_camps_148 ?_
      obtain ⟨g27, hf⟩ := gd_e hf
      refine r_iald C hR tg17 g27 dX10_camps_149 ?_
      refine lv_aload_n C.x C.b dX10_camps_150 rfl (lv_at hl 1 rfl) ?_
      refine r_getr C hR t_r0 fl_X10_30 (by decide) (nz_e g17) dX10_camps_151 (fun tq28 => ?_)
      refine lv_iload C.x C.b dX10_camps_154 (lv_at hl 0 rfl) ?_
      refine lv_iconst (v := (5 : Int32)) C.x C.b dX10_camps_156 (by decide) ?_
      refine lv_iadd C.x C.b dX10_camps_157 ?_
      obtain ⟨g29, hf⟩ := gd_e hf
      refine r_iald C hR tg17 g29 dX10_camps_158 ?_
      obtain ⟨q30, h_q30, hf⟩ := bd_e hf
      refine r_callS (As := [.ref (G.2.2 + (hpR h r0 6)), .int (((hpI h r0 4) * (hpI h (hpR h r0 13) (ix v14))) + (hpI h (hpR h r0 13) (ix (v14 + (1 : Int32))))), .int (hpI h (hpR h r0 13) (ix (v14 + (2 : Int32)))), .int (hpI h (hpR h r0 13) (ix (v14 + (3 : Int32)))), .int (hpI h (hpR h r0 13) (ix (v14 + (4 : Int32)))), .int (hpI h (hpR h r0 13) (ix (v14 + (5 : Int32))))]) (rest := []) C hR hS mk_X10_comes cl_X10_214 (k_X10_comes tg15 h_q30) ⟨⟨Nat.le_of_ble_eq_true rfl, Nat.le_of_ble_eq_true rfl⟩, ⟨rfl, rfl⟩, Nat.le_of_ble_eq_true rfl, Nat.le_of_ble_eq_true rfl⟩ rfl hl.1 rfl (Nat.le_of_ble_eq_true rfl) dX10_camps_159 (fun H locs hR hS hE1 z_q30 => ?_)
      have hE := hE.tr hE1
      have t_r0 := hE1.at t_r0 (by decide)
      obtain ⟨v31, e_v31⟩ : ∃ y : Int32, y = x5 + (1 : Int32) := ⟨_, rfl⟩
      have hf := lt_e hf e_v31
      refine lv_iinc (v := v31) (lv' := [(5, .int v31), (6, .int v14), (0, .ref (G.2.2 + r0))]) C.x C.b dX10_camps_162 hl (k := 2) rfl (by rw [e_v31]; rfl) (by decide) rfl (fun ls hl => ?_)
      refine lv_goto (tgt := 81) C.x C.b dX10_camps_165 (by decide) ?_
      exact hk81 _ _ _ _ _ hf hE hR hS t_r0 (lv_sub hl [2, 0] rfl)
set_option maxRecDepth 100000 in
set_option maxHeartbeats 4000000 in
theorem w_X10_camps_55 {G : Gt} {l : Launch} {p : Program} {e : Env} {s : State} {m : MethodId} {args : Array Value} {below : List Frame} {meth : Method} {c : Code} {h0 : Hp} {out : (Int32 × Hp)} {r0 : Nat} {k29 : Hp → Int32 → Int32 → Int32 → Option (Int32 × Hp)} (C : Cx G p m c cX10_camps 7 s args RX10) (hr : meth.sig.returnType = some .int) (hlk : meth.locks = false) (hk29 : P_X10_camps_29 G l p e s m args below meth c h0 out r0 k29) : P_X10_camps_55 G l p e s m args below meth c h0 out r0 (f_X10_camps_55 r0 k29) := by
  intro H locs ls h x1 x2 hf hE hR hS t_r0 z_x2 hl
  rw [f_X10_camps_55] at hf
  refine lv_iconst (v := (0 : Int32)) C.x C.b dX10_camps_55 (by decide) ?_
  exact w_X10_camps_56 C hr hlk hk29 _ _ _ _ _ _ _ hf hE hR hS t_r0 z_0 z_x2 (lv_sub hl [0, 1, 2] rfl)
set_option maxRecDepth 100000 in
set_option maxHeartbeats 4000000 in
theorem w_X10_camps_29 {G : Gt} {l : Launch} {p : Program} {e : Env} {s : State} {m : MethodId} {args : Array Value} {below : List Frame} {meth : Method} {c : Code} {h0 : Hp} {out : (Int32 × Hp)} {r0 : Nat}  (C : Cx G p m c cX10_camps 7 s args RX10) (hr : meth.sig.returnType = some .int) (hlk : meth.locks = false)  (n : Nat) : P_X10_camps_29 G l p e s m args below meth c h0 out r0 (f_X10_camps_29 r0 n) := by
  induction n with
  | zero => intro H locs ls h x1 x2 x3 hf hE hR hS t_r0 z_x2 z_x3 hl; cases hf
  | succ n hk29 =>
    intro H locs ls h x1 x2 x3 hf hE hR hS t_r0 z_x2 z_x3 hl
    rw [f_X10_camps_29] at hf
    obtain ⟨k29, e_k29⟩ : ∃ y, y = f_X10_camps_29 r0 n := ⟨_, rfl⟩
    have hf := lt_e hf e_k29
    rw [← e_k29] at hk29
    refine lv_iload_n C.x C.b dX10_camps_29 rfl (lv_at hl 3 rfl) ?_
    refine lv_if_eq (tgt := 60) C.x C.b dX10_camps_30 (by decide) (fun c5 => ?_) (fun c5 => ?_)
    · have hf := it_t hf c5
      refine lv_aload_n C.x C.b dX10_camps_60 rfl (lv_at hl 0 rfl) ?_
      refine lv_iload_n C.x C.b dX10_camps_61 rfl (lv_at hl 1 rfl) ?_
      refine lv_bipush (v := (55 : Int32)) C.x C.b dX10_camps_62 (by decide) ?_
      refine lv_iload_n C.x C.b dX10_camps_64 rfl (lv_at hl 2 rfl) ?_
      obtain ⟨q6, h_q6, hf⟩ := bd_e hf
      refine r_callV (As := [.int x1, .int (55 : Int32), .int x2]) (rest := []) C hR hS t_r0 rfl mk_X10_faultOf cl_X10_210 (k_X10_faultOf t_r0 h_q6) ⟨⟨Nat.le_of_ble_eq_true rfl, Nat.le_of_ble_eq_true rfl⟩, ⟨rfl, rfl⟩, Nat.le_of_ble_eq_true rfl, Nat.le_of_ble_eq_true rfl⟩ rfl hl.1 rfl (Nat.le_of_ble_eq_true rfl) dX10_camps_65 (fun H locs hR hS hE1 z_q6 => ?_)
      refine lv_istore (lv' := [(4, .int q6), (0, .ref (G.2.2 + r0)), (1, .int x1), (2, .int x2), (3, .int x3)]) C.x C.b dX10_camps_68 hl (by decide) rfl (fun ls hl => ?_)
      refine lv_iload C.x C.b dX10_camps_70 (lv_at hl 0 rfl) ?_
      refine lv_if_ge (tgt := 78) C.x C.b dX10_camps_72 (by decide) (fun c7 => ?_) (fun c7 => ?_)
      · have hf := it_t hf c7
        refine lv_iconst (v := (0 : Int32)) C.x C.b dX10_camps_78 (by decide) ?_
        refine lv_istore (lv' := [(5, .int (0 : Int32)), (4, .int q6), (0, .ref (G.2.2 + r0)), (1, .int x1), (2, .int x2), (3, .int x3)]) C.x C.b dX10_camps_79 hl (by decide) rfl (fun ls hl => ?_)
        exact w_X10_camps_81 C hr hlk FU _ _ _ _ _ hf hE hR hS t_r0 (lv_sub hl [2, 0] rfl)
      · have hf := it_f hf c7
        refine lv_iload C.x C.b dX10_camps_75 (lv_at hl 0 rfl) ?_
        have hf := so_e hf
        subst hf
        exact r_iret C hr hlk hR hE hS dX10_camps_77
    · have hf := it_f hf c5
      refine lv_aload_n C.x C.b dX10_camps_33 rfl (lv_at hl 0 rfl) ?_
      obtain ⟨q8, h_q8, hf⟩ := bd_e hf
      refine r_callV (As := []) (rest := []) C hR hS t_r0 rfl mk_X10_readsCamp cl_X10_203 (k_X10_readsCamp t_r0 h_q8) ⟨⟨Nat.le_of_ble_eq_true rfl, Nat.le_of_ble_eq_true rfl⟩, ⟨rfl, rfl⟩, Nat.le_of_ble_eq_true rfl, Nat.le_of_ble_eq_true rfl⟩ rfl hl.1 rfl (Nat.le_of_ble_eq_true rfl) dX10_camps_34 (fun H locs hR hS hE1 z_q8 => ?_)
      have hE := hE.tr hE1
      have t_r0 := hE1.at t_r0 (by decide)
      have z_q8 := z_q8 _ rfl
      refine lv_istore_n (lv' := [(2, .int q8.1), (0, .ref (G.2.2 + r0)), (1, .int x1), (3, .int x3)]) C.x C.b dX10_camps_37 rfl hl (by decide) rfl (fun ls hl => ?_)
      refine lv_iload_n C.x C.b dX10_camps_38 rfl (lv_at hl 0 rfl) ?_
      refine lv_if_eq (tgt := 55) C.x C.b dX10_camps_39 (by decide) (fun c9 => ?_) (fun c9 => ?_)
      · have hf := it_t hf c9
        exact w_X10_camps_55 C hr hlk hk29 _ _ _ _ _ _ hf hE hR hS t_r0 z_q8 (lv_sub hl [1, 2, 0] rfl)
      · have hf := it_f hf c9
        refine lv_aload_n C.x C.b dX10_camps_42 rfl (lv_at hl 1 rfl) ?_
        refine lv_bipush (v := (59 : Int32)) C.x C.b dX10_camps_43 (by decide) ?_
        obtain ⟨q10, h_q10, hf⟩ := bd_e hf
        refine r_callV (As := [.int (59 : Int32)]) (rest := []) C hR hS t_r0 rfl mk_X10_takes cl_X10_206 (k_X10_takes t_r0 h_q10) ⟨⟨Nat.le_of_ble_eq_true rfl, Nat.le_of_ble_eq_true rfl⟩, ⟨rfl, rfl⟩, Nat.le_of_ble_eq_true rfl, Nat.le_of_ble_eq_true rfl⟩ rfl hl.1 rfl (Nat.le_of_ble_eq_true rfl) dX10_camps_45 (fun H locs hR hS hE1 z_q10 => ?_)
        have hE := hE.tr hE1
        have t_r0 := hE1.at t_r0 (by decide)
        have z_q10 := z_q10 _ rfl
        refine lv_if_eq (tgt := 55) C.x C.b dX10_camps_48 (by decide) (fun c11 => ?_) (fun c11 => ?_)
        · have hf := it_t hf c11
          exact w_X10_camps_55 C hr hlk hk29 _ _ _ _ _ _ hf hE hR hS t_r0 z_q8 (lv_sub hl [1, 2, 0] rfl)
        · have hf := it_f hf c11
          refine lv_iconst (v := (1 : Int32)) C.x C.b dX10_camps_51 (by decide) ?_
          refine lv_goto (tgt := 56) C.x C.b dX10_camps_52 (by decide) ?_
          exact w_X10_camps_56 C hr hlk hk29 _ _ _ _ _ _ _ hf hE hR hS t_r0 z_1 z_q8 (lv_sub hl [1, 2, 0] rfl)
set_option maxRecDepth 100000 in
set_option maxHeartbeats 4000000 in
theorem w_X10_camps_28 {G : Gt} {l : Launch} {p : Program} {e : Env} {s : State} {m : MethodId} {args : Array Value} {below : List Frame} {meth : Method} {c : Code} {h0 : Hp} {out : (Int32 × Hp)} {r0 : Nat}  (C : Cx G p m c cX10_camps 7 s args RX10) (hr : meth.sig.returnType = some .int) (hlk : meth.locks = false)  : P_X10_camps_28 G l p e s m args below meth c h0 out r0 (f_X10_camps_28 r0) := by
  intro H locs ls h s0 x1 x2 hf hE hR hS t_r0 z_s0 z_x2 hl
  rw [f_X10_camps_28] at hf
  refine lv_istore_n (lv' := [(3, .int s0), (0, .ref (G.2.2 + r0)), (1, .int x1), (2, .int x2)]) C.x C.b dX10_camps_28 rfl hl (by decide) rfl (fun ls hl => ?_)
  exact w_X10_camps_29 C hr hlk FU _ _ _ _ _ _ _ hf hE hR hS t_r0 z_x2 z_s0 (lv_sub hl [1, 2, 3, 0] rfl)
set_option maxRecDepth 100000 in
set_option maxHeartbeats 4000000 in
theorem k_X10_camps {G : Gt} {l : Launch} {h : Hp} {r0 : Nat} {out : (Int32 × Hp)} (t_r0 : hpT h r0 = (1, 10))  (hf : f_X10_camps h r0 = some out) : Mt G l yX10_camps cX10_camps 7 (some .int) rm_X10_camps [.ref (G.2.2 + r0)] h (some (.int out.1)) out.2 0 0 0 := by
  refine r_met (by decide +kernel) (Nat.le_of_ble_eq_true rfl) ?_
  intro p e s m args below meth c ls C hr hlk hnm hR hS hl
  have hE : Ext h h := Ext.rf
  have hl : lv_has ls 7 [(0, .ref (G.2.2 + r0))] := hl
  rw [f_X10_camps] at hf
  refine lv_aload_n C.x C.b dX10_camps_0 rfl (lv_at hl 0 rfl) ?_
  refine lv_iconst (v := (0 : Int32)) C.x C.b dX10_camps_1 (by decide) ?_
  refine r_puti C hR hS t_r0 fl_X10_103 fp_X10_10_0 rfl dX10_camps_2 (fun H locs hR hS => ?_)
  obtain ⟨h1, e_h1⟩ : ∃ y, y = upI h r0 0 (0 : Int32) := ⟨_, rfl⟩
  rw [← e_h1] at hR
  have hf := lt_e hf e_h1
  have hE := eI e_h1 hE
  have t_r0 := tI e_h1 t_r0
  refine lv_aload_n C.x C.b dX10_camps_5 rfl (lv_at hl 0 rfl) ?_
  refine lv_bipush (v := (55 : Int32)) C.x C.b dX10_camps_6 (by decide) ?_
  obtain ⟨q2, h_q2, hf⟩ := bd_e hf
  refine r_callV (As := [.int (55 : Int32)]) (rest := []) C hR hS t_r0 rfl mk_X10_begins cl_X10_184 (k_X10_begins t_r0 h_q2) ⟨⟨Nat.le_of_ble_eq_true rfl, Nat.le_of_ble_eq_true rfl⟩, ⟨rfl, rfl⟩, Nat.le_of_ble_eq_true rfl, Nat.le_of_ble_eq_true rfl⟩ rfl hl.1 rfl (Nat.le_of_ble_eq_true rfl) dX10_camps_8 (fun H locs hR hS hE1 z_q2 => ?_)
  have hE := hE.tr hE1
  have t_r0 := hE1.at t_r0 (by decide)
  refine lv_istore_n (lv' := [(1, .int q2.1), (0, .ref (G.2.2 + r0))]) C.x C.b dX10_camps_11 rfl hl (by decide) rfl (fun ls hl => ?_)
  refine lv_aload_n C.x C.b dX10_camps_12 rfl (lv_at hl 1 rfl) ?_
  refine lv_iconst (v := (0 : Int32)) C.x C.b dX10_camps_13 (by decide) ?_
  refine r_puti C hR hS t_r0 fl_X10_200 fp_X10_10_14 rfl dX10_camps_14 (fun H locs hR hS => ?_)
  obtain ⟨h3, e_h3⟩ : ∃ y, y = upI q2.2 r0 14 (0 : Int32) := ⟨_, rfl⟩
  rw [← e_h3] at hR
  have hf := lt_e hf e_h3
  have hE := eI e_h3 hE
  have t_r0 := tI e_h3 t_r0
  refine lv_iconst (v := (1 : Int32)) C.x C.b dX10_camps_17 (by decide) ?_
  refine lv_istore_n (lv' := [(2, .int (1 : Int32)), (1, .int q2.1), (0, .ref (G.2.2 + r0))]) C.x C.b dX10_camps_18 rfl hl (by decide) rfl (fun ls hl => ?_)
  refine lv_iload_n C.x C.b dX10_camps_19 rfl (lv_at hl 1 rfl) ?_
  refine lv_if_le (tgt := 27) C.x C.b dX10_camps_20 (by decide) (fun c4 => ?_) (fun c4 => ?_)
  · simp only [if_pos c4] at hf
    refine lv_iconst (v := (0 : Int32)) C.x C.b dX10_camps_27 (by decide) ?_
    exact w_X10_camps_28 C hr hlk _ _ _ _ _ _ _ hf hE hR hS t_r0 z_0 z_1 (lv_sub hl [2, 1, 0] rfl)
  · simp only [if_neg c4] at hf
    refine lv_iconst (v := (1 : Int32)) C.x C.b dX10_camps_23 (by decide) ?_
    refine lv_goto (tgt := 28) C.x C.b dX10_camps_24 (by decide) ?_
    exact w_X10_camps_28 C hr hlk _ _ _ _ _ _ _ hf hE hR hS t_r0 z_1 z_1 (lv_sub hl [2, 1, 0] rfl)

def rm_X10_codes : Room := { frames := 0, cells := 0, slots := 0, locals := 0 }
set_option maxRecDepth 100000 in
set_option maxHeartbeats 4000000 in
theorem k_X10_codes {G : Gt} {l : Launch} {h : Hp} {r0 : Nat} {x1 : Int32} {out : Hp} (t_r0 : hpT h r0 = (1, 10))  (hf : f_X10_codes h r0 x1 = some out) : Mt G l yX10_codes cX10_codes 2 (none) rm_X10_codes [.ref (G.2.2 + r0), .int x1] h (none) out 0 0 0 := by
  refine r_met (by decide +kernel) (Nat.le_of_ble_eq_true rfl) ?_
  intro p e s m args below meth c ls C hr hlk hnm hR hS hl
  have hE : Ext h h := Ext.rf
  have hl : lv_has ls 2 [(0, .ref (G.2.2 + r0)), (1, .int x1)] := hl
  rw [f_X10_codes] at hf
  refine lv_aload_n C.x C.b dX10_codes_0 rfl (lv_at hl 0 rfl) ?_
  obtain ⟨g1, hf⟩ := gd_e hf
  refine r_getr C hR t_r0 fl_X10_36 (by decide) (nz_e g1) dX10_codes_1 (fun tq2 => ?_)
  have tg1 := okA tq2 rfl
  refine lv_aload_n C.x C.b dX10_codes_4 rfl (lv_at hl 0 rfl) ?_
  refine r_geti C hR t_r0 fl_X10_218 rfl dX10_codes_5 ?_
  refine lv_iload_n C.x C.b dX10_codes_8 rfl (lv_at hl 1 rfl) ?_
  obtain ⟨g3, hf⟩ := gd_e hf
  refine r_iast C hR hS tg1 g3 dX10_codes_9 (fun H locs hR hS => ?_)
  obtain ⟨h4, e_h4⟩ : ∃ y, y = upI h (hpR h r0 16) (ix (hpI h r0 18)) x1 := ⟨_, rfl⟩
  rw [← e_h4] at hR
  have hf := lt_e hf e_h4
  have hE := eI e_h4 hE
  have t_r0 := tI e_h4 t_r0
  refine lv_aload_n C.x C.b dX10_codes_10 rfl (lv_at hl 0 rfl) ?_
  refine lv_dup C.x C.b dX10_codes_11 rfl ?_
  refine r_geti C hR t_r0 fl_X10_218 rfl dX10_codes_12 ?_
  refine lv_iconst (v := (1 : Int32)) C.x C.b dX10_codes_15 (by decide) ?_
  refine lv_iadd C.x C.b dX10_codes_16 ?_
  refine r_puti C hR hS t_r0 fl_X10_218 fp_X10_10_18 rfl dX10_codes_17 (fun H locs hR hS => ?_)
  obtain ⟨h5, e_h5⟩ : ∃ y, y = upI h4 r0 18 ((hpI h4 r0 18) + (1 : Int32)) := ⟨_, rfl⟩
  rw [← e_h5] at hR
  have hf := lt_e hf e_h5
  have hE := eI e_h5 hE
  have t_r0 := tI e_h5 t_r0
  have hf := so_e hf
  subst hf
  exact r_vret C hr hlk hR hE hS dX10_codes_20

def rm_X10_laysCode : Room := { frames := 0, cells := 0, slots := 0, locals := 0 }
def P_X10_laysCode_7 (G : Gt) (l : Launch) (p : Program) (e : Env) (s : State) (m : MethodId) (args : Array Value) (below : List Frame) (meth : Method) (c : Code) (h0 : Hp) (out : Hp) (r0 : Nat) (r1 : Nat) (x2 : Int32) (k : Hp → Int32 → Option Hp) : Prop := ∀ (H : Heap) (locs : List Loc) (ls : Array Slot) (h : Hp) (x3 : Int32), k h x3 = some out → Ext h0 h → Rel G h H → va_S (AA G.2.2) s.heap H locs → hpT h r0 = (1, 10) → (hpT h r1).1 = 2 → lv_has ls 4 [(0, .ref (G.2.2 + r0)), (1, .ref (G.2.2 + r1)), (2, .int x2), (3, .int x3)] → W p l e rm_X10_laysCode s m args below meth c H locs 0 0 (MQ below (Qm G h0 out (none) 0) args s 0 0 (AA G.2.2)) (F0 m 7 ls [])
set_option maxRecDepth 100000 in
set_option maxHeartbeats 4000000 in
theorem w_X10_laysCode_7 {G : Gt} {l : Launch} {p : Program} {e : Env} {s : State} {m : MethodId} {args : Array Value} {below : List Frame} {meth : Method} {c : Code} {h0 : Hp} {out : Hp} {r0 : Nat} {r1 : Nat} {x2 : Int32}  (C : Cx G p m c cX10_laysCode 4 s args RX10) (hr : meth.sig.returnType = none) (hlk : meth.locks = false)  (n : Nat) : P_X10_laysCode_7 G l p e s m args below meth c h0 out r0 r1 x2 (f_X10_laysCode_7 r0 r1 x2 n) := by
  induction n with
  | zero => intro H locs ls h x3 hf hE hR hS t_r0 t_r1 hl; cases hf
  | succ n hk7 =>
    intro H locs ls h x3 hf hE hR hS t_r0 t_r1 hl
    rw [f_X10_laysCode_7] at hf
    obtain ⟨k7, e_k7⟩ : ∃ y, y = f_X10_laysCode_7 r0 r1 x2 n := ⟨_, rfl⟩
    have hf := lt_e hf e_k7
    rw [← e_k7] at hk7
    refine lv_iload_n C.x C.b dX10_laysCode_7 rfl (lv_at hl 3 rfl) ?_
    refine lv_iload_n C.x C.b dX10_laysCode_8 rfl (lv_at hl 2 rfl) ?_
    refine lv_icmp_ge (tgt := 27) C.x C.b dX10_laysCode_9 (by decide) (fun c2 => ?_) (fun c2 => ?_)
    · have hf := it_t hf c2
      have hf := so_e hf
      subst hf
      exact r_vret C hr hlk hR hE hS dX10_laysCode_27
    · have hf := it_f hf c2
      refine lv_aload_n C.x C.b dX10_laysCode_12 rfl (lv_at hl 0 rfl) ?_
      obtain ⟨g3, hf⟩ := gd_e hf
      refine r_getr C hR t_r0 fl_X10_33 (by decide) (nz_e g3) dX10_laysCode_13 (fun tq4 => ?_)
      have tg3 := okA tq4 rfl
      refine lv_iload_n C.x C.b dX10_laysCode_16 rfl (lv_at hl 3 rfl) ?_
      refine lv_aload_n C.x C.b dX10_laysCode_17 rfl (lv_at hl 1 rfl) ?_
      refine lv_iload_n C.x C.b dX10_laysCode_18 rfl (lv_at hl 3 rfl) ?_
      obtain ⟨g5, hf⟩ := gd_e hf
      refine r_iald C hR t_r1 g5 dX10_laysCode_19 ?_
      obtain ⟨g6, hf⟩ := gd_e hf
      refine r_iast C hR hS tg3 g6 dX10_laysCode_20 (fun H locs hR hS => ?_)
      obtain ⟨h7, e_h7⟩ : ∃ y, y = upI h (hpR h r0 15) (ix x3) (hpI h r1 (ix x3)) := ⟨_, rfl⟩
      rw [← e_h7] at hR
      have hf := lt_e hf e_h7
      have hE := eI e_h7 hE
      have t_r0 := tI e_h7 t_r0
      have t_r1 := tIk e_h7 t_r1
      obtain ⟨v8, e_v8⟩ : ∃ y : Int32, y = x3 + (1 : Int32) := ⟨_, rfl⟩
      have hf := lt_e hf e_v8
      refine lv_iinc (v := v8) (lv' := [(3, .int v8), (0, .ref (G.2.2 + r0)), (1, .ref (G.2.2 + r1)), (2, .int x2)]) C.x C.b dX10_laysCode_21 hl (k := 3) rfl (by rw [e_v8]; rfl) (by decide) rfl (fun ls hl => ?_)
      refine lv_goto (tgt := 7) C.x C.b dX10_laysCode_24 (by decide) ?_
      exact hk7 _ _ _ _ _ hf hE hR hS t_r0 t_r1 (lv_sub hl [1, 2, 3, 0] rfl)
set_option maxRecDepth 100000 in
set_option maxHeartbeats 4000000 in
theorem k_X10_laysCode {G : Gt} {l : Launch} {h : Hp} {r0 : Nat} {r1 : Nat} {x2 : Int32} {out : Hp} (t_r0 : hpT h r0 = (1, 10)) (t_r1 : (hpT h r1).1 = 2)  (hf : f_X10_laysCode h r0 r1 x2 = some out) : Mt G l yX10_laysCode cX10_laysCode 4 (none) rm_X10_laysCode [.ref (G.2.2 + r0), .ref (G.2.2 + r1), .int x2] h (none) out 0 0 0 := by
  refine r_met (by decide +kernel) (Nat.le_of_ble_eq_true rfl) ?_
  intro p e s m args below meth c ls C hr hlk hnm hR hS hl
  have hE : Ext h h := Ext.rf
  have hl : lv_has ls 4 [(0, .ref (G.2.2 + r0)), (1, .ref (G.2.2 + r1)), (2, .int x2)] := hl
  rw [f_X10_laysCode] at hf
  refine lv_aload_n C.x C.b dX10_laysCode_0 rfl (lv_at hl 0 rfl) ?_
  refine lv_iload_n C.x C.b dX10_laysCode_1 rfl (lv_at hl 2 rfl) ?_
  refine r_puti C hR hS t_r0 fl_X10_246 fp_X10_10_17 rfl dX10_laysCode_2 (fun H locs hR hS => ?_)
  obtain ⟨h1, e_h1⟩ : ∃ y, y = upI h r0 17 x2 := ⟨_, rfl⟩
  rw [← e_h1] at hR
  have hf := lt_e hf e_h1
  have hE := eI e_h1 hE
  have t_r0 := tI e_h1 t_r0
  have t_r1 := tIk e_h1 t_r1
  refine lv_iconst (v := (0 : Int32)) C.x C.b dX10_laysCode_5 (by decide) ?_
  refine lv_istore_n (lv' := [(3, .int (0 : Int32)), (0, .ref (G.2.2 + r0)), (1, .ref (G.2.2 + r1)), (2, .int x2)]) C.x C.b dX10_laysCode_6 rfl hl (by decide) rfl (fun ls hl => ?_)
  exact w_X10_laysCode_7 C hr hlk FU _ _ _ _ _ hf hE hR hS t_r0 t_r1 (lv_sub hl [1, 2, 3, 0] rfl)

def rm_X10_worked : Room := { frames := 1, cells := 0, slots := 0, locals := 20 }
def P_X10_worked_50 (G : Gt) (l : Launch) (p : Program) (e : Env) (s : State) (m : MethodId) (args : Array Value) (below : List Frame) (meth : Method) (c : Code) (h : Hp) (out : Int32) (x0 : Int32) (x1 : Int32) (x2 : Int32) (k : Int32 → Option Int32) : Prop := ∀ (H : Heap) (locs : List Loc) (ls : Array Slot) (s0 : Int32), k s0 = some out → Rel G h H → va_S (AA G.2.2) s.heap H locs → narrow .boolean (.int s0) = .int s0 → lv_has ls 3 [(0, .int x0), (1, .int x1), (2, .int x2)] → W p l e rm_X10_worked s m args below meth c H locs 0 0 (MQ below (Qm G h h (some (.int out)) 0) args s 0 0 (AA G.2.2)) (F0 m 50 ls [.int s0])
def P_X10_worked_78 (G : Gt) (l : Launch) (p : Program) (e : Env) (s : State) (m : MethodId) (args : Array Value) (below : List Frame) (meth : Method) (c : Code) (h : Hp) (out : Int32) (x0 : Int32) (x1 : Int32) (x2 : Int32) (k : Int32 → Option Int32) : Prop := ∀ (H : Heap) (locs : List Loc) (ls : Array Slot) (s0 : Int32), k s0 = some out → Rel G h H → va_S (AA G.2.2) s.heap H locs → narrow .boolean (.int s0) = .int s0 → lv_has ls 3 [(0, .int x0), (1, .int x1), (2, .int x2)] → W p l e rm_X10_worked s m args below meth c H locs 0 0 (MQ below (Qm G h h (some (.int out)) 0) args s 0 0 (AA G.2.2)) (F0 m 78 ls [.int s0])
def P_X10_worked_64 (G : Gt) (l : Launch) (p : Program) (e : Env) (s : State) (m : MethodId) (args : Array Value) (below : List Frame) (meth : Method) (c : Code) (h : Hp) (out : Int32) (x0 : Int32) (x1 : Int32) (x2 : Int32) (k : Int32 → Option Int32) : Prop := ∀ (H : Heap) (locs : List Loc) (ls : Array Slot) (s0 : Int32), k s0 = some out → Rel G h H → va_S (AA G.2.2) s.heap H locs → narrow .boolean (.int s0) = .int s0 → lv_has ls 3 [(0, .int x0), (1, .int x1), (2, .int x2)] → W p l e rm_X10_worked s m args below meth c H locs 0 0 (MQ below (Qm G h h (some (.int out)) 0) args s 0 0 (AA G.2.2)) (F0 m 64 ls [.int s0])
set_option maxRecDepth 100000 in
set_option maxHeartbeats 4000000 in
theorem w_X10_worked_50 {G : Gt} {l : Launch} {p : Program} {e : Env} {s : State} {m : MethodId} {args : Array Value} {below : List Frame} {meth : Method} {c : Code} {h : Hp} {out : Int32} {x0 : Int32} {x1 : Int32} {x2 : Int32}  (C : Cx G p m c cX10_worked 3 s args RX10) (hr : meth.sig.returnType = some .int) (hlk : meth.locks = false)  : P_X10_worked_50 G l p e s m args below meth c h out x0 x1 x2 (f_X10_worked_50 h x0 x1 x2) := by
  intro H locs ls s0 hf hR hS z_s0 hl
  rw [f_X10_worked_50] at hf
  obtain ⟨q9, h_q9, hf⟩ := bd_e hf
  refine r_callS (As := [.int s0]) (rest := []) C hR hS mk_X10_flag cl_X10_163 (k_X10_flag h_q9) ⟨⟨Nat.le_of_ble_eq_true rfl, Nat.le_of_ble_eq_true rfl⟩, ⟨rfl, rfl⟩, Nat.le_of_ble_eq_true rfl, Nat.le_of_ble_eq_true rfl⟩ rfl hl.1 rfl (Nat.le_of_ble_eq_true rfl) dX10_worked_50 (fun H locs hR hS hE1 z_q9 => ?_)
  have hf := so_e hf
  subst hf
  exact r_iret C hr hlk hR Ext.rf hS dX10_worked_53
set_option maxRecDepth 100000 in
set_option maxHeartbeats 4000000 in
theorem w_X10_worked_78 {G : Gt} {l : Launch} {p : Program} {e : Env} {s : State} {m : MethodId} {args : Array Value} {below : List Frame} {meth : Method} {c : Code} {h : Hp} {out : Int32} {x0 : Int32} {x1 : Int32} {x2 : Int32}  (C : Cx G p m c cX10_worked 3 s args RX10) (hr : meth.sig.returnType = some .int) (hlk : meth.locks = false)  : P_X10_worked_78 G l p e s m args below meth c h out x0 x1 x2 (f_X10_worked_78 h x0 x1 x2) := by
  intro H locs ls s0 hf hR hS z_s0 hl
  rw [f_X10_worked_78] at hf
  obtain ⟨q7, h_q7, hf⟩ := bd_e hf
  refine r_callS (As := [.int s0]) (rest := []) C hR hS mk_X10_flag cl_X10_163 (k_X10_flag h_q7) ⟨⟨Nat.le_of_ble_eq_true rfl, Nat.le_of_ble_eq_true rfl⟩, ⟨rfl, rfl⟩, Nat.le_of_ble_eq_true rfl, Nat.le_of_ble_eq_true rfl⟩ rfl hl.1 rfl (Nat.le_of_ble_eq_true rfl) dX10_worked_78 (fun H locs hR hS hE1 z_q7 => ?_)
  have hf := so_e hf
  subst hf
  exact r_iret C hr hlk hR Ext.rf hS dX10_worked_81
set_option maxRecDepth 100000 in
set_option maxHeartbeats 4000000 in
theorem w_X10_worked_64 {G : Gt} {l : Launch} {p : Program} {e : Env} {s : State} {m : MethodId} {args : Array Value} {below : List Frame} {meth : Method} {c : Code} {h : Hp} {out : Int32} {x0 : Int32} {x1 : Int32} {x2 : Int32}  (C : Cx G p m c cX10_worked 3 s args RX10) (hr : meth.sig.returnType = some .int) (hlk : meth.locks = false)  : P_X10_worked_64 G l p e s m args below meth c h out x0 x1 x2 (f_X10_worked_64 h x0 x1 x2) := by
  intro H locs ls s0 hf hR hS z_s0 hl
  rw [f_X10_worked_64] at hf
  obtain ⟨q8, h_q8, hf⟩ := bd_e hf
  refine r_callS (As := [.int s0]) (rest := []) C hR hS mk_X10_flag cl_X10_163 (k_X10_flag h_q8) ⟨⟨Nat.le_of_ble_eq_true rfl, Nat.le_of_ble_eq_true rfl⟩, ⟨rfl, rfl⟩, Nat.le_of_ble_eq_true rfl, Nat.le_of_ble_eq_true rfl⟩ rfl hl.1 rfl (Nat.le_of_ble_eq_true rfl) dX10_worked_64 (fun H locs hR hS hE1 z_q8 => ?_)
  have hf := so_e hf
  subst hf
  exact r_iret C hr hlk hR Ext.rf hS dX10_worked_67
set_option maxRecDepth 100000 in
set_option maxHeartbeats 4000000 in
theorem k_X10_worked {G : Gt} {l : Launch} {h : Hp} {x0 : Int32} {x1 : Int32} {x2 : Int32} {out : Int32}   (hf : f_X10_worked h x0 x1 x2 = some out) : Mt G l yX10_worked cX10_worked 3 (some .int) rm_X10_worked [.int x0, .int x1, .int x2] h (some (.int out)) h 0 0 0 := by
  refine r_met (by decide +kernel) (Nat.le_of_ble_eq_true rfl) ?_
  intro p e s m args below meth c ls C hr hlk hnm hR hS hl
  have hl : lv_has ls 3 [(0, .int x0), (1, .int x1), (2, .int x2)] := hl
  rw [f_X10_worked] at hf
  refine lv_iload_n C.x C.b dX10_worked_0 rfl (lv_at hl 0 rfl) ?_
  by_cases c6_0 : x0 = (0 : Int32)
  · have hf := it_t hf c6_0
    refine lv_tableIn (tgt := 40) C.x C.b dX10_worked_1 (by rw [c6_0]; decide) (by rw [c6_0]; decide) (by rw [c6_0]; rfl) (by decide) ?_
    refine lv_iload_n C.x C.b dX10_worked_40 rfl (lv_at hl 1 rfl) ?_
    refine lv_iload_n C.x C.b dX10_worked_41 rfl (lv_at hl 2 rfl) ?_
    refine lv_icmp_ge (tgt := 49) C.x C.b dX10_worked_42 (by decide) (fun c1 => ?_) (fun c1 => ?_)
    · simp only [if_pos c1] at hf
      refine lv_iconst (v := (0 : Int32)) C.x C.b dX10_worked_49 (by decide) ?_
      exact w_X10_worked_50 C hr hlk _ _ _ _ hf hR hS z_0 (lv_sub hl [0, 1, 2] rfl)
    · simp only [if_neg c1] at hf
      refine lv_iconst (v := (1 : Int32)) C.x C.b dX10_worked_45 (by decide) ?_
      refine lv_goto (tgt := 50) C.x C.b dX10_worked_46 (by decide) ?_
      exact w_X10_worked_50 C hr hlk _ _ _ _ hf hR hS z_1 (lv_sub hl [0, 1, 2] rfl)
  have hf := it_f hf c6_0
  by_cases c6_1 : x0 = (1 : Int32)
  · have hf := it_t hf c6_1
    refine lv_tableIn (tgt := 54) C.x C.b dX10_worked_1 (by rw [c6_1]; decide) (by rw [c6_1]; decide) (by rw [c6_1]; rfl) (by decide) ?_
    refine lv_iload_n C.x C.b dX10_worked_54 rfl (lv_at hl 1 rfl) ?_
    refine lv_iload_n C.x C.b dX10_worked_55 rfl (lv_at hl 2 rfl) ?_
    refine lv_icmp_le (tgt := 63) C.x C.b dX10_worked_56 (by decide) (fun c2 => ?_) (fun c2 => ?_)
    · simp only [if_pos c2] at hf
      refine lv_iconst (v := (0 : Int32)) C.x C.b dX10_worked_63 (by decide) ?_
      exact w_X10_worked_64 C hr hlk _ _ _ _ hf hR hS z_0 (lv_sub hl [0, 1, 2] rfl)
    · simp only [if_neg c2] at hf
      refine lv_iconst (v := (1 : Int32)) C.x C.b dX10_worked_59 (by decide) ?_
      refine lv_goto (tgt := 64) C.x C.b dX10_worked_60 (by decide) ?_
      exact w_X10_worked_64 C hr hlk _ _ _ _ hf hR hS z_1 (lv_sub hl [0, 1, 2] rfl)
  have hf := it_f hf c6_1
  by_cases c6_2 : x0 = (2 : Int32)
  · have hf := it_t hf c6_2
    refine lv_tableIn (tgt := 68) C.x C.b dX10_worked_1 (by rw [c6_2]; decide) (by rw [c6_2]; decide) (by rw [c6_2]; rfl) (by decide) ?_
    refine lv_iload_n C.x C.b dX10_worked_68 rfl (lv_at hl 1 rfl) ?_
    refine lv_iload_n C.x C.b dX10_worked_69 rfl (lv_at hl 2 rfl) ?_
    refine lv_icmp_ne (tgt := 77) C.x C.b dX10_worked_70 (by decide) (fun c3 => ?_) (fun c3 => ?_)
    · simp only [if_neg c3] at hf
      refine lv_iconst (v := (0 : Int32)) C.x C.b dX10_worked_77 (by decide) ?_
      exact w_X10_worked_78 C hr hlk _ _ _ _ hf hR hS z_0 (lv_sub hl [0, 1, 2] rfl)
    · simp only [if_pos c3] at hf
      refine lv_iconst (v := (1 : Int32)) C.x C.b dX10_worked_73 (by decide) ?_
      refine lv_goto (tgt := 78) C.x C.b dX10_worked_74 (by decide) ?_
      exact w_X10_worked_78 C hr hlk _ _ _ _ hf hR hS z_1 (lv_sub hl [0, 1, 2] rfl)
  have hf := it_f hf c6_2
  by_cases c6_3 : x0 = (3 : Int32)
  · have hf := it_t hf c6_3
    refine lv_tableIn (tgt := 82) C.x C.b dX10_worked_1 (by rw [c6_3]; decide) (by rw [c6_3]; decide) (by rw [c6_3]; rfl) (by decide) ?_
    refine lv_iload_n C.x C.b dX10_worked_82 rfl (lv_at hl 1 rfl) ?_
    refine lv_iload_n C.x C.b dX10_worked_83 rfl (lv_at hl 2 rfl) ?_
    refine lv_iadd C.x C.b dX10_worked_84 ?_
    have hf := so_e hf
    subst hf
    exact r_iret C hr hlk hR Ext.rf hS dX10_worked_85
  have hf := it_f hf c6_3
  by_cases c6_4 : x0 = (4 : Int32)
  · have hf := it_t hf c6_4
    refine lv_tableIn (tgt := 86) C.x C.b dX10_worked_1 (by rw [c6_4]; decide) (by rw [c6_4]; decide) (by rw [c6_4]; rfl) (by decide) ?_
    refine lv_iload_n C.x C.b dX10_worked_86 rfl (lv_at hl 1 rfl) ?_
    refine lv_iload_n C.x C.b dX10_worked_87 rfl (lv_at hl 2 rfl) ?_
    refine lv_isub C.x C.b dX10_worked_88 ?_
    have hf := so_e hf
    subst hf
    exact r_iret C hr hlk hR Ext.rf hS dX10_worked_89
  have hf := it_f hf c6_4
  by_cases c6_5 : x0 = (5 : Int32)
  · have hf := it_t hf c6_5
    refine lv_tableIn (tgt := 90) C.x C.b dX10_worked_1 (by rw [c6_5]; decide) (by rw [c6_5]; decide) (by rw [c6_5]; rfl) (by decide) ?_
    refine lv_iload_n C.x C.b dX10_worked_90 rfl (lv_at hl 1 rfl) ?_
    refine lv_iload_n C.x C.b dX10_worked_91 rfl (lv_at hl 2 rfl) ?_
    refine lv_imul C.x C.b dX10_worked_92 ?_
    have hf := so_e hf
    subst hf
    exact r_iret C hr hlk hR Ext.rf hS dX10_worked_93
  have hf := it_f hf c6_5
  refine lv_tableOut (tgt := 94) C.x C.b dX10_worked_1 (tb_out 6 (by decide) (fun j hj => match j, hj with | 0, _ => fun q => c6_0 (q.trans (by decide)) | 1, _ => fun q => c6_1 (q.trans (by decide)) | 2, _ => fun q => c6_2 (q.trans (by decide)) | 3, _ => fun q => c6_3 (q.trans (by decide)) | 4, _ => fun q => c6_4 (q.trans (by decide)) | 5, _ => fun q => c6_5 (q.trans (by decide)) | n + 6, hn => absurd hn (by omega))) (by decide) ?_
  refine lv_iload_n C.x C.b dX10_worked_94 rfl (lv_at hl 2 rfl) ?_
  refine lv_if_ne (tgt := 102) C.x C.b dX10_worked_95 (by decide) (fun c4 => ?_) (fun c4 => ?_)
  · have hf := it_f hf c4
    refine lv_iload_n C.x C.b dX10_worked_102 rfl (lv_at hl 1 rfl) ?_
    refine lv_iload_n C.x C.b dX10_worked_103 rfl (lv_at hl 2 rfl) ?_
    obtain ⟨g5, hf⟩ := gd_e hf
    refine lv_idiv C.x C.b dX10_worked_104 (nz32_e g5) ?_
    have hf := so_e hf
    subst hf
    exact r_iret C hr hlk hR Ext.rf hS dX10_worked_105
  · have hf := it_t hf c4
    refine lv_iconst (v := (0 : Int32)) C.x C.b dX10_worked_98 (by decide) ?_
    refine lv_goto (tgt := 105) C.x C.b dX10_worked_99 (by decide) ?_
    have hf := so_e hf
    subst hf
    exact r_iret C hr hlk hR Ext.rf hS dX10_worked_105

