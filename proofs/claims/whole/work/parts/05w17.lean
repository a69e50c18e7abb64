def rm_X10_keep : Room := { frames := 1, cells := 0, slots := 0, locals := 25 }
def P_X10_keep_38 (G : Gt) (l : Launch) (p : Program) (e : Env) (s : State) (m : MethodId) (args : Array Value) (below : List Frame) (meth : Method) (c : Code) (h0 : Hp) (out : (Int32 × Hp)) (r0 : Nat) (x1 : Int32) (k : Hp → Int32 → Option (Int32 × Hp)) : Prop := ∀ (H : Heap) (locs : List Loc) (ls : Array Slot) (h : Hp) (x2 : Int32), k h x2 = some out → Ext h0 h → Rel G h H → va_S (AA G.2.2) s.heap H locs → hpT h r0 = (1, 10) → lv_has ls 3 [(0, .ref (G.2.2 + r0)), (1, .int x1), (2, .int x2)] → W p l e rm_X10_keep s m args below meth c H locs 0 0 (MQ below (Qm G h0 out.2 (some (.int out.1)) 1) args s 0 0 (AA G.2.2)) (F0 m 38 ls [])
set_option maxRecDepth 100000 in
set_option maxHeartbeats 4000000 in
theorem w_X10_keep_38 {G : Gt} {l : Launch} {p : Program} {e : Env} {s : State} {m : MethodId} {args : Array Value} {below : List Frame} {meth : Method} {c : Code} {h0 : Hp} {out : (Int32 × Hp)} {r0 : Nat} {x1 : Int32}  (C : Cx G p m c cX10_keep 3 s args RX10) (hr : meth.sig.returnType = some .boolean) (hlk : meth.locks = false)  (n : Nat) : P_X10_keep_38 G l p e s m args below meth c h0 out r0 x1 (f_X10_keep_38 r0 x1 n) := by
  induction n with
  | zero => intro H locs ls h x2 hf hE hR hS t_r0 hl; cases hf
  | succ n hk38 =>
    intro H locs ls h x2 hf hE hR hS t_r0 hl
    rw [f_X10_keep_38] at hf
    obtain ⟨k38, e_k38⟩ : ∃ y, y = f_X10_keep_38 r0 x1 n := ⟨_, rfl⟩
    have hf := lt_e hf e_k38
    rw [← e_k38] at hk38
    refine lv_iload_n C.x C.b dX10_keep_38 rfl (lv_at hl 2 rfl) ?_
    refine lv_bipush (v := (51 : Int32)) C.x C.b dX10_keep_39 (by decide) ?_
    refine lv_icmp_ge (tgt := 67) C.x C.b dX10_keep_41 (by decide) (fun c12 => ?_) (fun c12 => ?_)
    · have hf := it_t hf c12
      refine lv_iconst (v := (1 : Int32)) C.x C.b dX10_keep_67 (by decide) ?_
      have hf := so_e hf
      subst hf
      exact r_zret C hr hlk hR hE hS z_1 dX10_keep_68
    · have hf := it_f hf c12
      refine lv_aload_n C.x C.b dX10_keep_44 rfl (lv_at hl 0 rfl) ?_
      obtain ⟨g13, hf⟩ := gd_e hf
      refine r_getr C hR t_r0 fl_X10_100 (by decide) (nz_e g13) dX10_keep_45 (fun tq14 => ?_)
      have tg13 := okA tq14 rfl
      refine lv_bipush (v := (51 : Int32)) C.x C.b dX10_keep_48 (by decide) ?_
      refine lv_iload_n C.x C.b dX10_keep_50 rfl (lv_at hl 1 rfl) ?_
      refine lv_imul C.x C.b dX10_keep_51 ?_
      refine lv_iload_n C.x C.b dX10_keep_52 rfl (lv_at hl 2 rfl) ?_
      refine lv_iadd C.x C.b dX10_keep_53 ?_
      refine lv_aload_n C.x C.b dX10_keep_54 rfl (lv_at hl 0 rfl) ?_
      obtain ⟨g15, hf⟩ := gd_e hf
      refine r_getr C hR t_r0 fl_X10_20 (by decide) (nz_e g15) dX10_keep_55 (fun tq16 => ?_)
      have tg15 := okA tq16 rfl
      refine lv_iload_n C.x C.b dX10_keep_58 rfl (lv_at hl 2 rfl) ?_
      obtain ⟨g17, hf⟩ := gd_e hf
      refine r_iald C hR tg15 g17 dX10_keep_59 ?_
      obtain ⟨g18, hf⟩ := gd_e hf
      refine r_iast C hR hS tg13 g18 dX10_keep_60 (fun H locs hR hS => ?_)
      obtain ⟨h19, e_h19⟩ : ∃ y, y = upI h (hpR h r0 45) (ix (((51 : Int32) * x1) + x2)) (hpI h (hpR h r0 6) (ix x2)) := ⟨_, rfl⟩
      rw [← e_h19] at hR
      have hf := lt_e hf e_h19
      have hE := eI e_h19 hE
      have t_r0 := tI e_h19 t_r0
      obtain ⟨v20, e_v20⟩ : ∃ y : Int32, y = x2 + (1 : Int32) := ⟨_, rfl⟩
      have hf := lt_e hf e_v20
      refine lv_iinc (v := v20) (lv' := [(2, .int v20), (0, .ref (G.2.2 + r0)), (1, .int x1)]) C.x C.b dX10_keep_61 hl (k := 2) rfl (by rw [e_v20]; rfl) (by decide) rfl (fun ls hl => ?_)
      refine lv_goto (tgt := 38) C.x C.b dX10_keep_64 (by decide) ?_
      exact hk38 _ _ _ _ _ hf hE hR hS t_r0 (lv_sub hl [1, 2, 0] rfl)
set_option maxRecDepth 100000 in
set_option maxHeartbeats 4000000 in
theorem k_X10_keep {G : Gt} {l : Launch} {h : Hp} {r0 : Nat} {x1 : Int32} {out : (Int32 × Hp)} (t_r0 : hpT h r0 = (1, 10))  (hf : f_X10_keep h r0 x1 = some out) : Mt G l yX10_keep cX10_keep 3 (some .boolean) rm_X10_keep [.ref (G.2.2 + r0), .int x1] h (some (.int out.1)) out.2 1 0 0 := by
  refine r_met (by decide +kernel) (Nat.le_of_ble_eq_true rfl) ?_
  intro p e s m args below meth c ls C hr hlk hnm hR hS hl
  have hE : Ext h h := Ext.rf
  have hl : lv_has ls 3 [(0, .ref (G.2.2 + r0)), (1, .int x1)] := hl
  rw [f_X10_keep] at hf
  refine lv_aload_n C.x C.b dX10_keep_0 rfl (lv_at hl 0 rfl) ?_
  refine lv_iconst (v := (0 : Int32)) C.x C.b dX10_keep_1 (by decide) ?_
  refine r_puti C hR hS t_r0 fl_X10_103 fp_X10_10_0 rfl dX10_keep_2 (fun H locs hR hS => ?_)
  obtain ⟨h1, e_h1⟩ : ∃ y, y = upI h r0 0 (0 : Int32) := ⟨_, rfl⟩
  rw [← e_h1] at hR
  have hf := lt_e hf e_h1
  have hE := eI e_h1 hE
  have t_r0 := tI e_h1 t_r0
  refine lv_iload_n C.x C.b dX10_keep_5 rfl (lv_at hl 1 rfl) ?_
  refine lv_i2l C.x C.b dX10_keep_6 rfl ?_
  refine lv_lconst (v := (0 : Int64)) C.x C.b dX10_keep_7 (by decide) ?_
  refine lv_ldc2 C.x C.b C.ow (C.ts _ lk_X10_292) dX10_keep_8 ?_
  obtain ⟨q2, h_q2, hf⟩ := bd_e hf
  refine r_callS (As := [.long (x1.toInt64), .long (0 : Int64), .long (2 : Int64)]) (rest := []) C hR hS mk_X10_in cl_X10_117 (k_X10_in h_q2) ⟨⟨Nat.le_of_ble_eq_true rfl, Nat.le_of_ble_eq_true rfl⟩, ⟨rfl, rfl⟩, Nat.le_of_ble_eq_true rfl, Nat.le_of_ble_eq_true rfl⟩ rfl hl.1 rfl (Nat.le_of_ble_eq_true rfl) dX10_keep_11 (fun H locs hR hS hE1 z_q2 => ?_)
  have z_q2 := z_q2 _ rfl
  refine lv_if_ne (tgt := 19) C.x C.b dX10_keep_14 (by decide) (fun c3 => ?_) (fun c3 => ?_)
  · have hf := it_f hf c3
    refine lv_aload_n C.x C.b dX10_keep_19 rfl (lv_at hl 0 rfl) ?_
    obtain ⟨g4, hf⟩ := gd_e hf
    refine r_getr C hR t_r0 fl_X10_94 (by decide) (nz_e g4) dX10_keep_20 (fun tq5 => ?_)
    have tg4 := okA tq5 rfl
    refine lv_iload_n C.x C.b dX10_keep_23 rfl (lv_at hl 1 rfl) ?_
    refine lv_iconst (v := (1 : Int32)) C.x C.b dX10_keep_24 (by decide) ?_
    obtain ⟨g6, hf⟩ := gd_e hf
    refine r_zast C hR hS tg4 g6 (vz_1) dX10_keep_25 (fun H locs hR hS => ?_)
    obtain ⟨h7, e_h7⟩ : ∃ y, y = upI h1 (hpR h1 r0 43) (ix x1) (1 : Int32) := ⟨_, rfl⟩
    rw [← e_h7] at hR
    have hf := lt_e hf e_h7
    have hE := eI e_h7 hE
    have t_r0 := tI e_h7 t_r0
    refine lv_aload_n C.x C.b dX10_keep_26 rfl (lv_at hl 0 rfl) ?_
    obtain ⟨g8, hf⟩ := gd_e hf
    refine r_getr C hR t_r0 fl_X10_97 (by decide) (nz_e g8) dX10_keep_27 (fun tq9 => ?_)
    have tg8 := okA tq9 rfl
    refine lv_iload_n C.x C.b dX10_keep_30 rfl (lv_at hl 1 rfl) ?_
    refine lv_aload_n C.x C.b dX10_keep_31 rfl (lv_at hl 0 rfl) ?_
    refine r_geti C hR t_r0 fl_X10_194 rfl dX10_keep_32 ?_
    obtain ⟨g10, hf⟩ := gd_e hf
    refine r_iast C hR hS tg8 g10 dX10_keep_35 (fun H locs hR hS => ?_)
    obtain ⟨h11, e_h11⟩ : ∃ y, y = upI h7 (hpR h7 r0 44) (ix x1) (hpI h7 r0 5) := ⟨_, rfl⟩
    rw [← e_h11] at hR
    have hf := lt_e hf e_h11
    have hE := eI e_h11 hE
    have t_r0 := tI e_h11 t_r0
    refine lv_iconst (v := (0 : Int32)) C.x C.b dX10_keep_36 (by decide) ?_
    refine lv_istore_n (lv' := [(2, .int (0 : Int32)), (0, .ref (G.2.2 + r0)), (1, .int x1)]) C.x C.b dX10_keep_37 rfl hl (by decide) rfl (fun ls hl => ?_)
    exact w_X10_keep_38 C hr hlk FU _ _ _ _ _ hf hE hR hS t_r0 (lv_sub hl [1, 2, 0] rfl)
  · have hf := it_t hf c3
    refine lv_iconst (v := (0 : Int32)) C.x C.b dX10_keep_17 (by decide) ?_
    have hf := so_e hf
    subst hf
    exact r_zret C hr hlk hR hE hS z_0 dX10_keep_18

def rm_X10_again : Room := { frames := 1, cells := 0, slots := 0, locals := 25 }
def P_X10_again_43 (G : Gt) (l : Launch) (p : Program) (e : Env) (s : State) (m : MethodId) (args : Array Value) (below : List Frame) (meth : Method) (c : Code) (h0 : Hp) (out : (Int32 × Hp)) (r0 : Nat) (x1 : Int32) (k : Hp → Int32 → Option (Int32 × Hp)) : Prop := ∀ (H : Heap) (locs : List Loc) (ls : Array Slot) (h : Hp) (x2 : Int32), k h x2 = some out → Ext h0 h → Rel G h H → va_S (AA G.2.2) s.heap H locs → hpT h r0 = (1, 10) → lv_has ls 3 [(0, .ref (G.2.2 + r0)), (1, .int x1), (2, .int x2)] → W p l e rm_X10_again s m args below meth c H locs 0 0 (MQ below (Qm G h0 out.2 (some (.int out.1)) 1) args s 0 0 (AA G.2.2)) (F0 m 43 ls [])
set_option maxRecDepth 100000 in
set_option maxHeartbeats 4000000 in
theorem w_X10_again_43 {G : Gt} {l : Launch} {p : Program} {e : Env} {s : State} {m : MethodId} {args : Array Value} {below : List Frame} {meth : Method} {c : Code} {h0 : Hp} {out : (Int32 × Hp)} {r0 : Nat} {x1 : Int32}  (C : Cx G p m c cX10_again 3 s args RX10) (hr : meth.sig.returnType = some .boolean) (hlk : meth.locks = false)  (n : Nat) : P_X10_again_43 G l p e s m args below meth c h0 out r0 x1 (f_X10_again_43 r0 x1 n) := by
  induction n with
  | zero => intro H locs ls h x2 hf hE hR hS t_r0 hl; cases hf
  | succ n hk43 =>
    intro H locs ls h x2 hf hE hR hS t_r0 hl
    rw [f_X10_again_43] at hf
    obtain ⟨k43, e_k43⟩ : ∃ y, y = f_X10_again_43 r0 x1 n := ⟨_, rfl⟩
    have hf := lt_e hf e_k43
    rw [← e_k43] at hk43
    refine lv_iload_n C.x C.b dX10_again_43 rfl (lv_at hl 2 rfl) ?_
    refine lv_bipush (v := (51 : Int32)) C.x C.b dX10_again_44 (by decide) ?_
    refine lv_icmp_ge (tgt := 72) C.x C.b dX10_again_46 (by decide) (fun c12 => ?_) (fun c12 => ?_)
    · have hf := it_t hf c12
      refine lv_aload_n C.x C.b dX10_again_72 rfl (lv_at hl 0 rfl) ?_
      refine lv_iconst (v := (0 : Int32)) C.x C.b dX10_again_73 (by decide) ?_
      refine r_puti C hR hS t_r0 fl_X10_191 fp_X10_10_22 rfl dX10_again_74 (fun H locs hR hS => ?_)
      obtain ⟨h13, e_h13⟩ : ∃ y, y = upI h r0 22 (0 : Int32) := ⟨_, rfl⟩
      rw [← e_h13] at hR
      have hf := lt_e hf e_h13
      have hE := eI e_h13 hE
      have t_r0 := tI e_h13 t_r0
      refine lv_iconst (v := (1 : Int32)) C.x C.b dX10_again_77 (by decide) ?_
      have hf := so_e hf
      subst hf
      exact r_zret C hr hlk hR hE hS z_1 dX10_again_78
    · have hf := it_f hf c12
      refine lv_aload_n C.x C.b dX10_again_49 rfl (lv_at hl 0 rfl) ?_
      obtain ⟨g14, hf⟩ := gd_e hf
      refine r_getr C hR t_r0 fl_X10_20 (by decide) (nz_e g14) dX10_again_50 (fun tq15 => ?_)
      have tg14 := okA tq15 rfl
      refine lv_iload_n C.x C.b dX10_again_53 rfl (lv_at hl 2 rfl) ?_
      refine lv_aload_n C.x C.b dX10_again_54 rfl (lv_at hl 0 rfl) ?_
      obtain ⟨g16, hf⟩ := gd_e hf
      refine r_getr C hR t_r0 fl_X10_100 (by decide) (nz_e g16) dX10_again_55 (fun tq17 => ?_)
      have tg16 := okA tq17 rfl
      refine lv_bipush (v := (51 : Int32)) C.x C.b dX10_again_58 (by decide) ?_
      refine lv_iload_n C.x C.b dX10_again_60 rfl (lv_at hl 1 rfl) ?_
      refine lv_imul C.x C.b dX10_again_61 ?_
      refine lv_iload_n C.x C.b dX10_again_62 rfl (lv_at hl 2 rfl) ?_
      refine lv_iadd C.x C.b dX10_again_63 ?_
      obtain ⟨g18, hf⟩ := gd_e hf
      refine r_iald C hR tg16 g18 dX10_again_64 ?_
      obtain ⟨g19, hf⟩ := gd_e hf
      refine r_iast C hR hS tg14 g19 dX10_again_65 (fun H locs hR hS => ?_)
      obtain ⟨h20, e_h20⟩ : ∃ y, y = upI h (hpR h r0 6) (ix x2) (hpI h (hpR h r0 45) (ix (((51 : Int32) * x1) + x2))) := ⟨_, rfl⟩
      rw [← e_h20] at hR
      have hf := lt_e hf e_h20
      have hE := eI e_h20 hE
      have t_r0 := tI e_h20 t_r0
      obtain ⟨v21, e_v21⟩ : ∃ y : Int32, y = x2 + (1 : Int32) := ⟨_, rfl⟩
      have hf := lt_e hf e_v21
      refine lv_iinc (v := v21) (lv' := [(2, .int v21), (0, .ref (G.2.2 + r0)), (1, .int x1)]) C.x C.b dX10_again_66 hl (k := 2) rfl (by rw [e_v21]; rfl) (by decide) rfl (fun ls hl => ?_)
      refine lv_goto (tgt := 43) C.x C.b dX10_again_69 (by decide) ?_
      exact hk43 _ _ _ _ _ hf hE hR hS t_r0 (lv_sub hl [1, 2, 0] rfl)
set_option maxRecDepth 100000 in
set_option maxHeartbeats 4000000 in
theorem k_X10_again {G : Gt} {l : Launch} {h : Hp} {r0 : Nat} {x1 : Int32} {out : (Int32 × Hp)} (t_r0 : hpT h r0 = (1, 10))  (hf : f_X10_again h r0 x1 = some out) : Mt G l yX10_again cX10_again 3 (some .boolean) rm_X10_again [.ref (G.2.2 + r0), .int x1] h (some (.int out.1)) out.2 1 0 0 := by
  refine r_met (by decide +kernel) (Nat.le_of_ble_eq_true rfl) ?_
  intro p e s m args below meth c ls C hr hlk hnm hR hS hl
  have hE : Ext h h := Ext.rf
  have hl : lv_has ls 3 [(0, .ref (G.2.2 + r0)), (1, .int x1)] := hl
  rw [f_X10_again] at hf
  refine lv_aload_n C.x C.b dX10_again_0 rfl (lv_at hl 0 rfl) ?_
  refine lv_iconst (v := (0 : Int32)) C.x C.b dX10_again_1 (by decide) ?_
  refine r_puti C hR hS t_r0 fl_X10_103 fp_X10_10_0 rfl dX10_again_2 (fun H locs hR hS => ?_)
  obtain ⟨h1, e_h1⟩ : ∃ y, y = upI h r0 0 (0 : Int32) := ⟨_, rfl⟩
  rw [← e_h1] at hR
  have hf := lt_e hf e_h1
  have hE := eI e_h1 hE
  have t_r0 := tI e_h1 t_r0
  refine lv_iload_n C.x C.b dX10_again_5 rfl (lv_at hl 1 rfl) ?_
  refine lv_i2l C.x C.b dX10_again_6 rfl ?_
  refine lv_lconst (v := (0 : Int64)) C.x C.b dX10_again_7 (by decide) ?_
  refine lv_ldc2 C.x C.b C.ow (C.ts _ lk_X10_292) dX10_again_8 ?_
  obtain ⟨q2, h_q2, hf⟩ := bd_e hf
  refine r_callS (As := [.long (x1.toInt64), .long (0 : Int64), .long (2 : Int64)]) (rest := []) C hR hS mk_X10_in cl_X10_117 (k_X10_in h_q2) ⟨⟨Nat.le_of_ble_eq_true rfl, Nat.le_of_ble_eq_true rfl⟩, ⟨rfl, rfl⟩, Nat.le_of_ble_eq_true rfl, Nat.le_of_ble_eq_true rfl⟩ rfl hl.1 rfl (Nat.le_of_ble_eq_true rfl) dX10_again_11 (fun H locs hR hS hE1 z_q2 => ?_)
  have z_q2 := z_q2 _ rfl
  refine lv_if_eq (tgt := 39) C.x C.b dX10_again_14 (by decide) (fun c3 => ?_) (fun c3 => ?_)
  · have hf := it_t hf c3
    refine lv_iconst (v := (0 : Int32)) C.x C.b dX10_again_39 (by decide) ?_
    have hf := so_e hf
    subst hf
    exact r_zret C hr hlk hR hE hS z_0 dX10_again_40
  · have hf := it_f hf c3
    refine lv_aload_n C.x C.b dX10_again_17 rfl (lv_at hl 0 rfl) ?_
    obtain ⟨g4, hf⟩ := gd_e hf
    refine r_getr C hR t_r0 fl_X10_94 (by decide) (nz_e g4) dX10_again_18 (fun tq5 => ?_)
    have tg4 := okA tq5 rfl
    refine lv_iload_n C.x C.b dX10_again_21 rfl (lv_at hl 1 rfl) ?_
    obtain ⟨g6, hf⟩ := gd_e hf
    refine r_zald C hR tg4 g6 dX10_again_22 ?_
    refine lv_if_eq (tgt := 39) C.x C.b dX10_again_23 (by decide) (fun c7 => ?_) (fun c7 => ?_)
    · have hf := it_t hf c7
      refine lv_iconst (v := (0 : Int32)) C.x C.b dX10_again_39 (by decide) ?_
      have hf := so_e hf
      subst hf
      exact r_zret C hr hlk hR hE hS z_0 dX10_again_40
    · have hf := it_f hf c7
      refine lv_aload_n C.x C.b dX10_again_26 rfl (lv_at hl 0 rfl) ?_
      obtain ⟨g8, hf⟩ := gd_e hf
      refine r_getr C hR t_r0 fl_X10_97 (by decide) (nz_e g8) dX10_again_27 (fun tq9 => ?_)
      have tg8 := okA tq9 rfl
      refine lv_iload_n C.x C.b dX10_again_30 rfl (lv_at hl 1 rfl) ?_
      obtain ⟨g10, hf⟩ := gd_e hf
      refine r_iald C hR tg8 g10 dX10_again_31 ?_
      refine lv_aload_n C.x C.b dX10_again_32 rfl (lv_at hl 0 rfl) ?_
      refine r_geti C hR t_r0 fl_X10_194 rfl dX10_again_33 ?_
      refine lv_icmp_eq (tgt := 41) C.x C.b dX10_again_36 (by decide) (fun c11 => ?_) (fun c11 => ?_)
      · have hf := it_t hf c11
        refine lv_iconst (v := (0 : Int32)) C.x C.b dX10_again_41 (by decide) ?_
        refine lv_istore_n (lv' := [(2, .int (0 : Int32)), (0, .ref (G.2.2 + r0)), (1, .int x1)]) C.x C.b dX10_again_42 rfl hl (by decide) rfl (fun ls hl => ?_)
        exact w_X10_again_43 C hr hlk FU _ _ _ _ _ hf hE hR hS t_r0 (lv_sub hl [1, 2, 0] rfl)
      · have hf := it_f hf c11
        refine lv_iconst (v := (0 : Int32)) C.x C.b dX10_again_39 (by decide) ?_
        have hf := so_e hf
        subst hf
        exact r_zret C hr hlk hR hE hS z_0 dX10_again_40

def rm_X10_count : Room := { frames := 2, cells := 0, slots := 0, locals := 43 }
set_option maxRecDepth 100000 in
set_option maxHeartbeats 4000000 in
theorem k_X10_count {G : Gt} {l : Launch} {h : Hp} {r0 : Nat} {x1 : Int32} {out : (Int32 × Hp)} (t_r0 : hpT h r0 = (1, 10))  (hf : f_X10_count h r0 x1 = some out) : Mt G l yX10_count cX10_count 2 (some .int) rm_X10_count [.ref (G.2.2 + r0), .int x1] h (some (.int out.1)) out.2 0 0 0 := by
  refine r_met (by decide +kernel) (Nat.le_of_ble_eq_true rfl) ?_
  intro p e s m args below meth c ls C hr hlk hnm hR hS hl
  have hE : Ext h h := Ext.rf
  have hl : lv_has ls 2 [(0, .ref (G.2.2 + r0)), (1, .int x1)] := hl
  rw [f_X10_count] at hf
  refine lv_aload_n C.x C.b dX10_count_0 rfl (lv_at hl 0 rfl) ?_
  refine lv_iconst (v := (0 : Int32)) C.x C.b dX10_count_1 (by decide) ?_
  refine r_puti C hR hS t_r0 fl_X10_103 fp_X10_10_0 rfl dX10_count_2 (fun H locs hR hS => ?_)
  obtain ⟨h1, e_h1⟩ : ∃ y, y = upI h r0 0 (0 : Int32) := ⟨_, rfl⟩
  rw [← e_h1] at hR
  have hf := lt_e hf e_h1
  have hE := eI e_h1 hE
  have t_r0 := tI e_h1 t_r0
  refine lv_iload_n C.x C.b dX10_count_5 rfl (lv_at hl 1 rfl) ?_
  by_cases c18_0 : x1 = (0 : Int32)
  · have hf := it_t hf c18_0
    refine lv_tableIn (tgt := 68) C.x C.b dX10_count_6 (by rw [c18_0]; decide) (by rw [c18_0]; decide) (by rw [c18_0]; rfl) (by decide) ?_
    refine lv_aload_n C.x C.b dX10_count_68 rfl (lv_at hl 0 rfl) ?_
    refine r_geti C hR t_r0 fl_X10_13 rfl dX10_count_69 ?_
    have hf := so_e hf
    subst hf
    exact r_iret C hr hlk hR hE hS dX10_count_72
  have hf := it_f hf c18_0
  by_cases c18_1 : x1 = (1 : Int32)
  · have hf := it_t hf c18_1
    refine lv_tableIn (tgt := 73) C.x C.b dX10_count_6 (by rw [c18_1]; decide) (by rw [c18_1]; decide) (by rw [c18_1]; rfl) (by decide) ?_
    refine lv_aload_n C.x C.b dX10_count_73 rfl (lv_at hl 0 rfl) ?_
    refine r_geti C hR t_r0 fl_X10_17 rfl dX10_count_74 ?_
    have hf := so_e hf
    subst hf
    exact r_iret C hr hlk hR hE hS dX10_count_77
  have hf := it_f hf c18_1
  by_cases c18_2 : x1 = (2 : Int32)
  · have hf := it_t hf c18_2
    refine lv_tableIn (tgt := 78) C.x C.b dX10_count_6 (by rw [c18_2]; decide) (by rw [c18_2]; decide) (by rw [c18_2]; rfl) (by decide) ?_
    refine lv_aload_n C.x C.b dX10_count_78 rfl (lv_at hl 0 rfl) ?_
    obtain ⟨g2, hf⟩ := gd_e hf
    refine r_getr C hR t_r0 fl_X10_20 (by decide) (nz_e g2) dX10_count_79 (fun tq3 => ?_)
    have tg2 := okA tq3 rfl
    refine lv_bipush (v := (48 : Int32)) C.x C.b dX10_count_82 (by decide) ?_
    obtain ⟨g4, hf⟩ := gd_e hf
    refine r_iald C hR tg2 g4 dX10_count_84 ?_
    have hf := so_e hf
    subst hf
    exact r_iret C hr hlk hR hE hS dX10_count_85
  have hf := it_f hf c18_2
  by_cases c18_3 : x1 = (3 : Int32)
  · have hf := it_t hf c18_3
    refine lv_tableIn (tgt := 86) C.x C.b dX10_count_6 (by rw [c18_3]; decide) (by rw [c18_3]; decide) (by rw [c18_3]; rfl) (by decide) ?_
    refine lv_aload_n C.x C.b dX10_count_86 rfl (lv_at hl 0 rfl) ?_
    obtain ⟨g5, hf⟩ := gd_e hf
    refine r_getr C hR t_r0 fl_X10_20 (by decide) (nz_e g5) dX10_count_87 (fun tq6 => ?_)
    have tg5 := okA tq6 rfl
    obtain ⟨q7, h_q7, hf⟩ := bd_e hf
    refine r_callS (As := [.ref (G.2.2 + (hpR h1 r0 6))]) (rest := []) C hR hS mk_X10_on cl_X10_311 (k_X10_on tg5 h_q7) ⟨⟨Nat.le_of_ble_eq_true rfl, Nat.le_of_ble_eq_true rfl⟩, ⟨rfl, rfl⟩, Nat.le_of_ble_eq_true rfl, Nat.le_of_ble_eq_true rfl⟩ rfl hl.1 rfl (Nat.le_of_ble_eq_true rfl) dX10_count_90 (fun H locs hR hS hE1 z_q7 => ?_)
    obtain ⟨q8, h_q8, hf⟩ := bd_e hf
    refine r_callS (As := [.int q7]) (rest := []) C hR hS mk_J6_bitCount_0f7a4 cl_X10_264 (k_J6_bitCount_0f7a4 h_q8) ⟨⟨Nat.le_of_ble_eq_true rfl, Nat.le_of_ble_eq_true rfl⟩, ⟨rfl, rfl⟩, Nat.le_of_ble_eq_true rfl, Nat.le_of_ble_eq_true rfl⟩ rfl hl.1 rfl (Nat.le_of_ble_eq_true rfl) dX10_count_93 (fun H locs hR hS hE1 z_q8 => ?_)
    have hf := so_e hf
    subst hf
    exact r_iret C hr hlk hR hE hS dX10_count_96
  have hf := it_f hf c18_3
  by_cases c18_4 : x1 = (4 : Int32)
  · have hf := it_t hf c18_4
    refine lv_tableIn (tgt := 97) C.x C.b dX10_count_6 (by rw [c18_4]; decide) (by rw [c18_4]; decide) (by rw [c18_4]; rfl) (by decide) ?_
    refine lv_aload_n C.x C.b dX10_count_97 rfl (lv_at hl 0 rfl) ?_
    obtain ⟨g9, hf⟩ := gd_e hf
    refine r_getr C hR t_r0 fl_X10_20 (by decide) (nz_e g9) dX10_count_98 (fun tq10 => ?_)
    have tg9 := okA tq10 rfl
    refine lv_bipush (v := (49 : Int32)) C.x C.b dX10_count_101 (by decide) ?_
    obtain ⟨g11, hf⟩ := gd_e hf
    refine r_iald C hR tg9 g11 dX10_count_103 ?_
    have hf := so_e hf
    subst hf
    exact r_iret C hr hlk hR hE hS dX10_count_104
  have hf := it_f hf c18_4
  by_cases c18_5 : x1 = (5 : Int32)
  · have hf := it_t hf c18_5
    refine lv_tableIn (tgt := 105) C.x C.b dX10_count_6 (by rw [c18_5]; decide) (by rw [c18_5]; decide) (by rw [c18_5]; rfl) (by decide) ?_
    refine lv_aload_n C.x C.b dX10_count_105 rfl (lv_at hl 0 rfl) ?_
    obtain ⟨g12, hf⟩ := gd_e hf
    refine r_getr C hR t_r0 fl_X10_20 (by decide) (nz_e g12) dX10_count_106 (fun tq13 => ?_)
    have tg12 := okA tq13 rfl
    refine lv_bipush (v := (50 : Int32)) C.x C.b dX10_count_109 (by decide) ?_
    obtain ⟨g14, hf⟩ := gd_e hf
    refine r_iald C hR tg12 g14 dX10_count_111 ?_
    have hf := so_e hf
    subst hf
    exact r_iret C hr hlk hR hE hS dX10_count_112
  have hf := it_f hf c18_5
  by_cases c18_6 : x1 = (6 : Int32)
  · have hf := it_t hf c18_6
    refine lv_tableIn (tgt := 113) C.x C.b dX10_count_6 (by rw [c18_6]; decide) (by rw [c18_6]; decide) (by rw [c18_6]; rfl) (by decide) ?_
    refine lv_aload_n C.x C.b dX10_count_113 rfl (lv_at hl 0 rfl) ?_
    obtain ⟨g15, hf⟩ := gd_e hf
    refine r_getr C hR t_r0 fl_X10_20 (by decide) (nz_e g15) dX10_count_114 (fun tq16 => ?_)
    have tg15 := okA tq16 rfl
    refine lv_bipush (v := (24 : Int32)) C.x C.b dX10_count_117 (by decide) ?_
    obtain ⟨q17, h_q17, hf⟩ := bd_e hf
    refine r_callS (As := [.ref (G.2.2 + (hpR h1 r0 6)), .int (24 : Int32)]) (rest := []) C hR hS mk_X10_sumOf cl_X10_305 (k_X10_sumOf tg15 h_q17) ⟨⟨Nat.le_of_ble_eq_true rfl, Nat.le_of_ble_eq_true rfl⟩, ⟨rfl, rfl⟩, Nat.le_of_ble_eq_true rfl, Nat.le_of_ble_eq_true rfl⟩ rfl hl.1 rfl (Nat.le_of_ble_eq_true rfl) dX10_count_119 (fun H locs hR hS hE1 z_q17 => ?_)
    have hf := so_e hf
    subst hf
    exact r_iret C hr hlk hR hE hS dX10_count_122
  have hf := it_f hf c18_6
  by_cases c18_7 : x1 = (7 : Int32)
  · have hf := it_t hf c18_7
    refine lv_tableIn (tgt := 123) C.x C.b dX10_count_6 (by rw [c18_7]; decide) (by rw [c18_7]; decide) (by rw [c18_7]; rfl) (by decide) ?_
    refine lv_aload_n C.x C.b dX10_count_123 rfl (lv_at hl 0 rfl) ?_
    refine r_geti C hR t_r0 fl_X10_197 rfl dX10_count_124 ?_
    have hf := so_e hf
    subst hf
    exact r_iret C hr hlk hR hE hS dX10_count_127
  have hf := it_f hf c18_7
  by_cases c18_8 : x1 = (8 : Int32)
  · have hf := it_t hf c18_8
    refine lv_tableIn (tgt := 128) C.x C.b dX10_count_6 (by rw [c18_8]; decide) (by rw [c18_8]; decide) (by rw [c18_8]; rfl) (by decide) ?_
    refine lv_aload_n C.x C.b dX10_count_128 rfl (lv_at hl 0 rfl) ?_
    refine r_geti C hR t_r0 fl_X10_422 rfl dX10_count_129 ?_
    have hf := so_e hf
    subst hf
    exact r_iret C hr hlk hR hE hS dX10_count_132
  have hf := it_f hf c18_8
  by_cases c18_9 : x1 = (9 : Int32)
  · have hf := it_t hf c18_9
    refine lv_tableIn (tgt := 133) C.x C.b dX10_count_6 (by rw [c18_9]; decide) (by rw [c18_9]; decide) (by rw [c18_9]; rfl) (by decide) ?_
    refine lv_aload_n C.x C.b dX10_count_133 rfl (lv_at hl 0 rfl) ?_
    refine r_geti C hR t_r0 fl_X10_191 rfl dX10_count_134 ?_
    have hf := so_e hf
    subst hf
    exact r_iret C hr hlk hR hE hS dX10_count_137
  have hf := it_f hf c18_9
  by_cases c18_10 : x1 = (10 : Int32)
  · have hf := it_t hf c18_10
    refine lv_tableIn (tgt := 138) C.x C.b dX10_count_6 (by rw [c18_10]; decide) (by rw [c18_10]; decide) (by rw [c18_10]; rfl) (by decide) ?_
    refine lv_aload_n C.x C.b dX10_count_138 rfl (lv_at hl 0 rfl) ?_
    refine r_geti C hR t_r0 fl_X10_110 rfl dX10_count_139 ?_
    have hf := so_e hf
    subst hf
    exact r_iret C hr hlk hR hE hS dX10_count_142
  have hf := it_f hf c18_10
  by_cases c18_11 : x1 = (11 : Int32)
  · have hf := it_t hf c18_11
    refine lv_tableIn (tgt := 143) C.x C.b dX10_count_6 (by rw [c18_11]; decide) (by rw [c18_11]; decide) (by rw [c18_11]; rfl) (by decide) ?_
    refine lv_aload_n C.x C.b dX10_count_143 rfl (lv_at hl 0 rfl) ?_
    refine r_geti C hR t_r0 fl_X10_145 rfl dX10_count_144 ?_
    have hf := so_e hf
    subst hf
    exact r_iret C hr hlk hR hE hS dX10_count_147
  have hf := it_f hf c18_11
  refine lv_tableOut (tgt := 148) C.x C.b dX10_count_6 (tb_out 12 (by decide) (fun j hj => match j, hj with | 0, _ => fun q => c18_0 (q.trans (by decide)) | 1, _ => fun q => c18_1 (q.trans (by decide)) | 2, _ => fun q => c18_2 (q.trans (by decide)) | 3, _ => fun q => c18_3 (q.trans (by decide)) | 4, _ => fun q => c18_4 (q.trans (by decide)) | 5, _ => fun q => c18_5 (q.trans (by decide)) | 6, _ => fun q => c18_6 (q.trans (by decide)) | 7, _ => fun q => c18_7 (q.trans (by decide)) | 8, _ => fun q => c18_8 (q.trans (by decide)) | 9, _ => fun q => c18_9 (q.trans (by decide)) | 10, _ => fun q => c18_10 (q.trans (by decide)) | 11, _ => fun q => c18_11 (q.trans (by decide)) | n + 12, hn => absurd hn (by omega))) (by decide) ?_
  refine lv_bipush (v := (-100 : Int32)) C.x C.b dX10_count_148 (by decide) ?_
  have hf := so_e hf
  subst hf
  exact r_iret C hr hlk hR hE hS dX10_count_150

def rm_X10_row : Room := { frames := 1, cells := 0, slots := 0, locals := 25 }
set_option maxRecDepth 100000 in
set_option maxHeartbeats 4000000 in
theorem k_X10_row {G : Gt} {l : Launch} {h : Hp} {r0 : Nat} {x1 : Int32} {out : (Int64 × Hp)} (t_r0 : hpT h r0 = (1, 10))  (hf : f_X10_row h r0 x1 = some out) : Mt G l yX10_row cX10_row 2 (some .long) rm_X10_row [.ref (G.2.2 + r0), .int x1] h (some (.long out.1)) out.2 0 0 0 := by
  refine r_met (by decide +kernel) (Nat.le_of_ble_eq_true rfl) ?_
  intro p e s m args below meth c ls C hr hlk hnm hR hS hl
  have hE : Ext h h := Ext.rf
  have hl : lv_has ls 2 [(0, .ref (G.2.2 + r0)), (1, .int x1)] := hl
  rw [f_X10_row] at hf
  refine lv_aload_n C.x C.b dX10_row_0 rfl (lv_at hl 0 rfl) ?_
  refine lv_iconst (v := (0 : Int32)) C.x C.b dX10_row_1 (by decide) ?_
  refine r_puti C hR hS t_r0 fl_X10_103 fp_X10_10_0 rfl dX10_row_2 (fun H locs hR hS => ?_)
  obtain ⟨h1, e_h1⟩ : ∃ y, y = upI h r0 0 (0 : Int32) := ⟨_, rfl⟩
  rw [← e_h1] at hR
  have hf := lt_e hf e_h1
  have hE := eI e_h1 hE
  have t_r0 := tI e_h1 t_r0
  refine lv_iload_n C.x C.b dX10_row_5 rfl (lv_at hl 1 rfl) ?_
  refine lv_i2l C.x C.b dX10_row_6 rfl ?_
  refine lv_lconst (v := (0 : Int64)) C.x C.b dX10_row_7 (by decide) ?_
  refine lv_aload_n C.x C.b dX10_row_8 rfl (lv_at hl 0 rfl) ?_
  refine r_geti C hR t_r0 fl_X10_110 rfl dX10_row_9 ?_
  refine lv_iconst (v := (1 : Int32)) C.x C.b dX10_row_12 (by decide) ?_
  refine lv_isub C.x C.b dX10_row_13 ?_
  refine lv_i2l C.x C.b dX10_row_14 rfl ?_
  obtain ⟨q2, h_q2, hf⟩ := bd_e hf
  refine r_callS (As := [.long (x1.toInt64), .long (0 : Int64), .long (((hpI h1 r0 1) - (1 : Int32)).toInt64)]) (rest := []) C hR hS mk_X10_in cl_X10_117 (k_X10_in h_q2) ⟨⟨Nat.le_of_ble_eq_true rfl, Nat.le_of_ble_eq_true rfl⟩, ⟨rfl, rfl⟩, Nat.le_of_ble_eq_true rfl, Nat.le_of_ble_eq_true rfl⟩ rfl hl.1 rfl (Nat.le_of_ble_eq_true rfl) dX10_row_15 (fun H locs hR hS hE1 z_q2 => ?_)
  have z_q2 := z_q2 _ rfl
  refine lv_if_ne (tgt := 28) C.x C.b dX10_row_18 (by decide) (fun c3 => ?_) (fun c3 => ?_)
  · have hf := it_f hf c3
    refine lv_aload_n C.x C.b dX10_row_28 rfl (lv_at hl 0 rfl) ?_
    obtain ⟨g4, hf⟩ := gd_e hf
    refine r_getr C hR t_r0 fl_X10_9 (by decide) (nz_e g4) dX10_row_29 (fun tq5 => ?_)
    have tg4 := okA tq5 rfl
    refine lv_iload_n C.x C.b dX10_row_32 rfl (lv_at hl 1 rfl) ?_
    obtain ⟨g6, hf⟩ := gd_e hf
    refine r_lald C hR tg4 g6 dX10_row_33 ?_
    have hf := so_e hf
    subst hf
    exact r_lret C hr hlk hR hE hS dX10_row_34
  · have hf := it_t hf c3
    refine lv_aload_n C.x C.b dX10_row_21 rfl (lv_at hl 0 rfl) ?_
    refine lv_iconst (v := (1 : Int32)) C.x C.b dX10_row_22 (by decide) ?_
    refine r_puti C hR hS t_r0 fl_X10_103 fp_X10_10_0 rfl dX10_row_23 (fun H locs hR hS => ?_)
    obtain ⟨h7, e_h7⟩ : ∃ y, y = upI h1 r0 0 (1 : Int32) := ⟨_, rfl⟩
    rw [← e_h7] at hR
    have hf := lt_e hf e_h7
    have hE := eI e_h7 hE
    have t_r0 := tI e_h7 t_r0
    refine lv_lconst (v := (0 : Int64)) C.x C.b dX10_row_26 (by decide) ?_
    have hf := so_e hf
    subst hf
    exact r_lret C hr hlk hR hE hS dX10_row_27

