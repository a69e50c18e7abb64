def rmS_A (d : Nat) : Room := { frames := 4 + d, cells := 0, slots := 0, locals := 64 + d * 23 }
set_option maxRecDepth 100000 in
set_option maxHeartbeats 4000000 in
theorem ko_X5_expression {G : Gt} {l : Launch} {d : Nat} {E_X5_sum : Hp → Nat → Int32 → Option (Int32 × Hp)} (hE_X5_sum : ∀ {h : Hp} {r0 : Nat} {x1 : Int32} {out : (Int32 × Hp)}, hpT h r0 = (1, 5) → E_X5_sum h r0 x1 = some out → Mt G l yX5_sum cX5_sum 4 (some .boolean) (rmS_A d) [.ref (G.2.2 + r0), .int x1] h (some (.int out.1)) out.2 1 0 0) {h : Hp} {r0 : Nat} {x1 : Int32} {out : (Int32 × Hp)} (t_r0 : hpT h r0 = (1, 5))  (hf : fo_X5_expression E_X5_sum h r0 x1 = some out) : Mt G l yX5_expression cX5_expression 3 (some .boolean) (rmS_A (d + 1)) [.ref (G.2.2 + r0), .int x1] h (some (.int out.1)) out.2 1 0 0 := by
  refine r_met (by decide +kernel) (Nat.le_of_ble_eq_true rfl) ?_
  intro p e s m args below meth c ls C hr hlk hnm hR hS hl
  have hE : Ext h h := Ext.rf
  have hl : lv_has ls 3 [(0, .ref (G.2.2 + r0)), (1, .int x1)] := hl
  rw [fo_X5_expression] at hf
  refine lv_aload_n C.x C.b dX5_expression_0 rfl (lv_at hl 0 rfl) ?_
  refine lv_iload_n C.x C.b dX5_expression_1 rfl (lv_at hl 1 rfl) ?_
  obtain ⟨q1, h_q1, hf⟩ := bd_e hf
  refine r_callV (As := [.int x1]) (rest := []) C hR hS t_r0 rfl mk_X5_sum cl_X5_57 (hE_X5_sum t_r0 h_q1) ⟨⟨by simp only [rmS_A, rmS_A] <;> omega, by simp only [rmS_A, rmS_A] <;> omega⟩, ⟨rfl, rfl⟩, by simp only [rmS_A] <;> omega, by simp only [rmS_A] <;> omega⟩ rfl hl.1 rfl (Nat.le_of_ble_eq_true rfl) dX5_expression_2 (fun H locs hR hS hE1 z_q1 => ?_)
  have hE := hE.tr hE1
  have t_r0 := hE1.at t_r0 (by decide)
  have z_q1 := z_q1 _ rfl
  refine lv_if_ne (tgt := 10) C.x C.b dX5_expression_5 (by decide) (fun c2 => ?_) (fun c2 => ?_)
  · have hf := it_f hf c2
    refine lv_aload_n C.x C.b dX5_expression_10 rfl (lv_at hl 0 rfl) ?_
    obtain ⟨q3, h_q3, hf⟩ := bd_e hf
    refine r_callV (As := []) (rest := []) C hR hS t_r0 rfl mk_X5_next cl_X5_60 (k_X5_next t_r0 h_q3) ⟨⟨by simp only [rm_X5_next, rmS_A] <;> omega, by simp only [rm_X5_next, rmS_A] <;> omega⟩, ⟨rfl, rfl⟩, by simp only [rmS_A] <;> omega, by simp only [rmS_A] <;> omega⟩ rfl hl.1 rfl (Nat.le_of_ble_eq_true rfl) dX5_expression_11 (fun H locs hR hS hE1 z_q3 => ?_)
    refine lv_istore_n (lv' := [(2, .int q3), (0, .ref (G.2.2 + r0)), (1, .int x1)]) C.x C.b dX5_expression_14 rfl hl (by decide) rfl (fun ls hl => ?_)
    refine lv_iload_n C.x C.b dX5_expression_15 rfl (lv_at hl 0 rfl) ?_
    obtain ⟨q4, h_q4, hf⟩ := bd_e hf
    refine r_callS (As := [.int q3]) (rest := []) C hR hS mk_X4_isComparison cl_X5_64 (k_X4_isComparison h_q4) ⟨⟨by simp only [rm_X4_isComparison, rmS_A] <;> omega, by simp only [rm_X4_isComparison, rmS_A] <;> omega⟩, ⟨rfl, rfl⟩, by simp only [rmS_A] <;> omega, by simp only [rmS_A] <;> omega⟩ rfl hl.1 rfl (Nat.le_of_ble_eq_true rfl) dX5_expression_16 (fun H locs hR hS hE1 z_q4 => ?_)
    have z_q4 := z_q4 _ rfl
    refine lv_if_ne (tgt := 24) C.x C.b dX5_expression_19 (by decide) (fun c5 => ?_) (fun c5 => ?_)
    · have hf := it_f hf c5
      refine lv_aload_n C.x C.b dX5_expression_24 rfl (lv_at hl 1 rfl) ?_
      refine lv_dup C.x C.b dX5_expression_25 rfl ?_
      refine r_geti C hR t_r0 fl_X5_19 rfl dX5_expression_26 ?_
      refine lv_iconst (v := (1 : Int32)) C.x C.b dX5_expression_29 (by decide) ?_
      refine lv_iadd C.x C.b dX5_expression_30 ?_
      refine r_puti C hR hS t_r0 fl_X5_19 fp_X5_5_2 rfl dX5_expression_31 (fun H locs hR hS => ?_)
      obtain ⟨h6, e_h6⟩ : ∃ y, y = upI q1.2 r0 2 ((hpI q1.2 r0 2) + (1 : Int32)) := ⟨_, rfl⟩
      rw [← e_h6] at hR
      have hf := lt_e hf e_h6
      have hE := eI e_h6 hE
      have t_r0 := tI e_h6 t_r0
      refine lv_aload_n C.x C.b dX5_expression_34 rfl (lv_at hl 1 rfl) ?_
      refine lv_iload_n C.x C.b dX5_expression_35 rfl (lv_at hl 2 rfl) ?_
      obtain ⟨q7, h_q7, hf⟩ := bd_e hf
      refine r_callV (As := [.int x1]) (rest := []) C hR hS t_r0 rfl mk_X5_sum cl_X5_57 (hE_X5_sum t_r0 h_q7) ⟨⟨by simp only [rmS_A, rmS_A] <;> omega, by simp only [rmS_A, rmS_A] <;> omega⟩, ⟨rfl, rfl⟩, by simp only [rmS_A] <;> omega, by simp only [rmS_A] <;> omega⟩ rfl hl.1 rfl (Nat.le_of_ble_eq_true rfl) dX5_expression_36 (fun H locs hR hS hE1 z_q7 => ?_)
      have hE := hE.tr hE1
      have t_r0 := hE1.at t_r0 (by decide)
      have z_q7 := z_q7 _ rfl
      refine lv_if_ne (tgt := 44) C.x C.b dX5_expression_39 (by decide) (fun c8 => ?_) (fun c8 => ?_)
      · have hf := it_f hf c8
        refine lv_aload_n C.x C.b dX5_expression_44 rfl (lv_at hl 1 rfl) ?_
        refine lv_iload_n C.x C.b dX5_expression_45 rfl (lv_at hl 0 rfl) ?_
        obtain ⟨q9, h_q9, hf⟩ := bd_e hf
        refine r_callV (As := [.int q3]) (rest := []) C hR hS t_r0 rfl mk_X5_write cl_X5_67 (k_X5_write t_r0 h_q9) ⟨⟨by simp only [rm_X5_write, rmS_A] <;> omega, by simp only [rm_X5_write, rmS_A] <;> omega⟩, ⟨rfl, rfl⟩, by simp only [rmS_A] <;> omega, by simp only [rmS_A] <;> omega⟩ rfl hl.1 rfl (Nat.le_of_ble_eq_true rfl) dX5_expression_46 (fun H locs hR hS hE1 z_q9 => ?_)
        have hE := hE.tr hE1
        have t_r0 := hE1.at t_r0 (by decide)
        refine lv_iconst (v := (1 : Int32)) C.x C.b dX5_expression_49 (by decide) ?_
        have hf := so_e hf
        subst hf
        exact r_zret C hr hlk hR hE hS z_1 dX5_expression_50
      · have hf := it_t hf c8
        refine lv_iconst (v := (0 : Int32)) C.x C.b dX5_expression_42 (by decide) ?_
        have hf := so_e hf
        subst hf
        exact r_zret C hr hlk hR hE hS z_0 dX5_expression_43
    · have hf := it_t hf c5
      refine lv_iconst (v := (1 : Int32)) C.x C.b dX5_expression_22 (by decide) ?_
      have hf := so_e hf
      subst hf
      exact r_zret C hr hlk hR hE hS z_1 dX5_expression_23
  · have hf := it_t hf c2
    refine lv_iconst (v := (0 : Int32)) C.x C.b dX5_expression_8 (by decide) ?_
    have hf := so_e hf
    subst hf
    exact r_zret C hr hlk hR hE hS z_0 dX5_expression_9

def P_X5_sum_36 (d : Nat) (G : Gt) (l : Launch) (p : Program) (e : Env) (s : State) (m : MethodId) (args : Array Value) (below : List Frame) (meth : Method) (c : Code) (h0 : Hp) (out : (Int32 × Hp)) (r0 : Nat) (x1 : Int32) (k : Hp → Int32 → Option (Int32 × Hp)) : Prop := ∀ (H : Heap) (locs : List Loc) (ls : Array Slot) (h : Hp) (x2 : Int32), k h x2 = some out → Ext h0 h → Rel G h H → va_S (AA G.2.2) s.heap H locs → hpT h r0 = (1, 5) → lv_has ls 4 [(0, .ref (G.2.2 + r0)), (1, .int x1), (2, .int x2)] → W p l e (rmS_A (d + 1)) s m args below meth c H locs 0 0 (MQ below (Qm G h0 out.2 (some (.int out.1)) 1) args s 0 0 (AA G.2.2)) (F0 m 36 ls [])
def P_X5_sum_12 (d : Nat) (G : Gt) (l : Launch) (p : Program) (e : Env) (s : State) (m : MethodId) (args : Array Value) (below : List Frame) (meth : Method) (c : Code) (h0 : Hp) (out : (Int32 × Hp)) (r0 : Nat) (x1 : Int32) (k : Hp → Int32 → Option (Int32 × Hp)) : Prop := ∀ (H : Heap) (locs : List Loc) (ls : Array Slot) (h : Hp) (x2 : Int32), k h x2 = some out → Ext h0 h → Rel G h H → va_S (AA G.2.2) s.heap H locs → hpT h r0 = (1, 5) → lv_has ls 4 [(0, .ref (G.2.2 + r0)), (1, .int x1), (2, .int x2)] → W p l e (rmS_A (d + 1)) s m args below meth c H locs 0 0 (MQ below (Qm G h0 out.2 (some (.int out.1)) 1) args s 0 0 (AA G.2.2)) (F0 m 12 ls [])
set_option maxRecDepth 100000 in
set_option maxHeartbeats 4000000 in
theorem w_X5_sum_36 {d : Nat} {G : Gt} {l : Launch} {p : Program} {e : Env} {s : State} {m : MethodId} {args : Array Value} {below : List Frame} {meth : Method} {c : Code} {E_X5_product : Hp → Nat → Int32 → Option (Int32 × Hp)} {h0 : Hp} {out : (Int32 × Hp)} {r0 : Nat} {x1 : Int32} {k12 : Hp → Int32 → Option (Int32 × Hp)} (C : Cx G p m c cX5_sum 4 s args RX5) (hr : meth.sig.returnType = some .boolean) (hlk : meth.locks = false) (hE_X5_product : ∀ {h : Hp} {r0 : Nat} {x1 : Int32} {out : (Int32 × Hp)}, hpT h r0 = (1, 5) → E_X5_product h r0 x1 = some out → Mt G l yX5_product cX5_product 4 (some .boolean) (rmS_A d) [.ref (G.2.2 + r0), .int x1] h (some (.int out.1)) out.2 1 0 0) (hk12 : P_X5_sum_12 d G l p e s m args below meth c h0 out r0 x1 k12) : P_X5_sum_36 d G l p e s m args below meth c h0 out r0 x1 (fo_X5_sum_36 E_X5_product r0 x1 k12) := by
  intro H locs ls h x2 hf hE hR hS t_r0 hl
  rw [fo_X5_sum_36] at hf
  refine lv_aload_n C.x C.b dX5_sum_36 rfl (lv_at hl 0 rfl) ?_
  obtain ⟨q8, h_q8, hf⟩ := bd_e hf
  refine r_callV (As := []) (rest := []) C hR hS t_r0 rfl mk_X5_next cl_X5_60 (k_X5_next t_r0 h_q8) ⟨⟨by simp only [rm_X5_next, rmS_A] <;> omega, by simp only [rm_X5_next, rmS_A] <;> omega⟩, ⟨rfl, rfl⟩, by simp only [rmS_A] <;> omega, by simp only [rmS_A] <;> omega⟩ rfl hl.1 rfl (Nat.le_of_ble_eq_true rfl) dX5_sum_37 (fun H locs hR hS hE1 z_q8 => ?_)
  refine lv_istore_n (lv' := [(3, .int q8), (0, .ref (G.2.2 + r0)), (1, .int x1), (2, .int x2)]) C.x C.b dX5_sum_40 rfl hl (by decide) rfl (fun ls hl => ?_)
  refine lv_aload_n C.x C.b dX5_sum_41 rfl (lv_at hl 1 rfl) ?_
  refine lv_dup C.x C.b dX5_sum_42 rfl ?_
  refine r_geti C hR t_r0 fl_X5_19 rfl dX5_sum_43 ?_
  refine lv_iconst (v := (1 : Int32)) C.x C.b dX5_sum_46 (by decide) ?_
  refine lv_iadd C.x C.b dX5_sum_47 ?_
  refine r_puti C hR hS t_r0 fl_X5_19 fp_X5_5_2 rfl dX5_sum_48 (fun H locs hR hS => ?_)
  obtain ⟨h9, e_h9⟩ : ∃ y, y = upI h r0 2 ((hpI h r0 2) + (1 : Int32)) := ⟨_, rfl⟩
  rw [← e_h9] at hR
  have hf := lt_e hf e_h9
  have hE := eI e_h9 hE
  have t_r0 := tI e_h9 t_r0
  refine lv_aload_n C.x C.b dX5_sum_51 rfl (lv_at hl 1 rfl) ?_
  refine lv_iload_n C.x C.b dX5_sum_52 rfl (lv_at hl 2 rfl) ?_
  obtain ⟨q10, h_q10, hf⟩ := bd_e hf
  refine r_callV (As := [.int x1]) (rest := []) C hR hS t_r0 rfl mk_X5_product cl_X5_70 (hE_X5_product t_r0 h_q10) ⟨⟨by simp only [rmS_A, rmS_A] <;> omega, by simp only [rmS_A, rmS_A] <;> omega⟩, ⟨rfl, rfl⟩, by simp only [rmS_A] <;> omega, by simp only [rmS_A] <;> omega⟩ rfl hl.1 rfl (Nat.le_of_ble_eq_true rfl) dX5_sum_53 (fun H locs hR hS hE1 z_q10 => ?_)
  have hE := hE.tr hE1
  have t_r0 := hE1.at t_r0 (by decide)
  have z_q10 := z_q10 _ rfl
  refine lv_if_ne (tgt := 61) C.x C.b dX5_sum_56 (by decide) (fun c11 => ?_) (fun c11 => ?_)
  · have hf := it_f hf c11
    refine lv_aload_n C.x C.b dX5_sum_61 rfl (lv_at hl 1 rfl) ?_
    refine lv_iload_n C.x C.b dX5_sum_62 rfl (lv_at hl 0 rfl) ?_
    obtain ⟨q12, h_q12, hf⟩ := bd_e hf
    refine r_callV (As := [.int q8]) (rest := []) C hR hS t_r0 rfl mk_X5_write cl_X5_67 (k_X5_write t_r0 h_q12) ⟨⟨by simp only [rm_X5_write, rmS_A] <;> omega, by simp only [rm_X5_write, rmS_A] <;> omega⟩, ⟨rfl, rfl⟩, by simp only [rmS_A] <;> omega, by simp only [rmS_A] <;> omega⟩ rfl hl.1 rfl (Nat.le_of_ble_eq_true rfl) dX5_sum_63 (fun H locs hR hS hE1 z_q12 => ?_)
    have hE := hE.tr hE1
    have t_r0 := hE1.at t_r0 (by decide)
    obtain ⟨v13, e_v13⟩ : ∃ y : Int32, y = x2 + (1 : Int32) := ⟨_, rfl⟩
    have hf := lt_e hf e_v13
    refine lv_iinc (v := v13) (lv' := [(2, .int v13), (3, .int q8), (0, .ref (G.2.2 + r0)), (1, .int x1)]) C.x C.b dX5_sum_66 hl (k := 3) rfl (by rw [e_v13]; rfl) (by decide) rfl (fun ls hl => ?_)
    refine lv_goto (tgt := 12) C.x C.b dX5_sum_69 (by decide) ?_
    exact hk12 _ _ _ _ _ hf hE hR hS t_r0 (lv_sub hl [2, 3, 0] rfl)
  · have hf := it_t hf c11
    refine lv_iconst (v := (0 : Int32)) C.x C.b dX5_sum_59 (by decide) ?_
    have hf := so_e hf
    subst hf
    exact r_zret C hr hlk hR hE hS z_0 dX5_sum_60
set_option maxRecDepth 100000 in
set_option maxHeartbeats 4000000 in
theorem w_X5_sum_12 {d : Nat} {G : Gt} {l : Launch} {p : Program} {e : Env} {s : State} {m : MethodId} {args : Array Value} {below : List Frame} {meth : Method} {c : Code} {E_X5_product : Hp → Nat → Int32 → Option (Int32 × Hp)} {h0 : Hp} {out : (Int32 × Hp)} {r0 : Nat} {x1 : Int32}  (C : Cx G p m c cX5_sum 4 s args RX5) (hr : meth.sig.returnType = some .boolean) (hlk : meth.locks = false) (hE_X5_product : ∀ {h : Hp} {r0 : Nat} {x1 : Int32} {out : (Int32 × Hp)}, hpT h r0 = (1, 5) → E_X5_product h r0 x1 = some out → Mt G l yX5_product cX5_product 4 (some .boolean) (rmS_A d) [.ref (G.2.2 + r0), .int x1] h (some (.int out.1)) out.2 1 0 0)  (n : Nat) : P_X5_sum_12 d G l p e s m args below meth c h0 out r0 x1 (fo_X5_sum_12 E_X5_product r0 x1 n) := by
  induction n with
  | zero => intro H locs ls h x2 hf hE hR hS t_r0 hl; cases hf
  | succ n hk12 =>
    intro H locs ls h x2 hf hE hR hS t_r0 hl
    rw [fo_X5_sum_12] at hf
    obtain ⟨k12, e_k12⟩ : ∃ y, y = fo_X5_sum_12 E_X5_product r0 x1 n := ⟨_, rfl⟩
    have hf := lt_e hf e_k12
    rw [← e_k12] at hk12
    refine lv_iload_n C.x C.b dX5_sum_12 rfl (lv_at hl 2 rfl) ?_
    refine lv_bipush (v := (40 : Int32)) C.x C.b dX5_sum_13 (by decide) ?_
    refine lv_icmp_ge (tgt := 72) C.x C.b dX5_sum_15 (by decide) (fun c3 => ?_) (fun c3 => ?_)
    · have hf := it_t hf c3
      refine lv_iconst (v := (1 : Int32)) C.x C.b dX5_sum_72 (by decide) ?_
      have hf := so_e hf
      subst hf
      exact r_zret C hr hlk hR hE hS z_1 dX5_sum_73
    · have hf := it_f hf c3
      refine lv_aload_n C.x C.b dX5_sum_18 rfl (lv_at hl 0 rfl) ?_
      obtain ⟨q4, h_q4, hf⟩ := bd_e hf
      refine r_callV (As := []) (rest := []) C hR hS t_r0 rfl mk_X5_next cl_X5_60 (k_X5_next t_r0 h_q4) ⟨⟨by simp only [rm_X5_next, rmS_A] <;> omega, by simp only [rm_X5_next, rmS_A] <;> omega⟩, ⟨rfl, rfl⟩, by simp only [rmS_A] <;> omega, by simp only [rmS_A] <;> omega⟩ rfl hl.1 rfl (Nat.le_of_ble_eq_true rfl) dX5_sum_19 (fun H locs hR hS hE1 z_q4 => ?_)
      refine lv_bipush (v := (43 : Int32)) C.x C.b dX5_sum_22 (by decide) ?_
      refine lv_icmp_eq (tgt := 36) C.x C.b dX5_sum_24 (by decide) (fun c5 => ?_) (fun c5 => ?_)
      · have hf := it_t hf c5
        exact w_X5_sum_36 C hr hlk hE_X5_product hk12 _ _ _ _ _ hf hE hR hS t_r0 (lv_sub hl [0, 1, 2] rfl)
      · have hf := it_f hf c5
        refine lv_aload_n C.x C.b dX5_sum_27 rfl (lv_at hl 0 rfl) ?_
        obtain ⟨q6, h_q6, hf⟩ := bd_e hf
        refine r_callV (As := []) (rest := []) C hR hS t_r0 rfl mk_X5_next cl_X5_60 (k_X5_next t_r0 h_q6) ⟨⟨by simp only [rm_X5_next, rmS_A] <;> omega, by simp only [rm_X5_next, rmS_A] <;> omega⟩, ⟨rfl, rfl⟩, by simp only [rmS_A] <;> omega, by simp only [rmS_A] <;> omega⟩ rfl hl.1 rfl (Nat.le_of_ble_eq_true rfl) dX5_sum_28 (fun H locs hR hS hE1 z_q6 => ?_)
        refine lv_bipush (v := (45 : Int32)) C.x C.b dX5_sum_31 (by decide) ?_
        refine lv_icmp_ne (tgt := 72) C.x C.b dX5_sum_33 (by decide) (fun c7 => ?_) (fun c7 => ?_)
        · have hf := it_f hf c7
          refine lv_iconst (v := (1 : Int32)) C.x C.b dX5_sum_72 (by decide) ?_
          have hf := so_e hf
          subst hf
          exact r_zret C hr hlk hR hE hS z_1 dX5_sum_73
        · have hf := it_t hf c7
          exact w_X5_sum_36 C hr hlk hE_X5_product hk12 _ _ _ _ _ hf hE hR hS t_r0 (lv_sub hl [0, 1, 2] rfl)
set_option maxRecDepth 100000 in
set_option maxHeartbeats 4000000 in
theorem ko_X5_sum {G : Gt} {l : Launch} {d : Nat} {E_X5_product : Hp → Nat → Int32 → Option (Int32 × Hp)} (hE_X5_product : ∀ {h : Hp} {r0 : Nat} {x1 : Int32} {out : (Int32 × Hp)}, hpT h r0 = (1, 5) → E_X5_product h r0 x1 = some out → Mt G l yX5_product cX5_product 4 (some .boolean) (rmS_A d) [.ref (G.2.2 + r0), .int x1] h (some (.int out.1)) out.2 1 0 0) {h : Hp} {r0 : Nat} {x1 : Int32} {out : (Int32 × Hp)} (t_r0 : hpT h r0 = (1, 5))  (hf : fo_X5_sum E_X5_product h r0 x1 = some out) : Mt G l yX5_sum cX5_sum 4 (some .boolean) (rmS_A (d + 1)) [.ref (G.2.2 + r0), .int x1] h (some (.int out.1)) out.2 1 0 0 := by
  refine r_met (by decide +kernel) (Nat.le_of_ble_eq_true rfl) ?_
  intro p e s m args below meth c ls C hr hlk hnm hR hS hl
  have hE : Ext h h := Ext.rf
  have hl : lv_has ls 4 [(0, .ref (G.2.2 + r0)), (1, .int x1)] := hl
  rw [fo_X5_sum] at hf
  refine lv_aload_n C.x C.b dX5_sum_0 rfl (lv_at hl 0 rfl) ?_
  refine lv_iload_n C.x C.b dX5_sum_1 rfl (lv_at hl 1 rfl) ?_
  obtain ⟨q1, h_q1, hf⟩ := bd_e hf
  refine r_callV (As := [.int x1]) (rest := []) C hR hS t_r0 rfl mk_X5_product cl_X5_70 (hE_X5_product t_r0 h_q1) ⟨⟨by simp only [rmS_A, rmS_A] <;> omega, by simp only [rmS_A, rmS_A] <;> omega⟩, ⟨rfl, rfl⟩, by simp only [rmS_A] <;> omega, by simp only [rmS_A] <;> omega⟩ rfl hl.1 rfl (Nat.le_of_ble_eq_true rfl) dX5_sum_2 (fun H locs hR hS hE1 z_q1 => ?_)
  have hE := hE.tr hE1
  have t_r0 := hE1.at t_r0 (by decide)
  have z_q1 := z_q1 _ rfl
  refine lv_if_ne (tgt := 10) C.x C.b dX5_sum_5 (by decide) (fun c2 => ?_) (fun c2 => ?_)
  · have hf := it_f hf c2
    refine lv_iconst (v := (0 : Int32)) C.x C.b dX5_sum_10 (by decide) ?_
    refine lv_istore_n (lv' := [(2, .int (0 : Int32)), (0, .ref (G.2.2 + r0)), (1, .int x1)]) C.x C.b dX5_sum_11 rfl hl (by decide) rfl (fun ls hl => ?_)
    exact w_X5_sum_12 C hr hlk hE_X5_product FU _ _ _ _ _ hf hE hR hS t_r0 (lv_sub hl [1, 2, 0] rfl)
  · have hf := it_t hf c2
    refine lv_iconst (v := (0 : Int32)) C.x C.b dX5_sum_8 (by decide) ?_
    have hf := so_e hf
    subst hf
    exact r_zret C hr hlk hR hE hS z_0 dX5_sum_9

def P_X5_product_36 (d : Nat) (G : Gt) (l : Launch) (p : Program) (e : Env) (s : State) (m : MethodId) (args : Array Value) (below : List Frame) (meth : Method) (c : Code) (h0 : Hp) (out : (Int32 × Hp)) (r0 : Nat) (x1 : Int32) (k : Hp → Int32 → Option (Int32 × Hp)) : Prop := ∀ (H : Heap) (locs : List Loc) (ls : Array Slot) (h : Hp) (x2 : Int32), k h x2 = some out → Ext h0 h → Rel G h H → va_S (AA G.2.2) s.heap H locs → hpT h r0 = (1, 5) → lv_has ls 4 [(0, .ref (G.2.2 + r0)), (1, .int x1), (2, .int x2)] → W p l e (rmS_A (d + 1)) s m args below meth c H locs 0 0 (MQ below (Qm G h0 out.2 (some (.int out.1)) 1) args s 0 0 (AA G.2.2)) (F0 m 36 ls [])
def P_X5_product_12 (d : Nat) (G : Gt) (l : Launch) (p : Program) (e : Env) (s : State) (m : MethodId) (args : Array Value) (below : List Frame) (meth : Method) (c : Code) (h0 : Hp) (out : (Int32 × Hp)) (r0 : Nat) (x1 : Int32) (k : Hp → Int32 → Option (Int32 × Hp)) : Prop := ∀ (H : Heap) (locs : List Loc) (ls : Array Slot) (h : Hp) (x2 : Int32), k h x2 = some out → Ext h0 h → Rel G h H → va_S (AA G.2.2) s.heap H locs → hpT h r0 = (1, 5) → lv_has ls 4 [(0, .ref (G.2.2 + r0)), (1, .int x1), (2, .int x2)] → W p l e (rmS_A (d + 1)) s m args below meth c H locs 0 0 (MQ below (Qm G h0 out.2 (some (.int out.1)) 1) args s 0 0 (AA G.2.2)) (F0 m 12 ls [])
set_option maxRecDepth 100000 in
set_option maxHeartbeats 4000000 in
theorem w_X5_product_36 {d : Nat} {G : Gt} {l : Launch} {p : Program} {e : Env} {s : State} {m : MethodId} {args : Array Value} {below : List Frame} {meth : Method} {c : Code} {E_X5_signedThing : Hp → Nat → Int32 → Option (Int32 × Hp)} {h0 : Hp} {out : (Int32 × Hp)} {r0 : Nat} {x1 : Int32} {k12 : Hp → Int32 → Option (Int32 × Hp)} (C : Cx G p m c cX5_product 4 s args RX5) (hr : meth.sig.returnType = some .boolean) (hlk : meth.locks = false) (hE_X5_signedThing : ∀ {h : Hp} {r0 : Nat} {x1 : Int32} {out : (Int32 × Hp)}, hpT h r0 = (1, 5) → E_X5_signedThing h r0 x1 = some out → Mt G l yX5_signedThing cX5_signedThing 4 (some .boolean) (rmS_A d) [.ref (G.2.2 + r0), .int x1] h (some (.int out.1)) out.2 1 0 0) (hk12 : P_X5_product_12 d G l p e s m args below meth c h0 out r0 x1 k12) : P_X5_product_36 d G l p e s m args below meth c h0 out r0 x1 (fo_X5_product_36 E_X5_signedThing r0 x1 k12) := by
  intro H locs ls h x2 hf hE hR hS t_r0 hl
  rw [fo_X5_product_36] at hf
  refine lv_aload_n C.x C.b dX5_product_36 rfl (lv_at hl 0 rfl) ?_
  obtain ⟨q8, h_q8, hf⟩ := bd_e hf
  refine r_callV (As := []) (rest := []) C hR hS t_r0 rfl mk_X5_next cl_X5_60 (k_X5_next t_r0 h_q8) ⟨⟨by simp only [rm_X5_next, rmS_A] <;> omega, by simp only [rm_X5_next, rmS_A] <;> omega⟩, ⟨rfl, rfl⟩, by simp only [rmS_A] <;> omega, by simp only [rmS_A] <;> omega⟩ rfl hl.1 rfl (Nat.le_of_ble_eq_true rfl) dX5_product_37 (fun H locs hR hS hE1 z_q8 => ?_)
  refine lv_istore_n (lv' := [(3, .int q8), (0, .ref (G.2.2 + r0)), (1, .int x1), (2, .int x2)]) C.x C.b dX5_product_40 rfl hl (by decide) rfl (fun ls hl => ?_)
  refine lv_aload_n C.x C.b dX5_product_41 rfl (lv_at hl 1 rfl) ?_
  refine lv_dup C.x C.b dX5_product_42 rfl ?_
  refine r_geti C hR t_r0 fl_X5_19 rfl dX5_product_43 ?_
  refine lv_iconst (v := (1 : Int32)) C.x C.b dX5_product_46 (by decide) ?_
  refine lv_iadd C.x C.b dX5_product_47 ?_
  refine r_puti C hR hS t_r0 fl_X5_19 fp_X5_5_2 rfl dX5_product_48 (fun H locs hR hS => ?_)
  obtain ⟨h9, e_h9⟩ : ∃ y, y = upI h r0 2 ((hpI h r0 2) + (1 : Int32)) := ⟨_, rfl⟩
  rw [← e_h9] at hR
  have hf := lt_e hf e_h9
  have hE := eI e_h9 hE
  have t_r0 := tI e_h9 t_r0
  refine lv_aload_n C.x C.b dX5_product_51 rfl (lv_at hl 1 rfl) ?_
  refine lv_iload_n C.x C.b dX5_product_52 rfl (lv_at hl 2 rfl) ?_
  obtain ⟨q10, h_q10, hf⟩ := bd_e hf
  refine r_callV (As := [.int x1]) (rest := []) C hR hS t_r0 rfl mk_X5_signedThing cl_X5_73 (hE_X5_signedThing t_r0 h_q10) ⟨⟨by simp only [rmS_A, rmS_A] <;> omega, by simp only [rmS_A, rmS_A] <;> omega⟩, ⟨rfl, rfl⟩, by simp only [rmS_A] <;> omega, by simp only [rmS_A] <;> omega⟩ rfl hl.1 rfl (Nat.le_of_ble_eq_true rfl) dX5_product_53 (fun H locs hR hS hE1 z_q10 => ?_)
  have hE := hE.tr hE1
  have t_r0 := hE1.at t_r0 (by decide)
  have z_q10 := z_q10 _ rfl
  refine lv_if_ne (tgt := 61) C.x C.b dX5_product_56 (by decide) (fun c11 => ?_) (fun c11 => ?_)
  · have hf := it_f hf c11
    refine lv_aload_n C.x C.b dX5_product_61 rfl (lv_at hl 1 rfl) ?_
    refine lv_iload_n C.x C.b dX5_product_62 rfl (lv_at hl 0 rfl) ?_
    obtain ⟨q12, h_q12, hf⟩ := bd_e hf
    refine r_callV (As := [.int q8]) (rest := []) C hR hS t_r0 rfl mk_X5_write cl_X5_67 (k_X5_write t_r0 h_q12) ⟨⟨by simp only [rm_X5_write, rmS_A] <;> omega, by simp only [rm_X5_write, rmS_A] <;> omega⟩, ⟨rfl, rfl⟩, by simp only [rmS_A] <;> omega, by simp only [rmS_A] <;> omega⟩ rfl hl.1 rfl (Nat.le_of_ble_eq_true rfl) dX5_product_63 (fun H locs hR hS hE1 z_q12 => ?_)
    have hE := hE.tr hE1
    have t_r0 := hE1.at t_r0 (by decide)
    obtain ⟨v13, e_v13⟩ : ∃ y : Int32, y = x2 + (1 : Int32) := ⟨_, rfl⟩
    have hf := lt_e hf e_v13
    refine lv_iinc (v := v13) (lv' := [(2, .int v13), (3, .int q8), (0, .ref (G.2.2 + r0)), (1, .int x1)]) C.x C.b dX5_product_66 hl (k := 3) rfl (by rw [e_v13]; rfl) (by decide) rfl (fun ls hl => ?_)
    refine lv_goto (tgt := 12) C.x C.b dX5_product_69 (by decide) ?_
    exact hk12 _ _ _ _ _ hf hE hR hS t_r0 (lv_sub hl [2, 3, 0] rfl)
  · have hf := it_t hf c11
    refine lv_iconst (v := (0 : Int32)) C.x C.b dX5_product_59 (by decide) ?_
    have hf := so_e hf
    subst hf
    exact r_zret C hr hlk hR hE hS z_0 dX5_product_60
set_option maxRecDepth 100000 in
set_option maxHeartbeats 4000000 in
theorem w_X5_product_12 {d : Nat} {G : Gt} {l : Launch} {p : Program} {e : Env} {s : State} {m : MethodId} {args : Array Value} {below : List Frame} {meth : Method} {c : Code} {E_X5_signedThing : Hp → Nat → Int32 → Option (Int32 × Hp)} {h0 : Hp} {out : (Int32 × Hp)} {r0 : Nat} {x1 : Int32}  (C : Cx G p m c cX5_product 4 s args RX5) (hr : meth.sig.returnType = some .boolean) (hlk : meth.locks = false) (hE_X5_signedThing : ∀ {h : Hp} {r0 : Nat} {x1 : Int32} {out : (Int32 × Hp)}, hpT h r0 = (1, 5) → E_X5_signedThing h r0 x1 = some out → Mt G l yX5_signedThing cX5_signedThing 4 (some .boolean) (rmS_A d) [.ref (G.2.2 + r0), .int x1] h (some (.int out.1)) out.2 1 0 0)  (n : Nat) : P_X5_product_12 d G l p e s m args below meth c h0 out r0 x1 (fo_X5_product_12 E_X5_signedThing r0 x1 n) := by
  induction n with
  | zero => intro H locs ls h x2 hf hE hR hS t_r0 hl; cases hf
  | succ n hk12 =>
    intro H locs ls h x2 hf hE hR hS t_r0 hl
    rw [fo_X5_product_12] at hf
    obtain ⟨k12, e_k12⟩ : ∃ y, y = fo_X5_product_12 E_X5_signedThing r0 x1 n := ⟨_, rfl⟩
    have hf := lt_e hf e_k12
    rw [← e_k12] at hk12
    refine lv_iload_n C.x C.b dX5_product_12 rfl (lv_at hl 2 rfl) ?_
    refine lv_bipush (v := (40 : Int32)) C.x C.b dX5_product_13 (by decide) ?_
    refine lv_icmp_ge (tgt := 72) C.x C.b dX5_product_15 (by decide) (fun c3 => ?_) (fun c3 => ?_)
    · have hf := it_t hf c3
      refine lv_iconst (v := (1 : Int32)) C.x C.b dX5_product_72 (by decide) ?_
      have hf := so_e hf
      subst hf
      exact r_zret C hr hlk hR hE hS z_1 dX5_product_73
    · have hf := it_f hf c3
      refine lv_aload_n C.x C.b dX5_product_18 rfl (lv_at hl 0 rfl) ?_
      obtain ⟨q4, h_q4, hf⟩ := bd_e hf
      refine r_callV (As := []) (rest := []) C hR hS t_r0 rfl mk_X5_next cl_X5_60 (k_X5_next t_r0 h_q4) ⟨⟨by simp only [rm_X5_next, rmS_A] <;> omega, by simp only [rm_X5_next, rmS_A] <;> omega⟩, ⟨rfl, rfl⟩, by simp only [rmS_A] <;> omega, by simp only [rmS_A] <;> omega⟩ rfl hl.1 rfl (Nat.le_of_ble_eq_true rfl) dX5_product_19 (fun H locs hR hS hE1 z_q4 => ?_)
      refine lv_bipush (v := (42 : Int32)) C.x C.b dX5_product_22 (by decide) ?_
      refine lv_icmp_eq (tgt := 36) C.x C.b dX5_product_24 (by decide) (fun c5 => ?_) (fun c5 => ?_)
      · have hf := it_t hf c5
        exact w_X5_product_36 C hr hlk hE_X5_signedThing hk12 _ _ _ _ _ hf hE hR hS t_r0 (lv_sub hl [0, 1, 2] rfl)
      · have hf := it_f hf c5
        refine lv_aload_n C.x C.b dX5_product_27 rfl (lv_at hl 0 rfl) ?_
        obtain ⟨q6, h_q6, hf⟩ := bd_e hf
        refine r_callV (As := []) (rest := []) C hR hS t_r0 rfl mk_X5_next cl_X5_60 (k_X5_next t_r0 h_q6) ⟨⟨by simp only [rm_X5_next, rmS_A] <;> omega, by simp only [rm_X5_next, rmS_A] <;> omega⟩, ⟨rfl, rfl⟩, by simp only [rmS_A] <;> omega, by simp only [rmS_A] <;> omega⟩ rfl hl.1 rfl (Nat.le_of_ble_eq_true rfl) dX5_product_28 (fun H locs hR hS hE1 z_q6 => ?_)
        refine lv_bipush (v := (47 : Int32)) C.x C.b dX5_product_31 (by decide) ?_
        refine lv_icmp_ne (tgt := 72) C.x C.b dX5_product_33 (by decide) (fun c7 => ?_) (fun c7 => ?_)
        · have hf := it_f hf c7
          refine lv_iconst (v := (1 : Int32)) C.x C.b dX5_product_72 (by decide) ?_
          have hf := so_e hf
          subst hf
          exact r_zret C hr hlk hR hE hS z_1 dX5_product_73
        · have hf := it_t hf c7
          exact w_X5_product_36 C hr hlk hE_X5_signedThing hk12 _ _ _ _ _ hf hE hR hS t_r0 (lv_sub hl [0, 1, 2] rfl)
set_option maxRecDepth 100000 in
set_option maxHeartbeats 4000000 in
theorem ko_X5_product {G : Gt} {l : Launch} {d : Nat} {E_X5_signedThing : Hp → Nat → Int32 → Option (Int32 × Hp)} (hE_X5_signedThing : ∀ {h : Hp} {r0 : Nat} {x1 : Int32} {out : (Int32 × Hp)}, hpT h r0 = (1, 5) → E_X5_signedThing h r0 x1 = some out → Mt G l yX5_signedThing cX5_signedThing 4 (some .boolean) (rmS_A d) [.ref (G.2.2 + r0), .int x1] h (some (.int out.1)) out.2 1 0 0) {h : Hp} {r0 : Nat} {x1 : Int32} {out : (Int32 × Hp)} (t_r0 : hpT h r0 = (1, 5))  (hf : fo_X5_product E_X5_signedThing h r0 x1 = some out) : Mt G l yX5_product cX5_product 4 (some .boolean) (rmS_A (d + 1)) [.ref (G.2.2 + r0), .int x1] h (some (.int out.1)) out.2 1 0 0 := by
  refine r_met (by decide +kernel) (Nat.le_of_ble_eq_true rfl) ?_
  intro p e s m args below meth c ls C hr hlk hnm hR hS hl
  have hE : Ext h h := Ext.rf
  have hl : lv_has ls 4 [(0, .ref (G.2.2 + r0)), (1, .int x1)] := hl
  rw [fo_X5_product] at hf
  refine lv_aload_n C.x C.b dX5_product_0 rfl (lv_at hl 0 rfl) ?_
  refine lv_iload_n C.x C.b dX5_product_1 rfl (lv_at hl 1 rfl) ?_
  obtain ⟨q1, h_q1, hf⟩ := bd_e hf
  refine r_callV (As := [.int x1]) (rest := []) C hR hS t_r0 rfl mk_X5_signedThing cl_X5_73 (hE_X5_signedThing t_r0 h_q1) ⟨⟨by simp only [rmS_A, rmS_A] <;> omega, by simp only [rmS_A, rmS_A] <;> omega⟩, ⟨rfl, rfl⟩, by simp only [rmS_A] <;> omega, by simp only [rmS_A] <;> omega⟩ rfl hl.1 rfl (Nat.le_of_ble_eq_true rfl) dX5_product_2 (fun H locs hR hS hE1 z_q1 => ?_)
  have hE := hE.tr hE1
  have t_r0 := hE1.at t_r0 (by decide)
  have z_q1 := z_q1 _ rfl
  refine lv_if_ne (tgt := 10) C.x C.b dX5_product_5 (by decide) (fun c2 => ?_) (fun c2 => ?_)
  · have hf := it_f hf c2
    refine lv_iconst (v := (0 : Int32)) C.x C.b dX5_product_10 (by decide) ?_
    refine lv_istore_n (lv' := [(2, .int (0 : Int32)), (0, .ref (G.2.2 + r0)), (1, .int x1)]) C.x C.b dX5_product_11 rfl hl (by decide) rfl (fun ls hl => ?_)
    exact w_X5_product_12 C hr hlk hE_X5_signedThing FU _ _ _ _ _ hf hE hR hS t_r0 (lv_sub hl [1, 2, 0] rfl)
  · have hf := it_t hf c2
    refine lv_iconst (v := (0 : Int32)) C.x C.b dX5_product_8 (by decide) ?_
    have hf := so_e hf
    subst hf
    exact r_zret C hr hlk hR hE hS z_0 dX5_product_9

def P_X5_signedThing_28 (d : Nat) (G : Gt) (l : Launch) (p : Program) (e : Env) (s : State) (m : MethodId) (args : Array Value) (below : List Frame) (meth : Method) (c : Code) (h0 : Hp) (out : (Int32 × Hp)) (r0 : Nat) (x1 : Int32) (k : Hp → Int32 → Int32 → Option (Int32 × Hp)) : Prop := ∀ (H : Heap) (locs : List Loc) (ls : Array Slot) (h : Hp) (s0 : Int32) (x3 : Int32), k h s0 x3 = some out → Ext h0 h → Rel G h H → va_S (AA G.2.2) s.heap H locs → hpT h r0 = (1, 5) → narrow .boolean (.int s0) = .int s0 → lv_has ls 4 [(0, .ref (G.2.2 + r0)), (1, .int x1), (3, .int x3)] → W p l e (rmS_A (d + 1)) s m args below meth c H locs 0 0 (MQ below (Qm G h0 out.2 (some (.int out.1)) 1) args s 0 0 (AA G.2.2)) (F0 m 28 ls [.int s0])
def P_X5_signedThing_45 (d : Nat) (G : Gt) (l : Launch) (p : Program) (e : Env) (s : State) (m : MethodId) (args : Array Value) (below : List Frame) (meth : Method) (c : Code) (h0 : Hp) (out : (Int32 × Hp)) (r0 : Nat) (x1 : Int32) (k : Hp → Int32 → Option (Int32 × Hp)) : Prop := ∀ (H : Heap) (locs : List Loc) (ls : Array Slot) (h : Hp) (x2 : Int32), k h x2 = some out → Ext h0 h → Rel G h H → va_S (AA G.2.2) s.heap H locs → hpT h r0 = (1, 5) → narrow .boolean (.int x2) = .int x2 → lv_has ls 4 [(0, .ref (G.2.2 + r0)), (1, .int x1), (2, .int x2)] → W p l e (rmS_A (d + 1)) s m args below meth c H locs 0 0 (MQ below (Qm G h0 out.2 (some (.int out.1)) 1) args s 0 0 (AA G.2.2)) (F0 m 45 ls [])
def P_X5_signedThing_4 (d : Nat) (G : Gt) (l : Launch) (p : Program) (e : Env) (s : State) (m : MethodId) (args : Array Value) (below : List Frame) (meth : Method) (c : Code) (h0 : Hp) (out : (Int32 × Hp)) (r0 : Nat) (x1 : Int32) (k : Hp → Int32 → Int32 → Option (Int32 × Hp)) : Prop := ∀ (H : Heap) (locs : List Loc) (ls : Array Slot) (h : Hp) (x2 : Int32) (x3 : Int32), k h x2 x3 = some out → Ext h0 h → Rel G h H → va_S (AA G.2.2) s.heap H locs → hpT h r0 = (1, 5) → narrow .boolean (.int x2) = .int x2 → lv_has ls 4 [(0, .ref (G.2.2 + r0)), (1, .int x1), (2, .int x2), (3, .int x3)] → W p l e (rmS_A (d + 1)) s m args below meth c H locs 0 0 (MQ below (Qm G h0 out.2 (some (.int out.1)) 1) args s 0 0 (AA G.2.2)) (F0 m 4 ls [])
set_option maxRecDepth 100000 in
set_option maxHeartbeats 4000000 in
theorem w_X5_signedThing_28 {d : Nat} {G : Gt} {l : Launch} {p : Program} {e : Env} {s : State} {m : MethodId} {args : Array Value} {below : List Frame} {meth : Method} {c : Code} {E_X5_thing : Hp → Nat → Int32 → Option (Int32 × Hp)} {h0 : Hp} {out : (Int32 × Hp)} {r0 : Nat} {x1 : Int32} {k4 : Hp → Int32 → Int32 → Option (Int32 × Hp)} (C : Cx G p m c cX5_signedThing 4 s args RX5) (hr : meth.sig.returnType = some .boolean) (hlk : meth.locks = false) (hE_X5_thing : ∀ {h : Hp} {r0 : Nat} {x1 : Int32} {out : (Int32 × Hp)}, hpT h r0 = (1, 5) → E_X5_thing h r0 x1 = some out → Mt G l yX5_thing cX5_thing 3 (some .boolean) (rmS_A d) [.ref (G.2.2 + r0), .int x1] h (some (.int out.1)) out.2 1 0 0) (hk4 : P_X5_signedThing_4 d G l p e s m args below meth c h0 out r0 x1 k4) : P_X5_signedThing_28 d G l p e s m args below meth c h0 out r0 x1 (fo_X5_signedThing_28 E_X5_thing r0 x1 k4) := by
  intro H locs ls h s0 x3 hf hE hR hS t_r0 z_s0 hl
  rw [fo_X5_signedThing_28] at hf
  refine lv_istore_n (lv' := [(2, .int s0), (0, .ref (G.2.2 + r0)), (1, .int x1), (3, .int x3)]) C.x C.b dX5_signedThing_28 rfl hl (by decide) rfl (fun ls hl => ?_)
  refine lv_aload_n C.x C.b dX5_signedThing_29 rfl (lv_at hl 1 rfl) ?_
  refine lv_dup C.x C.b dX5_signedThing_30 rfl ?_
  refine r_geti C hR t_r0 fl_X5_19 rfl dX5_signedThing_31 ?_
  refine lv_iconst (v := (1 : Int32)) C.x C.b dX5_signedThing_34 (by decide) ?_
  refine lv_iadd C.x C.b dX5_signedThing_35 ?_
  refine r_puti C hR hS t_r0 fl_X5_19 fp_X5_5_2 rfl dX5_signedThing_36 (fun H locs hR hS => ?_)
  obtain ⟨h5, e_h5⟩ : ∃ y, y = upI h r0 2 ((hpI h r0 2) + (1 : Int32)) := ⟨_, rfl⟩
  rw [← e_h5] at hR
  have hf := lt_e hf e_h5
  have hE := eI e_h5 hE
  have t_r0 := tI e_h5 t_r0
  obtain ⟨v6, e_v6⟩ : ∃ y : Int32, y = x3 + (1 : Int32) := ⟨_, rfl⟩
  have hf := lt_e hf e_v6
  refine lv_iinc (v := v6) (lv' := [(3, .int v6), (2, .int s0), (0, .ref (G.2.2 + r0)), (1, .int x1)]) C.x C.b dX5_signedThing_39 hl (k := 3) rfl (by rw [e_v6]; rfl) (by decide) rfl (fun ls hl => ?_)
  refine lv_goto (tgt := 4) C.x C.b dX5_signedThing_42 (by decide) ?_
  exact hk4 _ _ _ _ _ _ hf hE hR hS t_r0 z_s0 (lv_sub hl [2, 3, 1, 0] rfl)
set_option maxRecDepth 100000 in
set_option maxHeartbeats 4000000 in
theorem w_X5_signedThing_45 {d : Nat} {G : Gt} {l : Launch} {p : Program} {e : Env} {s : State} {m : MethodId} {args : Array Value} {below : List Frame} {meth : Method} {c : Code} {E_X5_thing : Hp → Nat → Int32 → Option (Int32 × Hp)} {h0 : Hp} {out : (Int32 × Hp)} {r0 : Nat} {x1 : Int32}  (C : Cx G p m c cX5_signedThing 4 s args RX5) (hr : meth.sig.returnType = some .boolean) (hlk : meth.locks = false) (hE_X5_thing : ∀ {h : Hp} {r0 : Nat} {x1 : Int32} {out : (Int32 × Hp)}, hpT h r0 = (1, 5) → E_X5_thing h r0 x1 = some out → Mt G l yX5_thing cX5_thing 3 (some .boolean) (rmS_A d) [.ref (G.2.2 + r0), .int x1] h (some (.int out.1)) out.2 1 0 0)  : P_X5_signedThing_45 d G l p e s m args below meth c h0 out r0 x1 (fo_X5_signedThing_45 E_X5_thing r0 x1) := by
  intro H locs ls h x2 hf hE hR hS t_r0 z_x2 hl
  rw [fo_X5_signedThing_45] at hf
  refine lv_aload_n C.x C.b dX5_signedThing_45 rfl (lv_at hl 0 rfl) ?_
  refine lv_iload_n C.x C.b dX5_signedThing_46 rfl (lv_at hl 1 rfl) ?_
  obtain ⟨q7, h_q7, hf⟩ := bd_e hf
  refine r_callV (As := [.int x1]) (rest := []) C hR hS t_r0 rfl mk_X5_thing cl_X5_76 (hE_X5_thing t_r0 h_q7) ⟨⟨by simp only [rmS_A, rmS_A] <;> omega, by simp only [rmS_A, rmS_A] <;> omega⟩, ⟨rfl, rfl⟩, by simp only [rmS_A] <;> omega, by simp only [rmS_A] <;> omega⟩ rfl hl.1 rfl (Nat.le_of_ble_eq_true rfl) dX5_signedThing_47 (fun H locs hR hS hE1 z_q7 => ?_)
  have hE := hE.tr hE1
  have t_r0 := hE1.at t_r0 (by decide)
  have z_q7 := z_q7 _ rfl
  refine lv_if_ne (tgt := 55) C.x C.b dX5_signedThing_50 (by decide) (fun c8 => ?_) (fun c8 => ?_)
  · have hf := it_f hf c8
    refine lv_iload_n C.x C.b dX5_signedThing_55 rfl (lv_at hl 2 rfl) ?_
    refine lv_if_eq (tgt := 65) C.x C.b dX5_signedThing_56 (by decide) (fun c9 => ?_) (fun c9 => ?_)
    · have hf := it_t hf c9
      refine lv_iconst (v := (1 : Int32)) C.x C.b dX5_signedThing_65 (by decide) ?_
      have hf := so_e hf
      subst hf
      exact r_zret C hr hlk hR hE hS z_1 dX5_signedThing_66
    · have hf := it_f hf c9
      refine lv_aload_n C.x C.b dX5_signedThing_59 rfl (lv_at hl 0 rfl) ?_
      refine lv_bipush (v := (126 : Int32)) C.x C.b dX5_signedThing_60 (by decide) ?_
      obtain ⟨q10, h_q10, hf⟩ := bd_e hf
      refine r_callV (As := [.int (126 : Int32)]) (rest := []) C hR hS t_r0 rfl mk_X5_write cl_X5_67 (k_X5_write t_r0 h_q10) ⟨⟨by simp only [rm_X5_write, rmS_A] <;> omega, by simp only [rm_X5_write, rmS_A] <;> omega⟩, ⟨rfl, rfl⟩, by simp only [rmS_A] <;> omega, by simp only [rmS_A] <;> omega⟩ rfl hl.1 rfl (Nat.le_of_ble_eq_true rfl) dX5_signedThing_62 (fun H locs hR hS hE1 z_q10 => ?_)
      have hE := hE.tr hE1
      have t_r0 := hE1.at t_r0 (by decide)
      refine lv_iconst (v := (1 : Int32)) C.x C.b dX5_signedThing_65 (by decide) ?_
      have hf := so_e hf
      subst hf
      exact r_zret C hr hlk hR hE hS z_1 dX5_signedThing_66
  · have hf := it_t hf c8
    refine lv_iconst (v := (0 : Int32)) C.x C.b dX5_signedThing_53 (by decide) ?_
    have hf := so_e hf
    subst hf
    exact r_zret C hr hlk hR hE hS z_0 dX5_signedThing_54
set_option maxRecDepth 100000 in
set_option maxHeartbeats 4000000 in
theorem w_X5_signedThing_4 {d : Nat} {G : Gt} {l : Launch} {p : Program} {e : Env} {s : State} {m : MethodId} {args : Array Value} {below : List Frame} {meth : Method} {c : Code} {E_X5_thing : Hp → Nat → Int32 → Option (Int32 × Hp)} {h0 : Hp} {out : (Int32 × Hp)} {r0 : Nat} {x1 : Int32}  (C : Cx G p m c cX5_signedThing 4 s args RX5) (hr : meth.sig.returnType = some .boolean) (hlk : meth.locks = false) (hE_X5_thing : ∀ {h : Hp} {r0 : Nat} {x1 : Int32} {out : (Int32 × Hp)}, hpT h r0 = (1, 5) → E_X5_thing h r0 x1 = some out → Mt G l yX5_thing cX5_thing 3 (some .boolean) (rmS_A d) [.ref (G.2.2 + r0), .int x1] h (some (.int out.1)) out.2 1 0 0)  (n : Nat) : P_X5_signedThing_4 d G l p e s m args below meth c h0 out r0 x1 (fo_X5_signedThing_4 E_X5_thing r0 x1 n) := by
  induction n with
  | zero => intro H locs ls h x2 x3 hf hE hR hS t_r0 z_x2 hl; cases hf
  | succ n hk4 =>
    intro H locs ls h x2 x3 hf hE hR hS t_r0 z_x2 hl
    rw [fo_X5_signedThing_4] at hf
    obtain ⟨k4, e_k4⟩ : ∃ y, y = fo_X5_signedThing_4 E_X5_thing r0 x1 n := ⟨_, rfl⟩
    have hf := lt_e hf e_k4
    rw [← e_k4] at hk4
    refine lv_iload_n C.x C.b dX5_signedThing_4 rfl (lv_at hl 3 rfl) ?_
    refine lv_bipush (v := (40 : Int32)) C.x C.b dX5_signedThing_5 (by decide) ?_
    refine lv_icmp_ge (tgt := 45) C.x C.b dX5_signedThing_7 (by decide) (fun c1 => ?_) (fun c1 => ?_)
    · have hf := it_t hf c1
      exact w_X5_signedThing_45 C hr hlk hE_X5_thing _ _ _ _ _ hf hE hR hS t_r0 z_x2 (lv_sub hl [0, 1, 2] rfl)
    · have hf := it_f hf c1
      refine lv_aload_n C.x C.b dX5_signedThing_10 rfl (lv_at hl 0 rfl) ?_
      obtain ⟨q2, h_q2, hf⟩ := bd_e hf
      refine r_callV (As := []) (rest := []) C hR hS t_r0 rfl mk_X5_next cl_X5_60 (k_X5_next t_r0 h_q2) ⟨⟨by simp only [rm_X5_next, rmS_A] <;> omega, by simp only [rm_X5_next, rmS_A] <;> omega⟩, ⟨rfl, rfl⟩, by simp only [rmS_A] <;> omega, by simp only [rmS_A] <;> omega⟩ rfl hl.1 rfl (Nat.le_of_ble_eq_true rfl) dX5_signedThing_11 (fun H locs hR hS hE1 z_q2 => ?_)
      refine lv_bipush (v := (45 : Int32)) C.x C.b dX5_signedThing_14 (by decide) ?_
      refine lv_icmp_ne (tgt := 45) C.x C.b dX5_signedThing_16 (by decide) (fun c3 => ?_) (fun c3 => ?_)
      · have hf := it_f hf c3
        exact w_X5_signedThing_45 C hr hlk hE_X5_thing _ _ _ _ _ hf hE hR hS t_r0 z_x2 (lv_sub hl [0, 1, 2] rfl)
      · have hf := it_t hf c3
        refine lv_iload_n C.x C.b dX5_signedThing_19 rfl (lv_at hl 2 rfl) ?_
        refine lv_if_ne (tgt := 27) C.x C.b dX5_signedThing_20 (by decide) (fun c4 => ?_) (fun c4 => ?_)
        · simp only [if_neg c4] at hf
          refine lv_iconst (v := (0 : Int32)) C.x C.b dX5_signedThing_27 (by decide) ?_
          exact w_X5_signedThing_28 C hr hlk hE_X5_thing hk4 _ _ _ _ _ _ hf hE hR hS t_r0 z_0 (lv_sub hl [0, 1, 3] rfl)
        · simp only [if_pos c4] at hf
          refine lv_iconst (v := (1 : Int32)) C.x C.b dX5_signedThing_23 (by decide) ?_
          refine lv_goto (tgt := 28) C.x C.b dX5_signedThing_24 (by decide) ?_
          exact w_X5_signedThing_28 C hr hlk hE_X5_thing hk4 _ _ _ _ _ _ hf hE hR hS t_r0 z_1 (lv_sub hl [0, 1, 3] rfl)
set_option maxRecDepth 100000 in
set_option maxHeartbeats 4000000 in
theorem ko_X5_signedThing {G : Gt} {l : Launch} {d : Nat} {E_X5_thing : Hp → Nat → Int32 → Option (Int32 × Hp)} (hE_X5_thing : ∀ {h : Hp} {r0 : Nat} {x1 : Int32} {out : (Int32 × Hp)}, hpT h r0 = (1, 5) → E_X5_thing h r0 x1 = some out → Mt G l yX5_thing cX5_thing 3 (some .boolean) (rmS_A d) [.ref (G.2.2 + r0), .int x1] h (some (.int out.1)) out.2 1 0 0) {h : Hp} {r0 : Nat} {x1 : Int32} {out : (Int32 × Hp)} (t_r0 : hpT h r0 = (1, 5))  (hf : fo_X5_signedThing E_X5_thing h r0 x1 = some out) : Mt G l yX5_signedThing cX5_signedThing 4 (some .boolean) (rmS_A (d + 1)) [.ref (G.2.2 + r0), .int x1] h (some (.int out.1)) out.2 1 0 0 := by
  refine r_met (by decide +kernel) (Nat.le_of_ble_eq_true rfl) ?_
  intro p e s m args below meth c ls C hr hlk hnm hR hS hl
  have hE : Ext h h := Ext.rf
  have hl : lv_has ls 4 [(0, .ref (G.2.2 + r0)), (1, .int x1)] := hl
  rw [fo_X5_signedThing] at hf
  refine lv_iconst (v := (0 : Int32)) C.x C.b dX5_signedThing_0 (by decide) ?_
  refine lv_istore_n (lv' := [(2, .int (0 : Int32)), (0, .ref (G.2.2 + r0)), (1, .int x1)]) C.x C.b dX5_signedThing_1 rfl hl (by decide) rfl (fun ls hl => ?_)
  refine lv_iconst (v := (0 : Int32)) C.x C.b dX5_signedThing_2 (by decide) ?_
  refine lv_istore_n (lv' := [(3, .int (0 : Int32)), (2, .int (0 : Int32)), (0, .ref (G.2.2 + r0)), (1, .int x1)]) C.x C.b dX5_signedThing_3 rfl hl (by decide) rfl (fun ls hl => ?_)
  exact w_X5_signedThing_4 C hr hlk hE_X5_thing FU _ _ _ _ _ _ hf hE hR hS t_r0 z_0 (lv_sub hl [2, 3, 1, 0] rfl)

def P_X5_thing_23 (d : Nat) (G : Gt) (l : Launch) (p : Program) (e : Env) (s : State) (m : MethodId) (args : Array Value) (below : List Frame) (meth : Method) (c : Code) (h0 : Hp) (out : (Int32 × Hp)) (r0 : Nat) (x1 : Int32) (k : Hp → Int32 → Option (Int32 × Hp)) : Prop := ∀ (H : Heap) (locs : List Loc) (ls : Array Slot) (h : Hp) (x2 : Int32), k h x2 = some out → Ext h0 h → Rel G h H → va_S (AA G.2.2) s.heap H locs → hpT h r0 = (1, 5) → lv_has ls 3 [(0, .ref (G.2.2 + r0)), (1, .int x1), (2, .int x2)] → W p l e (rmS_A (d + 1)) s m args below meth c H locs 0 0 (MQ below (Qm G h0 out.2 (some (.int out.1)) 1) args s 0 0 (AA G.2.2)) (F0 m 23 ls [])
set_option maxRecDepth 100000 in
set_option maxHeartbeats 4000000 in
theorem w_X5_thing_23 {d : Nat} {G : Gt} {l : Launch} {p : Program} {e : Env} {s : State} {m : MethodId} {args : Array Value} {below : List Frame} {meth : Method} {c : Code} {E_X5_expression : Hp → Nat → Int32 → Option (Int32 × Hp)} {h0 : Hp} {out : (Int32 × Hp)} {r0 : Nat} {x1 : Int32}  (C : Cx G p m c cX5_thing 3 s args RX5) (hr : meth.sig.returnType = some .boolean) (hlk : meth.locks = false) (hE_X5_expression : ∀ {h : Hp} {r0 : Nat} {x1 : Int32} {out : (Int32 × Hp)}, hpT h r0 = (1, 5) → E_X5_expression h r0 x1 = some out → Mt G l yX5_expression cX5_expression 3 (some .boolean) (rmS_A d) [.ref (G.2.2 + r0), .int x1] h (some (.int out.1)) out.2 1 0 0)  : P_X5_thing_23 d G l p e s m args below meth c h0 out r0 x1 (fo_X5_thing_23 E_X5_expression r0 x1) := by
  intro H locs ls h x2 hf hE hR hS t_r0 hl
  rw [fo_X5_thing_23] at hf
  refine lv_iload_n C.x C.b dX5_thing_23 rfl (lv_at hl 2 rfl) ?_
  obtain ⟨q5, h_q5, hf⟩ := bd_e hf
  refine r_callS (As := [.int x2]) (rest := []) C hR hS mk_X5_isLetter cl_X5_82 (k_X5_isLetter h_q5) ⟨⟨by simp only [rm_X5_isLetter, rmS_A] <;> omega, by simp only [rm_X5_isLetter, rmS_A] <;> omega⟩, ⟨rfl, rfl⟩, by simp only [rmS_A] <;> omega, by simp only [rmS_A] <;> omega⟩ rfl hl.1 rfl (Nat.le_of_ble_eq_true rfl) dX5_thing_24 (fun H locs hR hS hE1 z_q5 => ?_)
  have z_q5 := z_q5 _ rfl
  refine lv_if_eq (tgt := 47) C.x C.b dX5_thing_27 (by decide) (fun c6 => ?_) (fun c6 => ?_)
  · have hf := it_t hf c6
    refine lv_iload_n C.x C.b dX5_thing_47 rfl (lv_at hl 2 rfl) ?_
    refine lv_bipush (v := (40 : Int32)) C.x C.b dX5_thing_48 (by decide) ?_
    refine lv_icmp_ne (tgt := 58) C.x C.b dX5_thing_50 (by decide) (fun c7 => ?_) (fun c7 => ?_)
    · have hf := it_f hf c7
      refine lv_iconst (v := (0 : Int32)) C.x C.b dX5_thing_58 (by decide) ?_
      have hf := so_e hf
      subst hf
      exact r_zret C hr hlk hR hE hS z_0 dX5_thing_59
    · have hf := it_t hf c7
      refine lv_iload_n C.x C.b dX5_thing_53 rfl (lv_at hl 1 rfl) ?_
      refine lv_iconst (v := (4 : Int32)) C.x C.b dX5_thing_54 (by decide) ?_
      refine lv_icmp_lt (tgt := 60) C.x C.b dX5_thing_55 (by decide) (fun c8 => ?_) (fun c8 => ?_)
      · have hf := it_t hf c8
        refine lv_aload_n C.x C.b dX5_thing_60 rfl (lv_at hl 0 rfl) ?_
        refine lv_dup C.x C.b dX5_thing_61 rfl ?_
        refine r_geti C hR t_r0 fl_X5_19 rfl dX5_thing_62 ?_
        refine lv_iconst (v := (1 : Int32)) C.x C.b dX5_thing_65 (by decide) ?_
        refine lv_iadd C.x C.b dX5_thing_66 ?_
        refine r_puti C hR hS t_r0 fl_X5_19 fp_X5_5_2 rfl dX5_thing_67 (fun H locs hR hS => ?_)
        obtain ⟨h9, e_h9⟩ : ∃ y, y = upI h r0 2 ((hpI h r0 2) + (1 : Int32)) := ⟨_, rfl⟩
        rw [← e_h9] at hR
        have hf := lt_e hf e_h9
        have hE := eI e_h9 hE
        have t_r0 := tI e_h9 t_r0
        refine lv_aload_n C.x C.b dX5_thing_70 rfl (lv_at hl 0 rfl) ?_
        refine lv_iload_n C.x C.b dX5_thing_71 rfl (lv_at hl 1 rfl) ?_
        refine lv_iconst (v := (1 : Int32)) C.x C.b dX5_thing_72 (by decide) ?_
        refine lv_iadd C.x C.b dX5_thing_73 ?_
        obtain ⟨q10, h_q10, hf⟩ := bd_e hf
        refine r_callV (As := [.int (x1 + (1 : Int32))]) (rest := []) C hR hS t_r0 rfl mk_X5_expression cl_X5_45 (hE_X5_expression t_r0 h_q10) ⟨⟨by simp only [rmS_A, rmS_A] <;> omega, by simp only [rmS_A, rmS_A] <;> omega⟩, ⟨rfl, rfl⟩, by simp only [rmS_A] <;> omega, by simp only [rmS_A] <;> omega⟩ rfl hl.1 rfl (Nat.le_of_ble_eq_true rfl) dX5_thing_74 (fun H locs hR hS hE1 z_q10 => ?_)
        have hE := hE.tr hE1
        have t_r0 := hE1.at t_r0 (by decide)
        have z_q10 := z_q10 _ rfl
        refine lv_if_eq (tgt := 89) C.x C.b dX5_thing_77 (by decide) (fun c11 => ?_) (fun c11 => ?_)
        · have hf := it_t hf c11
          refine lv_iconst (v := (0 : Int32)) C.x C.b dX5_thing_89 (by decide) ?_
          have hf := so_e hf
          subst hf
          exact r_zret C hr hlk hR hE hS z_0 dX5_thing_90
        · have hf := it_f hf c11
          refine lv_aload_n C.x C.b dX5_thing_80 rfl (lv_at hl 0 rfl) ?_
          obtain ⟨q12, h_q12, hf⟩ := bd_e hf
          refine r_callV (As := []) (rest := []) C hR hS t_r0 rfl mk_X5_next cl_X5_60 (k_X5_next t_r0 h_q12) ⟨⟨by simp only [rm_X5_next, rmS_A] <;> omega, by simp only [rm_X5_next, rmS_A] <;> omega⟩, ⟨rfl, rfl⟩, by simp only [rmS_A] <;> omega, by simp only [rmS_A] <;> omega⟩ rfl hl.1 rfl (Nat.le_of_ble_eq_true rfl) dX5_thing_81 (fun H locs hR hS hE1 z_q12 => ?_)
          refine lv_bipush (v := (41 : Int32)) C.x C.b dX5_thing_84 (by decide) ?_
          refine lv_icmp_eq (tgt := 91) C.x C.b dX5_thing_86 (by decide) (fun c13 => ?_) (fun c13 => ?_)
          · have hf := it_t hf c13
            refine lv_aload_n C.x C.b dX5_thing_91 rfl (lv_at hl 0 rfl) ?_
            refine lv_dup C.x C.b dX5_thing_92 rfl ?_
            refine r_geti C hR t_r0 fl_X5_19 rfl dX5_thing_93 ?_
            refine lv_iconst (v := (1 : Int32)) C.x C.b dX5_thing_96 (by decide) ?_
            refine lv_iadd C.x C.b dX5_thing_97 ?_
            refine r_puti C hR hS t_r0 fl_X5_19 fp_X5_5_2 rfl dX5_thing_98 (fun H locs hR hS => ?_)
            obtain ⟨h14, e_h14⟩ : ∃ y, y = upI q10.2 r0 2 ((hpI q10.2 r0 2) + (1 : Int32)) := ⟨_, rfl⟩
            rw [← e_h14] at hR
            have hf := lt_e hf e_h14
            have hE := eI e_h14 hE
            have t_r0 := tI e_h14 t_r0
            refine lv_iconst (v := (1 : Int32)) C.x C.b dX5_thing_101 (by decide) ?_
            have hf := so_e hf
            subst hf
            exact r_zret C hr hlk hR hE hS z_1 dX5_thing_102
          · have hf := it_f hf c13
            refine lv_iconst (v := (0 : Int32)) C.x C.b dX5_thing_89 (by decide) ?_
            have hf := so_e hf
            subst hf
            exact r_zret C hr hlk hR hE hS z_0 dX5_thing_90
      · have hf := it_f hf c8
        refine lv_iconst (v := (0 : Int32)) C.x C.b dX5_thing_58 (by decide) ?_
        have hf := so_e hf
        subst hf
        exact r_zret C hr hlk hR hE hS z_0 dX5_thing_59
  · have hf := it_f hf c6
    refine lv_aload_n C.x C.b dX5_thing_30 rfl (lv_at hl 0 rfl) ?_
    refine lv_dup C.x C.b dX5_thing_31 rfl ?_
    refine r_geti C hR t_r0 fl_X5_19 rfl dX5_thing_32 ?_
    refine lv_iconst (v := (1 : Int32)) C.x C.b dX5_thing_35 (by decide) ?_
    refine lv_iadd C.x C.b dX5_thing_36 ?_
    refine r_puti C hR hS t_r0 fl_X5_19 fp_X5_5_2 rfl dX5_thing_37 (fun H locs hR hS => ?_)
    obtain ⟨h15, e_h15⟩ : ∃ y, y = upI h r0 2 ((hpI h r0 2) + (1 : Int32)) := ⟨_, rfl⟩
    rw [← e_h15] at hR
    have hf := lt_e hf e_h15
    have hE := eI e_h15 hE
    have t_r0 := tI e_h15 t_r0
    refine lv_aload_n C.x C.b dX5_thing_40 rfl (lv_at hl 0 rfl) ?_
    refine lv_iload_n C.x C.b dX5_thing_41 rfl (lv_at hl 2 rfl) ?_
    obtain ⟨q16, h_q16, hf⟩ := bd_e hf
    refine r_callV (As := [.int x2]) (rest := []) C hR hS t_r0 rfl mk_X5_write cl_X5_67 (k_X5_write t_r0 h_q16) ⟨⟨by simp only [rm_X5_write, rmS_A] <;> omega, by simp only [rm_X5_write, rmS_A] <;> omega⟩, ⟨rfl, rfl⟩, by simp only [rmS_A] <;> omega, by simp only [rmS_A] <;> omega⟩ rfl hl.1 rfl (Nat.le_of_ble_eq_true rfl) dX5_thing_42 (fun H locs hR hS hE1 z_q16 => ?_)
    have hE := hE.tr hE1
    have t_r0 := hE1.at t_r0 (by decide)
    refine lv_iconst (v := (1 : Int32)) C.x C.b dX5_thing_45 (by decide) ?_
    have hf := so_e hf
    subst hf
    exact r_zret C hr hlk hR hE hS z_1 dX5_thing_46
set_option maxRecDepth 100000 in
set_option maxHeartbeats 4000000 in
theorem ko_X5_thing {G : Gt} {l : Launch} {d : Nat} {E_X5_expression : Hp → Nat → Int32 → Option (Int32 × Hp)} (hE_X5_expression : ∀ {h : Hp} {r0 : Nat} {x1 : Int32} {out : (Int32 × Hp)}, hpT h r0 = (1, 5) → E_X5_expression h r0 x1 = some out → Mt G l yX5_expression cX5_expression 3 (some .boolean) (rmS_A d) [.ref (G.2.2 + r0), .int x1] h (some (.int out.1)) out.2 1 0 0) {h : Hp} {r0 : Nat} {x1 : Int32} {out : (Int32 × Hp)} (t_r0 : hpT h r0 = (1, 5))  (hf : fo_X5_thing E_X5_expression h r0 x1 = some out) : Mt G l yX5_thing cX5_thing 3 (some .boolean) (rmS_A (d + 1)) [.ref (G.2.2 + r0), .int x1] h (some (.int out.1)) out.2 1 0 0 := by
  refine r_met (by decide +kernel) (Nat.le_of_ble_eq_true rfl) ?_
  intro p e s m args below meth c ls C hr hlk hnm hR hS hl
  have hE : Ext h h := Ext.rf
  have hl : lv_has ls 3 [(0, .ref (G.2.2 + r0)), (1, .int x1)] := hl
  rw [fo_X5_thing] at hf
  refine lv_aload_n C.x C.b dX5_thing_0 rfl (lv_at hl 0 rfl) ?_
  obtain ⟨q1, h_q1, hf⟩ := bd_e hf
  refine r_callV (As := []) (rest := []) C hR hS t_r0 rfl mk_X5_next cl_X5_60 (k_X5_next t_r0 h_q1) ⟨⟨by simp only [rm_X5_next, rmS_A] <;> omega, by simp only [rm_X5_next, rmS_A] <;> omega⟩, ⟨rfl, rfl⟩, by simp only [rmS_A] <;> omega, by simp only [rmS_A] <;> omega⟩ rfl hl.1 rfl (Nat.le_of_ble_eq_true rfl) dX5_thing_1 (fun H locs hR hS hE1 z_q1 => ?_)
  refine lv_istore_n (lv' := [(2, .int q1), (0, .ref (G.2.2 + r0)), (1, .int x1)]) C.x C.b dX5_thing_4 rfl hl (by decide) rfl (fun ls hl => ?_)
  refine lv_iload_n C.x C.b dX5_thing_5 rfl (lv_at hl 0 rfl) ?_
  refine lv_bipush (v := (48 : Int32)) C.x C.b dX5_thing_6 (by decide) ?_
  refine lv_icmp_lt (tgt := 23) C.x C.b dX5_thing_8 (by decide) (fun c2 => ?_) (fun c2 => ?_)
  · have hf := it_t hf c2
    exact w_X5_thing_23 C hr hlk hE_X5_expression _ _ _ _ _ hf hE hR hS t_r0 (lv_sub hl [1, 2, 0] rfl)
  · have hf := it_f hf c2
    refine lv_iload_n C.x C.b dX5_thing_11 rfl (lv_at hl 0 rfl) ?_
    refine lv_bipush (v := (57 : Int32)) C.x C.b dX5_thing_12 (by decide) ?_
    refine lv_icmp_gt (tgt := 23) C.x C.b dX5_thing_14 (by decide) (fun c3 => ?_) (fun c3 => ?_)
    · have hf := it_t hf c3
      exact w_X5_thing_23 C hr hlk hE_X5_expression _ _ _ _ _ hf hE hR hS t_r0 (lv_sub hl [1, 2, 0] rfl)
    · have hf := it_f hf c3
      refine lv_aload_n C.x C.b dX5_thing_17 rfl (lv_at hl 1 rfl) ?_
      obtain ⟨q4, h_q4, hf⟩ := bd_e hf
      refine r_callV (As := []) (rest := []) C hR hS t_r0 rfl mk_X5_number cl_X5_79 (k_X5_number t_r0 h_q4) ⟨⟨by simp only [rm_X5_number, rmS_A] <;> omega, by simp only [rm_X5_number, rmS_A] <;> omega⟩, ⟨rfl, rfl⟩, by simp only [rmS_A] <;> omega, by simp only [rmS_A] <;> omega⟩ rfl hl.1 rfl (Nat.le_of_ble_eq_true rfl) dX5_thing_18 (fun H locs hR hS hE1 z_q4 => ?_)
      have hE := hE.tr hE1
      have t_r0 := hE1.at t_r0 (by decide)
      refine lv_iconst (v := (1 : Int32)) C.x C.b dX5_thing_21 (by decide) ?_
      have hf := so_e hf
      subst hf
      exact r_zret C hr hlk hR hE hS z_1 dX5_thing_22

set_option maxRecDepth 100000 in
theorem kx_A {G : Gt} {l : Launch} (d : Nat) : (∀ {h : Hp} {r0 : Nat} {x1 : Int32} {out : (Int32 × Hp)}, hpT h r0 = (1, 5) → (fx_A d).1 h r0 x1 = some out → Mt G l yX5_expression cX5_expression 3 (some .boolean) (rmS_A d) [.ref (G.2.2 + r0), .int x1] h (some (.int out.1)) out.2 1 0 0) ∧ (∀ {h : Hp} {r0 : Nat} {x1 : Int32} {out : (Int32 × Hp)}, hpT h r0 = (1, 5) → (fx_A d).2.1 h r0 x1 = some out → Mt G l yX5_sum cX5_sum 4 (some .boolean) (rmS_A d) [.ref (G.2.2 + r0), .int x1] h (some (.int out.1)) out.2 1 0 0) ∧ (∀ {h : Hp} {r0 : Nat} {x1 : Int32} {out : (Int32 × Hp)}, hpT h r0 = (1, 5) → (fx_A d).2.2.1 h r0 x1 = some out → Mt G l yX5_product cX5_product 4 (some .boolean) (rmS_A d) [.ref (G.2.2 + r0), .int x1] h (some (.int out.1)) out.2 1 0 0) ∧ (∀ {h : Hp} {r0 : Nat} {x1 : Int32} {out : (Int32 × Hp)}, hpT h r0 = (1, 5) → (fx_A d).2.2.2.1 h r0 x1 = some out → Mt G l yX5_signedThing cX5_signedThing 4 (some .boolean) (rmS_A d) [.ref (G.2.2 + r0), .int x1] h (some (.int out.1)) out.2 1 0 0) ∧ (∀ {h : Hp} {r0 : Nat} {x1 : Int32} {out : (Int32 × Hp)}, hpT h r0 = (1, 5) → (fx_A d).2.2.2.2 h r0 x1 = some out → Mt G l yX5_thing cX5_thing 3 (some .boolean) (rmS_A d) [.ref (G.2.2 + r0), .int x1] h (some (.int out.1)) out.2 1 0 0) := by
  induction d with
  | zero => exact ⟨fun _ hf => (by cases hf), fun _ hf => (by cases hf), fun _ hf => (by cases hf), fun _ hf => (by cases hf), fun _ hf => (by cases hf)⟩
  | succ d ih => exact ⟨fun t0 hf => ko_X5_expression ih.2.1 t0 hf, fun t0 hf => ko_X5_sum ih.2.2.1 t0 hf, fun t0 hf => ko_X5_product ih.2.2.2.1 t0 hf, fun t0 hf => ko_X5_signedThing ih.2.2.2.2 t0 hf, fun t0 hf => ko_X5_thing ih.1 t0 hf⟩
def rm_X5_expression : Room := { frames := 34, cells := 0, slots := 0, locals := 754 }
theorem k_X5_expression {G : Gt} {l : Launch} : (∀ {h : Hp} {r0 : Nat} {x1 : Int32} {out : (Int32 × Hp)}, hpT h r0 = (1, 5) → f_X5_expression h r0 x1 = some out → Mt G l yX5_expression cX5_expression 3 (some .boolean) rm_X5_expression [.ref (G.2.2 + r0), .int x1] h (some (.int out.1)) out.2 1 0 0) := fun t0 hf => (kx_A 30).1 t0 hf
def rm_X5_sum : Room := { frames := 34, cells := 0, slots := 0, locals := 754 }
theorem k_X5_sum {G : Gt} {l : Launch} : (∀ {h : Hp} {r0 : Nat} {x1 : Int32} {out : (Int32 × Hp)}, hpT h r0 = (1, 5) → f_X5_sum h r0 x1 = some out → Mt G l yX5_sum cX5_sum 4 (some .boolean) rm_X5_sum [.ref (G.2.2 + r0), .int x1] h (some (.int out.1)) out.2 1 0 0) := fun t0 hf => (kx_A 30).2.1 t0 hf
def rm_X5_product : Room := { frames := 34, cells := 0, slots := 0, locals := 754 }
theorem k_X5_product {G : Gt} {l : Launch} : (∀ {h : Hp} {r0 : Nat} {x1 : Int32} {out : (Int32 × Hp)}, hpT h r0 = (1, 5) → f_X5_product h r0 x1 = some out → Mt G l yX5_product cX5_product 4 (some .boolean) rm_X5_product [.ref (G.2.2 + r0), .int x1] h (some (.int out.1)) out.2 1 0 0) := fun t0 hf => (kx_A 30).2.2.1 t0 hf
def rm_X5_signedThing : Room := { frames := 34, cells := 0, slots := 0, locals := 754 }
theorem k_X5_signedThing {G : Gt} {l : Launch} : (∀ {h : Hp} {r0 : Nat} {x1 : Int32} {out : (Int32 × Hp)}, hpT h r0 = (1, 5) → f_X5_signedThing h r0 x1 = some out → Mt G l yX5_signedThing cX5_signedThing 4 (some .boolean) rm_X5_signedThing [.ref (G.2.2 + r0), .int x1] h (some (.int out.1)) out.2 1 0 0) := fun t0 hf => (kx_A 30).2.2.2.1 t0 hf
def rm_X5_thing : Room := { frames := 34, cells := 0, slots := 0, locals := 754 }
theorem k_X5_thing {G : Gt} {l : Launch} : (∀ {h : Hp} {r0 : Nat} {x1 : Int32} {out : (Int32 × Hp)}, hpT h r0 = (1, 5) → f_X5_thing h r0 x1 = some out → Mt G l yX5_thing cX5_thing 3 (some .boolean) rm_X5_thing [.ref (G.2.2 + r0), .int x1] h (some (.int out.1)) out.2 1 0 0) := fun t0 hf => (kx_A 30).2.2.2.2 t0 hf

def rm_X5_read : Room := { frames := 35, cells := 0, slots := 0, locals := 776 }
def P_X5_read_78 (G : Gt) (l : Launch) (p : Program) (e : Env) (s : State) (m : MethodId) (args : Array Value) (below : List Frame) (meth : Method) (c : Code) (h0 : Hp) (out : (Int32 × Hp)) (r0 : Nat) (r1 : Nat) (r2 : Nat) (k : Hp → Int32 → Option (Int32 × Hp)) : Prop := ∀ (H : Heap) (locs : List Loc) (ls : Array Slot) (h : Hp) (s0 : Int32), k h s0 = some out → Ext h0 h → Rel G h H → va_S (AA G.2.2) s.heap H locs → hpT h r0 = (1, 5) → hpT h r1 = (1, 6) → hpT h r2 = (1, 4) → narrow .boolean (.int s0) = .int s0 → lv_has ls 4 [(0, .ref (G.2.2 + r0)), (1, .ref (G.2.2 + r1)), (2, .ref (G.2.2 + r2))] → W p l e rm_X5_read s m args below meth c H locs 0 0 (MQ below (Qm G h0 out.2 (some (.int out.1)) 0) args s 0 0 (AA G.2.2)) (F0 m 78 ls [.int s0])
def P_X5_read_77 (G : Gt) (l : Launch) (p : Program) (e : Env) (s : State) (m : MethodId) (args : Array Value) (below : List Frame) (meth : Method) (c : Code) (h0 : Hp) (out : (Int32 × Hp)) (r0 : Nat) (r1 : Nat) (r2 : Nat) (k : Hp → Option (Int32 × Hp)) : Prop := ∀ (H : Heap) (locs : List Loc) (ls : Array Slot) (h : Hp), k h = some out → Ext h0 h → Rel G h H → va_S (AA G.2.2) s.heap H locs → hpT h r0 = (1, 5) → hpT h r1 = (1, 6) → hpT h r2 = (1, 4) → lv_has ls 4 [(0, .ref (G.2.2 + r0)), (1, .ref (G.2.2 + r1)), (2, .ref (G.2.2 + r2))] → W p l e rm_X5_read s m args below meth c H locs 0 0 (MQ below (Qm G h0 out.2 (some (.int out.1)) 0) args s 0 0 (AA G.2.2)) (F0 m 77 ls [])
set_option maxRecDepth 100000 in
set_option maxHeartbeats 4000000 in
theorem w_X5_read_78 {G : Gt} {l : Launch} {p : Program} {e : Env} {s : State} {m : MethodId} {args : Array Value} {below : List Frame} {meth : Method} {c : Code}  {h0 : Hp} {out : (Int32 × Hp)} {r0 : Nat} {r1 : Nat} {r2 : Nat}  (C : Cx G p m c cX5_read 4 s args RX5) (hr : meth.sig.returnType = some .int) (hlk : meth.locks = false)   : P_X5_read_78 G l p e s m args below meth c h0 out r0 r1 r2 (f_X5_read_78 r0 r1 r2) := by
  intro H locs ls h s0 hf hE hR hS t_r0 t_r1 t_r2 z_s0 hl
  rw [f_X5_read_78] at hf
  refine lv_istore_n (lv' := [(3, .int s0), (0, .ref (G.2.2 + r0)), (1, .ref (G.2.2 + r1)), (2, .ref (G.2.2 + r2))]) C.x C.b dX5_read_78 rfl hl (by decide) rfl (fun ls hl => ?_)
  refine lv_iload_n C.x C.b dX5_read_79 rfl (lv_at hl 0 rfl) ?_
  refine lv_if_eq (tgt := 87) C.x C.b dX5_read_80 (by decide) (fun c13 => ?_) (fun c13 => ?_)
  · have hf := it_t hf c13
    refine lv_aload_n C.x C.b dX5_read_87 rfl (lv_at hl 1 rfl) ?_
    refine r_geti C hR t_r0 fl_X5_19 rfl dX5_read_88 ?_
    have hf := so_e hf
    subst hf
    exact r_iret C hr hlk hR hE hS dX5_read_91
  · have hf := it_f hf c13
    refine lv_iconst (v := (-1 : Int32)) C.x C.b dX5_read_83 (by decide) ?_
    refine lv_goto (tgt := 91) C.x C.b dX5_read_84 (by decide) ?_
    have hf := so_e hf
    subst hf
    exact r_iret C hr hlk hR hE hS dX5_read_91
set_option maxRecDepth 100000 in
set_option maxHeartbeats 4000000 in
theorem w_X5_read_77 {G : Gt} {l : Launch} {p : Program} {e : Env} {s : State} {m : MethodId} {args : Array Value} {below : List Frame} {meth : Method} {c : Code}  {h0 : Hp} {out : (Int32 × Hp)} {r0 : Nat} {r1 : Nat} {r2 : Nat}  (C : Cx G p m c cX5_read 4 s args RX5) (hr : meth.sig.returnType = some .int) (hlk : meth.locks = false)   : P_X5_read_77 G l p e s m args below meth c h0 out r0 r1 r2 (f_X5_read_77 r0 r1 r2) := by
  intro H locs ls h hf hE hR hS t_r0 t_r1 t_r2 hl
  rw [f_X5_read_77] at hf
  refine lv_iconst (v := (0 : Int32)) C.x C.b dX5_read_77 (by decide) ?_
  exact w_X5_read_78 C hr hlk _ _ _ _ _ hf hE hR hS t_r0 t_r1 t_r2 z_0 (lv_sub hl [0, 1, 2] rfl)
set_option maxRecDepth 100000 in
set_option maxHeartbeats 4000000 in
theorem k_X5_read {G : Gt} {l : Launch}  {h : Hp} {r0 : Nat} {r1 : Nat} {r2 : Nat} {out : (Int32 × Hp)} (t_r0 : hpT h r0 = (1, 5)) (t_r1 : hpT h r1 = (1, 6)) (t_r2 : hpT h r2 = (1, 4))  (hf : f_X5_read  h r0 r1 r2 = some out) : Mt G l yX5_read cX5_read 4 (some .int) rm_X5_read [.ref (G.2.2 + r0), .ref (G.2.2 + r1), .ref (G.2.2 + r2)] h (some (.int out.1)) out.2 0 0 0 := by
  refine r_met (by decide +kernel) (Nat.le_of_ble_eq_true rfl) ?_
  intro p e s m args below meth c ls C hr hlk hnm hR hS hl
  have hE : Ext h h := Ext.rf
  have hl : lv_has ls 4 [(0, .ref (G.2.2 + r0)), (1, .ref (G.2.2 + r1)), (2, .ref (G.2.2 + r2))] := hl
  rw [f_X5_read] at hf
  refine lv_aload_n C.x C.b dX5_read_0 rfl (lv_at hl 0 rfl) ?_
  refine lv_aload_n C.x C.b dX5_read_1 rfl (lv_at hl 1 rfl) ?_
  refine r_putr C hR hS false (fun q => by cases q) (ne0 hR t_r1) t_r0 (okT_o t_r1 rfl) fl_X5_9 fp_X5_5_0 (by decide) dX5_read_2 (fun H locs hR hS => ?_)
  obtain ⟨h1, e_h1⟩ : ∃ y, y = upR h r0 0 r1 := ⟨_, rfl⟩
  rw [← e_h1] at hR
  have hf := lt_e hf e_h1
  have hE := eR e_h1 hE
  have t_r0 := tR e_h1 t_r0
  have t_r1 := tR e_h1 t_r1
  have t_r2 := tR e_h1 t_r2
  refine lv_aload_n C.x C.b dX5_read_5 rfl (lv_at hl 0 rfl) ?_
  refine lv_aload_n C.x C.b dX5_read_6 rfl (lv_at hl 2 rfl) ?_
  refine r_putr C hR hS false (fun q => by cases q) (ne0 hR t_r2) t_r0 (okT_o t_r2 rfl) fl_X5_15 fp_X5_5_1 (by decide) dX5_read_7 (fun H locs hR hS => ?_)
  obtain ⟨h2, e_h2⟩ : ∃ y, y = upR h1 r0 1 r2 := ⟨_, rfl⟩
  rw [← e_h2] at hR
  have hf := lt_e hf e_h2
  have hE := eR e_h2 hE
  have t_r0 := tR e_h2 t_r0
  have t_r1 := tR e_h2 t_r1
  have t_r2 := tR e_h2 t_r2
  refine lv_aload_n C.x C.b dX5_read_10 rfl (lv_at hl 0 rfl) ?_
  refine lv_iconst (v := (0 : Int32)) C.x C.b dX5_read_11 (by decide) ?_
  refine r_puti C hR hS t_r0 fl_X5_19 fp_X5_5_2 rfl dX5_read_12 (fun H locs hR hS => ?_)
  obtain ⟨h3, e_h3⟩ : ∃ y, y = upI h2 r0 2 (0 : Int32) := ⟨_, rfl⟩
  rw [← e_h3] at hR
  have hf := lt_e hf e_h3
  have hE := eI e_h3 hE
  have t_r0 := tI e_h3 t_r0
  have t_r1 := tI e_h3 t_r1
  have t_r2 := tI e_h3 t_r2
  refine lv_aload_n C.x C.b dX5_read_15 rfl (lv_at hl 0 rfl) ?_
  refine lv_aload_n C.x C.b dX5_read_16 rfl (lv_at hl 1 rfl) ?_
  refine r_geti C hR t_r1 fl_X5_23 rfl dX5_read_17 ?_
  refine lv_bipush (v := (40 : Int32)) C.x C.b dX5_read_20 (by decide) ?_
  refine va_mmin C.x C.b (C.ml.trans hl.1.symm) C.ow (C.ts _ lk_X5_28) (C.ts _ lk_Mmin_s) (C.ts _ lk_Math) (C.ts _ lk_Mmin_c) (Nat.le_of_ble_eq_true rfl) (Nat.le_of_ble_eq_true rfl) (Nat.le_of_ble_eq_true rfl) (Nat.le_of_ble_eq_true rfl) dX5_read_22 ?_
  refine lv_topi (fun v4 e_v4 => ?_)
  have hf := lt_e hf e_v4
  refine r_puti C hR hS t_r0 fl_X5_34 fp_X5_5_3 rfl dX5_read_25 (fun H locs hR hS => ?_)
  obtain ⟨h5, e_h5⟩ : ∃ y, y = upI h3 r0 3 v4 := ⟨_, rfl⟩
  rw [← e_h5] at hR
  have hf := lt_e hf e_h5
  have hE := eI e_h5 hE
  have t_r0 := tI e_h5 t_r0
  have t_r1 := tI e_h5 t_r1
  have t_r2 := tI e_h5 t_r2
  refine lv_aload_n C.x C.b dX5_read_28 rfl (lv_at hl 1 rfl) ?_
  refine r_geti C hR t_r1 fl_X5_23 rfl dX5_read_29 ?_
  refine lv_if_ne (tgt := 41) C.x C.b dX5_read_32 (by decide) (fun c6 => ?_) (fun c6 => ?_)
  · have hf := it_f hf c6
    refine lv_aload_n C.x C.b dX5_read_41 rfl (lv_at hl 2 rfl) ?_
    obtain ⟨q7, h_q7, hf⟩ := bd_e hf
    refine r_callV (As := []) (rest := []) C hR hS t_r2 rfl mk_X4_start cl_X5_42 (k_X4_start t_r2 h_q7) ⟨⟨Nat.le_of_ble_eq_true rfl, Nat.le_of_ble_eq_true rfl⟩, ⟨rfl, rfl⟩, Nat.le_of_ble_eq_true rfl, Nat.le_of_ble_eq_true rfl⟩ rfl hl.1 rfl (Nat.le_of_ble_eq_true rfl) dX5_read_42 (fun H locs hR hS hE1 z_q7 => ?_)
    have hE := hE.tr hE1
    have t_r0 := hE1.at t_r0 (by decide)
    have t_r1 := hE1.at t_r1 (by decide)
    have t_r2 := hE1.at t_r2 (by decide)
    refine lv_aload_n C.x C.b dX5_read_45 rfl (lv_at hl 0 rfl) ?_
    refine lv_iconst (v := (0 : Int32)) C.x C.b dX5_read_46 (by decide) ?_
    obtain ⟨q8, h_q8, hf⟩ := bd_e hf
    refine r_callV (As := [.int (0 : Int32)]) (rest := []) C hR hS t_r0 rfl mk_X5_expression cl_X5_45 (k_X5_expression t_r0 h_q8) ⟨⟨Nat.le_of_ble_eq_true rfl, Nat.le_of_ble_eq_true rfl⟩, ⟨rfl, rfl⟩, Nat.le_of_ble_eq_true rfl, Nat.le_of_ble_eq_true rfl⟩ rfl hl.1 rfl (Nat.le_of_ble_eq_true rfl) dX5_read_47 (fun H locs hR hS hE1 z_q8 => ?_)
    have hE := hE.tr hE1
    have t_r0 := hE1.at t_r0 (by decide)
    have t_r1 := hE1.at t_r1 (by decide)
    have t_r2 := hE1.at t_r2 (by decide)
    have z_q8 := z_q8 _ rfl
    refine lv_if_eq (tgt := 77) C.x C.b dX5_read_50 (by decide) (fun c9 => ?_) (fun c9 => ?_)
    · have hf := it_t hf c9
      exact w_X5_read_77 C hr hlk _ _ _ _ hf hE hR hS t_r0 t_r1 t_r2 (lv_sub hl [0, 1, 2] rfl)
    · have hf := it_f hf c9
      refine lv_aload_n C.x C.b dX5_read_53 rfl (lv_at hl 0 rfl) ?_
      refine r_geti C hR t_r0 fl_X5_19 rfl dX5_read_54 ?_
      refine lv_aload_n C.x C.b dX5_read_57 rfl (lv_at hl 0 rfl) ?_
      refine r_geti C hR t_r0 fl_X5_34 rfl dX5_read_58 ?_
      refine lv_icmp_ne (tgt := 77) C.x C.b dX5_read_61 (by decide) (fun c10 => ?_) (fun c10 => ?_)
      · have hf := it_f hf c10
        exact w_X5_read_77 C hr hlk _ _ _ _ hf hE hR hS t_r0 t_r1 t_r2 (lv_sub hl [0, 1, 2] rfl)
      · have hf := it_t hf c10
        refine lv_aload_n C.x C.b dX5_read_64 rfl (lv_at hl 1 rfl) ?_
        refine r_geti C hR t_r1 fl_X5_23 rfl dX5_read_65 ?_
        refine lv_bipush (v := (40 : Int32)) C.x C.b dX5_read_68 (by decide) ?_
        refine lv_icmp_gt (tgt := 77) C.x C.b dX5_read_70 (by decide) (fun c11 => ?_) (fun c11 => ?_)
        · have hf := it_t hf c11
          exact w_X5_read_77 C hr hlk _ _ _ _ hf hE hR hS t_r0 t_r1 t_r2 (lv_sub hl [0, 1, 2] rfl)
        · have hf := it_f hf c11
          refine lv_iconst (v := (1 : Int32)) C.x C.b dX5_read_73 (by decide) ?_
          refine lv_goto (tgt := 78) C.x C.b dX5_read_74 (by decide) ?_
          exact w_X5_read_78 C hr hlk _ _ _ _ _ hf hE hR hS t_r0 t_r1 t_r2 z_1 (lv_sub hl [0, 1, 2] rfl)
  · have hf := it_t hf c6
    refine lv_aload_n C.x C.b dX5_read_35 rfl (lv_at hl 2 rfl) ?_
    obtain ⟨q12, h_q12, hf⟩ := bd_e hf
    refine r_callV (As := []) (rest := []) C hR hS t_r2 rfl mk_X4_putNone cl_X5_37 (k_X4_putNone t_r2 h_q12) ⟨⟨Nat.le_of_ble_eq_true rfl, Nat.le_of_ble_eq_true rfl⟩, ⟨rfl, rfl⟩, Nat.le_of_ble_eq_true rfl, Nat.le_of_ble_eq_true rfl⟩ rfl hl.1 rfl (Nat.le_of_ble_eq_true rfl) dX5_read_36 (fun H locs hR hS hE1 z_q12 => ?_)
    have hE := hE.tr hE1
    have t_r0 := hE1.at t_r0 (by decide)
    have t_r1 := hE1.at t_r1 (by decide)
    have t_r2 := hE1.at t_r2 (by decide)
    refine lv_iconst (v := (-1 : Int32)) C.x C.b dX5_read_39 (by decide) ?_
    have hf := so_e hf
    subst hf
    exact r_iret C hr hlk hR hE hS dX5_read_40

def rm_X6_init : Room := { frames := 1, cells := 1, slots := 80, locals := 12 }
set_option maxRecDepth 100000 in
set_option maxHeartbeats 4000000 in
theorem k_X6_init {G : Gt} {l : Launch}  {h : Hp} {r0 : Nat} {out : Hp} (t_r0 : hpT h r0 = (1, 6))  (hf : f_X6_init  h r0 = some out) : Mt G l yX6_init cX6_init 1 (none) rm_X6_init [.ref (G.2.2 + r0)] h (none) out 0 1 80 := by
  refine r_met (by decide +kernel) (Nat.le_of_ble_eq_true rfl) ?_
  intro p e s m args below meth c ls C hr hlk hnm hR hS hl
  have hE : Ext h h := Ext.rf
  have hl : lv_has ls 1 [(0, .ref (G.2.2 + r0))] := hl
  rw [f_X6_init] at hf
  refine lv_aload_n C.x C.b dX6_init_0 rfl (lv_at hl 0 rfl) ?_
  refine r_objinit C hl.1 lk_X6_3 lk_oi_i lk_oi_c (Nat.le_of_ble_eq_true rfl) (Nat.le_of_ble_eq_true rfl) dX6_init_1 ?_
  refine lv_aload_n C.x C.b dX6_init_4 rfl (lv_at hl 0 rfl) ?_
  refine lv_bipush (v := (80 : Int32)) C.x C.b dX6_init_5 (by decide) ?_
  refine r_newiN C hR hS (80 : Int32) (by decide) (Nat.le_of_ble_eq_true rfl) lk_arr_int (Nat.le_of_ble_eq_true rfl) (Nat.le_of_ble_eq_true rfl) dX6_init_7 (fun H a1 e_a1 hR hS hE1 t_a1 => ?_)
  have hf := lt_e hf e_a1
  obtain ⟨h2, e_h2⟩ : ∃ y, y = hpNew h (2, ix (80 : Int32)) := ⟨_, rfl⟩
  rw [← e_h2] at hR hE1 t_a1
  have hf := lt_e hf e_h2
  have hE := hE.tr hE1
  have t_r0 := hE1.at t_r0 (by decide)
  refine r_putr C hR hS true (fun _ => hnm) (ne0k hR t_a1 (by decide)) t_r0 (okT_a t_a1 rfl (by decide)) fl_X6_9 fp_X6_6_0 (by decide) dX6_init_9 (fun H locs hR hS => ?_)
  obtain ⟨h3, e_h3⟩ : ∃ y, y = upR h2 r0 0 a1 := ⟨_, rfl⟩
  rw [← e_h3] at hR
  have hf := lt_e hf e_h3
  have hE := eR e_h3 hE
  have t_r0 := tR e_h3 t_r0
  have hf := so_e hf
  subst hf
  refine W.widen (k := 1) (n := 80) (Nat.le_of_ble_eq_true rfl) (Nat.le_of_ble_eq_true rfl) ?_
  exact r_vret C hr hlk hR hE hS dX6_init_12

def rm_X6_add : Room := { frames := 0, cells := 0, slots := 0, locals := 0 }
set_option maxRecDepth 100000 in
set_option maxHeartbeats 4000000 in
theorem k_X6_add {G : Gt} {l : Launch}  {h : Hp} {r0 : Nat} {x1 : Int32} {out : Hp} (t_r0 : hpT h r0 = (1, 6))  (hf : f_X6_add  h r0 x1 = some out) : Mt G l yX6_add cX6_add 2 (none) rm_X6_add [.ref (G.2.2 + r0), .int x1] h (none) out 0 0 0 := by
  refine r_met (by decide +kernel) (Nat.le_of_ble_eq_true rfl) ?_
  intro p e s m args below meth c ls C hr hlk hnm hR hS hl
  have hE : Ext h h := Ext.rf
  have hl : lv_has ls 2 [(0, .ref (G.2.2 + r0)), (1, .int x1)] := hl
  rw [f_X6_add] at hf
  refine lv_aload_n C.x C.b dX6_add_0 rfl (lv_at hl 0 rfl) ?_
  refine r_geti C hR t_r0 fl_X6_15 rfl dX6_add_1 ?_
  refine lv_if_lt (tgt := 39) C.x C.b dX6_add_4 (by decide) (fun c1 => ?_) (fun c1 => ?_)
  · have hf := it_t hf c1
    have hf := so_e hf
    subst hf
    exact r_vret C hr hlk hR hE hS dX6_add_39
  · have hf := it_f hf c1
    refine lv_aload_n C.x C.b dX6_add_7 rfl (lv_at hl 0 rfl) ?_
    refine r_geti C hR t_r0 fl_X6_15 rfl dX6_add_8 ?_
    refine lv_aload_n C.x C.b dX6_add_11 rfl (lv_at hl 0 rfl) ?_
    obtain ⟨g2, hf⟩ := gd_e hf
    refine r_getr C hR t_r0 fl_X6_9 (by decide) (nz_e g2) dX6_add_12 (fun tq3 => ?_)
    have tg2 := okA tq3 rfl
    refine r_alen C hR (Or.inl tg2) dX6_add_15 ?_
    refine lv_icmp_ge (tgt := 39) C.x C.b dX6_add_16 (by decide) (fun c4 => ?_) (fun c4 => ?_)
    · have hf := it_t hf c4
      have hf := so_e hf
      subst hf
      exact r_vret C hr hlk hR hE hS dX6_add_39
    · have hf := it_f hf c4
      refine lv_aload_n C.x C.b dX6_add_19 rfl (lv_at hl 0 rfl) ?_
      refine r_getr C hR t_r0 fl_X6_9 (by decide) (nz_e g2) dX6_add_20 (fun tq5 => ?_)
      refine lv_aload_n C.x C.b dX6_add_23 rfl (lv_at hl 0 rfl) ?_
      refine r_geti C hR t_r0 fl_X6_15 rfl dX6_add_24 ?_
      refine lv_iload_n C.x C.b dX6_add_27 rfl (lv_at hl 1 rfl) ?_
      obtain ⟨g6, hf⟩ := gd_e hf
      refine r_iast C hR hS tg2 g6 dX6_add_28 (fun H locs hR hS => ?_)
      obtain ⟨h7, e_h7⟩ : ∃ y, y = upI h (hpR h r0 0) (ix (hpI h r0 1)) x1 := ⟨_, rfl⟩
      rw [← e_h7] at hR
      have hf := lt_e hf e_h7
      have hE := eI e_h7 hE
      have t_r0 := tI e_h7 t_r0
      refine lv_aload_n C.x C.b dX6_add_29 rfl (lv_at hl 0 rfl) ?_
      refine lv_dup C.x C.b dX6_add_30 rfl ?_
      refine r_geti C hR t_r0 fl_X6_15 rfl dX6_add_31 ?_
      refine lv_iconst (v := (1 : Int32)) C.x C.b dX6_add_34 (by decide) ?_
      refine lv_iadd C.x C.b dX6_add_35 ?_
      refine r_puti C hR hS t_r0 fl_X6_15 fp_X6_6_1 rfl dX6_add_36 (fun H locs hR hS => ?_)
      obtain ⟨h8, e_h8⟩ : ∃ y, y = upI h7 r0 1 ((hpI h7 r0 1) + (1 : Int32)) := ⟨_, rfl⟩
      rw [← e_h8] at hR
      have hf := lt_e hf e_h8
      have hE := eI e_h8 hE
      have t_r0 := tI e_h8 t_r0
      have hf := so_e hf
      subst hf
      exact r_vret C hr hlk hR hE hS dX6_add_39

def rm_X7_init : Room := { frames := 1, cells := 1, slots := 128, locals := 12 }
set_option maxRecDepth 100000 in
set_option maxHeartbeats 4000000 in
theorem k_X7_init {G : Gt} {l : Launch}  {h : Hp} {r0 : Nat} {out : Hp} (t_r0 : hpT h r0 = (1, 7))  (hf : f_X7_init  h r0 = some out) : Mt G l yX7_init cX7_init 1 (none) rm_X7_init [.ref (G.2.2 + r0)] h (none) out 0 1 128 := by
  refine r_met (by decide +kernel) (Nat.le_of_ble_eq_true rfl) ?_
  intro p e s m args below meth c ls C hr hlk hnm hR hS hl
  have hE : Ext h h := Ext.rf
  have hl : lv_has ls 1 [(0, .ref (G.2.2 + r0))] := hl
  rw [f_X7_init] at hf
  refine lv_aload_n C.x C.b dX7_init_0 rfl (lv_at hl 0 rfl) ?_
  refine r_objinit C hl.1 lk_X7_1 lk_oi_i lk_oi_c (Nat.le_of_ble_eq_true rfl) (Nat.le_of_ble_eq_true rfl) dX7_init_1 ?_
  refine lv_aload_n C.x C.b dX7_init_4 rfl (lv_at hl 0 rfl) ?_
  refine lv_sipush (v := (128 : Int32)) C.x C.b dX7_init_5 (by decide) ?_
  refine r_newlN C hR hS (128 : Int32) (by decide) (Nat.le_of_ble_eq_true rfl) lk_arr_long (Nat.le_of_ble_eq_true rfl) (Nat.le_of_ble_eq_true rfl) dX7_init_8 (fun H a1 e_a1 hR hS hE1 t_a1 => ?_)
  have hf := lt_e hf e_a1
  obtain ⟨h2, e_h2⟩ : ∃ y, y = hpNew h (3, ix (128 : Int32)) := ⟨_, rfl⟩
  rw [← e_h2] at hR hE1 t_a1
  have hf := lt_e hf e_h2
  have hE := hE.tr hE1
  have t_r0 := hE1.at t_r0 (by decide)
  refine r_putr C hR hS true (fun _ => hnm) (ne0k hR t_a1 (by decide)) t_r0 (okT_a t_a1 rfl (by decide)) fl_X7_7 fp_X7_7_0 (by decide) dX7_init_10 (fun H locs hR hS => ?_)
  obtain ⟨h3, e_h3⟩ : ∃ y, y = upR h2 r0 0 a1 := ⟨_, rfl⟩
  rw [← e_h3] at hR
  have hf := lt_e hf e_h3
  have hE := eR e_h3 hE
  have t_r0 := tR e_h3 t_r0
  have hf := so_e hf
  subst hf
  refine W.widen (k := 1) (n := 128) (Nat.le_of_ble_eq_true rfl) (Nat.le_of_ble_eq_true rfl) ?_
  exact r_vret C hr hlk hR hE hS dX7_init_13

def rm_X7_start : Room := { frames := 0, cells := 0, slots := 0, locals := 0 }
set_option maxRecDepth 100000 in
set_option maxHeartbeats 4000000 in
theorem k_X7_start {G : Gt} {l : Launch}  {h : Hp} {r0 : Nat} {out : Hp} (t_r0 : hpT h r0 = (1, 7))  (hf : f_X7_start  h r0 = some out) : Mt G l yX7_start cX7_start 1 (none) rm_X7_start [.ref (G.2.2 + r0)] h (none) out 0 0 0 := by
  refine r_met (by decide +kernel) (Nat.le_of_ble_eq_true rfl) ?_
  intro p e s m args below meth c ls C hr hlk hnm hR hS hl
  have hE : Ext h h := Ext.rf
  have hl : lv_has ls 1 [(0, .ref (G.2.2 + r0))] := hl
  rw [f_X7_start] at hf
  refine lv_aload_n C.x C.b dX7_start_0 rfl (lv_at hl 0 rfl) ?_
  refine lv_iconst (v := (0 : Int32)) C.x C.b dX7_start_1 (by decide) ?_
  refine r_puti C hR hS t_r0 fl_X7_13 fp_X7_7_1 rfl dX7_start_2 (fun H locs hR hS => ?_)
  obtain ⟨h1, e_h1⟩ : ∃ y, y = upI h r0 1 (0 : Int32) := ⟨_, rfl⟩
  rw [← e_h1] at hR
  have hf := lt_e hf e_h1
  have hE := eI e_h1 hE
  have t_r0 := tI e_h1 t_r0
  have hf := so_e hf
  subst hf
  exact r_vret C hr hlk hR hE hS dX7_start_5

def rm_X7_add : Room := { frames := 0, cells := 0, slots := 0, locals := 0 }
set_option maxRecDepth 100000 in
set_option maxHeartbeats 4000000 in
theorem k_X7_add {G : Gt} {l : Launch}  {h : Hp} {r0 : Nat} {y1 : Int64} {out : Hp} (t_r0 : hpT h r0 = (1, 7))  (hf : f_X7_add  h r0 y1 = some out) : Mt G l yX7_add cX7_add 3 (none) rm_X7_add [.ref (G.2.2 + r0), .long y1] h (none) out 0 0 0 := by
  refine r_met (by decide +kernel) (Nat.le_of_ble_eq_true rfl) ?_
  intro p e s m args below meth c ls C hr hlk hnm hR hS hl
  have hE : Ext h h := Ext.rf
  have hl : lv_has ls 3 [(0, .ref (G.2.2 + r0)), (1, .long y1)] := hl
  rw [f_X7_add] at hf
  refine lv_aload_n C.x C.b dX7_add_0 rfl (lv_at hl 0 rfl) ?_
  refine r_geti C hR t_r0 fl_X7_13 rfl dX7_add_1 ?_
  refine lv_aload_n C.x C.b dX7_add_4 rfl (lv_at hl 0 rfl) ?_
  obtain ⟨g1, hf⟩ := gd_e hf
  refine r_getr C hR t_r0 fl_X7_7 (by decide) (nz_e g1) dX7_add_5 (fun tq2 => ?_)
  have tg1 := okA tq2 rfl
  refine r_alen C hR (Or.inr tg1) dX7_add_8 ?_
  refine lv_icmp_ge (tgt := 32) C.x C.b dX7_add_9 (by decide) (fun c3 => ?_) (fun c3 => ?_)
  · have hf := it_t hf c3
    have hf := so_e hf
    subst hf
    exact r_vret C hr hlk hR hE hS dX7_add_32
  · have hf := it_f hf c3
    refine lv_aload_n C.x C.b dX7_add_12 rfl (lv_at hl 0 rfl) ?_
    refine r_getr C hR t_r0 fl_X7_7 (by decide) (nz_e g1) dX7_add_13 (fun tq4 => ?_)
    refine lv_aload_n C.x C.b dX7_add_16 rfl (lv_at hl 0 rfl) ?_
    refine r_geti C hR t_r0 fl_X7_13 rfl dX7_add_17 ?_
    refine lv_lload_n C.x C.b dX7_add_20 rfl (lv_at hl 1 rfl) ?_
    obtain ⟨g5, hf⟩ := gd_e hf
    refine r_last C hR hS tg1 g5 dX7_add_21 (fun H locs hR hS => ?_)
    obtain ⟨h6, e_h6⟩ : ∃ y, y = upL h (hpR h r0 0) (ix (hpI h r0 1)) y1 := ⟨_, rfl⟩
    rw [← e_h6] at hR
    have hf := lt_e hf e_h6
    have hE := eL e_h6 hE
    have t_r0 := tL e_h6 t_r0
    refine lv_aload_n C.x C.b dX7_add_22 rfl (lv_at hl 0 rfl) ?_
    refine lv_dup C.x C.b dX7_add_23 rfl ?_
    refine r_geti C hR t_r0 fl_X7_13 rfl dX7_add_24 ?_
    refine lv_iconst (v := (1 : Int32)) C.x C.b dX7_add_27 (by decide) ?_
    refine lv_iadd C.x C.b dX7_add_28 ?_
    refine r_puti C hR hS t_r0 fl_X7_13 fp_X7_7_1 rfl dX7_add_29 (fun H locs hR hS => ?_)
    obtain ⟨h7, e_h7⟩ : ∃ y, y = upI h6 r0 1 ((hpI h6 r0 1) + (1 : Int32)) := ⟨_, rfl⟩
    rw [← e_h7] at hR
    have hf := lt_e hf e_h7
    have hE := eI e_h7 hE
    have t_r0 := tI e_h7 t_r0
    have hf := so_e hf
    subst hf
    exact r_vret C hr hlk hR hE hS dX7_add_32

def rm_X7_turnRound : Room := { frames := 0, cells := 0, slots := 0, locals := 0 }
def P_X7_turnRound_2 (G : Gt) (l : Launch) (p : Program) (e : Env) (s : State) (m : MethodId) (args : Array Value) (below : List Frame) (meth : Method) (c : Code) (h0 : Hp) (out : Hp) (r0 : Nat) (k : Hp → Int32 → Option Hp) : Prop := ∀ (H : Heap) (locs : List Loc) (ls : Array Slot) (h : Hp) (x1 : Int32), k h x1 = some out → Ext h0 h → Rel G h H → va_S (AA G.2.2) s.heap H locs → hpT h r0 = (1, 7) → lv_has ls 4 [(0, .ref (G.2.2 + r0)), (1, .int x1)] → W p l e rm_X7_turnRound s m args below meth c H locs 0 0 (MQ below (Qm G h0 out (none) 0) args s 0 0 (AA G.2.2)) (F0 m 2 ls [])
set_option maxRecDepth 100000 in
set_option maxHeartbeats 4000000 in
theorem w_X7_turnRound_2 {G : Gt} {l : Launch} {p : Program} {e : Env} {s : State} {m : MethodId} {args : Array Value} {below : List Frame} {meth : Method} {c : Code}  {h0 : Hp} {out : Hp} {r0 : Nat}  (C : Cx G p m c cX7_turnRound 4 s args RX7) (hr : meth.sig.returnType = none) (hlk : meth.locks = false)   (n : Nat) : P_X7_turnRound_2 G l p e s m args below meth c h0 out r0 (f_X7_turnRound_2 r0 n) := by
  induction n with
  | zero => intro H locs ls h x1 hf hE hR hS t_r0 hl; cases hf
  | succ n hk2 =>
    intro H locs ls h x1 hf hE hR hS t_r0 hl
    rw [f_X7_turnRound_2] at hf
    obtain ⟨k2, e_k2⟩ : ∃ y, y = f_X7_turnRound_2 r0 n := ⟨_, rfl⟩
    have hf := lt_e hf e_k2
    rw [← e_k2] at hk2
    refine lv_iload_n C.x C.b dX7_turnRound_2 rfl (lv_at hl 1 rfl) ?_
    refine lv_aload_n C.x C.b dX7_turnRound_3 rfl (lv_at hl 0 rfl) ?_
    refine r_geti C hR t_r0 fl_X7_13 rfl dX7_turnRound_4 ?_
    refine lv_iconst (v := (2 : Int32)) C.x C.b dX7_turnRound_7 (by decide) ?_
    refine lv_idiv C.x C.b dX7_turnRound_8 (by decide) ?_
    refine lv_icmp_ge (tgt := 58) C.x C.b dX7_turnRound_9 (by decide) (fun c1 => ?_) (fun c1 => ?_)
    · have hf := it_t hf c1
      have hf := so_e hf
      subst hf
      exact r_vret C hr hlk hR hE hS dX7_turnRound_58
    · have hf := it_f hf c1
      refine lv_aload_n C.x C.b dX7_turnRound_12 rfl (lv_at hl 0 rfl) ?_
      obtain ⟨g2, hf⟩ := gd_e hf
      refine r_getr C hR t_r0 fl_X7_7 (by decide) (nz_e g2) dX7_turnRound_13 (fun tq3 => ?_)
      have tg2 := okA tq3 rfl
      refine lv_iload_n C.x C.b dX7_turnRound_16 rfl (lv_at hl 1 rfl) ?_
      obtain ⟨g4, hf⟩ := gd_e hf
      refine r_lald C hR tg2 g4 dX7_turnRound_17 ?_
      refine lv_topl (fun v5 e_v5 => ?_)
      have hf := lt_e hf e_v5
      refine lv_lstore_n (lv' := [(2, .long v5), (0, .ref (G.2.2 + r0)), (1, .int x1)]) C.x C.b dX7_turnRound_18 rfl hl (by decide) rfl (fun ls hl => ?_)
      refine lv_aload_n C.x C.b dX7_turnRound_19 rfl (lv_at hl 1 rfl) ?_
      refine r_getr C hR t_r0 fl_X7_7 (by decide) (nz_e g2) dX7_turnRound_20 (fun tq6 => ?_)
      refine lv_iload_n C.x C.b dX7_turnRound_23 rfl (lv_at hl 2 rfl) ?_
      refine lv_aload_n C.x C.b dX7_turnRound_24 rfl (lv_at hl 1 rfl) ?_
      refine r_getr C hR t_r0 fl_X7_7 (by decide) (nz_e g2) dX7_turnRound_25 (fun tq7 => ?_)
      refine lv_aload_n C.x C.b dX7_turnRound_28 rfl (lv_at hl 1 rfl) ?_
      refine r_geti C hR t_r0 fl_X7_13 rfl dX7_turnRound_29 ?_
      refine lv_iconst (v := (1 : Int32)) C.x C.b dX7_turnRound_32 (by decide) ?_
      refine lv_isub C.x C.b dX7_turnRound_33 ?_
      refine lv_iload_n C.x C.b dX7_turnRound_34 rfl (lv_at hl 2 rfl) ?_
      refine lv_isub C.x C.b dX7_turnRound_35 ?_
      obtain ⟨g8, hf⟩ := gd_e hf
      refine r_lald C hR tg2 g8 dX7_turnRound_36 ?_
      obtain ⟨g9, hf⟩ := gd_e hf
      refine r_last C hR hS tg2 g9 dX7_turnRound_37 (fun H locs hR hS => ?_)
      obtain ⟨h10, e_h10⟩ : ∃ y, y = upL h (hpR h r0 0) (ix x1) (hpL h (hpR h r0 0) (ix (((hpI h r0 1) - (1 : Int32)) - x1))) := ⟨_, rfl⟩
      rw [← e_h10] at hR
      have hf := lt_e hf e_h10
      have hE := eL e_h10 hE
      have t_r0 := tL e_h10 t_r0
      refine lv_aload_n C.x C.b dX7_turnRound_38 rfl (lv_at hl 1 rfl) ?_
      obtain ⟨g11, hf⟩ := gd_e hf
      refine r_getr C hR t_r0 fl_X7_7 (by decide) (nz_e g11) dX7_turnRound_39 (fun tq12 => ?_)
      have tg11 := okA tq12 rfl
      refine lv_aload_n C.x C.b dX7_turnRound_42 rfl (lv_at hl 1 rfl) ?_
      refine r_geti C hR t_r0 fl_X7_13 rfl dX7_turnRound_43 ?_
      refine lv_iconst (v := (1 : Int32)) C.x C.b dX7_turnRound_46 (by decide) ?_
      refine lv_isub C.x C.b dX7_turnRound_47 ?_
      refine lv_iload_n C.x C.b dX7_turnRound_48 rfl (lv_at hl 2 rfl) ?_
      refine lv_isub C.x C.b dX7_turnRound_49 ?_
      refine lv_lload_n C.x C.b dX7_turnRound_50 rfl (lv_at hl 0 rfl) ?_
      obtain ⟨g13, hf⟩ := gd_e hf
      refine r_last C hR hS tg11 g13 dX7_turnRound_51 (fun H locs hR hS => ?_)
      obtain ⟨h14, e_h14⟩ : ∃ y, y = upL h10 (hpR h10 r0 0) (ix (((hpI h10 r0 1) - (1 : Int32)) - x1)) v5 := ⟨_, rfl⟩
      rw [← e_h14] at hR
      have hf := lt_e hf e_h14
      have hE := eL e_h14 hE
      have t_r0 := tL e_h14 t_r0
      obtain ⟨v15, e_v15⟩ : ∃ y : Int32, y = x1 + (1 : Int32) := ⟨_, rfl⟩
      have hf := lt_e hf e_v15
      refine lv_iinc (v := v15) (lv' := [(1, .int v15), (2, .long v5), (0, .ref (G.2.2 + r0))]) C.x C.b dX7_turnRound_52 hl (k := 2) rfl (by rw [e_v15]; rfl) (by decide) rfl (fun ls hl => ?_)
      refine lv_goto (tgt := 2) C.x C.b dX7_turnRound_55 (by decide) ?_
      exact hk2 _ _ _ _ _ hf hE hR hS t_r0 (lv_sub hl [2, 0] rfl)
set_option maxRecDepth 100000 in
set_option maxHeartbeats 4000000 in
theorem k_X7_turnRound {G : Gt} {l : Launch}  {h : Hp} {r0 : Nat} {out : Hp} (t_r0 : hpT h r0 = (1, 7))  (hf : f_X7_turnRound  h r0 = some out) : Mt G l yX7_turnRound cX7_turnRound 4 (none) rm_X7_turnRound [.ref (G.2.2 + r0)] h (none) out 0 0 0 := by
  refine r_met (by decide +kernel) (Nat.le_of_ble_eq_true rfl) ?_
  intro p e s m args below meth c ls C hr hlk hnm hR hS hl
  have hE : Ext h h := Ext.rf
  have hl : lv_has ls 4 [(0, .ref (G.2.2 + r0))] := hl
  rw [f_X7_turnRound] at hf
  refine lv_iconst (v := (0 : Int32)) C.x C.b dX7_turnRound_0 (by decide) ?_
  refine lv_istore_n (lv' := [(1, .int (0 : Int32)), (0, .ref (G.2.2 + r0))]) C.x C.b dX7_turnRound_1 rfl hl (by decide) rfl (fun ls hl => ?_)
  exact w_X7_turnRound_2 C hr hlk FU _ _ _ _ _ hf hE hR hS t_r0 (lv_sub hl [1, 0] rfl)

def rm_X8_init : Room := { frames := 1, cells := 5, slots := 9580, locals := 12 }
set_option maxRecDepth 100000 in
set_option maxHeartbeats 4000000 in
theorem k_X8_init {G : Gt} {l : Launch}  {h : Hp} {r0 : Nat} {out : Hp} (t_r0 : hpT h r0 = (1, 8))  (hf : f_X8_init  h r0 = some out) : Mt G l yX8_init cX8_init 1 (none) rm_X8_init [.ref (G.2.2 + r0)] h (none) out 0 5 9580 := by
  refine r_met (by decide +kernel) (Nat.le_of_ble_eq_true rfl) ?_
  intro p e s m args below meth c ls C hr hlk hnm hR hS hl
  have hE : Ext h h := Ext.rf
  have hl : lv_has ls 1 [(0, .ref (G.2.2 + r0))] := hl
  rw [f_X8_init] at hf
  refine lv_aload_n C.x C.b dX8_init_0 rfl (lv_at hl 0 rfl) ?_
  refine r_objinit C hl.1 lk_X8_3 lk_oi_i lk_oi_c (Nat.le_of_ble_eq_true rfl) (Nat.le_of_ble_eq_true rfl) dX8_init_1 ?_
  refine lv_aload_n C.x C.b dX8_init_4 rfl (lv_at hl 0 rfl) ?_
  refine lv_sipush (v := (9216 : Int32)) C.x C.b dX8_init_5 (by decide) ?_
  refine r_newiN C hR hS (9216 : Int32) (by decide) (Nat.le_of_ble_eq_true rfl) lk_arr_int (Nat.le_of_ble_eq_true rfl) (Nat.le_of_ble_eq_true rfl) dX8_init_8 (fun H a1 e_a1 hR hS hE1 t_a1 => ?_)
  have hf := lt_e hf e_a1
  obtain ⟨h2, e_h2⟩ : ∃ y, y = hpNew h (2, ix (9216 : Int32)) := ⟨_, rfl⟩
  rw [← e_h2] at hR hE1 t_a1
  have hf := lt_e hf e_h2
  have hE := hE.tr hE1
  have t_r0 := hE1.at t_r0 (by decide)
  refine r_putr C hR hS true (fun _ => hnm) (ne0k hR t_a1 (by decide)) t_r0 (okT_a t_a1 rfl (by decide)) fl_X8_11 fp_X8_8_0 (by decide) dX8_init_10 (fun H locs hR hS => ?_)
  obtain ⟨h3, e_h3⟩ : ∃ y, y = upR h2 r0 0 a1 := ⟨_, rfl⟩
  rw [← e_h3] at hR
  have hf := lt_e hf e_h3
  have hE := eR e_h3 hE
  have t_r0 := tR e_h3 t_r0
  refine lv_aload_n C.x C.b dX8_init_13 rfl (lv_at hl 0 rfl) ?_
  refine lv_sipush (v := (256 : Int32)) C.x C.b dX8_init_14 (by decide) ?_
  refine r_newlN C hR hS (256 : Int32) (by decide) (Nat.le_of_ble_eq_true rfl) lk_arr_long (Nat.le_of_ble_eq_true rfl) (Nat.le_of_ble_eq_true rfl) dX8_init_17 (fun H a4 e_a4 hR hS hE1 t_a4 => ?_)
  have hf := lt_e hf e_a4
  obtain ⟨h5, e_h5⟩ : ∃ y, y = hpNew h3 (3, ix (256 : Int32)) := ⟨_, rfl⟩
  rw [← e_h5] at hR hE1 t_a4
  have hf := lt_e hf e_h5
  have hE := hE.tr hE1
  have t_r0 := hE1.at t_r0 (by decide)
  refine r_putr C hR hS true (fun _ => hnm) (ne0k hR t_a4 (by decide)) t_r0 (okT_a t_a4 rfl (by decide)) fl_X8_15 fp_X8_8_1 (by decide) dX8_init_19 (fun H locs hR hS => ?_)
  obtain ⟨h6, e_h6⟩ : ∃ y, y = upR h5 r0 1 a4 := ⟨_, rfl⟩
  rw [← e_h6] at hR
  have hf := lt_e hf e_h6
  have hE := eR e_h6 hE
  have t_r0 := tR e_h6 t_r0
  refine lv_aload_n C.x C.b dX8_init_22 rfl (lv_at hl 0 rfl) ?_
  refine lv_bipush (v := (36 : Int32)) C.x C.b dX8_init_23 (by decide) ?_
  refine r_newiN C hR hS (36 : Int32) (by decide) (Nat.le_of_ble_eq_true rfl) lk_arr_int (Nat.le_of_ble_eq_true rfl) (Nat.le_of_ble_eq_true rfl) dX8_init_25 (fun H a7 e_a7 hR hS hE1 t_a7 => ?_)
  have hf := lt_e hf e_a7
  obtain ⟨h8, e_h8⟩ : ∃ y, y = hpNew h6 (2, ix (36 : Int32)) := ⟨_, rfl⟩
  rw [← e_h8] at hR hE1 t_a7
  have hf := lt_e hf e_h8
  have hE := hE.tr hE1
  have t_r0 := hE1.at t_r0 (by decide)
  refine r_putr C hR hS true (fun _ => hnm) (ne0k hR t_a7 (by decide)) t_r0 (okT_a t_a7 rfl (by decide)) fl_X8_19 fp_X8_8_2 (by decide) dX8_init_27 (fun H locs hR hS => ?_)
  obtain ⟨h9, e_h9⟩ : ∃ y, y = upR h8 r0 2 a7 := ⟨_, rfl⟩
  rw [← e_h9] at hR
  have hf := lt_e hf e_h9
  have hE := eR e_h9 hE
  have t_r0 := tR e_h9 t_r0
  refine lv_aload_n C.x C.b dX8_init_30 rfl (lv_at hl 0 rfl) ?_
  refine lv_bipush (v := (36 : Int32)) C.x C.b dX8_init_31 (by decide) ?_
  refine r_newiN C hR hS (36 : Int32) (by decide) (Nat.le_of_ble_eq_true rfl) lk_arr_int (Nat.le_of_ble_eq_true rfl) (Nat.le_of_ble_eq_true rfl) dX8_init_33 (fun H a10 e_a10 hR hS hE1 t_a10 => ?_)
  have hf := lt_e hf e_a10
  obtain ⟨h11, e_h11⟩ : ∃ y, y = hpNew h9 (2, ix (36 : Int32)) := ⟨_, rfl⟩
  rw [← e_h11] at hR hE1 t_a10
  have hf := lt_e hf e_h11
  have hE := hE.tr hE1
  have t_r0 := hE1.at t_r0 (by decide)
  refine r_putr C hR hS true (fun _ => hnm) (ne0k hR t_a10 (by decide)) t_r0 (okT_a t_a10 rfl (by decide)) fl_X8_22 fp_X8_8_3 (by decide) dX8_init_35 (fun H locs hR hS => ?_)
  obtain ⟨h12, e_h12⟩ : ∃ y, y = upR h11 r0 3 a10 := ⟨_, rfl⟩
  rw [← e_h12] at hR
  have hf := lt_e hf e_h12
  have hE := eR e_h12 hE
  have t_r0 := tR e_h12 t_r0
  refine lv_aload_n C.x C.b dX8_init_38 rfl (lv_at hl 0 rfl) ?_
  refine lv_bipush (v := (36 : Int32)) C.x C.b dX8_init_39 (by decide) ?_
  refine r_newiN C hR hS (36 : Int32) (by decide) (Nat.le_of_ble_eq_true rfl) lk_arr_int (Nat.le_of_ble_eq_true rfl) (Nat.le_of_ble_eq_true rfl) dX8_init_41 (fun H a13 e_a13 hR hS hE1 t_a13 => ?_)
  have hf := lt_e hf e_a13
  obtain ⟨h14, e_h14⟩ : ∃ y, y = hpNew h12 (2, ix (36 : Int32)) := ⟨_, rfl⟩
  rw [← e_h14] at hR hE1 t_a13
  have hf := lt_e hf e_h14
  have hE := hE.tr hE1
  have t_r0 := hE1.at t_r0 (by decide)
  refine r_putr C hR hS true (fun _ => hnm) (ne0k hR t_a13 (by decide)) t_r0 (okT_a t_a13 rfl (by decide)) fl_X8_25 fp_X8_8_4 (by decide) dX8_init_43 (fun H locs hR hS => ?_)
  obtain ⟨h15, e_h15⟩ : ∃ y, y = upR h14 r0 4 a13 := ⟨_, rfl⟩
  rw [← e_h15] at hR
  have hf := lt_e hf e_h15
  have hE := eR e_h15 hE
  have t_r0 := tR e_h15 t_r0
  have hf := so_e hf
  subst hf
  refine W.widen (k := 5) (n := 9580) (Nat.le_of_ble_eq_true rfl) (Nat.le_of_ble_eq_true rfl) ?_
  exact r_vret C hr hlk hR hE hS dX8_init_46

def rm_J7_fill_d0a16 : Room := { frames := 0, cells := 0, slots := 0, locals := 0 }
def P_J7_fill_d0a16_6 (G : Gt) (l : Launch) (p : Program) (e : Env) (s : State) (m : MethodId) (args : Array Value) (below : List Frame) (meth : Method) (c : Code) (h0 : Hp) (out : Hp) (r0 : Nat) (y1 : Int64) (k : Hp → Int32 → Int32 → Option Hp) : Prop := ∀ (H : Heap) (locs : List Loc) (ls : Array Slot) (h : Hp) (x3 : Int32) (x4 : Int32), k h x3 x4 = some out → Ext h0 h → Rel G h H → va_S (AA G.2.2) s.heap H locs → (hpT h r0).1 = 3 → lv_has ls 5 [(0, .ref (G.2.2 + r0)), (1, .long y1), (3, .int x3), (4, .int x4)] → W p l e rm_J7_fill_d0a16 s m args below meth c H locs 0 0 (MQ below (Qm G h0 out (none) 0) args s 0 0 (AA G.2.2)) (F0 m 6 ls [])
set_option maxRecDepth 100000 in
set_option maxHeartbeats 4000000 in
theorem w_J7_fill_d0a16_6 {G : Gt} {l : Launch} {p : Program} {e : Env} {s : State} {m : MethodId} {args : Array Value} {below : List Frame} {meth : Method} {c : Code}  {h0 : Hp} {out : Hp} {r0 : Nat} {y1 : Int64}  (C : Cx G p m c cJ7_fill_d0a16 5 s args RJ7) (hr : meth.sig.returnType = none) (hlk : meth.locks = false)   (n : Nat) : P_J7_fill_d0a16_6 G l p e s m args below meth c h0 out r0 y1 (f_J7_fill_d0a16_6 r0 y1 n) := by
  induction n with
  | zero => intro H locs ls h x3 x4 hf hE hR hS t_r0 hl; cases hf
  | succ n hk6 =>
    intro H locs ls h x3 x4 hf hE hR hS t_r0 hl
    rw [f_J7_fill_d0a16_6] at hf
    obtain ⟨k6, e_k6⟩ : ∃ y, y = f_J7_fill_d0a16_6 r0 y1 n := ⟨_, rfl⟩
    have hf := lt_e hf e_k6
    rw [← e_k6] at hk6
    refine lv_iload_n C.x C.b dJ7_fill_d0a16_6 rfl (lv_at hl 2 rfl) ?_
    refine lv_iload C.x C.b dJ7_fill_d0a16_7 (lv_at hl 3 rfl) ?_
    refine lv_icmp_ge (tgt := 22) C.x C.b dJ7_fill_d0a16_9 (by decide) (fun c2 => ?_) (fun c2 => ?_)
    · have hf := it_t hf c2
      have hf := so_e hf
      subst hf
      exact r_vret C hr hlk hR hE hS dJ7_fill_d0a16_22
    · have hf := it_f hf c2
      refine lv_aload_n C.x C.b dJ7_fill_d0a16_12 rfl (lv_at hl 0 rfl) ?_
      refine lv_iload_n C.x C.b dJ7_fill_d0a16_13 rfl (lv_at hl 2 rfl) ?_
      refine lv_lload_n C.x C.b dJ7_fill_d0a16_14 rfl (lv_at hl 1 rfl) ?_
      obtain ⟨g3, hf⟩ := gd_e hf
      refine r_last C hR hS t_r0 g3 dJ7_fill_d0a16_15 (fun H locs hR hS => ?_)
      obtain ⟨h4, e_h4⟩ : ∃ y, y = upL h r0 (ix x3) y1 := ⟨_, rfl⟩
      rw [← e_h4] at hR
      have hf := lt_e hf e_h4
      have hE := eL e_h4 hE
      have t_r0 := tLk e_h4 t_r0
      obtain ⟨v5, e_v5⟩ : ∃ y : Int32, y = x3 + (1 : Int32) := ⟨_, rfl⟩
      have hf := lt_e hf e_v5
      refine lv_iinc (v := v5) (lv' := [(3, .int v5), (0, .ref (G.2.2 + r0)), (1, .long y1), (4, .int x4)]) C.x C.b dJ7_fill_d0a16_16 hl (k := 2) rfl (by rw [e_v5]; rfl) (by decide) rfl (fun ls hl => ?_)
      refine lv_goto (tgt := 6) C.x C.b dJ7_fill_d0a16_19 (by decide) ?_
      exact hk6 _ _ _ _ _ _ hf hE hR hS t_r0 (lv_sub hl [1, 2, 0, 3] rfl)
set_option maxRecDepth 100000 in
set_option maxHeartbeats 4000000 in
theorem k_J7_fill_d0a16 {G : Gt} {l : Launch}  {h : Hp} {r0 : Nat} {y1 : Int64} {out : Hp} (t_r0 : (hpT h r0).1 = 3)  (hf : f_J7_fill_d0a16  h r0 y1 = some out) : Mt G l yJ7_fill_d0a16 cJ7_fill_d0a16 5 (none) rm_J7_fill_d0a16 [.ref (G.2.2 + r0), .long y1] h (none) out 0 0 0 := by
  refine r_met (by decide +kernel) (Nat.le_of_ble_eq_true rfl) ?_
  intro p e s m args below meth c ls C hr hlk hnm hR hS hl
  have hE : Ext h h := Ext.rf
  have hl : lv_has ls 5 [(0, .ref (G.2.2 + r0)), (1, .long y1)] := hl
  rw [f_J7_fill_d0a16] at hf
  refine lv_iconst (v := (0 : Int32)) C.x C.b dJ7_fill_d0a16_0 (by decide) ?_
  refine lv_istore_n (lv' := [(3, .int (0 : Int32)), (0, .ref (G.2.2 + r0)), (1, .long y1)]) C.x C.b dJ7_fill_d0a16_1 rfl hl (by decide) rfl (fun ls hl => ?_)
  refine lv_aload_n C.x C.b dJ7_fill_d0a16_2 rfl (lv_at hl 1 rfl) ?_
  refine r_alen C hR (Or.inr t_r0) dJ7_fill_d0a16_3 ?_
  refine lv_topi (fun v1 e_v1 => ?_)
  have hf := lt_e hf e_v1
  refine lv_istore (lv' := [(4, .int v1), (3, .int (0 : Int32)), (0, .ref (G.2.2 + r0)), (1, .long y1)]) C.x C.b dJ7_fill_d0a16_4 hl (by decide) rfl (fun ls hl => ?_)
  exact w_J7_fill_d0a16_6 C hr hlk FU _ _ _ _ _ _ hf hE hR hS t_r0 (lv_sub hl [2, 3, 1, 0] rfl)

def rm_X8_reach : Room := { frames := 0, cells := 0, slots := 0, locals := 0 }
set_option maxRecDepth 100000 in
set_option maxHeartbeats 4000000 in
theorem k_X8_reach {G : Gt} {l : Launch}  {h : Hp} {r0 : Nat} {x1 : Int32} {x2 : Int32} {x3 : Int32} {x4 : Int32} {out : (Int32 × Hp)} (t_r0 : hpT h r0 = (1, 8))  (hf : f_X8_reach  h r0 x1 x2 x3 x4 = some out) : Mt G l yX8_reach cX8_reach 6 (some .int) rm_X8_reach [.ref (G.2.2 + r0), .int x1, .int x2, .int x3, .int x4] h (some (.int out.1)) out.2 0 0 0 := by
  refine r_met (by decide +kernel) (Nat.le_of_ble_eq_true rfl) ?_
  intro p e s m args below meth c ls C hr hlk hnm hR hS hl
  have hE : Ext h h := Ext.rf
  have hl : lv_has ls 6 [(0, .ref (G.2.2 + r0)), (1, .int x1), (2, .int x2), (3, .int x3), (4, .int x4)] := hl
  rw [f_X8_reach] at hf
  refine lv_iload_n C.x C.b dX8_reach_0 rfl (lv_at hl 1 rfl) ?_
  refine lv_if_lt (tgt := 20) C.x C.b dX8_reach_1 (by decide) (fun c1 => ?_) (fun c1 => ?_)
  · have hf := it_t hf c1
    refine lv_iload C.x C.b dX8_reach_20 (lv_at hl 4 rfl) ?_
    have hf := so_e hf
    subst hf
    exact r_iret C hr hlk hR hE hS dX8_reach_22
  · have hf := it_f hf c1
    refine lv_iload_n C.x C.b dX8_reach_4 rfl (lv_at hl 1 rfl) ?_
    refine lv_bipush (v := (36 : Int32)) C.x C.b dX8_reach_5 (by decide) ?_
    refine lv_icmp_ge (tgt := 20) C.x C.b dX8_reach_7 (by decide) (fun c2 => ?_) (fun c2 => ?_)
    · have hf := it_t hf c2
      refine lv_iload C.x C.b dX8_reach_20 (lv_at hl 4 rfl) ?_
      have hf := so_e hf
      subst hf
      exact r_iret C hr hlk hR hE hS dX8_reach_22
    · have hf := it_f hf c2
      refine lv_iload C.x C.b dX8_reach_10 (lv_at hl 4 rfl) ?_
      refine lv_aload_n C.x C.b dX8_reach_12 rfl (lv_at hl 0 rfl) ?_
      obtain ⟨g3, hf⟩ := gd_e hf
      refine r_getr C hR t_r0 fl_X8_11 (by decide) (nz_e g3) dX8_reach_13 (fun tq4 => ?_)
      have tg3 := okA tq4 rfl
      refine r_alen C hR (Or.inl tg3) dX8_reach_16 ?_
      refine lv_icmp_lt (tgt := 23) C.x C.b dX8_reach_17 (by decide) (fun c5 => ?_) (fun c5 => ?_)
      · have hf := it_t hf c5
        refine lv_iload_n C.x C.b dX8_reach_23 rfl (lv_at hl 2 rfl) ?_
        refine lv_aload_n C.x C.b dX8_reach_24 rfl (lv_at hl 0 rfl) ?_
        obtain ⟨g6, hf⟩ := gd_e hf
        refine r_getr C hR t_r0 fl_X8_19 (by decide) (nz_e g6) dX8_reach_25 (fun tq7 => ?_)
        have tg6 := okA tq7 rfl
        refine lv_iload_n C.x C.b dX8_reach_28 rfl (lv_at hl 1 rfl) ?_
        obtain ⟨g8, hf⟩ := gd_e hf
        refine r_iald C hR tg6 g8 dX8_reach_29 ?_
        refine lv_ior C.x C.b dX8_reach_30 ?_
        refine lv_sipush (v := (256 : Int32)) C.x C.b dX8_reach_31 (by decide) ?_
        refine lv_irem C.x C.b dX8_reach_34 (by decide) ?_
        refine lv_topi (fun v9 e_v9 => ?_)
        have hf := lt_e hf e_v9
        refine lv_istore (lv' := [(5, .int v9), (0, .ref (G.2.2 + r0)), (1, .int x1), (2, .int x2), (3, .int x3), (4, .int x4)]) C.x C.b dX8_reach_35 hl (by decide) rfl (fun ls hl => ?_)
        refine lv_aload_n C.x C.b dX8_reach_37 rfl (lv_at hl 1 rfl) ?_
        obtain ⟨g10, hf⟩ := gd_e hf
        refine r_getr C hR t_r0 fl_X8_15 (by decide) (nz_e g10) dX8_reach_38 (fun tq11 => ?_)
        have tg10 := okA tq11 rfl
        refine lv_iload C.x C.b dX8_reach_41 (lv_at hl 0 rfl) ?_
        obtain ⟨g12, hf⟩ := gd_e hf
        refine r_lald C hR tg10 g12 dX8_reach_43 ?_
        refine lv_iload_n C.x C.b dX8_reach_44 rfl (lv_at hl 2 rfl) ?_
        refine lv_lshr C.x C.b dX8_reach_45 rfl ?_
        refine lv_topl (fun v13 e_v13 => ?_)
        have hf := lt_e hf e_v13
        refine lv_lconst (v := (1 : Int64)) C.x C.b dX8_reach_46 (by decide) ?_
        refine lv_land C.x C.b dX8_reach_47 ?_
        refine lv_lconst (v := (0 : Int64)) C.x C.b dX8_reach_48 (by decide) ?_
        refine W.lcmp C.x C.b dX8_reach_49 ?_
        refine lv_if_eq (tgt := 56) C.x C.b dX8_reach_50 (by decide) (fun c14 => ?_) (fun c14 => ?_)
        · have hf := it_t hf c14
          refine lv_aload_n C.x C.b dX8_reach_56 rfl (lv_at hl 1 rfl) ?_
          refine r_getr C hR t_r0 fl_X8_15 (by decide) (nz_e g10) dX8_reach_57 (fun tq15 => ?_)
          refine lv_iload C.x C.b dX8_reach_60 (lv_at hl 0 rfl) ?_
          refine lv_dup2_11 C.x C.b dX8_reach_62 rfl rfl ?_
          obtain ⟨g16, hf⟩ := gd_e hf
          refine r_lald C hR tg10 g16 dX8_reach_63 ?_
          refine lv_lconst (v := (1 : Int64)) C.x C.b dX8_reach_64 (by decide) ?_
          refine lv_iload_n C.x C.b dX8_reach_65 rfl (lv_at hl 2 rfl) ?_
          refine lv_lshl C.x C.b dX8_reach_66 rfl ?_
          refine lv_topl (fun v17 e_v17 => ?_)
          have hf := lt_e hf e_v17
          refine lv_lor C.x C.b dX8_reach_67 ?_
          obtain ⟨g18, hf⟩ := gd_e hf
          refine r_last C hR hS tg10 g18 dX8_reach_68 (fun H locs hR hS => ?_)
          obtain ⟨h19, e_h19⟩ : ∃ y, y = upL h (hpR h r0 1) (ix v9) ((hpL h (hpR h r0 1) (ix v9)) ||| v17) := ⟨_, rfl⟩
          rw [← e_h19] at hR
          have hf := lt_e hf e_h19
          have hE := eL e_h19 hE
          have t_r0 := tL e_h19 t_r0
          refine lv_aload_n C.x C.b dX8_reach_69 rfl (lv_at hl 1 rfl) ?_
          obtain ⟨g20, hf⟩ := gd_e hf
          refine r_getr C hR t_r0 fl_X8_11 (by decide) (nz_e g20) dX8_reach_70 (fun tq21 => ?_)
          have tg20 := okA tq21 rfl
          refine lv_iload C.x C.b dX8_reach_73 (lv_at hl 5 rfl) ?_
          refine lv_iload_n C.x C.b dX8_reach_75 rfl (lv_at hl 4 rfl) ?_
          refine lv_sipush (v := (16384 : Int32)) C.x C.b dX8_reach_76 (by decide) ?_
          refine lv_imul C.x C.b dX8_reach_79 ?_
          refine lv_iload_n C.x C.b dX8_reach_80 rfl (lv_at hl 2 rfl) ?_
          refine lv_sipush (v := (256 : Int32)) C.x C.b dX8_reach_81 (by decide) ?_
          refine lv_imul C.x C.b dX8_reach_84 ?_
          refine lv_iadd C.x C.b dX8_reach_85 ?_
          refine lv_iload C.x C.b dX8_reach_86 (lv_at hl 0 rfl) ?_
          refine lv_iadd C.x C.b dX8_reach_88 ?_
          obtain ⟨g22, hf⟩ := gd_e hf
          refine r_iast C hR hS tg20 g22 dX8_reach_89 (fun H locs hR hS => ?_)
          obtain ⟨h23, e_h23⟩ : ∃ y, y = upI h19 (hpR h19 r0 0) (ix x4) (((x3 * (16384 : Int32)) + (x1 * (256 : Int32))) + v9) := ⟨_, rfl⟩
          rw [← e_h23] at hR
          have hf := lt_e hf e_h23
          have hE := eI e_h23 hE
          have t_r0 := tI e_h23 t_r0
          refine lv_iload C.x C.b dX8_reach_90 (lv_at hl 5 rfl) ?_
          refine lv_iconst (v := (1 : Int32)) C.x C.b dX8_reach_92 (by decide) ?_
          refine lv_iadd C.x C.b dX8_reach_93 ?_
          have hf := so_e hf
          subst hf
          exact r_iret C hr hlk hR hE hS dX8_reach_94
        · have hf := it_f hf c14
          refine lv_iload C.x C.b dX8_reach_53 (lv_at hl 5 rfl) ?_
          have hf := so_e hf
          subst hf
          exact r_iret C hr hlk hR hE hS dX8_reach_55
      · have hf := it_f hf c5
        refine lv_iload C.x C.b dX8_reach_20 (lv_at hl 4 rfl) ?_
        have hf := so_e hf
        subst hf
        exact r_iret C hr hlk hR hE hS dX8_reach_22

def rm_X8_tellWay : Room := { frames := 1, cells := 0, slots := 0, locals := 23 }
def P_X8_tellWay_68 (G : Gt) (l : Launch) (p : Program) (e : Env) (s : State) (m : MethodId) (args : Array Value) (below : List Frame) (meth : Method) (c : Code) (h0 : Hp) (out : (Int32 × Hp)) (r0 : Nat) (x1 : Int32) (r2 : Nat) (k : Hp → Option (Int32 × Hp)) : Prop := ∀ (H : Heap) (locs : List Loc) (ls : Array Slot) (h : Hp), k h = some out → Ext h0 h → Rel G h H → va_S (AA G.2.2) s.heap H locs → hpT h r0 = (1, 8) → hpT h r2 = (1, 7) → lv_has ls 5 [(0, .ref (G.2.2 + r0)), (1, .int x1), (2, .ref (G.2.2 + r2))] → W p l e rm_X8_tellWay s m args below meth c H locs 0 0 (MQ below (Qm G h0 out.2 (some (.int out.1)) 0) args s 0 0 (AA G.2.2)) (F0 m 68 ls [])
def P_X8_tellWay_9 (G : Gt) (l : Launch) (p : Program) (e : Env) (s : State) (m : MethodId) (args : Array Value) (below : List Frame) (meth : Method) (c : Code) (h0 : Hp) (out : (Int32 × Hp)) (r0 : Nat) (x1 : Int32) (r2 : Nat) (k : Hp → Int32 → Int32 → Option (Int32 × Hp)) : Prop := ∀ (H : Heap) (locs : List Loc) (ls : Array Slot) (h : Hp) (x3 : Int32) (x4 : Int32), k h x3 x4 = some out → Ext h0 h → Rel G h H → va_S (AA G.2.2) s.heap H locs → hpT h r0 = (1, 8) → hpT h r2 = (1, 7) → lv_has ls 5 [(0, .ref (G.2.2 + r0)), (1, .int x1), (2, .ref (G.2.2 + r2)), (3, .int x3), (4, .int x4)] → W p l e rm_X8_tellWay s m args below meth c H locs 0 0 (MQ below (Qm G h0 out.2 (some (.int out.1)) 0) args s 0 0 (AA G.2.2)) (F0 m 9 ls [])
set_option maxRecDepth 100000 in
set_option maxHeartbeats 4000000 in
theorem w_X8_tellWay_68 {G : Gt} {l : Launch} {p : Program} {e : Env} {s : State} {m : MethodId} {args : Array Value} {below : List Frame} {meth : Method} {c : Code}  {h0 : Hp} {out : (Int32 × Hp)} {r0 : Nat} {x1 : Int32} {r2 : Nat}  (C : Cx G p m c cX8_tellWay 5 s args RX8) (hr : meth.sig.returnType = some .int) (hlk : meth.locks = false)   : P_X8_tellWay_68 G l p e s m args below meth c h0 out r0 x1 r2 (f_X8_tellWay_68 r0 x1 r2) := by
  intro H locs ls h hf hE hR hS t_r0 t_r2 hl
  rw [f_X8_tellWay_68] at hf
  refine lv_aload_n C.x C.b dX8_tellWay_68 rfl (lv_at hl 2 rfl) ?_
  refine lv_aload_n C.x C.b dX8_tellWay_69 rfl (lv_at hl 0 rfl) ?_
  obtain ⟨g17, hf⟩ := gd_e hf
  refine r_getr C hR t_r0 fl_X8_11 (by decide) (nz_e g17) dX8_tellWay_70 (fun tq18 => ?_)
  have tg17 := okA tq18 rfl
  refine lv_iconst (v := (0 : Int32)) C.x C.b dX8_tellWay_73 (by decide) ?_
  obtain ⟨g19, hf⟩ := gd_e hf
  refine r_iald C hR tg17 g19 dX8_tellWay_74 ?_
  refine lv_sipush (v := (16384 : Int32)) C.x C.b dX8_tellWay_75 (by decide) ?_
  refine lv_irem C.x C.b dX8_tellWay_78 (by decide) ?_
  refine lv_topi (fun v20 e_v20 => ?_)
  have hf := lt_e hf e_v20
  refine lv_sipush (v := (256 : Int32)) C.x C.b dX8_tellWay_79 (by decide) ?_
  refine lv_idiv C.x C.b dX8_tellWay_82 (by decide) ?_
  refine lv_i2l C.x C.b dX8_tellWay_83 rfl ?_
  obtain ⟨q21, h_q21, hf⟩ := bd_e hf
  refine r_callV (As := [.long ((v20 / (256 : Int32)).toInt64)]) (rest := []) C hR hS t_r2 rfl mk_X7_add cl_X8_61 (k_X7_add t_r2 h_q21) ⟨⟨Nat.le_of_ble_eq_true rfl, Nat.le_of_ble_eq_true rfl⟩, ⟨rfl, rfl⟩, Nat.le_of_ble_eq_true rfl, Nat.le_of_ble_eq_true rfl⟩ rfl hl.1 rfl (Nat.le_of_ble_eq_true rfl) dX8_tellWay_84 (fun H locs hR hS hE1 z_q21 => ?_)
  have hE := hE.tr hE1
  have t_r0 := hE1.at t_r0 (by decide)
  have t_r2 := hE1.at t_r2 (by decide)
  refine lv_aload_n C.x C.b dX8_tellWay_87 rfl (lv_at hl 2 rfl) ?_
  obtain ⟨q22, h_q22, hf⟩ := bd_e hf
  refine r_callV (As := []) (rest := []) C hR hS t_r2 rfl mk_X7_turnRound cl_X8_65 (k_X7_turnRound t_r2 h_q22) ⟨⟨Nat.le_of_ble_eq_true rfl, Nat.le_of_ble_eq_true rfl⟩, ⟨rfl, rfl⟩, Nat.le_of_ble_eq_true rfl, Nat.le_of_ble_eq_true rfl⟩ rfl hl.1 rfl (Nat.le_of_ble_eq_true rfl) dX8_tellWay_88 (fun H locs hR hS hE1 z_q22 => ?_)
  have hE := hE.tr hE1
  have t_r0 := hE1.at t_r0 (by decide)
  have t_r2 := hE1.at t_r2 (by decide)
  refine lv_aload_n C.x C.b dX8_tellWay_91 rfl (lv_at hl 2 rfl) ?_
  refine r_geti C hR t_r2 fl_X8_68 rfl dX8_tellWay_92 ?_
  refine lv_iconst (v := (1 : Int32)) C.x C.b dX8_tellWay_95 (by decide) ?_
  refine lv_isub C.x C.b dX8_tellWay_96 ?_
  have hf := so_e hf
  subst hf
  exact r_iret C hr hlk hR hE hS dX8_tellWay_97
set_option maxRecDepth 100000 in
set_option maxHeartbeats 4000000 in
theorem w_X8_tellWay_9 {G : Gt} {l : Launch} {p : Program} {e : Env} {s : State} {m : MethodId} {args : Array Value} {below : List Frame} {meth : Method} {c : Code}  {h0 : Hp} {out : (Int32 × Hp)} {r0 : Nat} {x1 : Int32} {r2 : Nat}  (C : Cx G p m c cX8_tellWay 5 s args RX8) (hr : meth.sig.returnType = some .int) (hlk : meth.locks = false)   (n : Nat) : P_X8_tellWay_9 G l p e s m args below meth c h0 out r0 x1 r2 (f_X8_tellWay_9 r0 x1 r2 n) := by
  induction n with
  | zero => intro H locs ls h x3 x4 hf hE hR hS t_r0 t_r2 hl; cases hf
  | succ n hk9 =>
    intro H locs ls h x3 x4 hf hE hR hS t_r0 t_r2 hl
    rw [f_X8_tellWay_9] at hf
    obtain ⟨k9, e_k9⟩ : ∃ y, y = f_X8_tellWay_9 r0 x1 r2 n := ⟨_, rfl⟩
    have hf := lt_e hf e_k9
    rw [← e_k9] at hk9
    refine lv_iload C.x C.b dX8_tellWay_9 (lv_at hl 4 rfl) ?_
    refine lv_aload_n C.x C.b dX8_tellWay_11 rfl (lv_at hl 0 rfl) ?_
    obtain ⟨g2, hf⟩ := gd_e hf
    refine r_getr C hR t_r0 fl_X8_11 (by decide) (nz_e g2) dX8_tellWay_12 (fun tq3 => ?_)
    have tg2 := okA tq3 rfl
    refine r_alen C hR (Or.inl tg2) dX8_tellWay_15 ?_
    refine lv_icmp_ge (tgt := 68) C.x C.b dX8_tellWay_16 (by decide) (fun c4 => ?_) (fun c4 => ?_)
    · have hf := it_t hf c4
      exact w_X8_tellWay_68 C hr hlk _ _ _ _ hf hE hR hS t_r0 t_r2 (lv_sub hl [0, 1, 2] rfl)
    · have hf := it_f hf c4
      refine lv_iload_n C.x C.b dX8_tellWay_19 rfl (lv_at hl 3 rfl) ?_
      refine lv_if_le (tgt := 68) C.x C.b dX8_tellWay_20 (by decide) (fun c5 => ?_) (fun c5 => ?_)
      · have hf := it_t hf c5
        exact w_X8_tellWay_68 C hr hlk _ _ _ _ hf hE hR hS t_r0 t_r2 (lv_sub hl [0, 1, 2] rfl)
      · have hf := it_f hf c5
        refine lv_iload_n C.x C.b dX8_tellWay_23 rfl (lv_at hl 3 rfl) ?_
        refine lv_aload_n C.x C.b dX8_tellWay_24 rfl (lv_at hl 0 rfl) ?_
        refine r_getr C hR t_r0 fl_X8_11 (by decide) (nz_e g2) dX8_tellWay_25 (fun tq6 => ?_)
        refine r_alen C hR (Or.inl tg2) dX8_tellWay_28 ?_
        refine lv_icmp_ge (tgt := 68) C.x C.b dX8_tellWay_29 (by decide) (fun c7 => ?_) (fun c7 => ?_)
        · have hf := it_t hf c7
          exact w_X8_tellWay_68 C hr hlk _ _ _ _ hf hE hR hS t_r0 t_r2 (lv_sub hl [0, 1, 2] rfl)
        · have hf := it_f hf c7
          refine lv_aload_n C.x C.b dX8_tellWay_32 rfl (lv_at hl 2 rfl) ?_
          refine lv_aload_n C.x C.b dX8_tellWay_33 rfl (lv_at hl 0 rfl) ?_
          refine r_getr C hR t_r0 fl_X8_11 (by decide) (nz_e g2) dX8_tellWay_34 (fun tq8 => ?_)
          refine lv_iload_n C.x C.b dX8_tellWay_37 rfl (lv_at hl 3 rfl) ?_
          obtain ⟨g9, hf⟩ := gd_e hf
          refine r_iald C hR tg2 g9 dX8_tellWay_38 ?_
          refine lv_sipush (v := (16384 : Int32)) C.x C.b dX8_tellWay_39 (by decide) ?_
          refine lv_irem C.x C.b dX8_tellWay_42 (by decide) ?_
          refine lv_topi (fun v10 e_v10 => ?_)
          have hf := lt_e hf e_v10
          refine lv_sipush (v := (256 : Int32)) C.x C.b dX8_tellWay_43 (by decide) ?_
          refine lv_idiv C.x C.b dX8_tellWay_46 (by decide) ?_
          refine lv_i2l C.x C.b dX8_tellWay_47 rfl ?_
          obtain ⟨q11, h_q11, hf⟩ := bd_e hf
          refine r_callV (As := [.long ((v10 / (256 : Int32)).toInt64)]) (rest := []) C hR hS t_r2 rfl mk_X7_add cl_X8_61 (k_X7_add t_r2 h_q11) ⟨⟨Nat.le_of_ble_eq_true rfl, Nat.le_of_ble_eq_true rfl⟩, ⟨rfl, rfl⟩, Nat.le_of_ble_eq_true rfl, Nat.le_of_ble_eq_true rfl⟩ rfl hl.1 rfl (Nat.le_of_ble_eq_true rfl) dX8_tellWay_48 (fun H locs hR hS hE1 z_q11 => ?_)
          have hE := hE.tr hE1
          have t_r0 := hE1.at t_r0 (by decide)
          have t_r2 := hE1.at t_r2 (by decide)
          refine lv_aload_n C.x C.b dX8_tellWay_51 rfl (lv_at hl 0 rfl) ?_
          obtain ⟨g12, hf⟩ := gd_e hf
          refine r_getr C hR t_r0 fl_X8_11 (by decide) (nz_e g12) dX8_tellWay_52 (fun tq13 => ?_)
          have tg12 := okA tq13 rfl
          refine lv_iload_n C.x C.b dX8_tellWay_55 rfl (lv_at hl 3 rfl) ?_
          obtain ⟨g14, hf⟩ := gd_e hf
          refine r_iald C hR tg12 g14 dX8_tellWay_56 ?_
          refine lv_sipush (v := (16384 : Int32)) C.x C.b dX8_tellWay_57 (by decide) ?_
          refine lv_idiv C.x C.b dX8_tellWay_60 (by decide) ?_
          refine lv_topi (fun v15 e_v15 => ?_)
          have hf := lt_e hf e_v15
          refine lv_istore_n (lv' := [(3, .int v15), (0, .ref (G.2.2 + r0)), (1, .int x1), (2, .ref (G.2.2 + r2)), (4, .int x4)]) C.x C.b dX8_tellWay_61 rfl hl (by decide) rfl (fun ls hl => ?_)
          obtain ⟨v16, e_v16⟩ : ∃ y : Int32, y = x4 + (1 : Int32) := ⟨_, rfl⟩
          have hf := lt_e hf e_v16
          refine lv_iinc (v := v16) (lv' := [(4, .int v16), (3, .int v15), (0, .ref (G.2.2 + r0)), (1, .int x1), (2, .ref (G.2.2 + r2))]) C.x C.b dX8_tellWay_62 hl (k := 4) rfl (by rw [e_v16]; rfl) (by decide) rfl (fun ls hl => ?_)
          refine lv_goto (tgt := 9) C.x C.b dX8_tellWay_65 (by decide) ?_
          exact hk9 _ _ _ _ _ _ hf hE hR hS t_r0 t_r2 (lv_sub hl [2, 3, 4, 1, 0] rfl)
set_option maxRecDepth 100000 in
set_option maxHeartbeats 4000000 in
theorem k_X8_tellWay {G : Gt} {l : Launch}  {h : Hp} {r0 : Nat} {x1 : Int32} {r2 : Nat} {out : (Int32 × Hp)} (t_r0 : hpT h r0 = (1, 8)) (t_r2 : hpT h r2 = (1, 7))  (hf : f_X8_tellWay  h r0 x1 r2 = some out) : Mt G l yX8_tellWay cX8_tellWay 5 (some .int) rm_X8_tellWay [.ref (G.2.2 + r0), .int x1, .ref (G.2.2 + r2)] h (some (.int out.1)) out.2 0 0 0 := by
  refine r_met (by decide +kernel) (Nat.le_of_ble_eq_true rfl) ?_
  intro p e s m args below meth c ls C hr hlk hnm hR hS hl
  have hE : Ext h h := Ext.rf
  have hl : lv_has ls 5 [(0, .ref (G.2.2 + r0)), (1, .int x1), (2, .ref (G.2.2 + r2))] := hl
  rw [f_X8_tellWay] at hf
  refine lv_aload_n C.x C.b dX8_tellWay_0 rfl (lv_at hl 2 rfl) ?_
  obtain ⟨q1, h_q1, hf⟩ := bd_e hf
  refine r_callV (As := []) (rest := []) C hR hS t_r2 rfl mk_X7_start cl_X8_56 (k_X7_start t_r2 h_q1) ⟨⟨Nat.le_of_ble_eq_true rfl, Nat.le_of_ble_eq_true rfl⟩, ⟨rfl, rfl⟩, Nat.le_of_ble_eq_true rfl, Nat.le_of_ble_eq_true rfl⟩ rfl hl.1 rfl (Nat.le_of_ble_eq_true rfl) dX8_tellWay_1 (fun H locs hR hS hE1 z_q1 => ?_)
  have hE := hE.tr hE1
  have t_r0 := hE1.at t_r0 (by decide)
  have t_r2 := hE1.at t_r2 (by decide)
  refine lv_iload_n C.x C.b dX8_tellWay_4 rfl (lv_at hl 1 rfl) ?_
  refine lv_istore_n (lv' := [(3, .int x1), (0, .ref (G.2.2 + r0)), (1, .int x1), (2, .ref (G.2.2 + r2))]) C.x C.b dX8_tellWay_5 rfl hl (by decide) rfl (fun ls hl => ?_)
  refine lv_iconst (v := (0 : Int32)) C.x C.b dX8_tellWay_6 (by decide) ?_
  refine lv_istore (lv' := [(4, .int (0 : Int32)), (3, .int x1), (0, .ref (G.2.2 + r0)), (1, .int x1), (2, .ref (G.2.2 + r2))]) C.x C.b dX8_tellWay_7 hl (by decide) rfl (fun ls hl => ?_)
  exact w_X8_tellWay_9 C hr hlk FU _ _ _ _ _ _ hf hE hR hS t_r0 t_r2 (lv_sub hl [2, 3, 4, 1, 0] rfl)

