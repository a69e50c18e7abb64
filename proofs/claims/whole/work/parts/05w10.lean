def rm_X9_fitsSound : Room := { frames := 2, cells := 0, slots := 0, locals := 45 }
set_option maxRecDepth 100000 in
set_option maxHeartbeats 4000000 in
theorem k_X9_fitsSound {G : Gt} {l : Launch}  {h : Hp} {r0 : Nat} {x1 : Int32} {x2 : Int32} {x3 : Int32} {out : Int32} (t_r0 : hpT h r0 = (1, 9))  (hf : f_X9_fitsSound  h r0 x1 x2 x3 = some out) : Mt G l yX9_fitsSound cX9_fitsSound 4 (some .boolean) rm_X9_fitsSound [.ref (G.2.2 + r0), .int x1, .int x2, .int x3] h (some (.int out)) h 1 0 0 := by
  refine r_met (by decide +kernel) (Nat.le_of_ble_eq_true rfl) ?_
  intro p e s m args below meth c ls C hr hlk hnm hR hS hl
  have hl : lv_has ls 4 [(0, .ref (G.2.2 + r0)), (1, .int x1), (2, .int x2), (3, .int x3)] := hl
  rw [f_X9_fitsSound] at hf
  refine lv_iload_n C.x C.b dX9_fitsSound_0 rfl (lv_at hl 2 rfl) ?_
  by_cases c24_0 : x2 = (0 : Int32)
  · have hf := it_t hf c24_0
    refine lv_tableIn (tgt := 32) C.x C.b dX9_fitsSound_1 (by rw [c24_0]; decide) (by rw [c24_0]; decide) (by rw [c24_0]; rfl) (by decide) ?_
    refine lv_aload_n C.x C.b dX9_fitsSound_32 rfl (lv_at hl 0 rfl) ?_
    obtain ⟨g1, hf⟩ := gd_e hf
    refine r_getr C hR t_r0 fl_X9_26 (by decide) (nz_e g1) dX9_fitsSound_33 (fun tq2 => ?_)
    have tg1 := okO tq2 rfl
    obtain ⟨g3, hf⟩ := gd_e hf
    refine r_getr C hR tg1 fl_X9_170 (by decide) (nz_e g3) dX9_fitsSound_36 (fun tq4 => ?_)
    have tg3 := okA tq4 rfl
    refine lv_iload_n C.x C.b dX9_fitsSound_39 rfl (lv_at hl 1 rfl) ?_
    obtain ⟨g5, hf⟩ := gd_e hf
    refine r_iald C hR tg3 g5 dX9_fitsSound_40 ?_
    refine lv_iload_n C.x C.b dX9_fitsSound_41 rfl (lv_at hl 3 rfl) ?_
    refine lv_icmp_gt (tgt := 49) C.x C.b dX9_fitsSound_42 (by decide) (fun c6 => ?_) (fun c6 => ?_)
    · have hf := it_t hf c6
      refine lv_iconst (v := (0 : Int32)) C.x C.b dX9_fitsSound_49 (by decide) ?_
      have hf := so_e hf
      subst hf
      exact r_zret C hr hlk hR Ext.rf hS z_0 dX9_fitsSound_50
    · have hf := it_f hf c6
      refine lv_iconst (v := (1 : Int32)) C.x C.b dX9_fitsSound_45 (by decide) ?_
      refine lv_goto (tgt := 50) C.x C.b dX9_fitsSound_46 (by decide) ?_
      have hf := so_e hf
      subst hf
      exact r_zret C hr hlk hR Ext.rf hS z_1 dX9_fitsSound_50
  have hf := it_f hf c24_0
  by_cases c24_1 : x2 = (1 : Int32)
  · have hf := it_t hf c24_1
    refine lv_tableIn (tgt := 51) C.x C.b dX9_fitsSound_1 (by rw [c24_1]; decide) (by rw [c24_1]; decide) (by rw [c24_1]; rfl) (by decide) ?_
    refine lv_aload_n C.x C.b dX9_fitsSound_51 rfl (lv_at hl 0 rfl) ?_
    obtain ⟨g7, hf⟩ := gd_e hf
    refine r_getr C hR t_r0 fl_X9_26 (by decide) (nz_e g7) dX9_fitsSound_52 (fun tq8 => ?_)
    have tg7 := okO tq8 rfl
    refine lv_iload_n C.x C.b dX9_fitsSound_55 rfl (lv_at hl 1 rfl) ?_
    refine lv_iload_n C.x C.b dX9_fitsSound_56 rfl (lv_at hl 3 rfl) ?_
    obtain ⟨q9, h_q9, hf⟩ := bd_e hf
    refine r_callV (As := [.int x1, .int x3]) (rest := []) C hR hS tg7 rfl mk_X0_isOverRow cl_X9_389 (k_X0_isOverRow tg7 h_q9) ⟨⟨Nat.le_of_ble_eq_true rfl, Nat.le_of_ble_eq_true rfl⟩, ⟨rfl, rfl⟩, Nat.le_of_ble_eq_true rfl, Nat.le_of_ble_eq_true rfl⟩ rfl hl.1 rfl (Nat.le_of_ble_eq_true rfl) dX9_fitsSound_57 (fun H locs hR hS hE1 z_q9 => ?_)
    have z_q9 := z_q9 _ rfl
    have hf := so_e hf
    subst hf
    exact r_zret C hr hlk hR Ext.rf hS z_q9 dX9_fitsSound_60
  have hf := it_f hf c24_1
  by_cases c24_2 : x2 = (2 : Int32)
  · have hf := it_t hf c24_2
    refine lv_tableIn (tgt := 61) C.x C.b dX9_fitsSound_1 (by rw [c24_2]; decide) (by rw [c24_2]; decide) (by rw [c24_2]; rfl) (by decide) ?_
    refine lv_aload_n C.x C.b dX9_fitsSound_61 rfl (lv_at hl 0 rfl) ?_
    obtain ⟨g10, hf⟩ := gd_e hf
    refine r_getr C hR t_r0 fl_X9_26 (by decide) (nz_e g10) dX9_fitsSound_62 (fun tq11 => ?_)
    have tg10 := okO tq11 rfl
    refine lv_iload_n C.x C.b dX9_fitsSound_65 rfl (lv_at hl 1 rfl) ?_
    refine lv_iload_n C.x C.b dX9_fitsSound_66 rfl (lv_at hl 3 rfl) ?_
    obtain ⟨q12, h_q12, hf⟩ := bd_e hf
    refine r_callV (As := [.int x1, .int x3]) (rest := []) C hR hS tg10 rfl mk_X0_isOverColumn cl_X9_392 (k_X0_isOverColumn tg10 h_q12) ⟨⟨Nat.le_of_ble_eq_true rfl, Nat.le_of_ble_eq_true rfl⟩, ⟨rfl, rfl⟩, Nat.le_of_ble_eq_true rfl, Nat.le_of_ble_eq_true rfl⟩ rfl hl.1 rfl (Nat.le_of_ble_eq_true rfl) dX9_fitsSound_67 (fun H locs hR hS hE1 z_q12 => ?_)
    have z_q12 := z_q12 _ rfl
    have hf := so_e hf
    subst hf
    exact r_zret C hr hlk hR Ext.rf hS z_q12 dX9_fitsSound_70
  have hf := it_f hf c24_2
  by_cases c24_3 : x2 = (3 : Int32)
  · have hf := it_t hf c24_3
    refine lv_tableIn (tgt := 71) C.x C.b dX9_fitsSound_1 (by rw [c24_3]; decide) (by rw [c24_3]; decide) (by rw [c24_3]; rfl) (by decide) ?_
    refine lv_aload_n C.x C.b dX9_fitsSound_71 rfl (lv_at hl 0 rfl) ?_
    obtain ⟨g13, hf⟩ := gd_e hf
    refine r_getr C hR t_r0 fl_X9_26 (by decide) (nz_e g13) dX9_fitsSound_72 (fun tq14 => ?_)
    have tg13 := okO tq14 rfl
    obtain ⟨g15, hf⟩ := gd_e hf
    refine r_getr C hR tg13 fl_X9_176 (by decide) (nz_e g15) dX9_fitsSound_75 (fun tq16 => ?_)
    have tg15 := okA tq16 rfl
    refine lv_iload_n C.x C.b dX9_fitsSound_78 rfl (lv_at hl 1 rfl) ?_
    obtain ⟨g17, hf⟩ := gd_e hf
    refine r_iald C hR tg15 g17 dX9_fitsSound_79 ?_
    refine lv_iload_n C.x C.b dX9_fitsSound_80 rfl (lv_at hl 3 rfl) ?_
    refine lv_icmp_lt (tgt := 88) C.x C.b dX9_fitsSound_81 (by decide) (fun c18 => ?_) (fun c18 => ?_)
    · have hf := it_t hf c18
      refine lv_iconst (v := (0 : Int32)) C.x C.b dX9_fitsSound_88 (by decide) ?_
      have hf := so_e hf
      subst hf
      exact r_zret C hr hlk hR Ext.rf hS z_0 dX9_fitsSound_89
    · have hf := it_f hf c18
      refine lv_iconst (v := (1 : Int32)) C.x C.b dX9_fitsSound_84 (by decide) ?_
      refine lv_goto (tgt := 89) C.x C.b dX9_fitsSound_85 (by decide) ?_
      have hf := so_e hf
      subst hf
      exact r_zret C hr hlk hR Ext.rf hS z_1 dX9_fitsSound_89
  have hf := it_f hf c24_3
  refine lv_tableOut (tgt := 90) C.x C.b dX9_fitsSound_1 (tb_out 4 (by decide) (fun j hj => match j, hj with | 0, _ => fun q => c24_0 (q.trans (by decide)) | 1, _ => fun q => c24_1 (q.trans (by decide)) | 2, _ => fun q => c24_2 (q.trans (by decide)) | 3, _ => fun q => c24_3 (q.trans (by decide)) | n + 4, hn => absurd hn (by omega))) (by decide) ?_
  refine lv_aload_n C.x C.b dX9_fitsSound_90 rfl (lv_at hl 0 rfl) ?_
  obtain ⟨g19, hf⟩ := gd_e hf
  refine r_getr C hR t_r0 fl_X9_26 (by decide) (nz_e g19) dX9_fitsSound_91 (fun tq20 => ?_)
  have tg19 := okO tq20 rfl
  refine lv_iload_n C.x C.b dX9_fitsSound_94 rfl (lv_at hl 1 rfl) ?_
  obtain ⟨q21, h_q21, hf⟩ := bd_e hf
  refine r_callV (As := [.int x1]) (rest := []) C hR hS tg19 rfl mk_X0_crossedBy cl_X9_183 (k_X0_crossedBy tg19 h_q21) ⟨⟨Nat.le_of_ble_eq_true rfl, Nat.le_of_ble_eq_true rfl⟩, ⟨rfl, rfl⟩, Nat.le_of_ble_eq_true rfl, Nat.le_of_ble_eq_true rfl⟩ rfl hl.1 rfl (Nat.le_of_ble_eq_true rfl) dX9_fitsSound_95 (fun H locs hR hS hE1 z_q21 => ?_)
  obtain ⟨q22, h_q22, hf⟩ := bd_e hf
  refine r_callS (As := [.int q21]) (rest := []) C hR hS mk_J6_bitCount_0f7a4 cl_X9_267 (k_J6_bitCount_0f7a4 h_q22) ⟨⟨Nat.le_of_ble_eq_true rfl, Nat.le_of_ble_eq_true rfl⟩, ⟨rfl, rfl⟩, Nat.le_of_ble_eq_true rfl, Nat.le_of_ble_eq_true rfl⟩ rfl hl.1 rfl (Nat.le_of_ble_eq_true rfl) dX9_fitsSound_98 (fun H locs hR hS hE1 z_q22 => ?_)
  refine lv_iload_n C.x C.b dX9_fitsSound_101 rfl (lv_at hl 3 rfl) ?_
  refine lv_icmp_lt (tgt := 109) C.x C.b dX9_fitsSound_102 (by decide) (fun c23 => ?_) (fun c23 => ?_)
  · have hf := it_t hf c23
    refine lv_iconst (v := (0 : Int32)) C.x C.b dX9_fitsSound_109 (by decide) ?_
    have hf := so_e hf
    subst hf
    exact r_zret C hr hlk hR Ext.rf hS z_0 dX9_fitsSound_110
  · have hf := it_f hf c23
    refine lv_iconst (v := (1 : Int32)) C.x C.b dX9_fitsSound_105 (by decide) ?_
    refine lv_goto (tgt := 110) C.x C.b dX9_fitsSound_106 (by decide) ?_
    have hf := so_e hf
    subst hf
    exact r_zret C hr hlk hR Ext.rf hS z_1 dX9_fitsSound_110

def rm_X9_fitsNight : Room := { frames := 3, cells := 0, slots := 0, locals := 68 }
def P_X9_fitsNight_2 (G : Gt) (l : Launch) (p : Program) (e : Env) (s : State) (m : MethodId) (args : Array Value) (below : List Frame) (meth : Method) (c : Code) (h : Hp) (out : Int32) (r0 : Nat) (x1 : Int32) (k : Int32 → Option Int32) : Prop := ∀ (H : Heap) (locs : List Loc) (ls : Array Slot) (x2 : Int32), k x2 = some out → Rel G h H → va_S (AA G.2.2) s.heap H locs → hpT h r0 = (1, 9) → lv_has ls 3 [(0, .ref (G.2.2 + r0)), (1, .int x1), (2, .int x2)] → W p l e rm_X9_fitsNight s m args below meth c H locs 0 0 (MQ below (Qm G h h (some (.int out)) 1) args s 0 0 (AA G.2.2)) (F0 m 2 ls [])
set_option maxRecDepth 100000 in
set_option maxHeartbeats 4000000 in
theorem w_X9_fitsNight_2 {G : Gt} {l : Launch} {p : Program} {e : Env} {s : State} {m : MethodId} {args : Array Value} {below : List Frame} {meth : Method} {c : Code}  {h : Hp} {out : Int32} {r0 : Nat} {x1 : Int32}  (C : Cx G p m c cX9_fitsNight 3 s args RX9) (hr : meth.sig.returnType = some .boolean) (hlk : meth.locks = false)   (n : Nat) : P_X9_fitsNight_2 G l p e s m args below meth c h out r0 x1 (f_X9_fitsNight_2 h r0 x1 n) := by
  induction n with
  | zero => intro H locs ls x2 hf hR hS t_r0 hl; cases hf
  | succ n hk2 =>
    intro H locs ls x2 hf hR hS t_r0 hl
    rw [f_X9_fitsNight_2] at hf
    obtain ⟨k2, e_k2⟩ : ∃ y, y = f_X9_fitsNight_2 h r0 x1 n := ⟨_, rfl⟩
    have hf := lt_e hf e_k2
    rw [← e_k2] at hk2
    refine lv_iload_n C.x C.b dX9_fitsNight_2 rfl (lv_at hl 2 rfl) ?_
    refine lv_aload_n C.x C.b dX9_fitsNight_3 rfl (lv_at hl 0 rfl) ?_
    obtain ⟨g1, hf⟩ := gd_e hf
    refine r_getr C hR t_r0 fl_X9_73 (by decide) (nz_e g1) dX9_fitsNight_4 (fun tq2 => ?_)
    have tg1 := okO tq2 rfl
    refine r_geti C hR tg1 fl_X9_355 rfl dX9_fitsNight_7 ?_
    refine lv_icmp_ge (tgt := 47) C.x C.b dX9_fitsNight_10 (by decide) (fun c3 => ?_) (fun c3 => ?_)
    · have hf := it_t hf c3
      refine lv_iconst (v := (1 : Int32)) C.x C.b dX9_fitsNight_47 (by decide) ?_
      have hf := so_e hf
      subst hf
      exact r_zret C hr hlk hR Ext.rf hS z_1 dX9_fitsNight_48
    · have hf := it_f hf c3
      refine lv_aload_n C.x C.b dX9_fitsNight_13 rfl (lv_at hl 0 rfl) ?_
      refine lv_iload_n C.x C.b dX9_fitsNight_14 rfl (lv_at hl 1 rfl) ?_
      refine lv_aload_n C.x C.b dX9_fitsNight_15 rfl (lv_at hl 0 rfl) ?_
      refine r_getr C hR t_r0 fl_X9_73 (by decide) (nz_e g1) dX9_fitsNight_16 (fun tq4 => ?_)
      obtain ⟨g5, hf⟩ := gd_e hf
      refine r_getr C hR tg1 fl_X9_374 (by decide) (nz_e g5) dX9_fitsNight_19 (fun tq6 => ?_)
      have tg5 := okA tq6 rfl
      refine lv_iload_n C.x C.b dX9_fitsNight_22 rfl (lv_at hl 2 rfl) ?_
      obtain ⟨g7, hf⟩ := gd_e hf
      refine r_iald C hR tg5 g7 dX9_fitsNight_23 ?_
      refine lv_aload_n C.x C.b dX9_fitsNight_24 rfl (lv_at hl 0 rfl) ?_
      refine r_getr C hR t_r0 fl_X9_73 (by decide) (nz_e g1) dX9_fitsNight_25 (fun tq8 => ?_)
      obtain ⟨g9, hf⟩ := gd_e hf
      refine r_getr C hR tg1 fl_X9_371 (by decide) (nz_e g9) dX9_fitsNight_28 (fun tq10 => ?_)
      have tg9 := okA tq10 rfl
      refine lv_iload_n C.x C.b dX9_fitsNight_31 rfl (lv_at hl 2 rfl) ?_
      obtain ⟨g11, hf⟩ := gd_e hf
      refine r_iald C hR tg9 g11 dX9_fitsNight_32 ?_
      obtain ⟨q12, h_q12, hf⟩ := bd_e hf
      refine r_callV (As := [.int x1, .int (hpI h (hpR h (hpR h r0 12) 0) (ix x2)), .int (hpI h (hpR h (hpR h r0 12) 1) (ix x2))]) (rest := []) C hR hS t_r0 rfl mk_X9_fitsSound cl_X9_386 (k_X9_fitsSound t_r0 h_q12) ⟨⟨Nat.le_of_ble_eq_true rfl, Nat.le_of_ble_eq_true rfl⟩, ⟨rfl, rfl⟩, Nat.le_of_ble_eq_true rfl, Nat.le_of_ble_eq_true rfl⟩ rfl hl.1 rfl (Nat.le_of_ble_eq_true rfl) dX9_fitsNight_33 (fun H locs hR hS hE1 z_q12 => ?_)
      have z_q12 := z_q12 _ rfl
      refine lv_if_ne (tgt := 41) C.x C.b dX9_fitsNight_36 (by decide) (fun c13 => ?_) (fun c13 => ?_)
      · have hf := it_f hf c13
        obtain ⟨v14, e_v14⟩ : ∃ y : Int32, y = x2 + (1 : Int32) := ⟨_, rfl⟩
        have hf := lt_e hf e_v14
        refine lv_iinc (v := v14) (lv' := [(2, .int v14), (0, .ref (G.2.2 + r0)), (1, .int x1)]) C.x C.b dX9_fitsNight_41 hl (k := 2) rfl (by rw [e_v14]; rfl) (by decide) rfl (fun ls hl => ?_)
        refine lv_goto (tgt := 2) C.x C.b dX9_fitsNight_44 (by decide) ?_
        exact hk2 _ _ _ _ hf hR hS t_r0 (lv_sub hl [1, 2, 0] rfl)
      · have hf := it_t hf c13
        refine lv_iconst (v := (0 : Int32)) C.x C.b dX9_fitsNight_39 (by decide) ?_
        have hf := so_e hf
        subst hf
        exact r_zret C hr hlk hR Ext.rf hS z_0 dX9_fitsNight_40
set_option maxRecDepth 100000 in
set_option maxHeartbeats 4000000 in
theorem k_X9_fitsNight {G : Gt} {l : Launch}  {h : Hp} {r0 : Nat} {x1 : Int32} {out : Int32} (t_r0 : hpT h r0 = (1, 9))  (hf : f_X9_fitsNight  h r0 x1 = some out) : Mt G l yX9_fitsNight cX9_fitsNight 3 (some .boolean) rm_X9_fitsNight [.ref (G.2.2 + r0), .int x1] h (some (.int out)) h 1 0 0 := by
  refine r_met (by decide +kernel) (Nat.le_of_ble_eq_true rfl) ?_
  intro p e s m args below meth c ls C hr hlk hnm hR hS hl
  have hl : lv_has ls 3 [(0, .ref (G.2.2 + r0)), (1, .int x1)] := hl
  rw [f_X9_fitsNight] at hf
  refine lv_iconst (v := (0 : Int32)) C.x C.b dX9_fitsNight_0 (by decide) ?_
  refine lv_istore_n (lv' := [(2, .int (0 : Int32)), (0, .ref (G.2.2 + r0)), (1, .int x1)]) C.x C.b dX9_fitsNight_1 rfl hl (by decide) rfl (fun ls hl => ?_)
  exact w_X9_fitsNight_2 C hr hlk FU _ _ _ _ hf hR hS t_r0 (lv_sub hl [1, 2, 0] rfl)

def rm_X9_fits : Room := { frames := 4, cells := 0, slots := 0, locals := 90 }
def P_X9_fits_40 (G : Gt) (l : Launch) (p : Program) (e : Env) (s : State) (m : MethodId) (args : Array Value) (below : List Frame) (meth : Method) (c : Code) (h0 : Hp) (out : (Int32 × Hp)) (r0 : Nat) (k : Hp → Int32 → Int32 → Option (Int32 × Hp)) : Prop := ∀ (H : Heap) (locs : List Loc) (ls : Array Slot) (h : Hp) (x1 : Int32) (x2 : Int32), k h x1 x2 = some out → Ext h0 h → Rel G h H → va_S (AA G.2.2) s.heap H locs → hpT h r0 = (1, 9) → lv_has ls 3 [(0, .ref (G.2.2 + r0)), (1, .int x1), (2, .int x2)] → W p l e rm_X9_fits s m args below meth c H locs 0 0 (MQ below (Qm G h0 out.2 (some (.int out.1)) 0) args s 0 0 (AA G.2.2)) (F0 m 40 ls [])
def P_X9_fits_4 (G : Gt) (l : Launch) (p : Program) (e : Env) (s : State) (m : MethodId) (args : Array Value) (below : List Frame) (meth : Method) (c : Code) (h0 : Hp) (out : (Int32 × Hp)) (r0 : Nat) (k : Hp → Int32 → Int32 → Option (Int32 × Hp)) : Prop := ∀ (H : Heap) (locs : List Loc) (ls : Array Slot) (h : Hp) (x1 : Int32) (x2 : Int32), k h x1 x2 = some out → Ext h0 h → Rel G h H → va_S (AA G.2.2) s.heap H locs → hpT h r0 = (1, 9) → lv_has ls 3 [(0, .ref (G.2.2 + r0)), (1, .int x1), (2, .int x2)] → W p l e rm_X9_fits s m args below meth c H locs 0 0 (MQ below (Qm G h0 out.2 (some (.int out.1)) 0) args s 0 0 (AA G.2.2)) (F0 m 4 ls [])
set_option maxRecDepth 100000 in
set_option maxHeartbeats 4000000 in
theorem w_X9_fits_40 {G : Gt} {l : Launch} {p : Program} {e : Env} {s : State} {m : MethodId} {args : Array Value} {below : List Frame} {meth : Method} {c : Code}  {h0 : Hp} {out : (Int32 × Hp)} {r0 : Nat} {k4 : Hp → Int32 → Int32 → Option (Int32 × Hp)} (C : Cx G p m c cX9_fits 3 s args RX9) (hr : meth.sig.returnType = some .int) (hlk : meth.locks = false)  (hk4 : P_X9_fits_4 G l p e s m args below meth c h0 out r0 k4) : P_X9_fits_40 G l p e s m args below meth c h0 out r0 (f_X9_fits_40 r0 k4) := by
  intro H locs ls h x1 x2 hf hE hR hS t_r0 hl
  rw [f_X9_fits_40] at hf
  obtain ⟨v18, e_v18⟩ : ∃ y : Int32, y = x2 + (1 : Int32) := ⟨_, rfl⟩
  have hf := lt_e hf e_v18
  refine lv_iinc (v := v18) (lv' := [(2, .int v18), (0, .ref (G.2.2 + r0)), (1, .int x1)]) C.x C.b dX9_fits_40 hl (k := 2) rfl (by rw [e_v18]; rfl) (by decide) rfl (fun ls hl => ?_)
  refine lv_goto (tgt := 4) C.x C.b dX9_fits_43 (by decide) ?_
  exact hk4 _ _ _ _ _ _ hf hE hR hS t_r0 (lv_sub hl [1, 2, 0] rfl)
set_option maxRecDepth 100000 in
set_option maxHeartbeats 4000000 in
theorem w_X9_fits_4 {G : Gt} {l : Launch} {p : Program} {e : Env} {s : State} {m : MethodId} {args : Array Value} {below : List Frame} {meth : Method} {c : Code}  {h0 : Hp} {out : (Int32 × Hp)} {r0 : Nat}  (C : Cx G p m c cX9_fits 3 s args RX9) (hr : meth.sig.returnType = some .int) (hlk : meth.locks = false)   (n : Nat) : P_X9_fits_4 G l p e s m args below meth c h0 out r0 (f_X9_fits_4 r0 n) := by
  induction n with
  | zero => intro H locs ls h x1 x2 hf hE hR hS t_r0 hl; cases hf
  | succ n hk4 =>
    intro H locs ls h x1 x2 hf hE hR hS t_r0 hl
    rw [f_X9_fits_4] at hf
    obtain ⟨k4, e_k4⟩ : ∃ y, y = f_X9_fits_4 r0 n := ⟨_, rfl⟩
    have hf := lt_e hf e_k4
    rw [← e_k4] at hk4
    refine lv_iload_n C.x C.b dX9_fits_4 rfl (lv_at hl 2 rfl) ?_
    refine lv_aload_n C.x C.b dX9_fits_5 rfl (lv_at hl 0 rfl) ?_
    obtain ⟨g1, hf⟩ := gd_e hf
    refine r_getr C hR t_r0 fl_X9_26 (by decide) (nz_e g1) dX9_fits_6 (fun tq2 => ?_)
    have tg1 := okO tq2 rfl
    refine r_geti C hR tg1 fl_X9_146 rfl dX9_fits_9 ?_
    refine lv_icmp_ge (tgt := 46) C.x C.b dX9_fits_12 (by decide) (fun c3 => ?_) (fun c3 => ?_)
    · have hf := it_t hf c3
      refine lv_aload_n C.x C.b dX9_fits_46 rfl (lv_at hl 0 rfl) ?_
      obtain ⟨g4, hf⟩ := gd_e hf
      refine r_getr C hR t_r0 fl_X9_19 (by decide) (nz_e g4) dX9_fits_47 (fun tq5 => ?_)
      have tg4 := okO tq5 rfl
      obtain ⟨q6, h_q6, hf⟩ := bd_e hf
      refine r_callV (As := []) (rest := []) C hR hS tg4 rfl mk_X7_start cl_X9_220 (k_X7_start tg4 h_q6) ⟨⟨Nat.le_of_ble_eq_true rfl, Nat.le_of_ble_eq_true rfl⟩, ⟨rfl, rfl⟩, Nat.le_of_ble_eq_true rfl, Nat.le_of_ble_eq_true rfl⟩ rfl hl.1 rfl (Nat.le_of_ble_eq_true rfl) dX9_fits_50 (fun H locs hR hS hE1 z_q6 => ?_)
      have hE := hE.tr hE1
      have t_r0 := hE1.at t_r0 (by decide)
      refine lv_aload_n C.x C.b dX9_fits_53 rfl (lv_at hl 0 rfl) ?_
      obtain ⟨g7, hf⟩ := gd_e hf
      refine r_getr C hR t_r0 fl_X9_19 (by decide) (nz_e g7) dX9_fits_54 (fun tq8 => ?_)
      have tg7 := okO tq8 rfl
      refine lv_iload_n C.x C.b dX9_fits_57 rfl (lv_at hl 1 rfl) ?_
      obtain ⟨q9, h_q9, hf⟩ := bd_e hf
      refine r_callS (As := [.int x1]) (rest := [.ref (G.2.2 + (hpR q6 r0 1))]) C hR hS mk_J6_bitCount_0f7a4 cl_X9_267 (k_J6_bitCount_0f7a4 h_q9) ⟨⟨Nat.le_of_ble_eq_true rfl, Nat.le_of_ble_eq_true rfl⟩, ⟨rfl, rfl⟩, Nat.le_of_ble_eq_true rfl, Nat.le_of_ble_eq_true rfl⟩ rfl hl.1 rfl (Nat.le_of_ble_eq_true rfl) dX9_fits_58 (fun H locs hR hS hE1 z_q9 => ?_)
      refine lv_i2l C.x C.b dX9_fits_61 rfl ?_
      obtain ⟨q10, h_q10, hf⟩ := bd_e hf
      refine r_callV (As := [.long (q9.toInt64)]) (rest := []) C hR hS tg7 rfl mk_X7_add cl_X9_223 (k_X7_add tg7 h_q10) ⟨⟨Nat.le_of_ble_eq_true rfl, Nat.le_of_ble_eq_true rfl⟩, ⟨rfl, rfl⟩, Nat.le_of_ble_eq_true rfl, Nat.le_of_ble_eq_true rfl⟩ rfl hl.1 rfl (Nat.le_of_ble_eq_true rfl) dX9_fits_62 (fun H locs hR hS hE1 z_q10 => ?_)
      have hE := hE.tr hE1
      have t_r0 := hE1.at t_r0 (by decide)
      refine lv_iload_n C.x C.b dX9_fits_65 rfl (lv_at hl 1 rfl) ?_
      have hf := so_e hf
      subst hf
      exact r_iret C hr hlk hR hE hS dX9_fits_66
    · have hf := it_f hf c3
      refine lv_aload_n C.x C.b dX9_fits_15 rfl (lv_at hl 0 rfl) ?_
      refine r_getr C hR t_r0 fl_X9_26 (by decide) (nz_e g1) dX9_fits_16 (fun tq11 => ?_)
      refine lv_iload_n C.x C.b dX9_fits_19 rfl (lv_at hl 2 rfl) ?_
      obtain ⟨q12, h_q12, hf⟩ := bd_e hf
      refine r_callV (As := [.int x2]) (rest := []) C hR hS tg1 rfl mk_X0_isOn cl_X9_285 (k_X0_isOn tg1 h_q12) ⟨⟨Nat.le_of_ble_eq_true rfl, Nat.le_of_ble_eq_true rfl⟩, ⟨rfl, rfl⟩, Nat.le_of_ble_eq_true rfl, Nat.le_of_ble_eq_true rfl⟩ rfl hl.1 rfl (Nat.le_of_ble_eq_true rfl) dX9_fits_20 (fun H locs hR hS hE1 z_q12 => ?_)
      have z_q12 := z_q12 _ rfl
      refine lv_if_eq (tgt := 40) C.x C.b dX9_fits_23 (by decide) (fun c13 => ?_) (fun c13 => ?_)
      · have hf := it_t hf c13
        exact w_X9_fits_40 C hr hlk hk4 _ _ _ _ _ _ hf hE hR hS t_r0 (lv_sub hl [0, 1, 2] rfl)
      · have hf := it_f hf c13
        refine lv_aload_n C.x C.b dX9_fits_26 rfl (lv_at hl 0 rfl) ?_
        refine lv_iload_n C.x C.b dX9_fits_27 rfl (lv_at hl 2 rfl) ?_
        obtain ⟨q14, h_q14, hf⟩ := bd_e hf
        refine r_callV (As := [.int x2]) (rest := []) C hR hS t_r0 rfl mk_X9_fitsNight cl_X9_383 (k_X9_fitsNight t_r0 h_q14) ⟨⟨Nat.le_of_ble_eq_true rfl, Nat.le_of_ble_eq_true rfl⟩, ⟨rfl, rfl⟩, Nat.le_of_ble_eq_true rfl, Nat.le_of_ble_eq_true rfl⟩ rfl hl.1 rfl (Nat.le_of_ble_eq_true rfl) dX9_fits_28 (fun H locs hR hS hE1 z_q14 => ?_)
        have z_q14 := z_q14 _ rfl
        refine lv_if_eq (tgt := 40) C.x C.b dX9_fits_31 (by decide) (fun c15 => ?_) (fun c15 => ?_)
        · have hf := it_t hf c15
          exact w_X9_fits_40 C hr hlk hk4 _ _ _ _ _ _ hf hE hR hS t_r0 (lv_sub hl [0, 1, 2] rfl)
        · have hf := it_f hf c15
          refine lv_iload_n C.x C.b dX9_fits_34 rfl (lv_at hl 1 rfl) ?_
          refine lv_iconst (v := (1 : Int32)) C.x C.b dX9_fits_35 (by decide) ?_
          refine lv_iload_n C.x C.b dX9_fits_36 rfl (lv_at hl 2 rfl) ?_
          refine lv_ishl C.x C.b dX9_fits_37 ?_
          refine lv_topi (fun v16 e_v16 => ?_)
          have hf := lt_e hf e_v16
          refine lv_ior C.x C.b dX9_fits_38 ?_
          refine lv_topi (fun v17 e_v17 => ?_)
          have hf := lt_e hf e_v17
          refine lv_istore_n (lv' := [(1, .int v17), (0, .ref (G.2.2 + r0)), (2, .int x2)]) C.x C.b dX9_fits_39 rfl hl (by decide) rfl (fun ls hl => ?_)
          exact w_X9_fits_40 C hr hlk hk4 _ _ _ _ _ _ hf hE hR hS t_r0 (lv_sub hl [1, 0, 2] rfl)
set_option maxRecDepth 100000 in
set_option maxHeartbeats 4000000 in
theorem k_X9_fits {G : Gt} {l : Launch}  {h : Hp} {r0 : Nat} {out : (Int32 × Hp)} (t_r0 : hpT h r0 = (1, 9))  (hf : f_X9_fits  h r0 = some out) : Mt G l yX9_fits cX9_fits 3 (some .int) rm_X9_fits [.ref (G.2.2 + r0)] h (some (.int out.1)) out.2 0 0 0 := by
  refine r_met (by decide +kernel) (Nat.le_of_ble_eq_true rfl) ?_
  intro p e s m args below meth c ls C hr hlk hnm hR hS hl
  have hE : Ext h h := Ext.rf
  have hl : lv_has ls 3 [(0, .ref (G.2.2 + r0))] := hl
  rw [f_X9_fits] at hf
  refine lv_iconst (v := (0 : Int32)) C.x C.b dX9_fits_0 (by decide) ?_
  refine lv_istore_n (lv' := [(1, .int (0 : Int32)), (0, .ref (G.2.2 + r0))]) C.x C.b dX9_fits_1 rfl hl (by decide) rfl (fun ls hl => ?_)
  refine lv_iconst (v := (0 : Int32)) C.x C.b dX9_fits_2 (by decide) ?_
  refine lv_istore_n (lv' := [(2, .int (0 : Int32)), (1, .int (0 : Int32)), (0, .ref (G.2.2 + r0))]) C.x C.b dX9_fits_3 rfl hl (by decide) rfl (fun ls hl => ?_)
  exact w_X9_fits_4 C hr hlk FU _ _ _ _ _ _ hf hE hR hS t_r0 (lv_sub hl [2, 1, 0] rfl)

def rm_X9_choices : Room := { frames := 0, cells := 0, slots := 0, locals := 0 }
def P_X9_choices_5 (G : Gt) (l : Launch) (p : Program) (e : Env) (s : State) (m : MethodId) (args : Array Value) (below : List Frame) (meth : Method) (c : Code) (h : Hp) (out : Int64) (x0 : Int32) (x1 : Int32) (k : Int64 → Int32 → Option Int64) : Prop := ∀ (H : Heap) (locs : List Loc) (ls : Array Slot) (y2 : Int64) (x4 : Int32), k y2 x4 = some out → Rel G h H → va_S (AA G.2.2) s.heap H locs → lv_has ls 5 [(0, .int x0), (1, .int x1), (2, .long y2), (4, .int x4)] → W p l e rm_X9_choices s m args below meth c H locs 0 0 (MQ below (Qm G h h (some (.long out)) 0) args s 0 0 (AA G.2.2)) (F0 m 5 ls [])
set_option maxRecDepth 100000 in
set_option maxHeartbeats 4000000 in
theorem w_X9_choices_5 {G : Gt} {l : Launch} {p : Program} {e : Env} {s : State} {m : MethodId} {args : Array Value} {below : List Frame} {meth : Method} {c : Code}  {h : Hp} {out : Int64} {x0 : Int32} {x1 : Int32}  (C : Cx G p m c cX9_choices 5 s args RX9) (hr : meth.sig.returnType = some .long) (hlk : meth.locks = false)   (n : Nat) : P_X9_choices_5 G l p e s m args below meth c h out x0 x1 (f_X9_choices_5 h x0 x1 n) := by
  induction n with
  | zero => intro H locs ls y2 x4 hf hR hS  hl; cases hf
  | succ n hk5 =>
    intro H locs ls y2 x4 hf hR hS  hl
    rw [f_X9_choices_5] at hf
    obtain ⟨k5, e_k5⟩ : ∃ y, y = f_X9_choices_5 h x0 x1 n := ⟨_, rfl⟩
    have hf := lt_e hf e_k5
    rw [← e_k5] at hk5
    refine lv_iload C.x C.b dX9_choices_5 (lv_at hl 3 rfl) ?_
    refine lv_iload_n C.x C.b dX9_choices_7 rfl (lv_at hl 1 rfl) ?_
    refine lv_icmp_gt (tgt := 31) C.x C.b dX9_choices_8 (by decide) (fun c1 => ?_) (fun c1 => ?_)
    · have hf := it_t hf c1
      refine lv_lload_n C.x C.b dX9_choices_31 rfl (lv_at hl 2 rfl) ?_
      have hf := so_e hf
      subst hf
      exact r_lret C hr hlk hR Ext.rf hS dX9_choices_32
    · have hf := it_f hf c1
      refine lv_lload_n C.x C.b dX9_choices_11 rfl (lv_at hl 2 rfl) ?_
      refine lv_iload_n C.x C.b dX9_choices_12 rfl (lv_at hl 0 rfl) ?_
      refine lv_iload_n C.x C.b dX9_choices_13 rfl (lv_at hl 1 rfl) ?_
      refine lv_isub C.x C.b dX9_choices_14 ?_
      refine lv_iload C.x C.b dX9_choices_15 (lv_at hl 3 rfl) ?_
      refine lv_iadd C.x C.b dX9_choices_17 ?_
      refine lv_i2l C.x C.b dX9_choices_18 rfl ?_
      refine lv_lmul C.x C.b dX9_choices_19 ?_
      refine lv_iload C.x C.b dX9_choices_20 (lv_at hl 3 rfl) ?_
      refine lv_i2l C.x C.b dX9_choices_22 rfl ?_
      obtain ⟨g2, hf⟩ := gd_e hf
      refine lv_ldiv C.x C.b dX9_choices_23 (nz64_e g2) ?_
      refine lv_topl (fun v3 e_v3 => ?_)
      have hf := lt_e hf e_v3
      refine lv_lstore_n (lv' := [(2, .long v3), (0, .int x0), (1, .int x1), (4, .int x4)]) C.x C.b dX9_choices_24 rfl hl (by decide) rfl (fun ls hl => ?_)
      obtain ⟨v4, e_v4⟩ : ∃ y : Int32, y = x4 + (1 : Int32) := ⟨_, rfl⟩
      have hf := lt_e hf e_v4
      refine lv_iinc (v := v4) (lv' := [(4, .int v4), (2, .long v3), (0, .int x0), (1, .int x1)]) C.x C.b dX9_choices_25 hl (k := 3) rfl (by rw [e_v4]; rfl) (by decide) rfl (fun ls hl => ?_)
      refine lv_goto (tgt := 5) C.x C.b dX9_choices_28 (by decide) ?_
      exact hk5 _ _ _ _ _ hf hR hS (lv_sub hl [2, 3, 1, 0] rfl)
set_option maxRecDepth 100000 in
set_option maxHeartbeats 4000000 in
theorem k_X9_choices {G : Gt} {l : Launch}  {h : Hp} {x0 : Int32} {x1 : Int32} {out : Int64}   (hf : f_X9_choices  h x0 x1 = some out) : Mt G l yX9_choices cX9_choices 5 (some .long) rm_X9_choices [.int x0, .int x1] h (some (.long out)) h 0 0 0 := by
  refine r_met (by decide +kernel) (Nat.le_of_ble_eq_true rfl) ?_
  intro p e s m args below meth c ls C hr hlk hnm hR hS hl
  have hl : lv_has ls 5 [(0, .int x0), (1, .int x1)] := hl
  rw [f_X9_choices] at hf
  refine lv_lconst (v := (1 : Int64)) C.x C.b dX9_choices_0 (by decide) ?_
  refine lv_lstore_n (lv' := [(2, .long (1 : Int64)), (0, .int x0), (1, .int x1)]) C.x C.b dX9_choices_1 rfl hl (by decide) rfl (fun ls hl => ?_)
  refine lv_iconst (v := (1 : Int32)) C.x C.b dX9_choices_2 (by decide) ?_
  refine lv_istore (lv' := [(4, .int (1 : Int32)), (2, .long (1 : Int64)), (0, .int x0), (1, .int x1)]) C.x C.b dX9_choices_3 hl (by decide) rfl (fun ls hl => ?_)
  exact w_X9_choices_5 C hr hlk FU _ _ _ _ _ hf hR hS (lv_sub hl [2, 3, 1, 0] rfl)

def rm_X9_power : Room := { frames := 0, cells := 0, slots := 0, locals := 0 }
def P_X9_power_5 (G : Gt) (l : Launch) (p : Program) (e : Env) (s : State) (m : MethodId) (args : Array Value) (below : List Frame) (meth : Method) (c : Code) (h : Hp) (out : Int64) (x0 : Int32) (x1 : Int32) (k : Int64 → Int32 → Option Int64) : Prop := ∀ (H : Heap) (locs : List Loc) (ls : Array Slot) (y2 : Int64) (x4 : Int32), k y2 x4 = some out → Rel G h H → va_S (AA G.2.2) s.heap H locs → lv_has ls 5 [(0, .int x0), (1, .int x1), (2, .long y2), (4, .int x4)] → W p l e rm_X9_power s m args below meth c H locs 0 0 (MQ below (Qm G h h (some (.long out)) 0) args s 0 0 (AA G.2.2)) (F0 m 5 ls [])
set_option maxRecDepth 100000 in
set_option maxHeartbeats 4000000 in
theorem w_X9_power_5 {G : Gt} {l : Launch} {p : Program} {e : Env} {s : State} {m : MethodId} {args : Array Value} {below : List Frame} {meth : Method} {c : Code}  {h : Hp} {out : Int64} {x0 : Int32} {x1 : Int32}  (C : Cx G p m c cX9_power 5 s args RX9) (hr : meth.sig.returnType = some .long) (hlk : meth.locks = false)   (n : Nat) : P_X9_power_5 G l p e s m args below meth c h out x0 x1 (f_X9_power_5 h x0 x1 n) := by
  induction n with
  | zero => intro H locs ls y2 x4 hf hR hS  hl; cases hf
  | succ n hk5 =>
    intro H locs ls y2 x4 hf hR hS  hl
    rw [f_X9_power_5] at hf
    obtain ⟨k5, e_k5⟩ : ∃ y, y = f_X9_power_5 h x0 x1 n := ⟨_, rfl⟩
    have hf := lt_e hf e_k5
    rw [← e_k5] at hk5
    refine lv_iload C.x C.b dX9_power_5 (lv_at hl 3 rfl) ?_
    refine lv_iload_n C.x C.b dX9_power_7 rfl (lv_at hl 1 rfl) ?_
    refine lv_icmp_ge (tgt := 22) C.x C.b dX9_power_8 (by decide) (fun c1 => ?_) (fun c1 => ?_)
    · have hf := it_t hf c1
      refine lv_lload_n C.x C.b dX9_power_22 rfl (lv_at hl 2 rfl) ?_
      have hf := so_e hf
      subst hf
      exact r_lret C hr hlk hR Ext.rf hS dX9_power_23
    · have hf := it_f hf c1
      refine lv_lload_n C.x C.b dX9_power_11 rfl (lv_at hl 2 rfl) ?_
      refine lv_iload_n C.x C.b dX9_power_12 rfl (lv_at hl 0 rfl) ?_
      refine lv_i2l C.x C.b dX9_power_13 rfl ?_
      refine lv_lmul C.x C.b dX9_power_14 ?_
      refine lv_topl (fun v2 e_v2 => ?_)
      have hf := lt_e hf e_v2
      refine lv_lstore_n (lv' := [(2, .long v2), (0, .int x0), (1, .int x1), (4, .int x4)]) C.x C.b dX9_power_15 rfl hl (by decide) rfl (fun ls hl => ?_)
      obtain ⟨v3, e_v3⟩ : ∃ y : Int32, y = x4 + (1 : Int32) := ⟨_, rfl⟩
      have hf := lt_e hf e_v3
      refine lv_iinc (v := v3) (lv' := [(4, .int v3), (2, .long v2), (0, .int x0), (1, .int x1)]) C.x C.b dX9_power_16 hl (k := 3) rfl (by rw [e_v3]; rfl) (by decide) rfl (fun ls hl => ?_)
      refine lv_goto (tgt := 5) C.x C.b dX9_power_19 (by decide) ?_
      exact hk5 _ _ _ _ _ hf hR hS (lv_sub hl [2, 3, 1, 0] rfl)
set_option maxRecDepth 100000 in
set_option maxHeartbeats 4000000 in
theorem k_X9_power {G : Gt} {l : Launch}  {h : Hp} {x0 : Int32} {x1 : Int32} {out : Int64}   (hf : f_X9_power  h x0 x1 = some out) : Mt G l yX9_power cX9_power 5 (some .long) rm_X9_power [.int x0, .int x1] h (some (.long out)) h 0 0 0 := by
  refine r_met (by decide +kernel) (Nat.le_of_ble_eq_true rfl) ?_
  intro p e s m args below meth c ls C hr hlk hnm hR hS hl
  have hl : lv_has ls 5 [(0, .int x0), (1, .int x1)] := hl
  rw [f_X9_power] at hf
  refine lv_lconst (v := (1 : Int64)) C.x C.b dX9_power_0 (by decide) ?_
  refine lv_lstore_n (lv' := [(2, .long (1 : Int64)), (0, .int x0), (1, .int x1)]) C.x C.b dX9_power_1 rfl hl (by decide) rfl (fun ls hl => ?_)
  refine lv_iconst (v := (0 : Int32)) C.x C.b dX9_power_2 (by decide) ?_
  refine lv_istore (lv' := [(4, .int (0 : Int32)), (2, .long (1 : Int64)), (0, .int x0), (1, .int x1)]) C.x C.b dX9_power_3 hl (by decide) rfl (fun ls hl => ?_)
  exact w_X9_power_5 C hr hlk FU _ _ _ _ _ hf hR hS (lv_sub hl [2, 3, 1, 0] rfl)

def rm_X9_commonDivisor : Room := { frames := 0, cells := 0, slots := 0, locals := 0 }
def P_X9_commonDivisor_3 (G : Gt) (l : Launch) (p : Program) (e : Env) (s : State) (m : MethodId) (args : Array Value) (below : List Frame) (meth : Method) (c : Code) (h : Hp) (out : Int64)  (k : Int64 → Int64 → Int32 → Option Int64) : Prop := ∀ (H : Heap) (locs : List Loc) (ls : Array Slot) (y0 : Int64) (y2 : Int64) (x4 : Int32), k y0 y2 x4 = some out → Rel G h H → va_S (AA G.2.2) s.heap H locs → lv_has ls 7 [(0, .long y0), (2, .long y2), (4, .int x4)] → W p l e rm_X9_commonDivisor s m args below meth c H locs 0 0 (MQ below (Qm G h h (some (.long out)) 0) args s 0 0 (AA G.2.2)) (F0 m 3 ls [])
set_option maxRecDepth 100000 in
set_option maxHeartbeats 4000000 in
theorem w_X9_commonDivisor_3 {G : Gt} {l : Launch} {p : Program} {e : Env} {s : State} {m : MethodId} {args : Array Value} {below : List Frame} {meth : Method} {c : Code}  {h : Hp} {out : Int64}   (C : Cx G p m c cX9_commonDivisor 7 s args RX9) (hr : meth.sig.returnType = some .long) (hlk : meth.locks = false)   (n : Nat) : P_X9_commonDivisor_3 G l p e s m args below meth c h out  (f_X9_commonDivisor_3 h n) := by
  induction n with
  | zero => intro H locs ls y0 y2 x4 hf hR hS  hl; cases hf
  | succ n hk3 =>
    intro H locs ls y0 y2 x4 hf hR hS  hl
    rw [f_X9_commonDivisor_3] at hf
    obtain ⟨k3, e_k3⟩ : ∃ y, y = f_X9_commonDivisor_3 h n := ⟨_, rfl⟩
    have hf := lt_e hf e_k3
    rw [← e_k3] at hk3
    refine lv_iload C.x C.b dX9_commonDivisor_3 (lv_at hl 2 rfl) ?_
    refine lv_bipush (v := (64 : Int32)) C.x C.b dX9_commonDivisor_5 (by decide) ?_
    refine lv_icmp_ge (tgt := 32) C.x C.b dX9_commonDivisor_7 (by decide) (fun c1 => ?_) (fun c1 => ?_)
    · have hf := it_t hf c1
      refine lv_lload_n C.x C.b dX9_commonDivisor_32 rfl (lv_at hl 0 rfl) ?_
      have hf := so_e hf
      subst hf
      exact r_lret C hr hlk hR Ext.rf hS dX9_commonDivisor_33
    · have hf := it_f hf c1
      refine lv_lload_n C.x C.b dX9_commonDivisor_10 rfl (lv_at hl 1 rfl) ?_
      refine lv_lconst (v := (0 : Int64)) C.x C.b dX9_commonDivisor_11 (by decide) ?_
      refine W.lcmp C.x C.b dX9_commonDivisor_12 ?_
      refine lv_if_eq (tgt := 32) C.x C.b dX9_commonDivisor_13 (by decide) (fun c2 => ?_) (fun c2 => ?_)
      · have hf := it_t hf c2
        refine lv_lload_n C.x C.b dX9_commonDivisor_32 rfl (lv_at hl 0 rfl) ?_
        have hf := so_e hf
        subst hf
        exact r_lret C hr hlk hR Ext.rf hS dX9_commonDivisor_33
      · have hf := it_f hf c2
        refine lv_lload_n C.x C.b dX9_commonDivisor_16 rfl (lv_at hl 0 rfl) ?_
        refine lv_lload_n C.x C.b dX9_commonDivisor_17 rfl (lv_at hl 1 rfl) ?_
        obtain ⟨g3, hf⟩ := gd_e hf
        refine lv_lrem C.x C.b dX9_commonDivisor_18 (nz64_e g3) ?_
        refine lv_topl (fun v4 e_v4 => ?_)
        have hf := lt_e hf e_v4
        refine lv_lstore (lv' := [(5, .long v4), (0, .long y0), (2, .long y2), (4, .int x4)]) C.x C.b dX9_commonDivisor_19 hl (by decide) rfl (fun ls hl => ?_)
        refine lv_lload_n C.x C.b dX9_commonDivisor_21 rfl (lv_at hl 2 rfl) ?_
        refine lv_lstore_n (lv' := [(0, .long y2), (5, .long v4), (2, .long y2), (4, .int x4)]) C.x C.b dX9_commonDivisor_22 rfl hl (by decide) rfl (fun ls hl => ?_)
        refine lv_lload C.x C.b dX9_commonDivisor_23 (lv_at hl 1 rfl) ?_
        refine lv_lstore_n (lv' := [(2, .long v4), (0, .long y2), (5, .long v4), (4, .int x4)]) C.x C.b dX9_commonDivisor_25 rfl hl (by decide) rfl (fun ls hl => ?_)
        obtain ⟨v5, e_v5⟩ : ∃ y : Int32, y = x4 + (1 : Int32) := ⟨_, rfl⟩
        have hf := lt_e hf e_v5
        refine lv_iinc (v := v5) (lv' := [(4, .int v5), (2, .long v4), (0, .long y2), (5, .long v4)]) C.x C.b dX9_commonDivisor_26 hl (k := 3) rfl (by rw [e_v5]; rfl) (by decide) rfl (fun ls hl => ?_)
        refine lv_goto (tgt := 3) C.x C.b dX9_commonDivisor_29 (by decide) ?_
        exact hk3 _ _ _ _ _ _ hf hR hS (lv_sub hl [2, 1, 0] rfl)
set_option maxRecDepth 100000 in
set_option maxHeartbeats 4000000 in
theorem k_X9_commonDivisor {G : Gt} {l : Launch}  {h : Hp} {y0 : Int64} {y2 : Int64} {out : Int64}   (hf : f_X9_commonDivisor  h y0 y2 = some out) : Mt G l yX9_commonDivisor cX9_commonDivisor 7 (some .long) rm_X9_commonDivisor [.long y0, .long y2] h (some (.long out)) h 0 0 0 := by
  refine r_met (by decide +kernel) (Nat.le_of_ble_eq_true rfl) ?_
  intro p e s m args below meth c ls C hr hlk hnm hR hS hl
  have hl : lv_has ls 7 [(0, .long y0), (2, .long y2)] := hl
  rw [f_X9_commonDivisor] at hf
  refine lv_iconst (v := (0 : Int32)) C.x C.b dX9_commonDivisor_0 (by decide) ?_
  refine lv_istore (lv' := [(4, .int (0 : Int32)), (0, .long y0), (2, .long y2)]) C.x C.b dX9_commonDivisor_1 hl (by decide) rfl (fun ls hl => ?_)
  exact w_X9_commonDivisor_3 C hr hlk FU _ _ _ _ _ _ hf hR hS (lv_sub hl [1, 2, 0] rfl)

def rm_X9_sung : Room := { frames := 5, cells := 0, slots := 0, locals := 109 }
def P_X9_sung_167 (G : Gt) (l : Launch) (p : Program) (e : Env) (s : State) (m : MethodId) (args : Array Value) (below : List Frame) (meth : Method) (c : Code) (h0 : Hp) (out : (Int32 × Hp)) (r0 : Nat) (x1 : Int32) (x2 : Int32) (x3 : Int32) (k : Hp → Nat → Int64 → Option (Int32 × Hp)) : Prop := ∀ (H : Heap) (locs : List Loc) (ls : Array Slot) (h : Hp) (s0 : Nat) (s1 : Int64), k h s0 s1 = some out → Ext h0 h → Rel G h H → va_S (AA G.2.2) s.heap H locs → hpT h r0 = (1, 9) → hpT h s0 = (1, 7) → lv_has ls 11 [(0, .ref (G.2.2 + r0)), (1, .int x1), (2, .int x2), (3, .int x3)] → W p l e rm_X9_sung s m args below meth c H locs 0 0 (MQ below (Qm G h0 out.2 (some (.int out.1)) 0) args s 0 0 (AA G.2.2)) (F0 m 167 ls [.long s1, .ref (G.2.2 + s0)])
def P_X9_sung_143 (G : Gt) (l : Launch) (p : Program) (e : Env) (s : State) (m : MethodId) (args : Array Value) (below : List Frame) (meth : Method) (c : Code) (h0 : Hp) (out : (Int32 × Hp)) (r0 : Nat) (x1 : Int32) (x2 : Int32) (x3 : Int32) (k : Hp → Nat → Int64 → Int64 → Int64 → Option (Int32 × Hp)) : Prop := ∀ (H : Heap) (locs : List Loc) (ls : Array Slot) (h : Hp) (s0 : Nat) (s1 : Int64) (y7 : Int64) (y9 : Int64), k h s0 s1 y7 y9 = some out → Ext h0 h → Rel G h H → va_S (AA G.2.2) s.heap H locs → hpT h r0 = (1, 9) → hpT h s0 = (1, 7) → lv_has ls 11 [(0, .ref (G.2.2 + r0)), (1, .int x1), (2, .int x2), (3, .int x3), (7, .long y7), (9, .long y9)] → W p l e rm_X9_sung s m args below meth c H locs 0 0 (MQ below (Qm G h0 out.2 (some (.int out.1)) 0) args s 0 0 (AA G.2.2)) (F0 m 143 ls [.long s1, .ref (G.2.2 + s0)])
def P_X9_sung_52 (G : Gt) (l : Launch) (p : Program) (e : Env) (s : State) (m : MethodId) (args : Array Value) (below : List Frame) (meth : Method) (c : Code) (h0 : Hp) (out : (Int32 × Hp)) (r0 : Nat) (x1 : Int32) (x2 : Int32) (x3 : Int32) (k : Hp → Int32 → Int64 → Int32 → Option (Int32 × Hp)) : Prop := ∀ (H : Heap) (locs : List Loc) (ls : Array Slot) (h : Hp) (x4 : Int32) (y5 : Int64) (x7 : Int32), k h x4 y5 x7 = some out → Ext h0 h → Rel G h H → va_S (AA G.2.2) s.heap H locs → hpT h r0 = (1, 9) → lv_has ls 11 [(0, .ref (G.2.2 + r0)), (1, .int x1), (2, .int x2), (3, .int x3), (4, .int x4), (5, .long y5), (7, .int x7)] → W p l e rm_X9_sung s m args below meth c H locs 0 0 (MQ below (Qm G h0 out.2 (some (.int out.1)) 0) args s 0 0 (AA G.2.2)) (F0 m 52 ls [])
set_option maxRecDepth 100000 in
set_option maxHeartbeats 4000000 in
theorem w_X9_sung_167 {G : Gt} {l : Launch} {p : Program} {e : Env} {s : State} {m : MethodId} {args : Array Value} {below : List Frame} {meth : Method} {c : Code}  {h0 : Hp} {out : (Int32 × Hp)} {r0 : Nat} {x1 : Int32} {x2 : Int32} {x3 : Int32}  (C : Cx G p m c cX9_sung 11 s args RX9) (hr : meth.sig.returnType = some .int) (hlk : meth.locks = false)   : P_X9_sung_167 G l p e s m args below meth c h0 out r0 x1 x2 x3 (f_X9_sung_167 r0 x1 x2 x3) := by
  intro H locs ls h s0 s1 hf hE hR hS t_r0 t_s0 hl
  rw [f_X9_sung_167] at hf
  obtain ⟨q32, h_q32, hf⟩ := bd_e hf
  refine r_callV (As := [.long s1]) (rest := []) C hR hS t_s0 rfl mk_X7_add cl_X9_223 (k_X7_add t_s0 h_q32) ⟨⟨Nat.le_of_ble_eq_true rfl, Nat.le_of_ble_eq_true rfl⟩, ⟨rfl, rfl⟩, Nat.le_of_ble_eq_true rfl, Nat.le_of_ble_eq_true rfl⟩ rfl hl.1 rfl (Nat.le_of_ble_eq_true rfl) dX9_sung_167 (fun H locs hR hS hE1 z_q32 => ?_)
  have hE := hE.tr hE1
  have t_r0 := hE1.at t_r0 (by decide)
  refine lv_iconst (v := (0 : Int32)) C.x C.b dX9_sung_170 (by decide) ?_
  have hf := so_e hf
  subst hf
  exact r_iret C hr hlk hR hE hS dX9_sung_171
set_option maxRecDepth 100000 in
set_option maxHeartbeats 4000000 in
theorem w_X9_sung_143 {G : Gt} {l : Launch} {p : Program} {e : Env} {s : State} {m : MethodId} {args : Array Value} {below : List Frame} {meth : Method} {c : Code}  {h0 : Hp} {out : (Int32 × Hp)} {r0 : Nat} {x1 : Int32} {x2 : Int32} {x3 : Int32}  (C : Cx G p m c cX9_sung 11 s args RX9) (hr : meth.sig.returnType = some .int) (hlk : meth.locks = false)   : P_X9_sung_143 G l p e s m args below meth c h0 out r0 x1 x2 x3 (f_X9_sung_143 r0 x1 x2 x3) := by
  intro H locs ls h s0 s1 y7 y9 hf hE hR hS t_r0 t_s0 hl
  rw [f_X9_sung_143] at hf
  obtain ⟨q27, h_q27, hf⟩ := bd_e hf
  refine r_callV (As := [.long s1]) (rest := []) C hR hS t_s0 rfl mk_X7_add cl_X9_223 (k_X7_add t_s0 h_q27) ⟨⟨Nat.le_of_ble_eq_true rfl, Nat.le_of_ble_eq_true rfl⟩, ⟨rfl, rfl⟩, Nat.le_of_ble_eq_true rfl, Nat.le_of_ble_eq_true rfl⟩ rfl hl.1 rfl (Nat.le_of_ble_eq_true rfl) dX9_sung_143 (fun H locs hR hS hE1 z_q27 => ?_)
  have hE := hE.tr hE1
  have t_r0 := hE1.at t_r0 (by decide)
  refine lv_aload_n C.x C.b dX9_sung_146 rfl (lv_at hl 0 rfl) ?_
  obtain ⟨g28, hf⟩ := gd_e hf
  refine r_getr C hR t_r0 fl_X9_19 (by decide) (nz_e g28) dX9_sung_147 (fun tq29 => ?_)
  have tg28 := okO tq29 rfl
  refine lv_lload C.x C.b dX9_sung_150 (lv_at hl 5 rfl) ?_
  refine lv_lconst (v := (0 : Int64)) C.x C.b dX9_sung_152 (by decide) ?_
  refine W.lcmp C.x C.b dX9_sung_153 ?_
  refine lv_if_le (tgt := 165) C.x C.b dX9_sung_154 (by decide) (fun c30 => ?_) (fun c30 => ?_)
  · have hf := it_t hf c30
    refine lv_lload C.x C.b dX9_sung_165 (lv_at hl 4 rfl) ?_
    exact w_X9_sung_167 C hr hlk _ _ _ _ _ _ hf hE hR hS t_r0 tg28 (lv_sub hl [0, 1, 2, 3] rfl)
  · have hf := it_f hf c30
    refine lv_lload C.x C.b dX9_sung_157 (lv_at hl 4 rfl) ?_
    refine lv_lload C.x C.b dX9_sung_159 (lv_at hl 5 rfl) ?_
    obtain ⟨g31, hf⟩ := gd_e hf
    refine lv_ldiv C.x C.b dX9_sung_161 (nz64_e g31) ?_
    refine lv_goto (tgt := 167) C.x C.b dX9_sung_162 (by decide) ?_
    exact w_X9_sung_167 C hr hlk _ _ _ _ _ _ hf hE hR hS t_r0 tg28 (lv_sub hl [0, 1, 2, 3] rfl)
set_option maxRecDepth 100000 in
set_option maxHeartbeats 4000000 in
theorem w_X9_sung_52 {G : Gt} {l : Launch} {p : Program} {e : Env} {s : State} {m : MethodId} {args : Array Value} {below : List Frame} {meth : Method} {c : Code}  {h0 : Hp} {out : (Int32 × Hp)} {r0 : Nat} {x1 : Int32} {x2 : Int32} {x3 : Int32}  (C : Cx G p m c cX9_sung 11 s args RX9) (hr : meth.sig.returnType = some .int) (hlk : meth.locks = false)   (n : Nat) : P_X9_sung_52 G l p e s m args below meth c h0 out r0 x1 x2 x3 (f_X9_sung_52 r0 x1 x2 x3 n) := by
  induction n with
  | zero => intro H locs ls h x4 y5 x7 hf hE hR hS t_r0 hl; cases hf
  | succ n hk52 =>
    intro H locs ls h x4 y5 x7 hf hE hR hS t_r0 hl
    rw [f_X9_sung_52] at hf
    obtain ⟨k52, e_k52⟩ : ∃ y, y = f_X9_sung_52 r0 x1 x2 x3 n := ⟨_, rfl⟩
    have hf := lt_e hf e_k52
    rw [← e_k52] at hk52
    refine lv_iload C.x C.b dX9_sung_52 (lv_at hl 6 rfl) ?_
    refine lv_iload C.x C.b dX9_sung_54 (lv_at hl 4 rfl) ?_
    refine lv_icmp_gt (tgt := 97) C.x C.b dX9_sung_56 (by decide) (fun c12 => ?_) (fun c12 => ?_)
    · have hf := it_t hf c12
      refine lv_bipush (v := (10 : Int32)) C.x C.b dX9_sung_97 (by decide) ?_
      refine lv_iload C.x C.b dX9_sung_99 (lv_at hl 4 rfl) ?_
      obtain ⟨q13, h_q13, hf⟩ := bd_e hf
      refine r_callS (As := [.int (10 : Int32), .int x4]) (rest := []) C hR hS mk_X9_power cl_X9_399 (k_X9_power h_q13) ⟨⟨Nat.le_of_ble_eq_true rfl, Nat.le_of_ble_eq_true rfl⟩, ⟨rfl, rfl⟩, Nat.le_of_ble_eq_true rfl, Nat.le_of_ble_eq_true rfl⟩ rfl hl.1 rfl (Nat.le_of_ble_eq_true rfl) dX9_sung_101 (fun H locs hR hS hE1 z_q13 => ?_)
      refine lv_lstore (lv' := [(7, .long q13), (0, .ref (G.2.2 + r0)), (1, .int x1), (2, .int x2), (3, .int x3), (4, .int x4), (5, .long y5)]) C.x C.b dX9_sung_104 hl (by decide) rfl (fun ls hl => ?_)
      refine lv_lload C.x C.b dX9_sung_106 (lv_at hl 6 rfl) ?_
      refine lv_lload C.x C.b dX9_sung_108 (lv_at hl 0 rfl) ?_
      obtain ⟨q14, h_q14, hf⟩ := bd_e hf
      refine r_callS (As := [.long y5, .long q13]) (rest := []) C hR hS mk_X9_commonDivisor cl_X9_402 (k_X9_commonDivisor h_q14) ⟨⟨Nat.le_of_ble_eq_true rfl, Nat.le_of_ble_eq_true rfl⟩, ⟨rfl, rfl⟩, Nat.le_of_ble_eq_true rfl, Nat.le_of_ble_eq_true rfl⟩ rfl hl.1 rfl (Nat.le_of_ble_eq_true rfl) dX9_sung_110 (fun H locs hR hS hE1 z_q14 => ?_)
      refine lv_lstore (lv' := [(9, .long q14), (7, .long q13), (0, .ref (G.2.2 + r0)), (1, .int x1), (2, .int x2), (3, .int x3), (4, .int x4), (5, .long y5)]) C.x C.b dX9_sung_113 hl (by decide) rfl (fun ls hl => ?_)
      refine lv_aload_n C.x C.b dX9_sung_115 rfl (lv_at hl 2 rfl) ?_
      obtain ⟨g15, hf⟩ := gd_e hf
      refine r_getr C hR t_r0 fl_X9_19 (by decide) (nz_e g15) dX9_sung_116 (fun tq16 => ?_)
      have tg15 := okO tq16 rfl
      obtain ⟨q17, h_q17, hf⟩ := bd_e hf
      refine r_callV (As := []) (rest := []) C hR hS tg15 rfl mk_X7_start cl_X9_220 (k_X7_start tg15 h_q17) ⟨⟨Nat.le_of_ble_eq_true rfl, Nat.le_of_ble_eq_true rfl⟩, ⟨rfl, rfl⟩, Nat.le_of_ble_eq_true rfl, Nat.le_of_ble_eq_true rfl⟩ rfl hl.1 rfl (Nat.le_of_ble_eq_true rfl) dX9_sung_119 (fun H locs hR hS hE1 z_q17 => ?_)
      have hE := hE.tr hE1
      have t_r0 := hE1.at t_r0 (by decide)
      refine lv_aload_n C.x C.b dX9_sung_122 rfl (lv_at hl 2 rfl) ?_
      obtain ⟨g18, hf⟩ := gd_e hf
      refine r_getr C hR t_r0 fl_X9_19 (by decide) (nz_e g18) dX9_sung_123 (fun tq19 => ?_)
      have tg18 := okO tq19 rfl
      refine lv_lload C.x C.b dX9_sung_126 (lv_at hl 0 rfl) ?_
      refine lv_lconst (v := (0 : Int64)) C.x C.b dX9_sung_128 (by decide) ?_
      refine W.lcmp C.x C.b dX9_sung_129 ?_
      refine lv_if_le (tgt := 141) C.x C.b dX9_sung_130 (by decide) (fun c20 => ?_) (fun c20 => ?_)
      · have hf := it_t hf c20
        refine lv_lload C.x C.b dX9_sung_141 (lv_at hl 7 rfl) ?_
        exact w_X9_sung_143 C hr hlk _ _ _ _ _ _ _ _ hf hE hR hS t_r0 tg18 (lv_sub hl [2, 3, 4, 5, 1, 0] rfl)
      · have hf := it_f hf c20
        refine lv_lload C.x C.b dX9_sung_133 (lv_at hl 7 rfl) ?_
        refine lv_lload C.x C.b dX9_sung_135 (lv_at hl 0 rfl) ?_
        obtain ⟨g21, hf⟩ := gd_e hf
        refine lv_ldiv C.x C.b dX9_sung_137 (nz64_e g21) ?_
        refine lv_goto (tgt := 143) C.x C.b dX9_sung_138 (by decide) ?_
        exact w_X9_sung_143 C hr hlk _ _ _ _ _ _ _ _ hf hE hR hS t_r0 tg18 (lv_sub hl [2, 3, 4, 5, 1, 0] rfl)
    · have hf := it_f hf c12
      refine lv_lload C.x C.b dX9_sung_59 (lv_at hl 5 rfl) ?_
      refine lv_iload C.x C.b dX9_sung_61 (lv_at hl 4 rfl) ?_
      refine lv_iload C.x C.b dX9_sung_63 (lv_at hl 6 rfl) ?_
      obtain ⟨q22, h_q22, hf⟩ := bd_e hf
      refine r_callS (As := [.int x4, .int x7]) (rest := [.long y5]) C hR hS mk_X9_choices cl_X9_395 (k_X9_choices h_q22) ⟨⟨Nat.le_of_ble_eq_true rfl, Nat.le_of_ble_eq_true rfl⟩, ⟨rfl, rfl⟩, Nat.le_of_ble_eq_true rfl, Nat.le_of_ble_eq_true rfl⟩ rfl hl.1 rfl (Nat.le_of_ble_eq_true rfl) dX9_sung_65 (fun H locs hR hS hE1 z_q22 => ?_)
      refine lv_iload_n C.x C.b dX9_sung_68 rfl (lv_at hl 3 rfl) ?_
      refine lv_iload C.x C.b dX9_sung_69 (lv_at hl 6 rfl) ?_
      obtain ⟨q23, h_q23, hf⟩ := bd_e hf
      refine r_callS (As := [.int x3, .int x7]) (rest := [.long q22, .long y5]) C hR hS mk_X9_power cl_X9_399 (k_X9_power h_q23) ⟨⟨Nat.le_of_ble_eq_true rfl, Nat.le_of_ble_eq_true rfl⟩, ⟨rfl, rfl⟩, Nat.le_of_ble_eq_true rfl, Nat.le_of_ble_eq_true rfl⟩ rfl hl.1 rfl (Nat.le_of_ble_eq_true rfl) dX9_sung_71 (fun H locs hR hS hE1 z_q23 => ?_)
      refine lv_lmul C.x C.b dX9_sung_74 ?_
      refine lv_bipush (v := (10 : Int32)) C.x C.b dX9_sung_75 (by decide) ?_
      refine lv_iload_n C.x C.b dX9_sung_77 rfl (lv_at hl 3 rfl) ?_
      refine lv_isub C.x C.b dX9_sung_78 ?_
      refine lv_iload C.x C.b dX9_sung_79 (lv_at hl 4 rfl) ?_
      refine lv_iload C.x C.b dX9_sung_81 (lv_at hl 6 rfl) ?_
      refine lv_isub C.x C.b dX9_sung_83 ?_
      obtain ⟨q24, h_q24, hf⟩ := bd_e hf
      refine r_callS (As := [.int ((10 : Int32) - x3), .int (x4 - x7)]) (rest := [.long (q22 * q23), .long y5]) C hR hS mk_X9_power cl_X9_399 (k_X9_power h_q24) ⟨⟨Nat.le_of_ble_eq_true rfl, Nat.le_of_ble_eq_true rfl⟩, ⟨rfl, rfl⟩, Nat.le_of_ble_eq_true rfl, Nat.le_of_ble_eq_true rfl⟩ rfl hl.1 rfl (Nat.le_of_ble_eq_true rfl) dX9_sung_84 (fun H locs hR hS hE1 z_q24 => ?_)
      refine lv_lmul C.x C.b dX9_sung_87 ?_
      refine lv_ladd C.x C.b dX9_sung_88 ?_
      refine lv_topl (fun v25 e_v25 => ?_)
      have hf := lt_e hf e_v25
      refine lv_lstore (lv' := [(5, .long v25), (0, .ref (G.2.2 + r0)), (1, .int x1), (2, .int x2), (3, .int x3), (4, .int x4), (7, .int x7)]) C.x C.b dX9_sung_89 hl (by decide) rfl (fun ls hl => ?_)
      obtain ⟨v26, e_v26⟩ : ∃ y : Int32, y = x7 + (1 : Int32) := ⟨_, rfl⟩
      have hf := lt_e hf e_v26
      refine lv_iinc (v := v26) (lv' := [(7, .int v26), (5, .long v25), (0, .ref (G.2.2 + r0)), (1, .int x1), (2, .int x2), (3, .int x3), (4, .int x4)]) C.x C.b dX9_sung_91 hl (k := 6) rfl (by rw [e_v26]; rfl) (by decide) rfl (fun ls hl => ?_)
      refine lv_goto (tgt := 52) C.x C.b dX9_sung_94 (by decide) ?_
      exact hk52 _ _ _ _ _ _ _ hf hE hR hS t_r0 (lv_sub hl [2, 3, 4, 5, 6, 1, 0] rfl)
set_option maxRecDepth 100000 in
set_option maxHeartbeats 4000000 in
theorem k_X9_sung {G : Gt} {l : Launch}  {h : Hp} {r0 : Nat} {x1 : Int32} {x2 : Int32} {x3 : Int32} {out : (Int32 × Hp)} (t_r0 : hpT h r0 = (1, 9))  (hf : f_X9_sung  h r0 x1 x2 x3 = some out) : Mt G l yX9_sung cX9_sung 11 (some .int) rm_X9_sung [.ref (G.2.2 + r0), .int x1, .int x2, .int x3] h (some (.int out.1)) out.2 0 0 0 := by
  refine r_met (by decide +kernel) (Nat.le_of_ble_eq_true rfl) ?_
  intro p e s m args below meth c ls C hr hlk hnm hR hS hl
  have hE : Ext h h := Ext.rf
  have hl : lv_has ls 11 [(0, .ref (G.2.2 + r0)), (1, .int x1), (2, .int x2), (3, .int x3)] := hl
  rw [f_X9_sung] at hf
  refine lv_aload_n C.x C.b dX9_sung_0 rfl (lv_at hl 0 rfl) ?_
  obtain ⟨g1, hf⟩ := gd_e hf
  refine r_getr C hR t_r0 fl_X9_26 (by decide) (nz_e g1) dX9_sung_1 (fun tq2 => ?_)
  have tg1 := okO tq2 rfl
  refine lv_iload_n C.x C.b dX9_sung_4 rfl (lv_at hl 1 rfl) ?_
  obtain ⟨q3, h_q3, hf⟩ := bd_e hf
  refine r_callV (As := [.int x1]) (rest := []) C hR hS tg1 rfl mk_X0_hasCell cl_X9_186 (k_X0_hasCell tg1 h_q3) ⟨⟨Nat.le_of_ble_eq_true rfl, Nat.le_of_ble_eq_true rfl⟩, ⟨rfl, rfl⟩, Nat.le_of_ble_eq_true rfl, Nat.le_of_ble_eq_true rfl⟩ rfl hl.1 rfl (Nat.le_of_ble_eq_true rfl) dX9_sung_5 (fun H locs hR hS hE1 z_q3 => ?_)
  have z_q3 := z_q3 _ rfl
  refine lv_if_eq (tgt := 31) C.x C.b dX9_sung_8 (by decide) (fun c4 => ?_) (fun c4 => ?_)
  · have hf := it_t hf c4
    refine lv_iconst (v := (-1 : Int32)) C.x C.b dX9_sung_31 (by decide) ?_
    have hf := so_e hf
    subst hf
    exact r_iret C hr hlk hR hE hS dX9_sung_32
  · have hf := it_f hf c4
    refine lv_iload_n C.x C.b dX9_sung_11 rfl (lv_at hl 2 rfl) ?_
    refine lv_if_lt (tgt := 31) C.x C.b dX9_sung_12 (by decide) (fun c5 => ?_) (fun c5 => ?_)
    · have hf := it_t hf c5
      refine lv_iconst (v := (-1 : Int32)) C.x C.b dX9_sung_31 (by decide) ?_
      have hf := so_e hf
      subst hf
      exact r_iret C hr hlk hR hE hS dX9_sung_32
    · have hf := it_f hf c5
      refine lv_iload_n C.x C.b dX9_sung_15 rfl (lv_at hl 2 rfl) ?_
      refine lv_bipush (v := (8 : Int32)) C.x C.b dX9_sung_16 (by decide) ?_
      refine lv_icmp_gt (tgt := 31) C.x C.b dX9_sung_18 (by decide) (fun c6 => ?_) (fun c6 => ?_)
      · have hf := it_t hf c6
        refine lv_iconst (v := (-1 : Int32)) C.x C.b dX9_sung_31 (by decide) ?_
        have hf := so_e hf
        subst hf
        exact r_iret C hr hlk hR hE hS dX9_sung_32
      · have hf := it_f hf c6
        refine lv_iload_n C.x C.b dX9_sung_21 rfl (lv_at hl 3 rfl) ?_
        refine lv_if_lt (tgt := 31) C.x C.b dX9_sung_22 (by decide) (fun c7 => ?_) (fun c7 => ?_)
        · have hf := it_t hf c7
          refine lv_iconst (v := (-1 : Int32)) C.x C.b dX9_sung_31 (by decide) ?_
          have hf := so_e hf
          subst hf
          exact r_iret C hr hlk hR hE hS dX9_sung_32
        · have hf := it_f hf c7
          refine lv_iload_n C.x C.b dX9_sung_25 rfl (lv_at hl 3 rfl) ?_
          refine lv_bipush (v := (10 : Int32)) C.x C.b dX9_sung_26 (by decide) ?_
          refine lv_icmp_le (tgt := 33) C.x C.b dX9_sung_28 (by decide) (fun c8 => ?_) (fun c8 => ?_)
          · have hf := it_t hf c8
            refine lv_aload_n C.x C.b dX9_sung_33 rfl (lv_at hl 0 rfl) ?_
            refine r_getr C hR t_r0 fl_X9_26 (by decide) (nz_e g1) dX9_sung_34 (fun tq9 => ?_)
            refine lv_iload_n C.x C.b dX9_sung_37 rfl (lv_at hl 1 rfl) ?_
            obtain ⟨q10, h_q10, hf⟩ := bd_e hf
            refine r_callV (As := [.int x1]) (rest := []) C hR hS tg1 rfl mk_X0_onOver cl_X9_189 (k_X0_onOver tg1 h_q10) ⟨⟨Nat.le_of_ble_eq_true rfl, Nat.le_of_ble_eq_true rfl⟩, ⟨rfl, rfl⟩, Nat.le_of_ble_eq_true rfl, Nat.le_of_ble_eq_true rfl⟩ rfl hl.1 rfl (Nat.le_of_ble_eq_true rfl) dX9_sung_38 (fun H locs hR hS hE1 z_q10 => ?_)
            obtain ⟨q11, h_q11, hf⟩ := bd_e hf
            refine r_callS (As := [.int q10]) (rest := []) C hR hS mk_J6_bitCount_0f7a4 cl_X9_267 (k_J6_bitCount_0f7a4 h_q11) ⟨⟨Nat.le_of_ble_eq_true rfl, Nat.le_of_ble_eq_true rfl⟩, ⟨rfl, rfl⟩, Nat.le_of_ble_eq_true rfl, Nat.le_of_ble_eq_true rfl⟩ rfl hl.1 rfl (Nat.le_of_ble_eq_true rfl) dX9_sung_41 (fun H locs hR hS hE1 z_q11 => ?_)
            refine lv_istore (lv' := [(4, .int q11), (0, .ref (G.2.2 + r0)), (1, .int x1), (2, .int x2), (3, .int x3)]) C.x C.b dX9_sung_44 hl (by decide) rfl (fun ls hl => ?_)
            refine lv_lconst (v := (0 : Int64)) C.x C.b dX9_sung_46 (by decide) ?_
            refine lv_lstore (lv' := [(5, .long (0 : Int64)), (4, .int q11), (0, .ref (G.2.2 + r0)), (1, .int x1), (2, .int x2), (3, .int x3)]) C.x C.b dX9_sung_47 hl (by decide) rfl (fun ls hl => ?_)
            refine lv_iload_n C.x C.b dX9_sung_49 rfl (lv_at hl 4 rfl) ?_
            refine lv_istore (lv' := [(7, .int x2), (5, .long (0 : Int64)), (4, .int q11), (0, .ref (G.2.2 + r0)), (1, .int x1), (2, .int x2), (3, .int x3)]) C.x C.b dX9_sung_50 hl (by decide) rfl (fun ls hl => ?_)
            exact w_X9_sung_52 C hr hlk FU _ _ _ _ _ _ _ hf hE hR hS t_r0 (lv_sub hl [3, 4, 5, 6, 2, 1, 0] rfl)
          · have hf := it_f hf c8
            refine lv_iconst (v := (-1 : Int32)) C.x C.b dX9_sung_31 (by decide) ?_
            have hf := so_e hf
            subst hf
            exact r_iret C hr hlk hR hE hS dX9_sung_32

def rm_X9_firstNotIn : Room := { frames := 0, cells := 0, slots := 0, locals := 0 }
def P_X9_firstNotIn_2 (G : Gt) (l : Launch) (p : Program) (e : Env) (s : State) (m : MethodId) (args : Array Value) (below : List Frame) (meth : Method) (c : Code) (h : Hp) (out : Int32) (y0 : Int64) (k : Int32 → Option Int32) : Prop := ∀ (H : Heap) (locs : List Loc) (ls : Array Slot) (x2 : Int32), k x2 = some out → Rel G h H → va_S (AA G.2.2) s.heap H locs → lv_has ls 3 [(0, .long y0), (2, .int x2)] → W p l e rm_X9_firstNotIn s m args below meth c H locs 0 0 (MQ below (Qm G h h (some (.int out)) 0) args s 0 0 (AA G.2.2)) (F0 m 2 ls [])
set_option maxRecDepth 100000 in
set_option maxHeartbeats 4000000 in
theorem w_X9_firstNotIn_2 {G : Gt} {l : Launch} {p : Program} {e : Env} {s : State} {m : MethodId} {args : Array Value} {below : List Frame} {meth : Method} {c : Code}  {h : Hp} {out : Int32} {y0 : Int64}  (C : Cx G p m c cX9_firstNotIn 3 s args RX9) (hr : meth.sig.returnType = some .int) (hlk : meth.locks = false)   (n : Nat) : P_X9_firstNotIn_2 G l p e s m args below meth c h out y0 (f_X9_firstNotIn_2 h y0 n) := by
  induction n with
  | zero => intro H locs ls x2 hf hR hS  hl; cases hf
  | succ n hk2 =>
    intro H locs ls x2 hf hR hS  hl
    rw [f_X9_firstNotIn_2] at hf
    obtain ⟨k2, e_k2⟩ : ∃ y, y = f_X9_firstNotIn_2 h y0 n := ⟨_, rfl⟩
    have hf := lt_e hf e_k2
    rw [← e_k2] at hk2
    refine lv_iload_n C.x C.b dX9_firstNotIn_2 rfl (lv_at hl 1 rfl) ?_
    refine lv_bipush (v := (63 : Int32)) C.x C.b dX9_firstNotIn_3 (by decide) ?_
    refine lv_icmp_ge (tgt := 24) C.x C.b dX9_firstNotIn_5 (by decide) (fun c1 => ?_) (fun c1 => ?_)
    · have hf := it_t hf c1
      refine lv_iload_n C.x C.b dX9_firstNotIn_24 rfl (lv_at hl 1 rfl) ?_
      have hf := so_e hf
      subst hf
      exact r_iret C hr hlk hR Ext.rf hS dX9_firstNotIn_25
    · have hf := it_f hf c1
      refine lv_lload_n C.x C.b dX9_firstNotIn_8 rfl (lv_at hl 0 rfl) ?_
      refine lv_iload_n C.x C.b dX9_firstNotIn_9 rfl (lv_at hl 1 rfl) ?_
      refine lv_lshr C.x C.b dX9_firstNotIn_10 rfl ?_
      refine lv_topl (fun v2 e_v2 => ?_)
      have hf := lt_e hf e_v2
      refine lv_lconst (v := (1 : Int64)) C.x C.b dX9_firstNotIn_11 (by decide) ?_
      refine lv_land C.x C.b dX9_firstNotIn_12 ?_
      refine lv_lconst (v := (0 : Int64)) C.x C.b dX9_firstNotIn_13 (by decide) ?_
      refine W.lcmp C.x C.b dX9_firstNotIn_14 ?_
      refine lv_if_eq (tgt := 24) C.x C.b dX9_firstNotIn_15 (by decide) (fun c3 => ?_) (fun c3 => ?_)
      · have hf := it_t hf c3
        refine lv_iload_n C.x C.b dX9_firstNotIn_24 rfl (lv_at hl 1 rfl) ?_
        have hf := so_e hf
        subst hf
        exact r_iret C hr hlk hR Ext.rf hS dX9_firstNotIn_25
      · have hf := it_f hf c3
        obtain ⟨v4, e_v4⟩ : ∃ y : Int32, y = x2 + (1 : Int32) := ⟨_, rfl⟩
        have hf := lt_e hf e_v4
        refine lv_iinc (v := v4) (lv' := [(2, .int v4), (0, .long y0)]) C.x C.b dX9_firstNotIn_18 hl (k := 1) rfl (by rw [e_v4]; rfl) (by decide) rfl (fun ls hl => ?_)
        refine lv_goto (tgt := 2) C.x C.b dX9_firstNotIn_21 (by decide) ?_
        exact hk2 _ _ _ _ hf hR hS (lv_sub hl [1, 0] rfl)
set_option maxRecDepth 100000 in
set_option maxHeartbeats 4000000 in
theorem k_X9_firstNotIn {G : Gt} {l : Launch}  {h : Hp} {y0 : Int64} {out : Int32}   (hf : f_X9_firstNotIn  h y0 = some out) : Mt G l yX9_firstNotIn cX9_firstNotIn 3 (some .int) rm_X9_firstNotIn [.long y0] h (some (.int out)) h 0 0 0 := by
  refine r_met (by decide +kernel) (Nat.le_of_ble_eq_true rfl) ?_
  intro p e s m args below meth c ls C hr hlk hnm hR hS hl
  have hl : lv_has ls 3 [(0, .long y0)] := hl
  rw [f_X9_firstNotIn] at hf
  refine lv_iconst (v := (0 : Int32)) C.x C.b dX9_firstNotIn_0 (by decide) ?_
  refine lv_istore_n (lv' := [(2, .int (0 : Int32)), (0, .long y0)]) C.x C.b dX9_firstNotIn_1 rfl hl (by decide) rfl (fun ls hl => ?_)
  exact w_X9_firstNotIn_2 C hr hlk FU _ _ _ _ hf hR hS (lv_sub hl [1, 0] rfl)

def rm_X9_countNimbers : Room := { frames := 1, cells := 0, slots := 0, locals := 22 }
def P_X9_countNimbers_21 (G : Gt) (l : Launch) (p : Program) (e : Env) (s : State) (m : MethodId) (args : Array Value) (below : List Frame) (meth : Method) (c : Code) (h0 : Hp) (out : Hp) (r0 : Nat) (x1 : Int32) (k : Hp → Int32 → Int64 → Int32 → Int32 → Option Hp) : Prop := ∀ (H : Heap) (locs : List Loc) (ls : Array Slot) (h : Hp) (x2 : Int32) (y3 : Int64) (x5 : Int32) (x6 : Int32), k h x2 y3 x5 x6 = some out → Ext h0 h → Rel G h H → va_S (AA G.2.2) s.heap H locs → hpT h r0 = (1, 9) → lv_has ls 7 [(0, .ref (G.2.2 + r0)), (1, .int x1), (2, .int x2), (3, .long y3), (5, .int x5), (6, .int x6)] → W p l e rm_X9_countNimbers s m args below meth c H locs 0 0 (MQ below (Qm G h0 out (none) 0) args s 0 0 (AA G.2.2)) (F0 m 21 ls [])
def P_X9_countNimbers_12 (G : Gt) (l : Launch) (p : Program) (e : Env) (s : State) (m : MethodId) (args : Array Value) (below : List Frame) (meth : Method) (c : Code) (h0 : Hp) (out : Hp) (r0 : Nat) (x1 : Int32) (k : Hp → Int32 → Int64 → Int32 → Option Hp) : Prop := ∀ (H : Heap) (locs : List Loc) (ls : Array Slot) (h : Hp) (x2 : Int32) (y3 : Int64) (x5 : Int32), k h x2 y3 x5 = some out → Ext h0 h → Rel G h H → va_S (AA G.2.2) s.heap H locs → hpT h r0 = (1, 9) → lv_has ls 7 [(0, .ref (G.2.2 + r0)), (1, .int x1), (2, .int x2), (3, .long y3), (5, .int x5)] → W p l e rm_X9_countNimbers s m args below meth c H locs 0 0 (MQ below (Qm G h0 out (none) 0) args s 0 0 (AA G.2.2)) (F0 m 12 ls [])
def P_X9_countNimbers_2 (G : Gt) (l : Launch) (p : Program) (e : Env) (s : State) (m : MethodId) (args : Array Value) (below : List Frame) (meth : Method) (c : Code) (h0 : Hp) (out : Hp) (r0 : Nat) (x1 : Int32) (k : Hp → Int32 → Option Hp) : Prop := ∀ (H : Heap) (locs : List Loc) (ls : Array Slot) (h : Hp) (x2 : Int32), k h x2 = some out → Ext h0 h → Rel G h H → va_S (AA G.2.2) s.heap H locs → hpT h r0 = (1, 9) → lv_has ls 7 [(0, .ref (G.2.2 + r0)), (1, .int x1), (2, .int x2)] → W p l e rm_X9_countNimbers s m args below meth c H locs 0 0 (MQ below (Qm G h0 out (none) 0) args s 0 0 (AA G.2.2)) (F0 m 2 ls [])
set_option maxRecDepth 100000 in
set_option maxHeartbeats 4000000 in
theorem w_X9_countNimbers_21 {G : Gt} {l : Launch} {p : Program} {e : Env} {s : State} {m : MethodId} {args : Array Value} {below : List Frame} {meth : Method} {c : Code}  {h0 : Hp} {out : Hp} {r0 : Nat} {x1 : Int32} {k2 : Hp → Int32 → Option Hp} {k12 : Hp → Int32 → Int64 → Int32 → Option Hp} (C : Cx G p m c cX9_countNimbers 7 s args RX9) (hr : meth.sig.returnType = none) (hlk : meth.locks = false)  (hk2 : P_X9_countNimbers_2 G l p e s m args below meth c h0 out r0 x1 k2) (hk12 : P_X9_countNimbers_12 G l p e s m args below meth c h0 out r0 x1 k12) (n : Nat) : P_X9_countNimbers_21 G l p e s m args below meth c h0 out r0 x1 (f_X9_countNimbers_21 r0 x1 k2 k12 n) := by
  induction n with
  | zero => intro H locs ls h x2 y3 x5 x6 hf hE hR hS t_r0 hl; cases hf
  | succ n hk21 =>
    intro H locs ls h x2 y3 x5 x6 hf hE hR hS t_r0 hl
    rw [f_X9_countNimbers_21] at hf
    obtain ⟨k21, e_k21⟩ : ∃ y, y = f_X9_countNimbers_21 r0 x1 k2 k12 n := ⟨_, rfl⟩
    have hf := lt_e hf e_k21
    rw [← e_k21] at hk21
    refine lv_iload C.x C.b dX9_countNimbers_21 (lv_at hl 5 rfl) ?_
    refine lv_iload C.x C.b dX9_countNimbers_23 (lv_at hl 4 rfl) ?_
    refine lv_iadd C.x C.b dX9_countNimbers_25 ?_
    refine lv_iload_n C.x C.b dX9_countNimbers_26 rfl (lv_at hl 2 rfl) ?_
    refine lv_icmp_gt (tgt := 61) C.x C.b dX9_countNimbers_27 (by decide) (fun c9 => ?_) (fun c9 => ?_)
    · have hf := it_t hf c9
      obtain ⟨v10, e_v10⟩ : ∃ y : Int32, y = x5 + (1 : Int32) := ⟨_, rfl⟩
      have hf := lt_e hf e_v10
      refine lv_iinc (v := v10) (lv' := [(5, .int v10), (0, .ref (G.2.2 + r0)), (1, .int x1), (2, .int x2), (3, .long y3), (6, .int x6)]) C.x C.b dX9_countNimbers_61 hl (k := 4) rfl (by rw [e_v10]; rfl) (by decide) rfl (fun ls hl => ?_)
      refine lv_goto (tgt := 12) C.x C.b dX9_countNimbers_64 (by decide) ?_
      exact hk12 _ _ _ _ _ _ _ hf hE hR hS t_r0 (lv_sub hl [1, 2, 3, 4, 0] rfl)
    · have hf := it_f hf c9
      refine lv_lload_n C.x C.b dX9_countNimbers_30 rfl (lv_at hl 3 rfl) ?_
      refine lv_lconst (v := (1 : Int64)) C.x C.b dX9_countNimbers_31 (by decide) ?_
      refine lv_aload_n C.x C.b dX9_countNimbers_32 rfl (lv_at hl 0 rfl) ?_
      obtain ⟨g11, hf⟩ := gd_e hf
      refine r_getr C hR t_r0 fl_X9_87 (by decide) (nz_e g11) dX9_countNimbers_33 (fun tq12 => ?_)
      have tg11 := okA tq12 rfl
      refine lv_iload C.x C.b dX9_countNimbers_36 (lv_at hl 5 rfl) ?_
      obtain ⟨g13, hf⟩ := gd_e hf
      refine r_iald C hR tg11 g13 dX9_countNimbers_38 ?_
      refine lv_aload_n C.x C.b dX9_countNimbers_39 rfl (lv_at hl 0 rfl) ?_
      refine r_getr C hR t_r0 fl_X9_87 (by decide) (nz_e g11) dX9_countNimbers_40 (fun tq14 => ?_)
      refine lv_iload_n C.x C.b dX9_countNimbers_43 rfl (lv_at hl 2 rfl) ?_
      refine lv_iload C.x C.b dX9_countNimbers_44 (lv_at hl 5 rfl) ?_
      refine lv_isub C.x C.b dX9_countNimbers_46 ?_
      refine lv_iload C.x C.b dX9_countNimbers_47 (lv_at hl 4 rfl) ?_
      refine lv_isub C.x C.b dX9_countNimbers_49 ?_
      obtain ⟨g15, hf⟩ := gd_e hf
      refine r_iald C hR tg11 g15 dX9_countNimbers_50 ?_
      refine lv_ixor C.x C.b dX9_countNimbers_51 ?_
      refine lv_lshl C.x C.b dX9_countNimbers_52 rfl ?_
      refine lv_topl (fun v16 e_v16 => ?_)
      have hf := lt_e hf e_v16
      refine lv_lor C.x C.b dX9_countNimbers_53 ?_
      refine lv_topl (fun v17 e_v17 => ?_)
      have hf := lt_e hf e_v17
      refine lv_lstore_n (lv' := [(3, .long v17), (0, .ref (G.2.2 + r0)), (1, .int x1), (2, .int x2), (5, .int x5), (6, .int x6)]) C.x C.b dX9_countNimbers_54 rfl hl (by decide) rfl (fun ls hl => ?_)
      obtain ⟨v18, e_v18⟩ : ∃ y : Int32, y = x6 + (1 : Int32) := ⟨_, rfl⟩
      have hf := lt_e hf e_v18
      refine lv_iinc (v := v18) (lv' := [(6, .int v18), (3, .long v17), (0, .ref (G.2.2 + r0)), (1, .int x1), (2, .int x2), (5, .int x5)]) C.x C.b dX9_countNimbers_55 hl (k := 5) rfl (by rw [e_v18]; rfl) (by decide) rfl (fun ls hl => ?_)
      refine lv_goto (tgt := 21) C.x C.b dX9_countNimbers_58 (by decide) ?_
      exact hk21 _ _ _ _ _ _ _ _ hf hE hR hS t_r0 (lv_sub hl [2, 3, 4, 1, 5, 0] rfl)
set_option maxRecDepth 100000 in
set_option maxHeartbeats 4000000 in
theorem w_X9_countNimbers_12 {G : Gt} {l : Launch} {p : Program} {e : Env} {s : State} {m : MethodId} {args : Array Value} {below : List Frame} {meth : Method} {c : Code}  {h0 : Hp} {out : Hp} {r0 : Nat} {x1 : Int32} {k2 : Hp → Int32 → Option Hp} (C : Cx G p m c cX9_countNimbers 7 s args RX9) (hr : meth.sig.returnType = none) (hlk : meth.locks = false)  (hk2 : P_X9_countNimbers_2 G l p e s m args below meth c h0 out r0 x1 k2) (n : Nat) : P_X9_countNimbers_12 G l p e s m args below meth c h0 out r0 x1 (f_X9_countNimbers_12 r0 x1 k2 n) := by
  induction n with
  | zero => intro H locs ls h x2 y3 x5 hf hE hR hS t_r0 hl; cases hf
  | succ n hk12 =>
    intro H locs ls h x2 y3 x5 hf hE hR hS t_r0 hl
    rw [f_X9_countNimbers_12] at hf
    obtain ⟨k12, e_k12⟩ : ∃ y, y = f_X9_countNimbers_12 r0 x1 k2 n := ⟨_, rfl⟩
    have hf := lt_e hf e_k12
    rw [← e_k12] at hk12
    refine lv_iload C.x C.b dX9_countNimbers_12 (lv_at hl 4 rfl) ?_
    refine lv_iconst (v := (3 : Int32)) C.x C.b dX9_countNimbers_14 (by decide) ?_
    refine lv_icmp_gt (tgt := 67) C.x C.b dX9_countNimbers_15 (by decide) (fun c2 => ?_) (fun c2 => ?_)
    · have hf := it_t hf c2
      refine lv_aload_n C.x C.b dX9_countNimbers_67 rfl (lv_at hl 0 rfl) ?_
      obtain ⟨g3, hf⟩ := gd_e hf
      refine r_getr C hR t_r0 fl_X9_87 (by decide) (nz_e g3) dX9_countNimbers_68 (fun tq4 => ?_)
      have tg3 := okA tq4 rfl
      refine lv_iload_n C.x C.b dX9_countNimbers_71 rfl (lv_at hl 2 rfl) ?_
      refine lv_lload_n C.x C.b dX9_countNimbers_72 rfl (lv_at hl 3 rfl) ?_
      obtain ⟨q5, h_q5, hf⟩ := bd_e hf
      refine r_callS (As := [.long y3]) (rest := [.int x2, .ref (G.2.2 + (hpR h r0 15))]) C hR hS mk_X9_firstNotIn cl_X9_409 (k_X9_firstNotIn h_q5) ⟨⟨Nat.le_of_ble_eq_true rfl, Nat.le_of_ble_eq_true rfl⟩, ⟨rfl, rfl⟩, Nat.le_of_ble_eq_true rfl, Nat.le_of_ble_eq_true rfl⟩ rfl hl.1 rfl (Nat.le_of_ble_eq_true rfl) dX9_countNimbers_73 (fun H locs hR hS hE1 z_q5 => ?_)
      obtain ⟨g6, hf⟩ := gd_e hf
      refine r_iast C hR hS tg3 g6 dX9_countNimbers_76 (fun H locs hR hS => ?_)
      obtain ⟨h7, e_h7⟩ : ∃ y, y = upI h (hpR h r0 15) (ix x2) q5 := ⟨_, rfl⟩
      rw [← e_h7] at hR
      have hf := lt_e hf e_h7
      have hE := eI e_h7 hE
      have t_r0 := tI e_h7 t_r0
      obtain ⟨v8, e_v8⟩ : ∃ y : Int32, y = x2 + (1 : Int32) := ⟨_, rfl⟩
      have hf := lt_e hf e_v8
      refine lv_iinc (v := v8) (lv' := [(2, .int v8), (0, .ref (G.2.2 + r0)), (1, .int x1), (3, .long y3), (5, .int x5)]) C.x C.b dX9_countNimbers_77 hl (k := 2) rfl (by rw [e_v8]; rfl) (by decide) rfl (fun ls hl => ?_)
      refine lv_goto (tgt := 2) C.x C.b dX9_countNimbers_80 (by decide) ?_
      exact hk2 _ _ _ _ _ hf hE hR hS t_r0 (lv_sub hl [1, 2, 0] rfl)
    · have hf := it_f hf c2
      refine lv_iconst (v := (0 : Int32)) C.x C.b dX9_countNimbers_18 (by decide) ?_
      refine lv_istore (lv' := [(6, .int (0 : Int32)), (0, .ref (G.2.2 + r0)), (1, .int x1), (2, .int x2), (3, .long y3), (5, .int x5)]) C.x C.b dX9_countNimbers_19 hl (by decide) rfl (fun ls hl => ?_)
      exact w_X9_countNimbers_21 C hr hlk hk2 hk12 FU _ _ _ _ _ _ _ _ hf hE hR hS t_r0 (lv_sub hl [1, 2, 3, 4, 5, 0] rfl)
set_option maxRecDepth 100000 in
set_option maxHeartbeats 4000000 in
theorem w_X9_countNimbers_2 {G : Gt} {l : Launch} {p : Program} {e : Env} {s : State} {m : MethodId} {args : Array Value} {below : List Frame} {meth : Method} {c : Code}  {h0 : Hp} {out : Hp} {r0 : Nat} {x1 : Int32}  (C : Cx G p m c cX9_countNimbers 7 s args RX9) (hr : meth.sig.returnType = none) (hlk : meth.locks = false)   (n : Nat) : P_X9_countNimbers_2 G l p e s m args below meth c h0 out r0 x1 (f_X9_countNimbers_2 r0 x1 n) := by
  induction n with
  | zero => intro H locs ls h x2 hf hE hR hS t_r0 hl; cases hf
  | succ n hk2 =>
    intro H locs ls h x2 hf hE hR hS t_r0 hl
    rw [f_X9_countNimbers_2] at hf
    obtain ⟨k2, e_k2⟩ : ∃ y, y = f_X9_countNimbers_2 r0 x1 n := ⟨_, rfl⟩
    have hf := lt_e hf e_k2
    rw [← e_k2] at hk2
    refine lv_iload_n C.x C.b dX9_countNimbers_2 rfl (lv_at hl 2 rfl) ?_
    refine lv_iload_n C.x C.b dX9_countNimbers_3 rfl (lv_at hl 1 rfl) ?_
    refine lv_icmp_gt (tgt := 83) C.x C.b dX9_countNimbers_4 (by decide) (fun c1 => ?_) (fun c1 => ?_)
    · have hf := it_t hf c1
      have hf := so_e hf
      subst hf
      exact r_vret C hr hlk hR hE hS dX9_countNimbers_83
    · have hf := it_f hf c1
      refine lv_lconst (v := (0 : Int64)) C.x C.b dX9_countNimbers_7 (by decide) ?_
      refine lv_lstore_n (lv' := [(3, .long (0 : Int64)), (0, .ref (G.2.2 + r0)), (1, .int x1), (2, .int x2)]) C.x C.b dX9_countNimbers_8 rfl hl (by decide) rfl (fun ls hl => ?_)
      refine lv_iconst (v := (1 : Int32)) C.x C.b dX9_countNimbers_9 (by decide) ?_
      refine lv_istore (lv' := [(5, .int (1 : Int32)), (3, .long (0 : Int64)), (0, .ref (G.2.2 + r0)), (1, .int x1), (2, .int x2)]) C.x C.b dX9_countNimbers_10 hl (by decide) rfl (fun ls hl => ?_)
      exact w_X9_countNimbers_12 C hr hlk hk2 FU _ _ _ _ _ _ _ hf hE hR hS t_r0 (lv_sub hl [2, 3, 4, 1, 0] rfl)
set_option maxRecDepth 100000 in
set_option maxHeartbeats 4000000 in
theorem k_X9_countNimbers {G : Gt} {l : Launch}  {h : Hp} {r0 : Nat} {x1 : Int32} {out : Hp} (t_r0 : hpT h r0 = (1, 9))  (hf : f_X9_countNimbers  h r0 x1 = some out) : Mt G l yX9_countNimbers cX9_countNimbers 7 (none) rm_X9_countNimbers [.ref (G.2.2 + r0), .int x1] h (none) out 0 0 0 := by
  refine r_met (by decide +kernel) (Nat.le_of_ble_eq_true rfl) ?_
  intro p e s m args below meth c ls C hr hlk hnm hR hS hl
  have hE : Ext h h := Ext.rf
  have hl : lv_has ls 7 [(0, .ref (G.2.2 + r0)), (1, .int x1)] := hl
  rw [f_X9_countNimbers] at hf
  refine lv_iconst (v := (0 : Int32)) C.x C.b dX9_countNimbers_0 (by decide) ?_
  refine lv_istore_n (lv' := [(2, .int (0 : Int32)), (0, .ref (G.2.2 + r0)), (1, .int x1)]) C.x C.b dX9_countNimbers_1 rfl hl (by decide) rfl (fun ls hl => ?_)
  exact w_X9_countNimbers_2 C hr hlk FU _ _ _ _ _ hf hE hR hS t_r0 (lv_sub hl [1, 2, 0] rfl)

def rm_X9_fence : Room := { frames := 2, cells := 0, slots := 0, locals := 48 }
def P_X9_fence_91 (G : Gt) (l : Launch) (p : Program) (e : Env) (s : State) (m : MethodId) (args : Array Value) (below : List Frame) (meth : Method) (c : Code) (h0 : Hp) (out : (Int32 × Hp)) (r0 : Nat) (x1 : Int32) (k : Hp → Int32 → Option (Int32 × Hp)) : Prop := ∀ (H : Heap) (locs : List Loc) (ls : Array Slot) (h : Hp) (x2 : Int32), k h x2 = some out → Ext h0 h → Rel G h H → va_S (AA G.2.2) s.heap H locs → hpT h r0 = (1, 9) → lv_has ls 4 [(0, .ref (G.2.2 + r0)), (1, .int x1), (2, .int x2)] → W p l e rm_X9_fence s m args below meth c H locs 0 0 (MQ below (Qm G h0 out.2 (some (.int out.1)) 0) args s 0 0 (AA G.2.2)) (F0 m 91 ls [])
def P_X9_fence_33 (G : Gt) (l : Launch) (p : Program) (e : Env) (s : State) (m : MethodId) (args : Array Value) (below : List Frame) (meth : Method) (c : Code) (h0 : Hp) (out : (Int32 × Hp)) (r0 : Nat) (x1 : Int32) (k : Hp → Int32 → Int32 → Option (Int32 × Hp)) : Prop := ∀ (H : Heap) (locs : List Loc) (ls : Array Slot) (h : Hp) (x2 : Int32) (x3 : Int32), k h x2 x3 = some out → Ext h0 h → Rel G h H → va_S (AA G.2.2) s.heap H locs → hpT h r0 = (1, 9) → lv_has ls 4 [(0, .ref (G.2.2 + r0)), (1, .int x1), (2, .int x2), (3, .int x3)] → W p l e rm_X9_fence s m args below meth c H locs 0 0 (MQ below (Qm G h0 out.2 (some (.int out.1)) 0) args s 0 0 (AA G.2.2)) (F0 m 33 ls [])
def P_X9_fence_26 (G : Gt) (l : Launch) (p : Program) (e : Env) (s : State) (m : MethodId) (args : Array Value) (below : List Frame) (meth : Method) (c : Code) (h0 : Hp) (out : (Int32 × Hp)) (r0 : Nat) (x1 : Int32) (k : Hp → Int32 → Option (Int32 × Hp)) : Prop := ∀ (H : Heap) (locs : List Loc) (ls : Array Slot) (h : Hp) (x2 : Int32), k h x2 = some out → Ext h0 h → Rel G h H → va_S (AA G.2.2) s.heap H locs → hpT h r0 = (1, 9) → lv_has ls 4 [(0, .ref (G.2.2 + r0)), (1, .int x1), (2, .int x2)] → W p l e rm_X9_fence s m args below meth c H locs 0 0 (MQ below (Qm G h0 out.2 (some (.int out.1)) 0) args s 0 0 (AA G.2.2)) (F0 m 26 ls [])
set_option maxRecDepth 100000 in
set_option maxHeartbeats 4000000 in
theorem w_X9_fence_91 {G : Gt} {l : Launch} {p : Program} {e : Env} {s : State} {m : MethodId} {args : Array Value} {below : List Frame} {meth : Method} {c : Code}  {h0 : Hp} {out : (Int32 × Hp)} {r0 : Nat} {x1 : Int32} {k26 : Hp → Int32 → Option (Int32 × Hp)} (C : Cx G p m c cX9_fence 4 s args RX9) (hr : meth.sig.returnType = some .int) (hlk : meth.locks = false)  (hk26 : P_X9_fence_26 G l p e s m args below meth c h0 out r0 x1 k26) : P_X9_fence_91 G l p e s m args below meth c h0 out r0 x1 (f_X9_fence_91 r0 x1 k26) := by
  intro H locs ls h x2 hf hE hR hS t_r0 hl
  rw [f_X9_fence_91] at hf
  obtain ⟨v23, e_v23⟩ : ∃ y : Int32, y = x2 + (1 : Int32) := ⟨_, rfl⟩
  have hf := lt_e hf e_v23
  refine lv_iinc (v := v23) (lv' := [(2, .int v23), (0, .ref (G.2.2 + r0)), (1, .int x1)]) C.x C.b dX9_fence_91 hl (k := 2) rfl (by rw [e_v23]; rfl) (by decide) rfl (fun ls hl => ?_)
  refine lv_goto (tgt := 26) C.x C.b dX9_fence_94 (by decide) ?_
  exact hk26 _ _ _ _ _ hf hE hR hS t_r0 (lv_sub hl [1, 2, 0] rfl)
set_option maxRecDepth 100000 in
set_option maxHeartbeats 4000000 in
theorem w_X9_fence_33 {G : Gt} {l : Launch} {p : Program} {e : Env} {s : State} {m : MethodId} {args : Array Value} {below : List Frame} {meth : Method} {c : Code}  {h0 : Hp} {out : (Int32 × Hp)} {r0 : Nat} {x1 : Int32} {k26 : Hp → Int32 → Option (Int32 × Hp)} (C : Cx G p m c cX9_fence 4 s args RX9) (hr : meth.sig.returnType = some .int) (hlk : meth.locks = false)  (hk26 : P_X9_fence_26 G l p e s m args below meth c h0 out r0 x1 k26) (n : Nat) : P_X9_fence_33 G l p e s m args below meth c h0 out r0 x1 (f_X9_fence_33 r0 x1 k26 n) := by
  induction n with
  | zero => intro H locs ls h x2 x3 hf hE hR hS t_r0 hl; cases hf
  | succ n hk33 =>
    intro H locs ls h x2 x3 hf hE hR hS t_r0 hl
    rw [f_X9_fence_33] at hf
    obtain ⟨k33, e_k33⟩ : ∃ y, y = f_X9_fence_33 r0 x1 k26 n := ⟨_, rfl⟩
    have hf := lt_e hf e_k33
    rw [← e_k33] at hk33
    refine lv_iload_n C.x C.b dX9_fence_33 rfl (lv_at hl 3 rfl) ?_
    refine lv_iconst (v := (3 : Int32)) C.x C.b dX9_fence_34 (by decide) ?_
    refine lv_icmp_gt (tgt := 91) C.x C.b dX9_fence_35 (by decide) (fun c8 => ?_) (fun c8 => ?_)
    · have hf := it_t hf c8
      exact w_X9_fence_91 C hr hlk hk26 _ _ _ _ _ hf hE hR hS t_r0 (lv_sub hl [0, 1, 2] rfl)
    · have hf := it_f hf c8
      refine lv_iload_n C.x C.b dX9_fence_38 rfl (lv_at hl 2 rfl) ?_
      refine lv_iload_n C.x C.b dX9_fence_39 rfl (lv_at hl 3 rfl) ?_
      refine lv_iadd C.x C.b dX9_fence_40 ?_
      refine lv_iload_n C.x C.b dX9_fence_41 rfl (lv_at hl 1 rfl) ?_
      refine lv_icmp_gt (tgt := 91) C.x C.b dX9_fence_42 (by decide) (fun c9 => ?_) (fun c9 => ?_)
      · have hf := it_t hf c9
        exact w_X9_fence_91 C hr hlk hk26 _ _ _ _ _ hf hE hR hS t_r0 (lv_sub hl [0, 1, 2] rfl)
      · have hf := it_f hf c9
        refine lv_aload_n C.x C.b dX9_fence_45 rfl (lv_at hl 0 rfl) ?_
        obtain ⟨g10, hf⟩ := gd_e hf
        refine r_getr C hR t_r0 fl_X9_87 (by decide) (nz_e g10) dX9_fence_46 (fun tq11 => ?_)
        have tg10 := okA tq11 rfl
        refine lv_iload_n C.x C.b dX9_fence_49 rfl (lv_at hl 2 rfl) ?_
        obtain ⟨g12, hf⟩ := gd_e hf
        refine r_iald C hR tg10 g12 dX9_fence_50 ?_
        refine lv_aload_n C.x C.b dX9_fence_51 rfl (lv_at hl 0 rfl) ?_
        refine r_getr C hR t_r0 fl_X9_87 (by decide) (nz_e g10) dX9_fence_52 (fun tq13 => ?_)
        refine lv_iload_n C.x C.b dX9_fence_55 rfl (lv_at hl 1 rfl) ?_
        refine lv_iload_n C.x C.b dX9_fence_56 rfl (lv_at hl 2 rfl) ?_
        refine lv_isub C.x C.b dX9_fence_57 ?_
        refine lv_iload_n C.x C.b dX9_fence_58 rfl (lv_at hl 3 rfl) ?_
        refine lv_isub C.x C.b dX9_fence_59 ?_
        obtain ⟨g14, hf⟩ := gd_e hf
        refine r_iald C hR tg10 g14 dX9_fence_60 ?_
        refine lv_ixor C.x C.b dX9_fence_61 ?_
        refine lv_if_ne (tgt := 85) C.x C.b dX9_fence_62 (by decide) (fun c15 => ?_) (fun c15 => ?_)
        · have hf := it_f hf c15
          obtain ⟨v16, e_v16⟩ : ∃ y : Int32, y = x3 + (1 : Int32) := ⟨_, rfl⟩
          have hf := lt_e hf e_v16
          refine lv_iinc (v := v16) (lv' := [(3, .int v16), (0, .ref (G.2.2 + r0)), (1, .int x1), (2, .int x2)]) C.x C.b dX9_fence_85 hl (k := 3) rfl (by rw [e_v16]; rfl) (by decide) rfl (fun ls hl => ?_)
          refine lv_goto (tgt := 33) C.x C.b dX9_fence_88 (by decide) ?_
          exact hk33 _ _ _ _ _ _ hf hE hR hS t_r0 (lv_sub hl [1, 2, 3, 0] rfl)
        · have hf := it_t hf c15
          refine lv_aload_n C.x C.b dX9_fence_65 rfl (lv_at hl 0 rfl) ?_
          obtain ⟨g17, hf⟩ := gd_e hf
          refine r_getr C hR t_r0 fl_X9_19 (by decide) (nz_e g17) dX9_fence_66 (fun tq18 => ?_)
          have tg17 := okO tq18 rfl
          refine lv_iload_n C.x C.b dX9_fence_69 rfl (lv_at hl 2 rfl) ?_
          refine lv_i2l C.x C.b dX9_fence_70 rfl ?_
          obtain ⟨q19, h_q19, hf⟩ := bd_e hf
          refine r_callV (As := [.long (x2.toInt64)]) (rest := []) C hR hS tg17 rfl mk_X7_add cl_X9_223 (k_X7_add tg17 h_q19) ⟨⟨Nat.le_of_ble_eq_true rfl, Nat.le_of_ble_eq_true rfl⟩, ⟨rfl, rfl⟩, Nat.le_of_ble_eq_true rfl, Nat.le_of_ble_eq_true rfl⟩ rfl hl.1 rfl (Nat.le_of_ble_eq_true rfl) dX9_fence_71 (fun H locs hR hS hE1 z_q19 => ?_)
          have hE := hE.tr hE1
          have t_r0 := hE1.at t_r0 (by decide)
          refine lv_aload_n C.x C.b dX9_fence_74 rfl (lv_at hl 0 rfl) ?_
          obtain ⟨g20, hf⟩ := gd_e hf
          refine r_getr C hR t_r0 fl_X9_19 (by decide) (nz_e g20) dX9_fence_75 (fun tq21 => ?_)
          have tg20 := okO tq21 rfl
          refine lv_iload_n C.x C.b dX9_fence_78 rfl (lv_at hl 3 rfl) ?_
          refine lv_i2l C.x C.b dX9_fence_79 rfl ?_
          obtain ⟨q22, h_q22, hf⟩ := bd_e hf
          refine r_callV (As := [.long (x3.toInt64)]) (rest := []) C hR hS tg20 rfl mk_X7_add cl_X9_223 (k_X7_add tg20 h_q22) ⟨⟨Nat.le_of_ble_eq_true rfl, Nat.le_of_ble_eq_true rfl⟩, ⟨rfl, rfl⟩, Nat.le_of_ble_eq_true rfl, Nat.le_of_ble_eq_true rfl⟩ rfl hl.1 rfl (Nat.le_of_ble_eq_true rfl) dX9_fence_80 (fun H locs hR hS hE1 z_q22 => ?_)
          have hE := hE.tr hE1
          have t_r0 := hE1.at t_r0 (by decide)
          refine lv_iconst (v := (1 : Int32)) C.x C.b dX9_fence_83 (by decide) ?_
          have hf := so_e hf
          subst hf
          exact r_iret C hr hlk hR hE hS dX9_fence_84
set_option maxRecDepth 100000 in
set_option maxHeartbeats 4000000 in
theorem w_X9_fence_26 {G : Gt} {l : Launch} {p : Program} {e : Env} {s : State} {m : MethodId} {args : Array Value} {below : List Frame} {meth : Method} {c : Code}  {h0 : Hp} {out : (Int32 × Hp)} {r0 : Nat} {x1 : Int32}  (C : Cx G p m c cX9_fence 4 s args RX9) (hr : meth.sig.returnType = some .int) (hlk : meth.locks = false)   (n : Nat) : P_X9_fence_26 G l p e s m args below meth c h0 out r0 x1 (f_X9_fence_26 r0 x1 n) := by
  induction n with
  | zero => intro H locs ls h x2 hf hE hR hS t_r0 hl; cases hf
  | succ n hk26 =>
    intro H locs ls h x2 hf hE hR hS t_r0 hl
    rw [f_X9_fence_26] at hf
    obtain ⟨k26, e_k26⟩ : ∃ y, y = f_X9_fence_26 r0 x1 n := ⟨_, rfl⟩
    have hf := lt_e hf e_k26
    rw [← e_k26] at hk26
    refine lv_iload_n C.x C.b dX9_fence_26 rfl (lv_at hl 2 rfl) ?_
    refine lv_iload_n C.x C.b dX9_fence_27 rfl (lv_at hl 1 rfl) ?_
    refine lv_icmp_ge (tgt := 97) C.x C.b dX9_fence_28 (by decide) (fun c7 => ?_) (fun c7 => ?_)
    · have hf := it_t hf c7
      refine lv_iconst (v := (0 : Int32)) C.x C.b dX9_fence_97 (by decide) ?_
      have hf := so_e hf
      subst hf
      exact r_iret C hr hlk hR hE hS dX9_fence_98
    · have hf := it_f hf c7
      refine lv_iconst (v := (1 : Int32)) C.x C.b dX9_fence_31 (by decide) ?_
      refine lv_istore_n (lv' := [(3, .int (1 : Int32)), (0, .ref (G.2.2 + r0)), (1, .int x1), (2, .int x2)]) C.x C.b dX9_fence_32 rfl hl (by decide) rfl (fun ls hl => ?_)
      exact w_X9_fence_33 C hr hlk hk26 FU _ _ _ _ _ _ hf hE hR hS t_r0 (lv_sub hl [1, 2, 3, 0] rfl)
set_option maxRecDepth 100000 in
set_option maxHeartbeats 4000000 in
theorem k_X9_fence {G : Gt} {l : Launch}  {h : Hp} {r0 : Nat} {x1 : Int32} {out : (Int32 × Hp)} (t_r0 : hpT h r0 = (1, 9))  (hf : f_X9_fence  h r0 x1 = some out) : Mt G l yX9_fence cX9_fence 4 (some .int) rm_X9_fence [.ref (G.2.2 + r0), .int x1] h (some (.int out.1)) out.2 0 0 0 := by
  refine r_met (by decide +kernel) (Nat.le_of_ble_eq_true rfl) ?_
  intro p e s m args below meth c ls C hr hlk hnm hR hS hl
  have hE : Ext h h := Ext.rf
  have hl : lv_has ls 4 [(0, .ref (G.2.2 + r0)), (1, .int x1)] := hl
  rw [f_X9_fence] at hf
  refine lv_iload_n C.x C.b dX9_fence_0 rfl (lv_at hl 1 rfl) ?_
  refine lv_if_lt (tgt := 10) C.x C.b dX9_fence_1 (by decide) (fun c1 => ?_) (fun c1 => ?_)
  · have hf := it_t hf c1
    refine lv_iconst (v := (-1 : Int32)) C.x C.b dX9_fence_10 (by decide) ?_
    have hf := so_e hf
    subst hf
    exact r_iret C hr hlk hR hE hS dX9_fence_11
  · have hf := it_f hf c1
    refine lv_iload_n C.x C.b dX9_fence_4 rfl (lv_at hl 1 rfl) ?_
    refine lv_bipush (v := (40 : Int32)) C.x C.b dX9_fence_5 (by decide) ?_
    refine lv_icmp_le (tgt := 12) C.x C.b dX9_fence_7 (by decide) (fun c2 => ?_) (fun c2 => ?_)
    · have hf := it_t hf c2
      refine lv_aload_n C.x C.b dX9_fence_12 rfl (lv_at hl 0 rfl) ?_
      refine lv_iload_n C.x C.b dX9_fence_13 rfl (lv_at hl 1 rfl) ?_
      obtain ⟨q3, h_q3, hf⟩ := bd_e hf
      refine r_callV (As := [.int x1]) (rest := []) C hR hS t_r0 rfl mk_X9_countNimbers cl_X9_406 (k_X9_countNimbers t_r0 h_q3) ⟨⟨Nat.le_of_ble_eq_true rfl, Nat.le_of_ble_eq_true rfl⟩, ⟨rfl, rfl⟩, Nat.le_of_ble_eq_true rfl, Nat.le_of_ble_eq_true rfl⟩ rfl hl.1 rfl (Nat.le_of_ble_eq_true rfl) dX9_fence_14 (fun H locs hR hS hE1 z_q3 => ?_)
      have hE := hE.tr hE1
      have t_r0 := hE1.at t_r0 (by decide)
      refine lv_aload_n C.x C.b dX9_fence_17 rfl (lv_at hl 0 rfl) ?_
      obtain ⟨g4, hf⟩ := gd_e hf
      refine r_getr C hR t_r0 fl_X9_19 (by decide) (nz_e g4) dX9_fence_18 (fun tq5 => ?_)
      have tg4 := okO tq5 rfl
      obtain ⟨q6, h_q6, hf⟩ := bd_e hf
      refine r_callV (As := []) (rest := []) C hR hS tg4 rfl mk_X7_start cl_X9_220 (k_X7_start tg4 h_q6) ⟨⟨Nat.le_of_ble_eq_true rfl, Nat.le_of_ble_eq_true rfl⟩, ⟨rfl, rfl⟩, Nat.le_of_ble_eq_true rfl, Nat.le_of_ble_eq_true rfl⟩ rfl hl.1 rfl (Nat.le_of_ble_eq_true rfl) dX9_fence_21 (fun H locs hR hS hE1 z_q6 => ?_)
      have hE := hE.tr hE1
      have t_r0 := hE1.at t_r0 (by decide)
      refine lv_iconst (v := (0 : Int32)) C.x C.b dX9_fence_24 (by decide) ?_
      refine lv_istore_n (lv' := [(2, .int (0 : Int32)), (0, .ref (G.2.2 + r0)), (1, .int x1)]) C.x C.b dX9_fence_25 rfl hl (by decide) rfl (fun ls hl => ?_)
      exact w_X9_fence_26 C hr hlk FU _ _ _ _ _ hf hE hR hS t_r0 (lv_sub hl [1, 2, 0] rfl)
    · have hf := it_f hf c2
      refine lv_iconst (v := (-1 : Int32)) C.x C.b dX9_fence_10 (by decide) ?_
      have hf := so_e hf
      subst hf
      exact r_iret C hr hlk hR hE hS dX9_fence_11

def rm_X9_onInNineYears : Room := { frames := 6, cells := 0, slots := 0, locals := 130 }
set_option maxRecDepth 100000 in
set_option maxHeartbeats 4000000 in
theorem k_X9_onInNineYears {G : Gt} {l : Launch}  {h : Hp} {r0 : Nat} {r1 : Nat} {out : (Int32 × Hp)} (t_r0 : hpT h r0 = (1, 9)) (t_r1 : hpT h r1 = (1, 4))  (hf : f_X9_onInNineYears  h r0 r1 = some out) : Mt G l yX9_onInNineYears cX9_onInNineYears 2 (some .int) rm_X9_onInNineYears [.ref (G.2.2 + r0), .ref (G.2.2 + r1)] h (some (.int out.1)) out.2 0 0 0 := by
  refine r_met (by decide +kernel) (Nat.le_of_ble_eq_true rfl) ?_
  intro p e s m args below meth c ls C hr hlk hnm hR hS hl
  have hE : Ext h h := Ext.rf
  have hl : lv_has ls 2 [(0, .ref (G.2.2 + r0)), (1, .ref (G.2.2 + r1))] := hl
  rw [f_X9_onInNineYears] at hf
  refine lv_aload_n C.x C.b dX9_onInNineYears_0 rfl (lv_at hl 0 rfl) ?_
  obtain ⟨g1, hf⟩ := gd_e hf
  refine r_getr C hR t_r0 fl_X9_33 (by decide) (nz_e g1) dX9_onInNineYears_1 (fun tq2 => ?_)
  have tg1 := okO tq2 rfl
  refine lv_aload_n C.x C.b dX9_onInNineYears_4 rfl (lv_at hl 0 rfl) ?_
  obtain ⟨g3, hf⟩ := gd_e hf
  refine r_getr C hR t_r0 fl_X9_26 (by decide) (nz_e g3) dX9_onInNineYears_5 (fun tq4 => ?_)
  have tg3 := okO tq4 rfl
  obtain ⟨q5, h_q5, hf⟩ := bd_e hf
  refine r_callV (As := [.ref (G.2.2 + (hpR h r0 2))]) (rest := []) C hR hS tg1 rfl mk_X0_copy cl_X9_134 (k_X0_copy tg1 tg3 h_q5) ⟨⟨Nat.le_of_ble_eq_true rfl, Nat.le_of_ble_eq_true rfl⟩, ⟨rfl, rfl⟩, Nat.le_of_ble_eq_true rfl, Nat.le_of_ble_eq_true rfl⟩ rfl hl.1 rfl (Nat.le_of_ble_eq_true rfl) dX9_onInNineYears_8 (fun H locs hR hS hE1 z_q5 => ?_)
  have hE := hE.tr hE1
  have t_r0 := hE1.at t_r0 (by decide)
  have t_r1 := hE1.at t_r1 (by decide)
  refine lv_aload_n C.x C.b dX9_onInNineYears_11 rfl (lv_at hl 0 rfl) ?_
  obtain ⟨g6, hf⟩ := gd_e hf
  refine r_getr C hR t_r0 fl_X9_33 (by decide) (nz_e g6) dX9_onInNineYears_12 (fun tq7 => ?_)
  have tg6 := okO tq7 rfl
  refine lv_aload_n C.x C.b dX9_onInNineYears_15 rfl (lv_at hl 1 rfl) ?_
  refine lv_bipush (v := (9 : Int32)) C.x C.b dX9_onInNineYears_16 (by decide) ?_
  obtain ⟨q8, h_q8, hf⟩ := bd_e hf
  refine r_callV (As := [.ref (G.2.2 + r1), .int (9 : Int32)]) (rest := []) C hR hS tg6 rfl mk_X0_goByTimes cl_X9_213 (k_X0_goByTimes tg6 t_r1 h_q8) ⟨⟨Nat.le_of_ble_eq_true rfl, Nat.le_of_ble_eq_true rfl⟩, ⟨rfl, rfl⟩, Nat.le_of_ble_eq_true rfl, Nat.le_of_ble_eq_true rfl⟩ rfl hl.1 rfl (Nat.le_of_ble_eq_true rfl) dX9_onInNineYears_18 (fun H locs hR hS hE1 z_q8 => ?_)
  have hE := hE.tr hE1
  have t_r0 := hE1.at t_r0 (by decide)
  have t_r1 := hE1.at t_r1 (by decide)
  refine lv_pop C.x C.b dX9_onInNineYears_21 rfl ?_
  refine lv_aload_n C.x C.b dX9_onInNineYears_22 rfl (lv_at hl 0 rfl) ?_
  obtain ⟨g9, hf⟩ := gd_e hf
  refine r_getr C hR t_r0 fl_X9_33 (by decide) (nz_e g9) dX9_onInNineYears_23 (fun tq10 => ?_)
  have tg9 := okO tq10 rfl
  obtain ⟨q11, h_q11, hf⟩ := bd_e hf
  refine r_callV (As := []) (rest := []) C hR hS tg9 rfl mk_X0_onCount cl_X9_226 (k_X0_onCount tg9 h_q11) ⟨⟨Nat.le_of_ble_eq_true rfl, Nat.le_of_ble_eq_true rfl⟩, ⟨rfl, rfl⟩, Nat.le_of_ble_eq_true rfl, Nat.le_of_ble_eq_true rfl⟩ rfl hl.1 rfl (Nat.le_of_ble_eq_true rfl) dX9_onInNineYears_26 (fun H locs hR hS hE1 z_q11 => ?_)
  have hf := so_e hf
  subst hf
  exact r_iret C hr hlk hR hE hS dX9_onInNineYears_29

def rm_X9_law : Room := { frames := 36, cells := 0, slots := 0, locals := 799 }
def P_X9_law_94 (G : Gt) (l : Launch) (p : Program) (e : Env) (s : State) (m : MethodId) (args : Array Value) (below : List Frame) (meth : Method) (c : Code) (h0 : Hp) (out : (Int32 × Hp)) (r0 : Nat) (k : Hp → Int32 → Int32 → Nat → Int32 → Option (Int32 × Hp)) : Prop := ∀ (H : Heap) (locs : List Loc) (ls : Array Slot) (h : Hp) (x2 : Int32) (x3 : Int32) (r4 : Nat) (x5 : Int32), k h x2 x3 r4 x5 = some out → Ext h0 h → Rel G h H → va_S (AA G.2.2) s.heap H locs → hpT h r0 = (1, 9) → (hpT h r4).1 = 2 → lv_has ls 6 [(0, .ref (G.2.2 + r0)), (2, .int x2), (3, .int x3), (4, .ref (G.2.2 + r4)), (5, .int x5)] → W p l e rm_X9_law s m args below meth c H locs 0 0 (MQ below (Qm G h0 out.2 (some (.int out.1)) 0) args s 0 0 (AA G.2.2)) (F0 m 94 ls [])
set_option maxRecDepth 100000 in
set_option maxHeartbeats 4000000 in
theorem w_X9_law_94 {G : Gt} {l : Launch} {p : Program} {e : Env} {s : State} {m : MethodId} {args : Array Value} {below : List Frame} {meth : Method} {c : Code}  {h0 : Hp} {out : (Int32 × Hp)} {r0 : Nat}  (C : Cx G p m c cX9_law 6 s args RX9) (hr : meth.sig.returnType = some .int) (hlk : meth.locks = false)   (n : Nat) : P_X9_law_94 G l p e s m args below meth c h0 out r0 (f_X9_law_94 r0 n) := by
  induction n with
  | zero => intro H locs ls h x2 x3 r4 x5 hf hE hR hS t_r0 t_r4 hl; cases hf
  | succ n hk94 =>
    intro H locs ls h x2 x3 r4 x5 hf hE hR hS t_r0 t_r4 hl
    rw [f_X9_law_94] at hf
    obtain ⟨k94, e_k94⟩ : ∃ y, y = f_X9_law_94 r0 n := ⟨_, rfl⟩
    have hf := lt_e hf e_k94
    rw [← e_k94] at hk94
    refine lv_iload C.x C.b dX9_law_94 (lv_at hl 4 rfl) ?_
    refine lv_aload_n C.x C.b dX9_law_96 rfl (lv_at hl 0 rfl) ?_
    obtain ⟨g32, hf⟩ := gd_e hf
    refine r_getr C hR t_r0 fl_X9_26 (by decide) (nz_e g32) dX9_law_97 (fun tq33 => ?_)
    have tg32 := okO tq33 rfl
    refine r_geti C hR tg32 fl_X9_146 rfl dX9_law_100 ?_
    refine lv_icmp_ge (tgt := 125) C.x C.b dX9_law_103 (by decide) (fun c34 => ?_) (fun c34 => ?_)
    · have hf := it_t hf c34
      refine lv_iload_n C.x C.b dX9_law_125 rfl (lv_at hl 1 rfl) ?_
      refine lv_iload_n C.x C.b dX9_law_126 rfl (lv_at hl 2 rfl) ?_
      refine lv_isub C.x C.b dX9_law_127 ?_
      have hf := so_e hf
      subst hf
      exact r_iret C hr hlk hR hE hS dX9_law_128
    · have hf := it_f hf c34
      refine lv_aload_n C.x C.b dX9_law_106 rfl (lv_at hl 0 rfl) ?_
      obtain ⟨g35, hf⟩ := gd_e hf
      refine r_getr C hR t_r0 fl_X9_19 (by decide) (nz_e g35) dX9_law_107 (fun tq36 => ?_)
      have tg35 := okO tq36 rfl
      refine lv_aload C.x C.b dX9_law_110 (lv_at hl 3 rfl) ?_
      refine lv_iload C.x C.b dX9_law_112 (lv_at hl 4 rfl) ?_
      obtain ⟨g37, hf⟩ := gd_e hf
      refine r_iald C hR t_r4 g37 dX9_law_114 ?_
      refine lv_i2l C.x C.b dX9_law_115 rfl ?_
      obtain ⟨q38, h_q38, hf⟩ := bd_e hf
      refine r_callV (As := [.long ((hpI h r4 (ix x5)).toInt64)]) (rest := []) C hR hS tg35 rfl mk_X7_add cl_X9_223 (k_X7_add tg35 h_q38) ⟨⟨Nat.le_of_ble_eq_true rfl, Nat.le_of_ble_eq_true rfl⟩, ⟨rfl, rfl⟩, Nat.le_of_ble_eq_true rfl, Nat.le_of_ble_eq_true rfl⟩ rfl hl.1 rfl (Nat.le_of_ble_eq_true rfl) dX9_law_116 (fun H locs hR hS hE1 z_q38 => ?_)
      have hE := hE.tr hE1
      have t_r0 := hE1.at t_r0 (by decide)
      have t_r4 := hE1.k t_r4 (by decide)
      obtain ⟨v39, e_v39⟩ : ∃ y : Int32, y = x5 + (1 : Int32) := ⟨_, rfl⟩
      have hf := lt_e hf e_v39
      refine lv_iinc (v := v39) (lv' := [(5, .int v39), (0, .ref (G.2.2 + r0)), (2, .int x2), (3, .int x3), (4, .ref (G.2.2 + r4))]) C.x C.b dX9_law_119 hl (k := 4) rfl (by rw [e_v39]; rfl) (by decide) rfl (fun ls hl => ?_)
      refine lv_goto (tgt := 94) C.x C.b dX9_law_122 (by decide) ?_
      exact hk94 _ _ _ _ _ _ _ _ hf hE hR hS t_r0 t_r4 (lv_sub hl [1, 2, 3, 4, 0] rfl)
set_option maxRecDepth 100000 in
set_option maxHeartbeats 4000000 in
theorem k_X9_law {G : Gt} {l : Launch}  {h : Hp} {r0 : Nat} {out : (Int32 × Hp)} (t_r0 : hpT h r0 = (1, 9))  (hf : f_X9_law  h r0 = some out) : Mt G l yX9_law cX9_law 6 (some .int) rm_X9_law [.ref (G.2.2 + r0)] h (some (.int out.1)) out.2 0 0 0 := by
  refine r_met (by decide +kernel) (Nat.le_of_ble_eq_true rfl) ?_
  intro p e s m args below meth c ls C hr hlk hnm hR hS hl
  have hE : Ext h h := Ext.rf
  have hl : lv_has ls 6 [(0, .ref (G.2.2 + r0))] := hl
  rw [f_X9_law] at hf
  refine lv_aload_n C.x C.b dX9_law_0 rfl (lv_at hl 0 rfl) ?_
  obtain ⟨g1, hf⟩ := gd_e hf
  refine r_getr C hR t_r0 fl_X9_60 (by decide) (nz_e g1) dX9_law_1 (fun tq2 => ?_)
  have tg1 := okO tq2 rfl
  refine lv_aload_n C.x C.b dX9_law_4 rfl (lv_at hl 0 rfl) ?_
  obtain ⟨g3, hf⟩ := gd_e hf
  refine r_getr C hR t_r0 fl_X9_10 (by decide) (nz_e g3) dX9_law_5 (fun tq4 => ?_)
  have tg3 := okO tq4 rfl
  refine lv_aload_n C.x C.b dX9_law_8 rfl (lv_at hl 0 rfl) ?_
  obtain ⟨g5, hf⟩ := gd_e hf
  refine r_getr C hR t_r0 fl_X9_54 (by decide) (nz_e g5) dX9_law_9 (fun tq6 => ?_)
  have tg5 := okO tq6 rfl
  obtain ⟨q7, h_q7, hf⟩ := bd_e hf
  refine r_callV (As := [.ref (G.2.2 + (hpR h r0 0)), .ref (G.2.2 + (hpR h r0 9))]) (rest := []) C hR hS tg1 rfl mk_X5_read cl_X9_147 (k_X5_read tg1 tg3 tg5 h_q7) ⟨⟨Nat.le_of_ble_eq_true rfl, Nat.le_of_ble_eq_true rfl⟩, ⟨rfl, rfl⟩, Nat.le_of_ble_eq_true rfl, Nat.le_of_ble_eq_true rfl⟩ rfl hl.1 rfl (Nat.le_of_ble_eq_true rfl) dX9_law_12 (fun H locs hR hS hE1 z_q7 => ?_)
  have hE := hE.tr hE1
  have t_r0 := hE1.at t_r0 (by decide)
  refine lv_istore_n (lv' := [(1, .int q7.1), (0, .ref (G.2.2 + r0))]) C.x C.b dX9_law_15 rfl hl (by decide) rfl (fun ls hl => ?_)
  refine lv_aload_n C.x C.b dX9_law_16 rfl (lv_at hl 1 rfl) ?_
  obtain ⟨g8, hf⟩ := gd_e hf
  refine r_getr C hR t_r0 fl_X9_10 (by decide) (nz_e g8) dX9_law_17 (fun tq9 => ?_)
  have tg8 := okO tq9 rfl
  refine lv_iconst (v := (0 : Int32)) C.x C.b dX9_law_20 (by decide) ?_
  refine r_puti C hR hS tg8 fl_X9_93 fp_X9_6_1 rfl dX9_law_21 (fun H locs hR hS => ?_)
  obtain ⟨h10, e_h10⟩ : ∃ y, y = upI q7.2 (hpR q7.2 r0 0) 1 (0 : Int32) := ⟨_, rfl⟩
  rw [← e_h10] at hR
  have hf := lt_e hf e_h10
  have hE := eI e_h10 hE
  have t_r0 := tI e_h10 t_r0
  refine lv_iload_n C.x C.b dX9_law_24 rfl (lv_at hl 0 rfl) ?_
  refine lv_iconst (v := (-1 : Int32)) C.x C.b dX9_law_25 (by decide) ?_
  refine lv_icmp_eq (tgt := 35) C.x C.b dX9_law_26 (by decide) (fun c11 => ?_) (fun c11 => ?_)
  · have hf := it_t hf c11
    refine lv_aload_n C.x C.b dX9_law_35 rfl (lv_at hl 1 rfl) ?_
    refine lv_aload_n C.x C.b dX9_law_36 rfl (lv_at hl 1 rfl) ?_
    obtain ⟨g12, hf⟩ := gd_e hf
    refine r_getr C hR t_r0 fl_X9_54 (by decide) (nz_e g12) dX9_law_37 (fun tq13 => ?_)
    have tg12 := okO tq13 rfl
    obtain ⟨q14, h_q14, hf⟩ := bd_e hf
    refine r_callV (As := [.ref (G.2.2 + (hpR h10 r0 9))]) (rest := []) C hR hS t_r0 rfl mk_X9_onInNineYears cl_X9_412 (k_X9_onInNineYears t_r0 tg12 h_q14) ⟨⟨Nat.le_of_ble_eq_true rfl, Nat.le_of_ble_eq_true rfl⟩, ⟨rfl, rfl⟩, Nat.le_of_ble_eq_true rfl, Nat.le_of_ble_eq_true rfl⟩ rfl hl.1 rfl (Nat.le_of_ble_eq_true rfl) dX9_law_40 (fun H locs hR hS hE1 z_q14 => ?_)
    have hE := hE.tr hE1
    have t_r0 := hE1.at t_r0 (by decide)
    refine lv_istore_n (lv' := [(2, .int q14.1), (1, .int q7.1), (0, .ref (G.2.2 + r0))]) C.x C.b dX9_law_43 rfl hl (by decide) rfl (fun ls hl => ?_)
    refine lv_aload_n C.x C.b dX9_law_44 rfl (lv_at hl 2 rfl) ?_
    refine lv_aload_n C.x C.b dX9_law_45 rfl (lv_at hl 2 rfl) ?_
    obtain ⟨g15, hf⟩ := gd_e hf
    refine r_getr C hR t_r0 fl_X9_50 (by decide) (nz_e g15) dX9_law_46 (fun tq16 => ?_)
    have tg15 := okO tq16 rfl
    obtain ⟨q17, h_q17, hf⟩ := bd_e hf
    refine r_callV (As := [.ref (G.2.2 + (hpR q14.2 r0 8))]) (rest := []) C hR hS t_r0 rfl mk_X9_onInNineYears cl_X9_412 (k_X9_onInNineYears t_r0 tg15 h_q17) ⟨⟨Nat.le_of_ble_eq_true rfl, Nat.le_of_ble_eq_true rfl⟩, ⟨rfl, rfl⟩, Nat.le_of_ble_eq_true rfl, Nat.le_of_ble_eq_true rfl⟩ rfl hl.1 rfl (Nat.le_of_ble_eq_true rfl) dX9_law_49 (fun H locs hR hS hE1 z_q17 => ?_)
    have hE := hE.tr hE1
    have t_r0 := hE1.at t_r0 (by decide)
    refine lv_istore_n (lv' := [(3, .int q17.1), (2, .int q14.1), (1, .int q7.1), (0, .ref (G.2.2 + r0))]) C.x C.b dX9_law_52 rfl hl (by decide) rfl (fun ls hl => ?_)
    refine lv_aload_n C.x C.b dX9_law_53 rfl (lv_at hl 3 rfl) ?_
    obtain ⟨g18, hf⟩ := gd_e hf
    refine r_getr C hR t_r0 fl_X9_19 (by decide) (nz_e g18) dX9_law_54 (fun tq19 => ?_)
    have tg18 := okO tq19 rfl
    obtain ⟨q20, h_q20, hf⟩ := bd_e hf
    refine r_callV (As := []) (rest := []) C hR hS tg18 rfl mk_X7_start cl_X9_220 (k_X7_start tg18 h_q20) ⟨⟨Nat.le_of_ble_eq_true rfl, Nat.le_of_ble_eq_true rfl⟩, ⟨rfl, rfl⟩, Nat.le_of_ble_eq_true rfl, Nat.le_of_ble_eq_true rfl⟩ rfl hl.1 rfl (Nat.le_of_ble_eq_true rfl) dX9_law_57 (fun H locs hR hS hE1 z_q20 => ?_)
    have hE := hE.tr hE1
    have t_r0 := hE1.at t_r0 (by decide)
    refine lv_aload_n C.x C.b dX9_law_60 rfl (lv_at hl 3 rfl) ?_
    obtain ⟨g21, hf⟩ := gd_e hf
    refine r_getr C hR t_r0 fl_X9_19 (by decide) (nz_e g21) dX9_law_61 (fun tq22 => ?_)
    have tg21 := okO tq22 rfl
    refine lv_iload_n C.x C.b dX9_law_64 rfl (lv_at hl 1 rfl) ?_
    refine lv_i2l C.x C.b dX9_law_65 rfl ?_
    obtain ⟨q23, h_q23, hf⟩ := bd_e hf
    refine r_callV (As := [.long (q14.1.toInt64)]) (rest := []) C hR hS tg21 rfl mk_X7_add cl_X9_223 (k_X7_add tg21 h_q23) ⟨⟨Nat.le_of_ble_eq_true rfl, Nat.le_of_ble_eq_true rfl⟩, ⟨rfl, rfl⟩, Nat.le_of_ble_eq_true rfl, Nat.le_of_ble_eq_true rfl⟩ rfl hl.1 rfl (Nat.le_of_ble_eq_true rfl) dX9_law_66 (fun H locs hR hS hE1 z_q23 => ?_)
    have hE := hE.tr hE1
    have t_r0 := hE1.at t_r0 (by decide)
    refine lv_aload_n C.x C.b dX9_law_69 rfl (lv_at hl 3 rfl) ?_
    obtain ⟨g24, hf⟩ := gd_e hf
    refine r_getr C hR t_r0 fl_X9_19 (by decide) (nz_e g24) dX9_law_70 (fun tq25 => ?_)
    have tg24 := okO tq25 rfl
    refine lv_iload_n C.x C.b dX9_law_73 rfl (lv_at hl 0 rfl) ?_
    refine lv_i2l C.x C.b dX9_law_74 rfl ?_
    obtain ⟨q26, h_q26, hf⟩ := bd_e hf
    refine r_callV (As := [.long (q17.1.toInt64)]) (rest := []) C hR hS tg24 rfl mk_X7_add cl_X9_223 (k_X7_add tg24 h_q26) ⟨⟨Nat.le_of_ble_eq_true rfl, Nat.le_of_ble_eq_true rfl⟩, ⟨rfl, rfl⟩, Nat.le_of_ble_eq_true rfl, Nat.le_of_ble_eq_true rfl⟩ rfl hl.1 rfl (Nat.le_of_ble_eq_true rfl) dX9_law_75 (fun H locs hR hS hE1 z_q26 => ?_)
    have hE := hE.tr hE1
    have t_r0 := hE1.at t_r0 (by decide)
    refine lv_aload_n C.x C.b dX9_law_78 rfl (lv_at hl 3 rfl) ?_
    obtain ⟨g27, hf⟩ := gd_e hf
    refine r_getr C hR t_r0 fl_X9_54 (by decide) (nz_e g27) dX9_law_79 (fun tq28 => ?_)
    have tg27 := okO tq28 rfl
    refine lv_aload_n C.x C.b dX9_law_82 rfl (lv_at hl 3 rfl) ?_
    obtain ⟨g29, hf⟩ := gd_e hf
    refine r_getr C hR t_r0 fl_X9_26 (by decide) (nz_e g29) dX9_law_83 (fun tq30 => ?_)
    have tg29 := okO tq30 rfl
    obtain ⟨q31, h_q31, hf⟩ := bd_e hf
    refine r_callV (As := [.ref (G.2.2 + (hpR q26 r0 2))]) (rest := []) C hR hS tg27 rfl mk_X4_losses cl_X9_179 (k_X4_losses tg27 tg29 h_q31) ⟨⟨Nat.le_of_ble_eq_true rfl, Nat.le_of_ble_eq_true rfl⟩, ⟨rfl, rfl⟩, Nat.le_of_ble_eq_true rfl, Nat.le_of_ble_eq_true rfl⟩ rfl hl.1 rfl (Nat.le_of_ble_eq_true rfl) dX9_law_86 (fun H locs hR hS hE1 z_q31 => ?_)
    have hE := hE.tr hE1
    have t_r0 := hE1.at t_r0 (by decide)
    have t_q31 := z_q31 _ rfl
    refine lv_astore (lv' := [(4, .ref (G.2.2 + q31.1)), (3, .int q17.1), (2, .int q14.1), (1, .int q7.1), (0, .ref (G.2.2 + r0))]) C.x C.b dX9_law_89 hl (by decide) rfl (fun ls hl => ?_)
    refine lv_iconst (v := (0 : Int32)) C.x C.b dX9_law_91 (by decide) ?_
    refine lv_istore (lv' := [(5, .int (0 : Int32)), (4, .ref (G.2.2 + q31.1)), (3, .int q17.1), (2, .int q14.1), (1, .int q7.1), (0, .ref (G.2.2 + r0))]) C.x C.b dX9_law_92 hl (by decide) rfl (fun ls hl => ?_)
    exact w_X9_law_94 C hr hlk FU _ _ _ _ _ _ _ _ hf hE hR hS t_r0 t_q31 (lv_sub hl [5, 3, 2, 1, 0] rfl)
  · have hf := it_f hf c11
    refine lv_sipush (v := (-10000 : Int32)) C.x C.b dX9_law_29 (by decide) ?_
    refine lv_iload_n C.x C.b dX9_law_32 rfl (lv_at hl 0 rfl) ?_
    refine lv_isub C.x C.b dX9_law_33 ?_
    have hf := so_e hf
    subst hf
    exact r_iret C hr hlk hR hE hS dX9_law_34

def rm_X9_gain : Room := { frames := 1, cells := 0, slots := 0, locals := 14 }
def P_X9_gain_14 (G : Gt) (l : Launch) (p : Program) (e : Env) (s : State) (m : MethodId) (args : Array Value) (below : List Frame) (meth : Method) (c : Code) (h : Hp) (out : Int32) (x0 : Int32) (x1 : Int32) (x2 : Int32) (k : Int32 → Int32 → Option Int32) : Prop := ∀ (H : Heap) (locs : List Loc) (ls : Array Slot) (s0 : Int32) (x3 : Int32), k s0 x3 = some out → Rel G h H → va_S (AA G.2.2) s.heap H locs → lv_has ls 4 [(0, .int x0), (1, .int x1), (2, .int x2), (3, .int x3)] → W p l e rm_X9_gain s m args below meth c H locs 0 0 (MQ below (Qm G h h (some (.int out)) 0) args s 0 0 (AA G.2.2)) (F0 m 14 ls [.int s0])
set_option maxRecDepth 100000 in
set_option maxHeartbeats 4000000 in
theorem w_X9_gain_14 {G : Gt} {l : Launch} {p : Program} {e : Env} {s : State} {m : MethodId} {args : Array Value} {below : List Frame} {meth : Method} {c : Code}  {h : Hp} {out : Int32} {x0 : Int32} {x1 : Int32} {x2 : Int32}  (C : Cx G p m c cX9_gain 4 s args RX9) (hr : meth.sig.returnType = some .int) (hlk : meth.locks = false)   : P_X9_gain_14 G l p e s m args below meth c h out x0 x1 x2 (f_X9_gain_14 h x0 x1 x2) := by
  intro H locs ls s0 x3 hf hR hS  hl
  rw [f_X9_gain_14] at hf
  refine lv_iload_n C.x C.b dX9_gain_14 rfl (lv_at hl 0 rfl) ?_
  refine lv_isub C.x C.b dX9_gain_15 ?_
  refine lv_iconst (v := (0 : Int32)) C.x C.b dX9_gain_16 (by decide) ?_
  refine lv_iload_n C.x C.b dX9_gain_17 rfl (lv_at hl 3 rfl) ?_
  refine lv_bipush (v := (9 : Int32)) C.x C.b dX9_gain_18 (by decide) ?_
  refine lv_isub C.x C.b dX9_gain_20 ?_
  refine va_mmax C.x C.b (C.ml.trans hl.1.symm) C.ow (C.ts _ lk_X9_210) (C.ts _ lk_Mmax_s) (C.ts _ lk_Math) (C.ts _ lk_Mmax_c) (Nat.le_of_ble_eq_true rfl) (Nat.le_of_ble_eq_true rfl) (Nat.le_of_ble_eq_true rfl) (Nat.le_of_ble_eq_true rfl) dX9_gain_21 ?_
  refine lv_topi (fun v3 e_v3 => ?_)
  have hf := lt_e hf e_v3
  refine lv_isub C.x C.b dX9_gain_24 ?_
  have hf := so_e hf
  subst hf
  exact r_iret C hr hlk hR Ext.rf hS dX9_gain_25
set_option maxRecDepth 100000 in
set_option maxHeartbeats 4000000 in
theorem k_X9_gain {G : Gt} {l : Launch}  {h : Hp} {x0 : Int32} {x1 : Int32} {x2 : Int32} {out : Int32}   (hf : f_X9_gain  h x0 x1 x2 = some out) : Mt G l yX9_gain cX9_gain 4 (some .int) rm_X9_gain [.int x0, .int x1, .int x2] h (some (.int out)) h 0 0 0 := by
  refine r_met (by decide +kernel) (Nat.le_of_ble_eq_true rfl) ?_
  intro p e s m args below meth c ls C hr hlk hnm hR hS hl
  have hl : lv_has ls 4 [(0, .int x0), (1, .int x1), (2, .int x2)] := hl
  rw [f_X9_gain] at hf
  refine lv_iload_n C.x C.b dX9_gain_0 rfl (lv_at hl 0 rfl) ?_
  refine lv_iload_n C.x C.b dX9_gain_1 rfl (lv_at hl 1 rfl) ?_
  refine lv_iadd C.x C.b dX9_gain_2 ?_
  refine lv_topi (fun v1 e_v1 => ?_)
  have hf := lt_e hf e_v1
  refine lv_istore_n (lv' := [(3, .int v1), (0, .int x0), (1, .int x1), (2, .int x2)]) C.x C.b dX9_gain_3 rfl hl (by decide) rfl (fun ls hl => ?_)
  refine lv_iload_n C.x C.b dX9_gain_4 rfl (lv_at hl 0 rfl) ?_
  refine lv_iconst (v := (5 : Int32)) C.x C.b dX9_gain_5 (by decide) ?_
  refine lv_icmp_lt (tgt := 13) C.x C.b dX9_gain_6 (by decide) (fun c2 => ?_) (fun c2 => ?_)
  · simp only [if_pos c2] at hf
    refine lv_iconst (v := (0 : Int32)) C.x C.b dX9_gain_13 (by decide) ?_
    exact w_X9_gain_14 C hr hlk _ _ _ _ _ hf hR hS (lv_sub hl [1, 2, 3, 0] rfl)
  · simp only [if_neg c2] at hf
    refine lv_iload_n C.x C.b dX9_gain_9 rfl (lv_at hl 3 rfl) ?_
    refine lv_goto (tgt := 14) C.x C.b dX9_gain_10 (by decide) ?_
    exact w_X9_gain_14 C hr hlk _ _ _ _ _ hf hR hS (lv_sub hl [1, 2, 3, 0] rfl)

def rm_X9_isBestBeside : Room := { frames := 2, cells := 0, slots := 0, locals := 37 }
def P_X9_isBestBeside_2 (G : Gt) (l : Launch) (p : Program) (e : Env) (s : State) (m : MethodId) (args : Array Value) (below : List Frame) (meth : Method) (c : Code) (h : Hp) (out : Int32) (x0 : Int32) (x1 : Int32) (x2 : Int32) (k : Int32 → Option Int32) : Prop := ∀ (H : Heap) (locs : List Loc) (ls : Array Slot) (x3 : Int32), k x3 = some out → Rel G h H → va_S (AA G.2.2) s.heap H locs → lv_has ls 4 [(0, .int x0), (1, .int x1), (2, .int x2), (3, .int x3)] → W p l e rm_X9_isBestBeside s m args below meth c H locs 0 0 (MQ below (Qm G h h (some (.int out)) 1) args s 0 0 (AA G.2.2)) (F0 m 2 ls [])
set_option maxRecDepth 100000 in
set_option maxHeartbeats 4000000 in
theorem w_X9_isBestBeside_2 {G : Gt} {l : Launch} {p : Program} {e : Env} {s : State} {m : MethodId} {args : Array Value} {below : List Frame} {meth : Method} {c : Code}  {h : Hp} {out : Int32} {x0 : Int32} {x1 : Int32} {x2 : Int32}  (C : Cx G p m c cX9_isBestBeside 4 s args RX9) (hr : meth.sig.returnType = some .boolean) (hlk : meth.locks = false)   (n : Nat) : P_X9_isBestBeside_2 G l p e s m args below meth c h out x0 x1 x2 (f_X9_isBestBeside_2 h x0 x1 x2 n) := by
  induction n with
  | zero => intro H locs ls x3 hf hR hS  hl; cases hf
  | succ n hk2 =>
    intro H locs ls x3 hf hR hS  hl
    rw [f_X9_isBestBeside_2] at hf
    obtain ⟨k2, e_k2⟩ : ∃ y, y = f_X9_isBestBeside_2 h x0 x1 x2 n := ⟨_, rfl⟩
    have hf := lt_e hf e_k2
    rw [← e_k2] at hk2
    refine lv_iload_n C.x C.b dX9_isBestBeside_2 rfl (lv_at hl 3 rfl) ?_
    refine lv_bipush (v := (10 : Int32)) C.x C.b dX9_isBestBeside_3 (by decide) ?_
    refine lv_icmp_ge (tgt := 31) C.x C.b dX9_isBestBeside_5 (by decide) (fun c1 => ?_) (fun c1 => ?_)
    · have hf := it_t hf c1
      refine lv_iconst (v := (1 : Int32)) C.x C.b dX9_isBestBeside_31 (by decide) ?_
      have hf := so_e hf
      subst hf
      exact r_zret C hr hlk hR Ext.rf hS z_1 dX9_isBestBeside_32
    · have hf := it_f hf c1
      refine lv_iload_n C.x C.b dX9_isBestBeside_8 rfl (lv_at hl 3 rfl) ?_
      refine lv_iload_n C.x C.b dX9_isBestBeside_9 rfl (lv_at hl 1 rfl) ?_
      refine lv_iload_n C.x C.b dX9_isBestBeside_10 rfl (lv_at hl 2 rfl) ?_
      obtain ⟨q2, h_q2, hf⟩ := bd_e hf
      refine r_callS (As := [.int x3, .int x1, .int x2]) (rest := []) C hR hS mk_X9_gain cl_X9_418 (k_X9_gain h_q2) ⟨⟨Nat.le_of_ble_eq_true rfl, Nat.le_of_ble_eq_true rfl⟩, ⟨rfl, rfl⟩, Nat.le_of_ble_eq_true rfl, Nat.le_of_ble_eq_true rfl⟩ rfl hl.1 rfl (Nat.le_of_ble_eq_true rfl) dX9_isBestBeside_11 (fun H locs hR hS hE1 z_q2 => ?_)
      refine lv_iload_n C.x C.b dX9_isBestBeside_14 rfl (lv_at hl 0 rfl) ?_
      refine lv_iload_n C.x C.b dX9_isBestBeside_15 rfl (lv_at hl 1 rfl) ?_
      refine lv_iload_n C.x C.b dX9_isBestBeside_16 rfl (lv_at hl 2 rfl) ?_
      obtain ⟨q3, h_q3, hf⟩ := bd_e hf
      refine r_callS (As := [.int x0, .int x1, .int x2]) (rest := [.int q2]) C hR hS mk_X9_gain cl_X9_418 (k_X9_gain h_q3) ⟨⟨Nat.le_of_ble_eq_true rfl, Nat.le_of_ble_eq_true rfl⟩, ⟨rfl, rfl⟩, Nat.le_of_ble_eq_true rfl, Nat.le_of_ble_eq_true rfl⟩ rfl hl.1 rfl (Nat.le_of_ble_eq_true rfl) dX9_isBestBeside_17 (fun H locs hR hS hE1 z_q3 => ?_)
      refine lv_icmp_le (tgt := 25) C.x C.b dX9_isBestBeside_20 (by decide) (fun c4 => ?_) (fun c4 => ?_)
      · have hf := it_t hf c4
        obtain ⟨v5, e_v5⟩ : ∃ y : Int32, y = x3 + (1 : Int32) := ⟨_, rfl⟩
        have hf := lt_e hf e_v5
        refine lv_iinc (v := v5) (lv' := [(3, .int v5), (0, .int x0), (1, .int x1), (2, .int x2)]) C.x C.b dX9_isBestBeside_25 hl (k := 3) rfl (by rw [e_v5]; rfl) (by decide) rfl (fun ls hl => ?_)
        refine lv_goto (tgt := 2) C.x C.b dX9_isBestBeside_28 (by decide) ?_
        exact hk2 _ _ _ _ hf hR hS (lv_sub hl [1, 2, 3, 0] rfl)
      · have hf := it_f hf c4
        refine lv_iconst (v := (0 : Int32)) C.x C.b dX9_isBestBeside_23 (by decide) ?_
        have hf := so_e hf
        subst hf
        exact r_zret C hr hlk hR Ext.rf hS z_0 dX9_isBestBeside_24
set_option maxRecDepth 100000 in
set_option maxHeartbeats 4000000 in
theorem k_X9_isBestBeside {G : Gt} {l : Launch}  {h : Hp} {x0 : Int32} {x1 : Int32} {x2 : Int32} {out : Int32}   (hf : f_X9_isBestBeside  h x0 x1 x2 = some out) : Mt G l yX9_isBestBeside cX9_isBestBeside 4 (some .boolean) rm_X9_isBestBeside [.int x0, .int x1, .int x2] h (some (.int out)) h 1 0 0 := by
  refine r_met (by decide +kernel) (Nat.le_of_ble_eq_true rfl) ?_
  intro p e s m args below meth c ls C hr hlk hnm hR hS hl
  have hl : lv_has ls 4 [(0, .int x0), (1, .int x1), (2, .int x2)] := hl
  rw [f_X9_isBestBeside] at hf
  refine lv_iconst (v := (0 : Int32)) C.x C.b dX9_isBestBeside_0 (by decide) ?_
  refine lv_istore_n (lv' := [(3, .int (0 : Int32)), (0, .int x0), (1, .int x1), (2, .int x2)]) C.x C.b dX9_isBestBeside_1 rfl hl (by decide) rfl (fun ls hl => ?_)
  exact w_X9_isBestBeside_2 C hr hlk FU _ _ _ _ hf hR hS (lv_sub hl [1, 2, 3, 0] rfl)

def rm_X9_rests : Room := { frames := 3, cells := 0, slots := 0, locals := 60 }
def P_X9_rests_85 (G : Gt) (l : Launch) (p : Program) (e : Env) (s : State) (m : MethodId) (args : Array Value) (below : List Frame) (meth : Method) (c : Code) (h0 : Hp) (out : (Int32 × Hp)) (r0 : Nat) (x1 : Int32) (k : Hp → Int32 → Int32 → Int32 → Option (Int32 × Hp)) : Prop := ∀ (H : Heap) (locs : List Loc) (ls : Array Slot) (h : Hp) (x2 : Int32) (x3 : Int32) (x4 : Int32), k h x2 x3 x4 = some out → Ext h0 h → Rel G h H → va_S (AA G.2.2) s.heap H locs → hpT h r0 = (1, 9) → lv_has ls 5 [(0, .ref (G.2.2 + r0)), (1, .int x1), (2, .int x2), (3, .int x3), (4, .int x4)] → W p l e rm_X9_rests s m args below meth c H locs 0 0 (MQ below (Qm G h0 out.2 (some (.int out.1)) 0) args s 0 0 (AA G.2.2)) (F0 m 85 ls [])
def P_X9_rests_82 (G : Gt) (l : Launch) (p : Program) (e : Env) (s : State) (m : MethodId) (args : Array Value) (below : List Frame) (meth : Method) (c : Code) (h0 : Hp) (out : (Int32 × Hp)) (r0 : Nat) (x1 : Int32) (k : Hp → Int32 → Int32 → Int32 → Option (Int32 × Hp)) : Prop := ∀ (H : Heap) (locs : List Loc) (ls : Array Slot) (h : Hp) (x2 : Int32) (x3 : Int32) (x4 : Int32), k h x2 x3 x4 = some out → Ext h0 h → Rel G h H → va_S (AA G.2.2) s.heap H locs → hpT h r0 = (1, 9) → lv_has ls 5 [(0, .ref (G.2.2 + r0)), (1, .int x1), (2, .int x2), (3, .int x3), (4, .int x4)] → W p l e rm_X9_rests s m args below meth c H locs 0 0 (MQ below (Qm G h0 out.2 (some (.int out.1)) 0) args s 0 0 (AA G.2.2)) (F0 m 82 ls [])
def P_X9_rests_32 (G : Gt) (l : Launch) (p : Program) (e : Env) (s : State) (m : MethodId) (args : Array Value) (below : List Frame) (meth : Method) (c : Code) (h0 : Hp) (out : (Int32 × Hp)) (r0 : Nat) (x1 : Int32) (k : Hp → Int32 → Int32 → Int32 → Option (Int32 × Hp)) : Prop := ∀ (H : Heap) (locs : List Loc) (ls : Array Slot) (h : Hp) (x2 : Int32) (x3 : Int32) (x4 : Int32), k h x2 x3 x4 = some out → Ext h0 h → Rel G h H → va_S (AA G.2.2) s.heap H locs → hpT h r0 = (1, 9) → lv_has ls 5 [(0, .ref (G.2.2 + r0)), (1, .int x1), (2, .int x2), (3, .int x3), (4, .int x4)] → W p l e rm_X9_rests s m args below meth c H locs 0 0 (MQ below (Qm G h0 out.2 (some (.int out.1)) 0) args s 0 0 (AA G.2.2)) (F0 m 32 ls [])
def P_X9_rests_23 (G : Gt) (l : Launch) (p : Program) (e : Env) (s : State) (m : MethodId) (args : Array Value) (below : List Frame) (meth : Method) (c : Code) (h0 : Hp) (out : (Int32 × Hp)) (r0 : Nat) (x1 : Int32) (k : Hp → Int32 → Int32 → Option (Int32 × Hp)) : Prop := ∀ (H : Heap) (locs : List Loc) (ls : Array Slot) (h : Hp) (x2 : Int32) (x3 : Int32), k h x2 x3 = some out → Ext h0 h → Rel G h H → va_S (AA G.2.2) s.heap H locs → hpT h r0 = (1, 9) → lv_has ls 5 [(0, .ref (G.2.2 + r0)), (1, .int x1), (2, .int x2), (3, .int x3)] → W p l e rm_X9_rests s m args below meth c H locs 0 0 (MQ below (Qm G h0 out.2 (some (.int out.1)) 0) args s 0 0 (AA G.2.2)) (F0 m 23 ls [])
set_option maxRecDepth 100000 in
set_option maxHeartbeats 4000000 in
theorem w_X9_rests_85 {G : Gt} {l : Launch} {p : Program} {e : Env} {s : State} {m : MethodId} {args : Array Value} {below : List Frame} {meth : Method} {c : Code}  {h0 : Hp} {out : (Int32 × Hp)} {r0 : Nat} {x1 : Int32} {k23 : Hp → Int32 → Int32 → Option (Int32 × Hp)} {k32 : Hp → Int32 → Int32 → Int32 → Option (Int32 × Hp)} (C : Cx G p m c cX9_rests 5 s args RX9) (hr : meth.sig.returnType = some .int) (hlk : meth.locks = false)  (hk23 : P_X9_rests_23 G l p e s m args below meth c h0 out r0 x1 k23) (hk32 : P_X9_rests_32 G l p e s m args below meth c h0 out r0 x1 k32) : P_X9_rests_85 G l p e s m args below meth c h0 out r0 x1 (f_X9_rests_85 r0 x1 k23 k32) := by
  intro H locs ls h x2 x3 x4 hf hE hR hS t_r0 hl
  rw [f_X9_rests_85] at hf
  obtain ⟨v21, e_v21⟩ : ∃ y : Int32, y = x4 + (1 : Int32) := ⟨_, rfl⟩
  have hf := lt_e hf e_v21
  refine lv_iinc (v := v21) (lv' := [(4, .int v21), (0, .ref (G.2.2 + r0)), (1, .int x1), (2, .int x2), (3, .int x3)]) C.x C.b dX9_rests_85 hl (k := 4) rfl (by rw [e_v21]; rfl) (by decide) rfl (fun ls hl => ?_)
  refine lv_goto (tgt := 32) C.x C.b dX9_rests_88 (by decide) ?_
  exact hk32 _ _ _ _ _ _ _ hf hE hR hS t_r0 (lv_sub hl [1, 2, 3, 4, 0] rfl)
set_option maxRecDepth 100000 in
set_option maxHeartbeats 4000000 in
theorem w_X9_rests_82 {G : Gt} {l : Launch} {p : Program} {e : Env} {s : State} {m : MethodId} {args : Array Value} {below : List Frame} {meth : Method} {c : Code}  {h0 : Hp} {out : (Int32 × Hp)} {r0 : Nat} {x1 : Int32} {k23 : Hp → Int32 → Int32 → Option (Int32 × Hp)} {k32 : Hp → Int32 → Int32 → Int32 → Option (Int32 × Hp)} (C : Cx G p m c cX9_rests 5 s args RX9) (hr : meth.sig.returnType = some .int) (hlk : meth.locks = false)  (hk23 : P_X9_rests_23 G l p e s m args below meth c h0 out r0 x1 k23) (hk32 : P_X9_rests_32 G l p e s m args below meth c h0 out r0 x1 k32) : P_X9_rests_82 G l p e s m args below meth c h0 out r0 x1 (f_X9_rests_82 r0 x1 k23 k32) := by
  intro H locs ls h x2 x3 x4 hf hE hR hS t_r0 hl
  rw [f_X9_rests_82] at hf
  obtain ⟨v20, e_v20⟩ : ∃ y : Int32, y = x2 + (1 : Int32) := ⟨_, rfl⟩
  have hf := lt_e hf e_v20
  refine lv_iinc (v := v20) (lv' := [(2, .int v20), (0, .ref (G.2.2 + r0)), (1, .int x1), (3, .int x3), (4, .int x4)]) C.x C.b dX9_rests_82 hl (k := 2) rfl (by rw [e_v20]; rfl) (by decide) rfl (fun ls hl => ?_)
  exact w_X9_rests_85 C hr hlk hk23 hk32 _ _ _ _ _ _ _ hf hE hR hS t_r0 (lv_sub hl [1, 2, 0, 3, 4] rfl)
set_option maxRecDepth 100000 in
set_option maxHeartbeats 4000000 in
theorem w_X9_rests_32 {G : Gt} {l : Launch} {p : Program} {e : Env} {s : State} {m : MethodId} {args : Array Value} {below : List Frame} {meth : Method} {c : Code}  {h0 : Hp} {out : (Int32 × Hp)} {r0 : Nat} {x1 : Int32} {k23 : Hp → Int32 → Int32 → Option (Int32 × Hp)} (C : Cx G p m c cX9_rests 5 s args RX9) (hr : meth.sig.returnType = some .int) (hlk : meth.locks = false)  (hk23 : P_X9_rests_23 G l p e s m args below meth c h0 out r0 x1 k23) (n : Nat) : P_X9_rests_32 G l p e s m args below meth c h0 out r0 x1 (f_X9_rests_32 r0 x1 k23 n) := by
  induction n with
  | zero => intro H locs ls h x2 x3 x4 hf hE hR hS t_r0 hl; cases hf
  | succ n hk32 =>
    intro H locs ls h x2 x3 x4 hf hE hR hS t_r0 hl
    rw [f_X9_rests_32] at hf
    obtain ⟨k32, e_k32⟩ : ∃ y, y = f_X9_rests_32 r0 x1 k23 n := ⟨_, rfl⟩
    have hf := lt_e hf e_k32
    rw [← e_k32] at hk32
    refine lv_iload C.x C.b dX9_rests_32 (lv_at hl 4 rfl) ?_
    refine lv_bipush (v := (10 : Int32)) C.x C.b dX9_rests_34 (by decide) ?_
    refine lv_icmp_ge (tgt := 91) C.x C.b dX9_rests_36 (by decide) (fun c7 => ?_) (fun c7 => ?_)
    · have hf := it_t hf c7
      obtain ⟨v8, e_v8⟩ : ∃ y : Int32, y = x3 + (1 : Int32) := ⟨_, rfl⟩
      have hf := lt_e hf e_v8
      refine lv_iinc (v := v8) (lv' := [(3, .int v8), (0, .ref (G.2.2 + r0)), (1, .int x1), (2, .int x2), (4, .int x4)]) C.x C.b dX9_rests_91 hl (k := 3) rfl (by rw [e_v8]; rfl) (by decide) rfl (fun ls hl => ?_)
      refine lv_goto (tgt := 23) C.x C.b dX9_rests_94 (by decide) ?_
      exact hk23 _ _ _ _ _ _ hf hE hR hS t_r0 (lv_sub hl [1, 2, 3, 0] rfl)
    · have hf := it_f hf c7
      refine lv_iload_n C.x C.b dX9_rests_39 rfl (lv_at hl 3 rfl) ?_
      refine lv_iload C.x C.b dX9_rests_40 (lv_at hl 4 rfl) ?_
      refine lv_iload_n C.x C.b dX9_rests_42 rfl (lv_at hl 1 rfl) ?_
      obtain ⟨q9, h_q9, hf⟩ := bd_e hf
      refine r_callS (As := [.int x3, .int x4, .int x1]) (rest := []) C hR hS mk_X9_isBestBeside cl_X9_415 (k_X9_isBestBeside h_q9) ⟨⟨Nat.le_of_ble_eq_true rfl, Nat.le_of_ble_eq_true rfl⟩, ⟨rfl, rfl⟩, Nat.le_of_ble_eq_true rfl, Nat.le_of_ble_eq_true rfl⟩ rfl hl.1 rfl (Nat.le_of_ble_eq_true rfl) dX9_rests_43 (fun H locs hR hS hE1 z_q9 => ?_)
      have z_q9 := z_q9 _ rfl
      refine lv_if_eq (tgt := 85) C.x C.b dX9_rests_46 (by decide) (fun c10 => ?_) (fun c10 => ?_)
      · have hf := it_t hf c10
        exact w_X9_rests_85 C hr hlk hk23 hk32 _ _ _ _ _ _ _ hf hE hR hS t_r0 (lv_sub hl [0, 1, 2, 3, 4] rfl)
      · have hf := it_f hf c10
        refine lv_iload C.x C.b dX9_rests_49 (lv_at hl 4 rfl) ?_
        refine lv_iload_n C.x C.b dX9_rests_51 rfl (lv_at hl 3 rfl) ?_
        refine lv_iload_n C.x C.b dX9_rests_52 rfl (lv_at hl 1 rfl) ?_
        obtain ⟨q11, h_q11, hf⟩ := bd_e hf
        refine r_callS (As := [.int x4, .int x3, .int x1]) (rest := []) C hR hS mk_X9_isBestBeside cl_X9_415 (k_X9_isBestBeside h_q11) ⟨⟨Nat.le_of_ble_eq_true rfl, Nat.le_of_ble_eq_true rfl⟩, ⟨rfl, rfl⟩, Nat.le_of_ble_eq_true rfl, Nat.le_of_ble_eq_true rfl⟩ rfl hl.1 rfl (Nat.le_of_ble_eq_true rfl) dX9_rests_53 (fun H locs hR hS hE1 z_q11 => ?_)
        have z_q11 := z_q11 _ rfl
        refine lv_if_eq (tgt := 85) C.x C.b dX9_rests_56 (by decide) (fun c12 => ?_) (fun c12 => ?_)
        · have hf := it_t hf c12
          exact w_X9_rests_85 C hr hlk hk23 hk32 _ _ _ _ _ _ _ hf hE hR hS t_r0 (lv_sub hl [0, 1, 2, 3, 4] rfl)
        · have hf := it_f hf c12
          refine lv_iload_n C.x C.b dX9_rests_59 rfl (lv_at hl 2 rfl) ?_
          refine lv_if_ne (tgt := 82) C.x C.b dX9_rests_60 (by decide) (fun c13 => ?_) (fun c13 => ?_)
          · have hf := it_f hf c13
            exact w_X9_rests_82 C hr hlk hk23 hk32 _ _ _ _ _ _ _ hf hE hR hS t_r0 (lv_sub hl [0, 1, 2, 3, 4] rfl)
          · have hf := it_t hf c13
            refine lv_aload_n C.x C.b dX9_rests_63 rfl (lv_at hl 0 rfl) ?_
            obtain ⟨g14, hf⟩ := gd_e hf
            refine r_getr C hR t_r0 fl_X9_19 (by decide) (nz_e g14) dX9_rests_64 (fun tq15 => ?_)
            have tg14 := okO tq15 rfl
            refine lv_iload_n C.x C.b dX9_rests_67 rfl (lv_at hl 3 rfl) ?_
            refine lv_i2l C.x C.b dX9_rests_68 rfl ?_
            obtain ⟨q16, h_q16, hf⟩ := bd_e hf
            refine r_callV (As := [.long (x3.toInt64)]) (rest := []) C hR hS tg14 rfl mk_X7_add cl_X9_223 (k_X7_add tg14 h_q16) ⟨⟨Nat.le_of_ble_eq_true rfl, Nat.le_of_ble_eq_true rfl⟩, ⟨rfl, rfl⟩, Nat.le_of_ble_eq_true rfl, Nat.le_of_ble_eq_true rfl⟩ rfl hl.1 rfl (Nat.le_of_ble_eq_true rfl) dX9_rests_69 (fun H locs hR hS hE1 z_q16 => ?_)
            have hE := hE.tr hE1
            have t_r0 := hE1.at t_r0 (by decide)
            refine lv_aload_n C.x C.b dX9_rests_72 rfl (lv_at hl 0 rfl) ?_
            obtain ⟨g17, hf⟩ := gd_e hf
            refine r_getr C hR t_r0 fl_X9_19 (by decide) (nz_e g17) dX9_rests_73 (fun tq18 => ?_)
            have tg17 := okO tq18 rfl
            refine lv_iload C.x C.b dX9_rests_76 (lv_at hl 4 rfl) ?_
            refine lv_i2l C.x C.b dX9_rests_78 rfl ?_
            obtain ⟨q19, h_q19, hf⟩ := bd_e hf
            refine r_callV (As := [.long (x4.toInt64)]) (rest := []) C hR hS tg17 rfl mk_X7_add cl_X9_223 (k_X7_add tg17 h_q19) ⟨⟨Nat.le_of_ble_eq_true rfl, Nat.le_of_ble_eq_true rfl⟩, ⟨rfl, rfl⟩, Nat.le_of_ble_eq_true rfl, Nat.le_of_ble_eq_true rfl⟩ rfl hl.1 rfl (Nat.le_of_ble_eq_true rfl) dX9_rests_79 (fun H locs hR hS hE1 z_q19 => ?_)
            have hE := hE.tr hE1
            have t_r0 := hE1.at t_r0 (by decide)
            exact w_X9_rests_82 C hr hlk hk23 hk32 _ _ _ _ _ _ _ hf hE hR hS t_r0 (lv_sub hl [0, 1, 2, 3, 4] rfl)
set_option maxRecDepth 100000 in
set_option maxHeartbeats 4000000 in
theorem w_X9_rests_23 {G : Gt} {l : Launch} {p : Program} {e : Env} {s : State} {m : MethodId} {args : Array Value} {below : List Frame} {meth : Method} {c : Code}  {h0 : Hp} {out : (Int32 × Hp)} {r0 : Nat} {x1 : Int32}  (C : Cx G p m c cX9_rests 5 s args RX9) (hr : meth.sig.returnType = some .int) (hlk : meth.locks = false)   (n : Nat) : P_X9_rests_23 G l p e s m args below meth c h0 out r0 x1 (f_X9_rests_23 r0 x1 n) := by
  induction n with
  | zero => intro H locs ls h x2 x3 hf hE hR hS t_r0 hl; cases hf
  | succ n hk23 =>
    intro H locs ls h x2 x3 hf hE hR hS t_r0 hl
    rw [f_X9_rests_23] at hf
    obtain ⟨k23, e_k23⟩ : ∃ y, y = f_X9_rests_23 r0 x1 n := ⟨_, rfl⟩
    have hf := lt_e hf e_k23
    rw [← e_k23] at hk23
    refine lv_iload_n C.x C.b dX9_rests_23 rfl (lv_at hl 3 rfl) ?_
    refine lv_bipush (v := (10 : Int32)) C.x C.b dX9_rests_24 (by decide) ?_
    refine lv_icmp_ge (tgt := 97) C.x C.b dX9_rests_26 (by decide) (fun c6 => ?_) (fun c6 => ?_)
    · have hf := it_t hf c6
      refine lv_iload_n C.x C.b dX9_rests_97 rfl (lv_at hl 2 rfl) ?_
      have hf := so_e hf
      subst hf
      exact r_iret C hr hlk hR hE hS dX9_rests_98
    · have hf := it_f hf c6
      refine lv_iconst (v := (0 : Int32)) C.x C.b dX9_rests_29 (by decide) ?_
      refine lv_istore (lv' := [(4, .int (0 : Int32)), (0, .ref (G.2.2 + r0)), (1, .int x1), (2, .int x2), (3, .int x3)]) C.x C.b dX9_rests_30 hl (by decide) rfl (fun ls hl => ?_)
      exact w_X9_rests_32 C hr hlk hk23 FU _ _ _ _ _ _ _ hf hE hR hS t_r0 (lv_sub hl [1, 2, 3, 4, 0] rfl)
set_option maxRecDepth 100000 in
set_option maxHeartbeats 4000000 in
theorem k_X9_rests {G : Gt} {l : Launch}  {h : Hp} {r0 : Nat} {x1 : Int32} {out : (Int32 × Hp)} (t_r0 : hpT h r0 = (1, 9))  (hf : f_X9_rests  h r0 x1 = some out) : Mt G l yX9_rests cX9_rests 5 (some .int) rm_X9_rests [.ref (G.2.2 + r0), .int x1] h (some (.int out.1)) out.2 0 0 0 := by
  refine r_met (by decide +kernel) (Nat.le_of_ble_eq_true rfl) ?_
  intro p e s m args below meth c ls C hr hlk hnm hR hS hl
  have hE : Ext h h := Ext.rf
  have hl : lv_has ls 5 [(0, .ref (G.2.2 + r0)), (1, .int x1)] := hl
  rw [f_X9_rests] at hf
  refine lv_iload_n C.x C.b dX9_rests_0 rfl (lv_at hl 1 rfl) ?_
  refine lv_if_lt (tgt := 10) C.x C.b dX9_rests_1 (by decide) (fun c1 => ?_) (fun c1 => ?_)
  · have hf := it_t hf c1
    refine lv_iconst (v := (-1 : Int32)) C.x C.b dX9_rests_10 (by decide) ?_
    have hf := so_e hf
    subst hf
    exact r_iret C hr hlk hR hE hS dX9_rests_11
  · have hf := it_f hf c1
    refine lv_iload_n C.x C.b dX9_rests_4 rfl (lv_at hl 1 rfl) ?_
    refine lv_bipush (v := (20 : Int32)) C.x C.b dX9_rests_5 (by decide) ?_
    refine lv_icmp_le (tgt := 12) C.x C.b dX9_rests_7 (by decide) (fun c2 => ?_) (fun c2 => ?_)
    · have hf := it_t hf c2
      refine lv_iconst (v := (0 : Int32)) C.x C.b dX9_rests_12 (by decide) ?_
      refine lv_istore_n (lv' := [(2, .int (0 : Int32)), (0, .ref (G.2.2 + r0)), (1, .int x1)]) C.x C.b dX9_rests_13 rfl hl (by decide) rfl (fun ls hl => ?_)
      refine lv_aload_n C.x C.b dX9_rests_14 rfl (lv_at hl 1 rfl) ?_
      obtain ⟨g3, hf⟩ := gd_e hf
      refine r_getr C hR t_r0 fl_X9_19 (by decide) (nz_e g3) dX9_rests_15 (fun tq4 => ?_)
      have tg3 := okO tq4 rfl
      obtain ⟨q5, h_q5, hf⟩ := bd_e hf
      refine r_callV (As := []) (rest := []) C hR hS tg3 rfl mk_X7_start cl_X9_220 (k_X7_start tg3 h_q5) ⟨⟨Nat.le_of_ble_eq_true rfl, Nat.le_of_ble_eq_true rfl⟩, ⟨rfl, rfl⟩, Nat.le_of_ble_eq_true rfl, Nat.le_of_ble_eq_true rfl⟩ rfl hl.1 rfl (Nat.le_of_ble_eq_true rfl) dX9_rests_18 (fun H locs hR hS hE1 z_q5 => ?_)
      have hE := hE.tr hE1
      have t_r0 := hE1.at t_r0 (by decide)
      refine lv_iconst (v := (0 : Int32)) C.x C.b dX9_rests_21 (by decide) ?_
      refine lv_istore_n (lv' := [(3, .int (0 : Int32)), (2, .int (0 : Int32)), (0, .ref (G.2.2 + r0)), (1, .int x1)]) C.x C.b dX9_rests_22 rfl hl (by decide) rfl (fun ls hl => ?_)
      exact w_X9_rests_23 C hr hlk FU _ _ _ _ _ _ hf hE hR hS t_r0 (lv_sub hl [2, 3, 1, 0] rfl)
    · have hf := it_f hf c2
      refine lv_iconst (v := (-1 : Int32)) C.x C.b dX9_rests_10 (by decide) ?_
      have hf := so_e hf
      subst hf
      exact r_iret C hr hlk hR hE hS dX9_rests_11

