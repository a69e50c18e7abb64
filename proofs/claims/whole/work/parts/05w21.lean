def rm_X10_count : Room := { frames := 2, cells := 0, slots := 0, locals := 43 }
set_option maxRecDepth 100000 in
set_option maxHeartbeats 4000000 in
theorem k_X10_count {G : Gt} {l : Launch}  {h : Hp} {r0 : Nat} {x1 : Int32} {out : (Int32 × Hp)} (t_r0 : hpT h r0 = (1, 10))  (hf : f_X10_count  h r0 x1 = some out) : Mt G l yX10_count cX10_count 2 (some .int) rm_X10_count [.ref (G.2.2 + r0), .int x1] h (some (.int out.1)) out.2 0 0 0 := by
  refine r_met (by decide +kernel) (Nat.le_of_ble_eq_true rfl) ?_
  intro p e s m args below meth c ls C hr hlk hnm hR hS hl
  have hE : Ext h h := Ext.rf
  have hl : lv_has ls 2 [(0, .ref (G.2.2 + r0)), (1, .int x1)] := hl
  rw [f_X10_count] at hf
  refine lv_aload_n C.x C.b dX10_count_0 rfl (lv_at hl 0 rfl) ?_
  refine lv_iconst (v := (0 : Int32)) C.x C.b dX10_count_1 (by decide) ?_
  refine r_puti C hR hS t_r0 fl_X10_103 fp_X10_10_0 rfl dX10_count_2 (fun H locs hR hS => ?_)
  obtain ⟨h1, e_h1⟩ : ∃ y, y = upI h r0 0 (0 : Int32) := ⟨_, rfl⟩
  rw [← e_h1] at hR
  have hf := lt_e hf e_h1
  have hE := eI e_h1 hE
  have t_r0 := tI e_h1 t_r0
  refine lv_iload_n C.x C.b dX10_count_5 rfl (lv_at hl 1 rfl) ?_
  by_cases c18_0 : x1 = (0 : Int32)
  · have hf := it_t hf c18_0
    refine lv_tableIn (tgt := 68) C.x C.b dX10_count_6 (by rw [c18_0]; decide) (by rw [c18_0]; decide) (by rw [c18_0]; rfl) (by decide) ?_
    refine lv_aload_n C.x C.b dX10_count_68 rfl (lv_at hl 0 rfl) ?_
    refine r_geti C hR t_r0 fl_X10_13 rfl dX10_count_69 ?_
    have hf := so_e hf
    subst hf
    exact r_iret C hr hlk hR hE hS dX10_count_72
  have hf := it_f hf c18_0
  by_cases c18_1 : x1 = (1 : Int32)
  · have hf := it_t hf c18_1
    refine lv_tableIn (tgt := 73) C.x C.b dX10_count_6 (by rw [c18_1]; decide) (by rw [c18_1]; decide) (by rw [c18_1]; rfl) (by decide) ?_
    refine lv_aload_n C.x C.b dX10_count_73 rfl (lv_at hl 0 rfl) ?_
    refine r_geti C hR t_r0 fl_X10_17 rfl dX10_count_74 ?_
    have hf := so_e hf
    subst hf
    exact r_iret C hr hlk hR hE hS dX10_count_77
  have hf := it_f hf c18_1
  by_cases c18_2 : x1 = (2 : Int32)
  · have hf := it_t hf c18_2
    refine lv_tableIn (tgt := 78) C.x C.b dX10_count_6 (by rw [c18_2]; decide) (by rw [c18_2]; decide) (by rw [c18_2]; rfl) (by decide) ?_
    refine lv_aload_n C.x C.b dX10_count_78 rfl (lv_at hl 0 rfl) ?_
    obtain ⟨g2, hf⟩ := gd_e hf
    refine r_getr C hR t_r0 fl_X10_20 (by decide) (nz_e g2) dX10_count_79 (fun tq3 => ?_)
    have tg2 := okA tq3 rfl
    refine lv_bipush (v := (48 : Int32)) C.x C.b dX10_count_82 (by decide) ?_
    obtain ⟨g4, hf⟩ := gd_e hf
    refine r_iald C hR tg2 g4 dX10_count_84 ?_
    have hf := so_e hf
    subst hf
    exact r_iret C hr hlk hR hE hS dX10_count_85
  have hf := it_f hf c18_2
  by_cases c18_3 : x1 = (3 : Int32)
  · have hf := it_t hf c18_3
    refine lv_tableIn (tgt := 86) C.x C.b dX10_count_6 (by rw [c18_3]; decide) (by rw [c18_3]; decide) (by rw [c18_3]; rfl) (by decide) ?_
    refine lv_aload_n C.x C.b dX10_count_86 rfl (lv_at hl 0 rfl) ?_
    obtain ⟨g5, hf⟩ := gd_e hf
    refine r_getr C hR t_r0 fl_X10_20 (by decide) (nz_e g5) dX10_count_87 (fun tq6 => ?_)
    have tg5 := okA tq6 rfl
    obtain ⟨q7, h_q7, hf⟩ := bd_e hf
    refine r_callS (As := [.ref (G.2.2 + (hpR h1 r0 6))]) (rest := []) C hR hS mk_X10_on cl_X10_311 (k_X10_on tg5 h_q7) ⟨⟨Nat.le_of_ble_eq_true rfl, Nat.le_of_ble_eq_true rfl⟩, ⟨rfl, rfl⟩, Nat.le_of_ble_eq_true rfl, Nat.le_of_ble_eq_true rfl⟩ rfl hl.1 rfl (Nat.le_of_ble_eq_true rfl) dX10_count_90 (fun H locs hR hS hE1 z_q7 => ?_)
    obtain ⟨q8, h_q8, hf⟩ := bd_e hf
    refine r_callS (As := [.int q7]) (rest := []) C hR hS mk_J6_bitCount_0f7a4 cl_X10_264 (k_J6_bitCount_0f7a4 h_q8) ⟨⟨Nat.le_of_ble_eq_true rfl, Nat.le_of_ble_eq_true rfl⟩, ⟨rfl, rfl⟩, Nat.le_of_ble_eq_true rfl, Nat.le_of_ble_eq_true rfl⟩ rfl hl.1 rfl (Nat.le_of_ble_eq_true rfl) dX10_count_93 (fun H locs hR hS hE1 z_q8 => ?_)
    have hf := so_e hf
    subst hf
    exact r_iret C hr hlk hR hE hS dX10_count_96
  have hf := it_f hf c18_3
  by_cases c18_4 : x1 = (4 : Int32)
  · have hf := it_t hf c18_4
    refine lv_tableIn (tgt := 97) C.x C.b dX10_count_6 (by rw [c18_4]; decide) (by rw [c18_4]; decide) (by rw [c18_4]; rfl) (by decide) ?_
    refine lv_aload_n C.x C.b dX10_count_97 rfl (lv_at hl 0 rfl) ?_
    obtain ⟨g9, hf⟩ := gd_e hf
    refine r_getr C hR t_r0 fl_X10_20 (by decide) (nz_e g9) dX10_count_98 (fun tq10 => ?_)
    have tg9 := okA tq10 rfl
    refine lv_bipush (v := (49 : Int32)) C.x C.b dX10_count_101 (by decide) ?_
    obtain ⟨g11, hf⟩ := gd_e hf
    refine r_iald C hR tg9 g11 dX10_count_103 ?_
    have hf := so_e hf
    subst hf
    exact r_iret C hr hlk hR hE hS dX10_count_104
  have hf := it_f hf c18_4
  by_cases c18_5 : x1 = (5 : Int32)
  · have hf := it_t hf c18_5
    refine lv_tableIn (tgt := 105) C.x C.b dX10_count_6 (by rw [c18_5]; decide) (by rw [c18_5]; decide) (by rw [c18_5]; rfl) (by decide) ?_
    refine lv_aload_n C.x C.b dX10_count_105 rfl (lv_at hl 0 rfl) ?_
    obtain ⟨g12, hf⟩ := gd_e hf
    refine r_getr C hR t_r0 fl_X10_20 (by decide) (nz_e g12) dX10_count_106 (fun tq13 => ?_)
    have tg12 := okA tq13 rfl
    refine lv_bipush (v := (50 : Int32)) C.x C.b dX10_count_109 (by decide) ?_
    obtain ⟨g14, hf⟩ := gd_e hf
    refine r_iald C hR tg12 g14 dX10_count_111 ?_
    have hf := so_e hf
    subst hf
    exact r_iret C hr hlk hR hE hS dX10_count_112
  have hf := it_f hf c18_5
  by_cases c18_6 : x1 = (6 : Int32)
  · have hf := it_t hf c18_6
    refine lv_tableIn (tgt := 113) C.x C.b dX10_count_6 (by rw [c18_6]; decide) (by rw [c18_6]; decide) (by rw [c18_6]; rfl) (by decide) ?_
    refine lv_aload_n C.x C.b dX10_count_113 rfl (lv_at hl 0 rfl) ?_
    obtain ⟨g15, hf⟩ := gd_e hf
    refine r_getr C hR t_r0 fl_X10_20 (by decide) (nz_e g15) dX10_count_114 (fun tq16 => ?_)
    have tg15 := okA tq16 rfl
    refine lv_bipush (v := (24 : Int32)) C.x C.b dX10_count_117 (by decide) ?_
    obtain ⟨q17, h_q17, hf⟩ := bd_e hf
    refine r_callS (As := [.ref (G.2.2 + (hpR h1 r0 6)), .int (24 : Int32)]) (rest := []) C hR hS mk_X10_sumOf cl_X10_305 (k_X10_sumOf tg15 h_q17) ⟨⟨Nat.le_of_ble_eq_true rfl, Nat.le_of_ble_eq_true rfl⟩, ⟨rfl, rfl⟩, Nat.le_of_ble_eq_true rfl, Nat.le_of_ble_eq_true rfl⟩ rfl hl.1 rfl (Nat.le_of_ble_eq_true rfl) dX10_count_119 (fun H locs hR hS hE1 z_q17 => ?_)
    have hf := so_e hf
    subst hf
    exact r_iret C hr hlk hR hE hS dX10_count_122
  have hf := it_f hf c18_6
  by_cases c18_7 : x1 = (7 : Int32)
  · have hf := it_t hf c18_7
    refine lv_tableIn (tgt := 123) C.x C.b dX10_count_6 (by rw [c18_7]; decide) (by rw [c18_7]; decide) (by rw [c18_7]; rfl) (by decide) ?_
    refine lv_aload_n C.x C.b dX10_count_123 rfl (lv_at hl 0 rfl) ?_
    refine r_geti C hR t_r0 fl_X10_197 rfl dX10_count_124 ?_
    have hf := so_e hf
    subst hf
    exact r_iret C hr hlk hR hE hS dX10_count_127
  have hf := it_f hf c18_7
  by_cases c18_8 : x1 = (8 : Int32)
  · have hf := it_t hf c18_8
    refine lv_tableIn (tgt := 128) C.x C.b dX10_count_6 (by rw [c18_8]; decide) (by rw [c18_8]; decide) (by rw [c18_8]; rfl) (by decide) ?_
    refine lv_aload_n C.x C.b dX10_count_128 rfl (lv_at hl 0 rfl) ?_
    refine r_geti C hR t_r0 fl_X10_422 rfl dX10_count_129 ?_
    have hf := so_e hf
    subst hf
    exact r_iret C hr hlk hR hE hS dX10_count_132
  have hf := it_f hf c18_8
  by_cases c18_9 : x1 = (9 : Int32)
  · have hf := it_t hf c18_9
    refine lv_tableIn (tgt := 133) C.x C.b dX10_count_6 (by rw [c18_9]; decide) (by rw [c18_9]; decide) (by rw [c18_9]; rfl) (by decide) ?_
    refine lv_aload_n C.x C.b dX10_count_133 rfl (lv_at hl 0 rfl) ?_
    refine r_geti C hR t_r0 fl_X10_191 rfl dX10_count_134 ?_
    have hf := so_e hf
    subst hf
    exact r_iret C hr hlk hR hE hS dX10_count_137
  have hf := it_f hf c18_9
  by_cases c18_10 : x1 = (10 : Int32)
  · have hf := it_t hf c18_10
    refine lv_tableIn (tgt := 138) C.x C.b dX10_count_6 (by rw [c18_10]; decide) (by rw [c18_10]; decide) (by rw [c18_10]; rfl) (by decide) ?_
    refine lv_aload_n C.x C.b dX10_count_138 rfl (lv_at hl 0 rfl) ?_
    refine r_geti C hR t_r0 fl_X10_110 rfl dX10_count_139 ?_
    have hf := so_e hf
    subst hf
    exact r_iret C hr hlk hR hE hS dX10_count_142
  have hf := it_f hf c18_10
  by_cases c18_11 : x1 = (11 : Int32)
  · have hf := it_t hf c18_11
    refine lv_tableIn (tgt := 143) C.x C.b dX10_count_6 (by rw [c18_11]; decide) (by rw [c18_11]; decide) (by rw [c18_11]; rfl) (by decide) ?_
    refine lv_aload_n C.x C.b dX10_count_143 rfl (lv_at hl 0 rfl) ?_
    refine r_geti C hR t_r0 fl_X10_145 rfl dX10_count_144 ?_
    have hf := so_e hf
    subst hf
    exact r_iret C hr hlk hR hE hS dX10_count_147
  have hf := it_f hf c18_11
  refine lv_tableOut (tgt := 148) C.x C.b dX10_count_6 (tb_out 12 (by decide) (fun j hj => match j, hj with | 0, _ => fun q => c18_0 (q.trans (by decide)) | 1, _ => fun q => c18_1 (q.trans (by decide)) | 2, _ => fun q => c18_2 (q.trans (by decide)) | 3, _ => fun q => c18_3 (q.trans (by decide)) | 4, _ => fun q => c18_4 (q.trans (by decide)) | 5, _ => fun q => c18_5 (q.trans (by decide)) | 6, _ => fun q => c18_6 (q.trans (by decide)) | 7, _ => fun q => c18_7 (q.trans (by decide)) | 8, _ => fun q => c18_8 (q.trans (by decide)) | 9, _ => fun q => c18_9 (q.trans (by decide)) | 10, _ => fun q => c18_10 (q.trans (by decide)) | 11, _ => fun q => c18_11 (q.trans (by decide)) | n + 12, hn => absurd hn (by omega))) (by decide) ?_
  refine lv_bipush (v := (-100 : Int32)) C.x C.b dX10_count_148 (by decide) ?_
  have hf := so_e hf
  subst hf
  exact r_iret C hr hlk hR hE hS dX10_count_150

def rm_X10_row : Room := { frames := 1, cells := 0, slots := 0, locals := 25 }
set_option maxRecDepth 100000 in
set_option maxHeartbeats 4000000 in
theorem k_X10_row {G : Gt} {l : Launch}  {h : Hp} {r0 : Nat} {x1 : Int32} {out : (Int64 × Hp)} (t_r0 : hpT h r0 = (1, 10))  (hf : f_X10_row  h r0 x1 = some out) : Mt G l yX10_row cX10_row 2 (some .long) rm_X10_row [.ref (G.2.2 + r0), .int x1] h (some (.long out.1)) out.2 0 0 0 := by
  refine r_met (by decide +kernel) (Nat.le_of_ble_eq_true rfl) ?_
  intro p e s m args below meth c ls C hr hlk hnm hR hS hl
  have hE : Ext h h := Ext.rf
  have hl : lv_has ls 2 [(0, .ref (G.2.2 + r0)), (1, .int x1)] := hl
  rw [f_X10_row] at hf
  refine lv_aload_n C.x C.b dX10_row_0 rfl (lv_at hl 0 rfl) ?_
  refine lv_iconst (v := (0 : Int32)) C.x C.b dX10_row_1 (by decide) ?_
  refine r_puti C hR hS t_r0 fl_X10_103 fp_X10_10_0 rfl dX10_row_2 (fun H locs hR hS => ?_)
  obtain ⟨h1, e_h1⟩ : ∃ y, y = upI h r0 0 (0 : Int32) := ⟨_, rfl⟩
  rw [← e_h1] at hR
  have hf := lt_e hf e_h1
  have hE := eI e_h1 hE
  have t_r0 := tI e_h1 t_r0
  refine lv_iload_n C.x C.b dX10_row_5 rfl (lv_at hl 1 rfl) ?_
  refine lv_i2l C.x C.b dX10_row_6 rfl ?_
  refine lv_lconst (v := (0 : Int64)) C.x C.b dX10_row_7 (by decide) ?_
  refine lv_aload_n C.x C.b dX10_row_8 rfl (lv_at hl 0 rfl) ?_
  refine r_geti C hR t_r0 fl_X10_110 rfl dX10_row_9 ?_
  refine lv_iconst (v := (1 : Int32)) C.x C.b dX10_row_12 (by decide) ?_
  refine lv_isub C.x C.b dX10_row_13 ?_
  refine lv_i2l C.x C.b dX10_row_14 rfl ?_
  obtain ⟨q2, h_q2, hf⟩ := bd_e hf
  refine r_callS (As := [.long (x1.toInt64), .long (0 : Int64), .long (((hpI h1 r0 1) - (1 : Int32)).toInt64)]) (rest := []) C hR hS mk_X10_in cl_X10_117 (k_X10_in h_q2) ⟨⟨Nat.le_of_ble_eq_true rfl, Nat.le_of_ble_eq_true rfl⟩, ⟨rfl, rfl⟩, Nat.le_of_ble_eq_true rfl, Nat.le_of_ble_eq_true rfl⟩ rfl hl.1 rfl (Nat.le_of_ble_eq_true rfl) dX10_row_15 (fun H locs hR hS hE1 z_q2 => ?_)
  have z_q2 := z_q2 _ rfl
  refine lv_if_ne (tgt := 28) C.x C.b dX10_row_18 (by decide) (fun c3 => ?_) (fun c3 => ?_)
  · have hf := it_f hf c3
    refine lv_aload_n C.x C.b dX10_row_28 rfl (lv_at hl 0 rfl) ?_
    obtain ⟨g4, hf⟩ := gd_e hf
    refine r_getr C hR t_r0 fl_X10_9 (by decide) (nz_e g4) dX10_row_29 (fun tq5 => ?_)
    have tg4 := okA tq5 rfl
    refine lv_iload_n C.x C.b dX10_row_32 rfl (lv_at hl 1 rfl) ?_
    obtain ⟨g6, hf⟩ := gd_e hf
    refine r_lald C hR tg4 g6 dX10_row_33 ?_
    have hf := so_e hf
    subst hf
    exact r_lret C hr hlk hR hE hS dX10_row_34
  · have hf := it_t hf c3
    refine lv_aload_n C.x C.b dX10_row_21 rfl (lv_at hl 0 rfl) ?_
    refine lv_iconst (v := (1 : Int32)) C.x C.b dX10_row_22 (by decide) ?_
    refine r_puti C hR hS t_r0 fl_X10_103 fp_X10_10_0 rfl dX10_row_23 (fun H locs hR hS => ?_)
    obtain ⟨h7, e_h7⟩ : ∃ y, y = upI h1 r0 0 (1 : Int32) := ⟨_, rfl⟩
    rw [← e_h7] at hR
    have hf := lt_e hf e_h7
    have hE := eI e_h7 hE
    have t_r0 := tI e_h7 t_r0
    refine lv_lconst (v := (0 : Int64)) C.x C.b dX10_row_26 (by decide) ?_
    have hf := so_e hf
    subst hf
    exact r_lret C hr hlk hR hE hS dX10_row_27

