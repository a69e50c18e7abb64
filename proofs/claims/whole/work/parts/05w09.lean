def rm_X9_count : Room := { frames := 2, cells := 0, slots := 0, locals := 42 }
set_option maxRecDepth 100000 in
set_option maxHeartbeats 4000000 in
theorem k_X9_count {G : Gt} {l : Launch} {h : Hp} {r0 : Nat} {x1 : Int32} {out : Int32} (t_r0 : hpT h r0 = (1, 9))  (hf : f_X9_count h r0 x1 = some out) : Mt G l yX9_count cX9_count 2 (some .int) rm_X9_count [.ref (G.2.2 + r0), .int x1] h (some (.int out)) h 0 0 0 := by
  refine r_met (by decide +kernel) (Nat.le_of_ble_eq_true rfl) ?_
  intro p e s m args below meth c ls C hr hlk hnm hR hS hl
  have hl : lv_has ls 2 [(0, .ref (G.2.2 + r0)), (1, .int x1)] := hl
  rw [f_X9_count] at hf
  refine lv_iload_n C.x C.b dX9_count_0 rfl (lv_at hl 1 rfl) ?_
  by_cases c27_0 : x1 = (0 : Int32)
  · have hf := it_t hf c27_0
    refine lv_tableIn (tgt := 64) C.x C.b dX9_count_1 (by rw [c27_0]; decide) (by rw [c27_0]; decide) (by rw [c27_0]; rfl) (by decide) ?_
    refine lv_aload_n C.x C.b dX9_count_64 rfl (lv_at hl 0 rfl) ?_
    obtain ⟨g1, hf⟩ := gd_e hf
    refine r_getr C hR t_r0 fl_X9_26 (by decide) (nz_e g1) dX9_count_65 (fun tq2 => ?_)
    have tg1 := okO tq2 rfl
    refine r_geti C hR tg1 fl_X9_326 rfl dX9_count_68 ?_
    have hf := so_e hf
    subst hf
    exact r_iret C hr hlk hR Ext.rf hS dX9_count_71
  have hf := it_f hf c27_0
  by_cases c27_1 : x1 = (1 : Int32)
  · have hf := it_t hf c27_1
    refine lv_tableIn (tgt := 72) C.x C.b dX9_count_1 (by rw [c27_1]; decide) (by rw [c27_1]; decide) (by rw [c27_1]; rfl) (by decide) ?_
    refine lv_aload_n C.x C.b dX9_count_72 rfl (lv_at hl 0 rfl) ?_
    obtain ⟨g3, hf⟩ := gd_e hf
    refine r_getr C hR t_r0 fl_X9_26 (by decide) (nz_e g3) dX9_count_73 (fun tq4 => ?_)
    have tg3 := okO tq4 rfl
    refine r_geti C hR tg3 fl_X9_329 rfl dX9_count_76 ?_
    have hf := so_e hf
    subst hf
    exact r_iret C hr hlk hR Ext.rf hS dX9_count_79
  have hf := it_f hf c27_1
  by_cases c27_2 : x1 = (2 : Int32)
  · have hf := it_t hf c27_2
    refine lv_tableIn (tgt := 80) C.x C.b dX9_count_1 (by rw [c27_2]; decide) (by rw [c27_2]; decide) (by rw [c27_2]; rfl) (by decide) ?_
    refine lv_aload_n C.x C.b dX9_count_80 rfl (lv_at hl 0 rfl) ?_
    obtain ⟨g5, hf⟩ := gd_e hf
    refine r_getr C hR t_r0 fl_X9_26 (by decide) (nz_e g5) dX9_count_81 (fun tq6 => ?_)
    have tg5 := okO tq6 rfl
    refine r_geti C hR tg5 fl_X9_146 rfl dX9_count_84 ?_
    have hf := so_e hf
    subst hf
    exact r_iret C hr hlk hR Ext.rf hS dX9_count_87
  have hf := it_f hf c27_2
  by_cases c27_3 : x1 = (3 : Int32)
  · have hf := it_t hf c27_3
    refine lv_tableIn (tgt := 88) C.x C.b dX9_count_1 (by rw [c27_3]; decide) (by rw [c27_3]; decide) (by rw [c27_3]; rfl) (by decide) ?_
    refine lv_aload_n C.x C.b dX9_count_88 rfl (lv_at hl 0 rfl) ?_
    obtain ⟨g7, hf⟩ := gd_e hf
    refine r_getr C hR t_r0 fl_X9_26 (by decide) (nz_e g7) dX9_count_89 (fun tq8 => ?_)
    have tg7 := okO tq8 rfl
    obtain ⟨q9, h_q9, hf⟩ := bd_e hf
    refine r_callV (As := []) (rest := []) C hR hS tg7 rfl mk_X0_onCount cl_X9_226 (k_X0_onCount tg7 h_q9) ⟨⟨Nat.le_of_ble_eq_true rfl, Nat.le_of_ble_eq_true rfl⟩, ⟨rfl, rfl⟩, Nat.le_of_ble_eq_true rfl, Nat.le_of_ble_eq_true rfl⟩ rfl hl.1 rfl (Nat.le_of_ble_eq_true rfl) dX9_count_92 (fun H locs hR hS hE1 z_q9 => ?_)
    have hf := so_e hf
    subst hf
    exact r_iret C hr hlk hR Ext.rf hS dX9_count_95
  have hf := it_f hf c27_3
  by_cases c27_4 : x1 = (4 : Int32)
  · have hf := it_t hf c27_4
    refine lv_tableIn (tgt := 96) C.x C.b dX9_count_1 (by rw [c27_4]; decide) (by rw [c27_4]; decide) (by rw [c27_4]; rfl) (by decide) ?_
    refine lv_aload_n C.x C.b dX9_count_96 rfl (lv_at hl 0 rfl) ?_
    obtain ⟨g10, hf⟩ := gd_e hf
    refine r_getr C hR t_r0 fl_X9_26 (by decide) (nz_e g10) dX9_count_97 (fun tq11 => ?_)
    have tg10 := okO tq11 rfl
    refine r_geti C hR tg10 fl_X9_254 rfl dX9_count_100 ?_
    have hf := so_e hf
    subst hf
    exact r_iret C hr hlk hR Ext.rf hS dX9_count_103
  have hf := it_f hf c27_4
  by_cases c27_5 : x1 = (5 : Int32)
  · have hf := it_t hf c27_5
    refine lv_tableIn (tgt := 104) C.x C.b dX9_count_1 (by rw [c27_5]; decide) (by rw [c27_5]; decide) (by rw [c27_5]; rfl) (by decide) ?_
    refine lv_aload_n C.x C.b dX9_count_104 rfl (lv_at hl 0 rfl) ?_
    obtain ⟨g12, hf⟩ := gd_e hf
    refine r_getr C hR t_r0 fl_X9_26 (by decide) (nz_e g12) dX9_count_105 (fun tq13 => ?_)
    have tg12 := okO tq13 rfl
    refine r_geti C hR tg12 fl_X9_431 rfl dX9_count_108 ?_
    have hf := so_e hf
    subst hf
    exact r_iret C hr hlk hR Ext.rf hS dX9_count_111
  have hf := it_f hf c27_5
  by_cases c27_6 : x1 = (6 : Int32)
  · have hf := it_t hf c27_6
    refine lv_tableIn (tgt := 112) C.x C.b dX9_count_1 (by rw [c27_6]; decide) (by rw [c27_6]; decide) (by rw [c27_6]; rfl) (by decide) ?_
    refine lv_aload_n C.x C.b dX9_count_112 rfl (lv_at hl 0 rfl) ?_
    obtain ⟨g14, hf⟩ := gd_e hf
    refine r_getr C hR t_r0 fl_X9_26 (by decide) (nz_e g14) dX9_count_113 (fun tq15 => ?_)
    have tg14 := okO tq15 rfl
    obtain ⟨q16, h_q16, hf⟩ := bd_e hf
    refine r_callV (As := []) (rest := []) C hR hS tg14 rfl mk_X0_strengthOfAll cl_X9_207 (k_X0_strengthOfAll tg14 h_q16) ⟨⟨Nat.le_of_ble_eq_true rfl, Nat.le_of_ble_eq_true rfl⟩, ⟨rfl, rfl⟩, Nat.le_of_ble_eq_true rfl, Nat.le_of_ble_eq_true rfl⟩ rfl hl.1 rfl (Nat.le_of_ble_eq_true rfl) dX9_count_116 (fun H locs hR hS hE1 z_q16 => ?_)
    have hf := so_e hf
    subst hf
    exact r_iret C hr hlk hR Ext.rf hS dX9_count_119
  have hf := it_f hf c27_6
  by_cases c27_7 : x1 = (7 : Int32)
  · have hf := it_t hf c27_7
    refine lv_tableIn (tgt := 120) C.x C.b dX9_count_1 (by rw [c27_7]; decide) (by rw [c27_7]; decide) (by rw [c27_7]; rfl) (by decide) ?_
    refine lv_aload_n C.x C.b dX9_count_120 rfl (lv_at hl 0 rfl) ?_
    obtain ⟨g17, hf⟩ := gd_e hf
    refine r_getr C hR t_r0 fl_X9_69 (by decide) (nz_e g17) dX9_count_121 (fun tq18 => ?_)
    have tg17 := okO tq18 rfl
    refine r_geti C hR tg17 fl_X9_355 rfl dX9_count_124 ?_
    have hf := so_e hf
    subst hf
    exact r_iret C hr hlk hR Ext.rf hS dX9_count_127
  have hf := it_f hf c27_7
  by_cases c27_8 : x1 = (8 : Int32)
  · have hf := it_t hf c27_8
    refine lv_tableIn (tgt := 128) C.x C.b dX9_count_1 (by rw [c27_8]; decide) (by rw [c27_8]; decide) (by rw [c27_8]; rfl) (by decide) ?_
    refine lv_aload_n C.x C.b dX9_count_128 rfl (lv_at hl 0 rfl) ?_
    obtain ⟨g19, hf⟩ := gd_e hf
    refine r_getr C hR t_r0 fl_X9_73 (by decide) (nz_e g19) dX9_count_129 (fun tq20 => ?_)
    have tg19 := okO tq20 rfl
    refine r_geti C hR tg19 fl_X9_355 rfl dX9_count_132 ?_
    have hf := so_e hf
    subst hf
    exact r_iret C hr hlk hR Ext.rf hS dX9_count_135
  have hf := it_f hf c27_8
  by_cases c27_9 : x1 = (9 : Int32)
  · have hf := it_t hf c27_9
    refine lv_tableIn (tgt := 136) C.x C.b dX9_count_1 (by rw [c27_9]; decide) (by rw [c27_9]; decide) (by rw [c27_9]; rfl) (by decide) ?_
    refine lv_aload_n C.x C.b dX9_count_136 rfl (lv_at hl 0 rfl) ?_
    obtain ⟨g21, hf⟩ := gd_e hf
    refine r_getr C hR t_r0 fl_X9_39 (by decide) (nz_e g21) dX9_count_137 (fun tq22 => ?_)
    have tg21 := okO tq22 rfl
    refine r_geti C hR tg21 fl_X9_263 rfl dX9_count_140 ?_
    have hf := so_e hf
    subst hf
    exact r_iret C hr hlk hR Ext.rf hS dX9_count_143
  have hf := it_f hf c27_9
  by_cases c27_10 : x1 = (10 : Int32)
  · have hf := it_t hf c27_10
    refine lv_tableIn (tgt := 144) C.x C.b dX9_count_1 (by rw [c27_10]; decide) (by rw [c27_10]; decide) (by rw [c27_10]; rfl) (by decide) ?_
    refine lv_aload_n C.x C.b dX9_count_144 rfl (lv_at hl 0 rfl) ?_
    obtain ⟨g23, hf⟩ := gd_e hf
    refine r_getr C hR t_r0 fl_X9_19 (by decide) (nz_e g23) dX9_count_145 (fun tq24 => ?_)
    have tg23 := okO tq24 rfl
    refine r_geti C hR tg23 fl_X9_434 rfl dX9_count_148 ?_
    have hf := so_e hf
    subst hf
    exact r_iret C hr hlk hR Ext.rf hS dX9_count_151
  have hf := it_f hf c27_10
  by_cases c27_11 : x1 = (11 : Int32)
  · have hf := it_t hf c27_11
    refine lv_tableIn (tgt := 152) C.x C.b dX9_count_1 (by rw [c27_11]; decide) (by rw [c27_11]; decide) (by rw [c27_11]; rfl) (by decide) ?_
    refine lv_aload_n C.x C.b dX9_count_152 rfl (lv_at hl 0 rfl) ?_
    obtain ⟨g25, hf⟩ := gd_e hf
    refine r_getr C hR t_r0 fl_X9_10 (by decide) (nz_e g25) dX9_count_153 (fun tq26 => ?_)
    have tg25 := okO tq26 rfl
    refine r_geti C hR tg25 fl_X9_93 rfl dX9_count_156 ?_
    have hf := so_e hf
    subst hf
    exact r_iret C hr hlk hR Ext.rf hS dX9_count_159
  have hf := it_f hf c27_11
  refine lv_tableOut (tgt := 160) C.x C.b dX9_count_1 (tb_out 12 (by decide) (fun j hj => match j, hj with | 0, _ => fun q => c27_0 (q.trans (by decide)) | 1, _ => fun q => c27_1 (q.trans (by decide)) | 2, _ => fun q => c27_2 (q.trans (by decide)) | 3, _ => fun q => c27_3 (q.trans (by decide)) | 4, _ => fun q => c27_4 (q.trans (by decide)) | 5, _ => fun q => c27_5 (q.trans (by decide)) | 6, _ => fun q => c27_6 (q.trans (by decide)) | 7, _ => fun q => c27_7 (q.trans (by decide)) | 8, _ => fun q => c27_8 (q.trans (by decide)) | 9, _ => fun q => c27_9 (q.trans (by decide)) | 10, _ => fun q => c27_10 (q.trans (by decide)) | 11, _ => fun q => c27_11 (q.trans (by decide)) | n + 12, hn => absurd hn (by omega))) (by decide) ?_
  refine lv_bipush (v := (-100 : Int32)) C.x C.b dX9_count_160 (by decide) ?_
  have hf := so_e hf
  subst hf
  exact r_iret C hr hlk hR Ext.rf hS dX9_count_162

def rm_X10_thrown : Room := { frames := 0, cells := 0, slots := 0, locals := 0 }
set_option maxRecDepth 100000 in
set_option maxHeartbeats 4000000 in
theorem k_X10_thrown {G : Gt} {l : Launch} {h : Hp} {r0 : Nat} {out : Int32} (t_r0 : hpT h r0 = (1, 10))  (hf : f_X10_thrown h r0 = some out) : Mt G l yX10_thrown cX10_thrown 1 (some .int) rm_X10_thrown [.ref (G.2.2 + r0)] h (some (.int out)) h 0 0 0 := by
  refine r_met (by decide +kernel) (Nat.le_of_ble_eq_true rfl) ?_
  intro p e s m args below meth c ls C hr hlk hnm hR hS hl
  have hl : lv_has ls 1 [(0, .ref (G.2.2 + r0))] := hl
  rw [f_X10_thrown] at hf
  refine lv_aload_n C.x C.b dX10_thrown_0 rfl (lv_at hl 0 rfl) ?_
  refine r_geti C hR t_r0 fl_X10_103 rfl dX10_thrown_1 ?_
  have hf := so_e hf
  subst hf
  exact r_iret C hr hlk hR Ext.rf hS dX10_thrown_4

def rm_X10_refuse : Room := { frames := 0, cells := 0, slots := 0, locals := 0 }
set_option maxRecDepth 100000 in
set_option maxHeartbeats 4000000 in
theorem k_X10_refuse {G : Gt} {l : Launch} {h : Hp} {r0 : Nat} {out : (Int32 × Hp)} (t_r0 : hpT h r0 = (1, 10))  (hf : f_X10_refuse h r0 = some out) : Mt G l yX10_refuse cX10_refuse 1 (some .int) rm_X10_refuse [.ref (G.2.2 + r0)] h (some (.int out.1)) out.2 0 0 0 := by
  refine r_met (by decide +kernel) (Nat.le_of_ble_eq_true rfl) ?_
  intro p e s m args below meth c ls C hr hlk hnm hR hS hl
  have hE : Ext h h := Ext.rf
  have hl : lv_has ls 1 [(0, .ref (G.2.2 + r0))] := hl
  rw [f_X10_refuse] at hf
  refine lv_aload_n C.x C.b dX10_refuse_0 rfl (lv_at hl 0 rfl) ?_
  refine lv_iconst (v := (1 : Int32)) C.x C.b dX10_refuse_1 (by decide) ?_
  refine r_puti C hR hS t_r0 fl_X10_103 fp_X10_10_0 rfl dX10_refuse_2 (fun H locs hR hS => ?_)
  obtain ⟨h1, e_h1⟩ : ∃ y, y = upI h r0 0 (1 : Int32) := ⟨_, rfl⟩
  rw [← e_h1] at hR
  have hf := lt_e hf e_h1
  have hE := eI e_h1 hE
  have t_r0 := tI e_h1 t_r0
  refine lv_iconst (v := (0 : Int32)) C.x C.b dX10_refuse_5 (by decide) ?_
  have hf := so_e hf
  subst hf
  exact r_iret C hr hlk hR hE hS dX10_refuse_6

def rm_X10_in : Room := { frames := 0, cells := 0, slots := 0, locals := 0 }
set_option maxRecDepth 100000 in
set_option maxHeartbeats 4000000 in
theorem k_X10_in {G : Gt} {l : Launch} {h : Hp} {y0 : Int64} {y2 : Int64} {y4 : Int64} {out : Int32}   (hf : f_X10_in h y0 y2 y4 = some out) : Mt G l yX10_in cX10_in 6 (some .boolean) rm_X10_in [.long y0, .long y2, .long y4] h (some (.int out)) h 1 0 0 := by
  refine r_met (by decide +kernel) (Nat.le_of_ble_eq_true rfl) ?_
  intro p e s m args below meth c ls C hr hlk hnm hR hS hl
  have hl : lv_has ls 6 [(0, .long y0), (2, .long y2), (4, .long y4)] := hl
  rw [f_X10_in] at hf
  refine lv_lload_n C.x C.b dX10_in_0 rfl (lv_at hl 0 rfl) ?_
  refine lv_lload_n C.x C.b dX10_in_1 rfl (lv_at hl 1 rfl) ?_
  refine W.lcmp C.x C.b dX10_in_2 ?_
  refine lv_if_lt (tgt := 17) C.x C.b dX10_in_3 (by decide) (fun c1 => ?_) (fun c1 => ?_)
  · have hf := it_t hf c1
    refine lv_iconst (v := (0 : Int32)) C.x C.b dX10_in_17 (by decide) ?_
    have hf := so_e hf
    subst hf
    exact r_zret C hr hlk hR Ext.rf hS z_0 dX10_in_18
  · have hf := it_f hf c1
    refine lv_lload_n C.x C.b dX10_in_6 rfl (lv_at hl 0 rfl) ?_
    refine lv_lload C.x C.b dX10_in_7 (lv_at hl 2 rfl) ?_
    refine W.lcmp C.x C.b dX10_in_9 ?_
    refine lv_if_gt (tgt := 17) C.x C.b dX10_in_10 (by decide) (fun c2 => ?_) (fun c2 => ?_)
    · have hf := it_t hf c2
      refine lv_iconst (v := (0 : Int32)) C.x C.b dX10_in_17 (by decide) ?_
      have hf := so_e hf
      subst hf
      exact r_zret C hr hlk hR Ext.rf hS z_0 dX10_in_18
    · have hf := it_f hf c2
      refine lv_iconst (v := (1 : Int32)) C.x C.b dX10_in_13 (by decide) ?_
      refine lv_goto (tgt := 18) C.x C.b dX10_in_14 (by decide) ?_
      have hf := so_e hf
      subst hf
      exact r_zret C hr hlk hR Ext.rf hS z_1 dX10_in_18

def rm_X10_has : Room := { frames := 0, cells := 0, slots := 0, locals := 0 }
set_option maxRecDepth 100000 in
set_option maxHeartbeats 4000000 in
theorem k_X10_has {G : Gt} {l : Launch} {h : Hp} {y0 : Int64} {x2 : Int32} {out : Int32}   (hf : f_X10_has h y0 x2 = some out) : Mt G l yX10_has cX10_has 3 (some .boolean) rm_X10_has [.long y0, .int x2] h (some (.int out)) h 1 0 0 := by
  refine r_met (by decide +kernel) (Nat.le_of_ble_eq_true rfl) ?_
  intro p e s m args below meth c ls C hr hlk hnm hR hS hl
  have hl : lv_has ls 3 [(0, .long y0), (2, .int x2)] := hl
  rw [f_X10_has] at hf
  refine lv_lload_n C.x C.b dX10_has_0 rfl (lv_at hl 0 rfl) ?_
  refine lv_iload_n C.x C.b dX10_has_1 rfl (lv_at hl 1 rfl) ?_
  refine lv_lshr C.x C.b dX10_has_2 rfl ?_
  refine lv_topl (fun v1 e_v1 => ?_)
  have hf := lt_e hf e_v1
  refine lv_lconst (v := (1 : Int64)) C.x C.b dX10_has_3 (by decide) ?_
  refine lv_land C.x C.b dX10_has_4 ?_
  refine lv_lconst (v := (1 : Int64)) C.x C.b dX10_has_5 (by decide) ?_
  refine W.lcmp C.x C.b dX10_has_6 ?_
  refine lv_if_ne (tgt := 14) C.x C.b dX10_has_7 (by decide) (fun c2 => ?_) (fun c2 => ?_)
  · have hf := it_f hf c2
    refine lv_iconst (v := (0 : Int32)) C.x C.b dX10_has_14 (by decide) ?_
    have hf := so_e hf
    subst hf
    exact r_zret C hr hlk hR Ext.rf hS z_0 dX10_has_15
  · have hf := it_t hf c2
    refine lv_iconst (v := (1 : Int32)) C.x C.b dX10_has_10 (by decide) ?_
    refine lv_goto (tgt := 15) C.x C.b dX10_has_11 (by decide) ?_
    have hf := so_e hf
    subst hf
    exact r_zret C hr hlk hR Ext.rf hS z_1 dX10_has_15

def rm_X10_flag : Room := { frames := 0, cells := 0, slots := 0, locals := 0 }
set_option maxRecDepth 100000 in
set_option maxHeartbeats 4000000 in
theorem k_X10_flag {G : Gt} {l : Launch} {h : Hp} {x0 : Int32} {out : Int32}   (hf : f_X10_flag h x0 = some out) : Mt G l yX10_flag cX10_flag 1 (some .int) rm_X10_flag [.int x0] h (some (.int out)) h 0 0 0 := by
  refine r_met (by decide +kernel) (Nat.le_of_ble_eq_true rfl) ?_
  intro p e s m args below meth c ls C hr hlk hnm hR hS hl
  have hl : lv_has ls 1 [(0, .int x0)] := hl
  rw [f_X10_flag] at hf
  refine lv_iload_n C.x C.b dX10_flag_0 rfl (lv_at hl 0 rfl) ?_
  refine lv_if_eq (tgt := 8) C.x C.b dX10_flag_1 (by decide) (fun c1 => ?_) (fun c1 => ?_)
  · have hf := it_t hf c1
    refine lv_iconst (v := (0 : Int32)) C.x C.b dX10_flag_8 (by decide) ?_
    have hf := so_e hf
    subst hf
    exact r_iret C hr hlk hR Ext.rf hS dX10_flag_9
  · have hf := it_f hf c1
    refine lv_iconst (v := (1 : Int32)) C.x C.b dX10_flag_4 (by decide) ?_
    refine lv_goto (tgt := 9) C.x C.b dX10_flag_5 (by decide) ?_
    have hf := so_e hf
    subst hf
    exact r_iret C hr hlk hR Ext.rf hS dX10_flag_9

def rm_X10_enters : Room := { frames := 0, cells := 0, slots := 0, locals := 0 }
set_option maxRecDepth 100000 in
set_option maxHeartbeats 4000000 in
theorem k_X10_enters {G : Gt} {l : Launch} {h : Hp} {r0 : Nat} {y1 : Int64} {out : Hp} (t_r0 : hpT h r0 = (1, 10))  (hf : f_X10_enters h r0 y1 = some out) : Mt G l yX10_enters cX10_enters 3 (none) rm_X10_enters [.ref (G.2.2 + r0), .long y1] h (none) out 0 0 0 := by
  refine r_met (by decide +kernel) (Nat.le_of_ble_eq_true rfl) ?_
  intro p e s m args below meth c ls C hr hlk hnm hR hS hl
  have hE : Ext h h := Ext.rf
  have hl : lv_has ls 3 [(0, .ref (G.2.2 + r0)), (1, .long y1)] := hl
  rw [f_X10_enters] at hf
  refine lv_aload_n C.x C.b dX10_enters_0 rfl (lv_at hl 0 rfl) ?_
  obtain ⟨g1, hf⟩ := gd_e hf
  refine r_getr C hR t_r0 fl_X10_9 (by decide) (nz_e g1) dX10_enters_1 (fun tq2 => ?_)
  have tg1 := okA tq2 rfl
  refine lv_aload_n C.x C.b dX10_enters_4 rfl (lv_at hl 0 rfl) ?_
  refine r_geti C hR t_r0 fl_X10_110 rfl dX10_enters_5 ?_
  refine lv_lload_n C.x C.b dX10_enters_8 rfl (lv_at hl 1 rfl) ?_
  obtain ⟨g3, hf⟩ := gd_e hf
  refine r_last C hR hS tg1 g3 dX10_enters_9 (fun H locs hR hS => ?_)
  obtain ⟨h4, e_h4⟩ : ∃ y, y = upL h (hpR h r0 2) (ix (hpI h r0 1)) y1 := ⟨_, rfl⟩
  rw [← e_h4] at hR
  have hf := lt_e hf e_h4
  have hE := eL e_h4 hE
  have t_r0 := tL e_h4 t_r0
  refine lv_aload_n C.x C.b dX10_enters_10 rfl (lv_at hl 0 rfl) ?_
  refine lv_dup C.x C.b dX10_enters_11 rfl ?_
  refine r_geti C hR t_r0 fl_X10_110 rfl dX10_enters_12 ?_
  refine lv_iconst (v := (1 : Int32)) C.x C.b dX10_enters_15 (by decide) ?_
  refine lv_iadd C.x C.b dX10_enters_16 ?_
  refine r_puti C hR hS t_r0 fl_X10_110 fp_X10_10_1 rfl dX10_enters_17 (fun H locs hR hS => ?_)
  obtain ⟨h5, e_h5⟩ : ∃ y, y = upI h4 r0 1 ((hpI h4 r0 1) + (1 : Int32)) := ⟨_, rfl⟩
  rw [← e_h5] at hR
  have hf := lt_e hf e_h5
  have hE := eI e_h5 hE
  have t_r0 := tI e_h5 t_r0
  have hf := so_e hf
  subst hf
  exact r_vret C hr hlk hR hE hS dX10_enters_20

def rm_X10_cells : Room := { frames := 0, cells := 0, slots := 0, locals := 0 }
set_option maxRecDepth 100000 in
set_option maxHeartbeats 4000000 in
theorem k_X10_cells {G : Gt} {l : Launch} {h : Hp} {r0 : Nat} {out : Int32} (t_r0 : hpT h r0 = (1, 10))  (hf : f_X10_cells h r0 = some out) : Mt G l yX10_cells cX10_cells 1 (some .int) rm_X10_cells [.ref (G.2.2 + r0)] h (some (.int out)) h 0 0 0 := by
  refine r_met (by decide +kernel) (Nat.le_of_ble_eq_true rfl) ?_
  intro p e s m args below meth c ls C hr hlk hnm hR hS hl
  have hl : lv_has ls 1 [(0, .ref (G.2.2 + r0))] := hl
  rw [f_X10_cells] at hf
  refine lv_aload_n C.x C.b dX10_cells_0 rfl (lv_at hl 0 rfl) ?_
  refine r_geti C hR t_r0 fl_X10_13 rfl dX10_cells_1 ?_
  refine lv_aload_n C.x C.b dX10_cells_4 rfl (lv_at hl 0 rfl) ?_
  refine r_geti C hR t_r0 fl_X10_17 rfl dX10_cells_5 ?_
  refine lv_imul C.x C.b dX10_cells_8 ?_
  have hf := so_e hf
  subst hf
  exact r_iret C hr hlk hR Ext.rf hS dX10_cells_9

def rm_X10_isCell : Room := { frames := 1, cells := 0, slots := 0, locals := 25 }
set_option maxRecDepth 100000 in
set_option maxHeartbeats 4000000 in
theorem k_X10_isCell {G : Gt} {l : Launch} {h : Hp} {r0 : Nat} {x1 : Int32} {out : Int32} (t_r0 : hpT h r0 = (1, 10))  (hf : f_X10_isCell h r0 x1 = some out) : Mt G l yX10_isCell cX10_isCell 2 (some .boolean) rm_X10_isCell [.ref (G.2.2 + r0), .int x1] h (some (.int out)) h 1 0 0 := by
  refine r_met (by decide +kernel) (Nat.le_of_ble_eq_true rfl) ?_
  intro p e s m args below meth c ls C hr hlk hnm hR hS hl
  have hl : lv_has ls 2 [(0, .ref (G.2.2 + r0)), (1, .int x1)] := hl
  rw [f_X10_isCell] at hf
  refine lv_iload_n C.x C.b dX10_isCell_0 rfl (lv_at hl 1 rfl) ?_
  refine lv_i2l C.x C.b dX10_isCell_1 rfl ?_
  refine lv_lconst (v := (0 : Int64)) C.x C.b dX10_isCell_2 (by decide) ?_
  refine lv_aload_n C.x C.b dX10_isCell_3 rfl (lv_at hl 0 rfl) ?_
  obtain ⟨q1, h_q1, hf⟩ := bd_e hf
  refine r_callV (As := []) (rest := [.long (0 : Int64), .long (x1.toInt64)]) C hR hS t_r0 rfl mk_X10_cells cl_X10_113 (k_X10_cells t_r0 h_q1) ⟨⟨Nat.le_of_ble_eq_true rfl, Nat.le_of_ble_eq_true rfl⟩, ⟨rfl, rfl⟩, Nat.le_of_ble_eq_true rfl, Nat.le_of_ble_eq_true rfl⟩ rfl hl.1 rfl (Nat.le_of_ble_eq_true rfl) dX10_isCell_4 (fun H locs hR hS hE1 z_q1 => ?_)
  refine lv_iconst (v := (1 : Int32)) C.x C.b dX10_isCell_7 (by decide) ?_
  refine lv_isub C.x C.b dX10_isCell_8 ?_
  refine lv_i2l C.x C.b dX10_isCell_9 rfl ?_
  obtain ⟨q2, h_q2, hf⟩ := bd_e hf
  refine r_callS (As := [.long (x1.toInt64), .long (0 : Int64), .long ((q1 - (1 : Int32)).toInt64)]) (rest := []) C hR hS mk_X10_in cl_X10_117 (k_X10_in h_q2) ⟨⟨Nat.le_of_ble_eq_true rfl, Nat.le_of_ble_eq_true rfl⟩, ⟨rfl, rfl⟩, Nat.le_of_ble_eq_true rfl, Nat.le_of_ble_eq_true rfl⟩ rfl hl.1 rfl (Nat.le_of_ble_eq_true rfl) dX10_isCell_10 (fun H locs hR hS hE1 z_q2 => ?_)
  have z_q2 := z_q2 _ rfl
  have hf := so_e hf
  subst hf
  exact r_zret C hr hlk hR Ext.rf hS z_q2 dX10_isCell_13

def rm_X10_isCamp : Room := { frames := 1, cells := 0, slots := 0, locals := 25 }
set_option maxRecDepth 100000 in
set_option maxHeartbeats 4000000 in
theorem k_X10_isCamp {G : Gt} {l : Launch} {h : Hp} {r0 : Nat} {x1 : Int32} {out : Int32} (t_r0 : hpT h r0 = (1, 10))  (hf : f_X10_isCamp h r0 x1 = some out) : Mt G l yX10_isCamp cX10_isCamp 2 (some .boolean) rm_X10_isCamp [.ref (G.2.2 + r0), .int x1] h (some (.int out)) h 1 0 0 := by
  refine r_met (by decide +kernel) (Nat.le_of_ble_eq_true rfl) ?_
  intro p e s m args below meth c ls C hr hlk hnm hR hS hl
  have hl : lv_has ls 2 [(0, .ref (G.2.2 + r0)), (1, .int x1)] := hl
  rw [f_X10_isCamp] at hf
  refine lv_iload_n C.x C.b dX10_isCamp_0 rfl (lv_at hl 1 rfl) ?_
  refine lv_i2l C.x C.b dX10_isCamp_1 rfl ?_
  refine lv_lconst (v := (0 : Int64)) C.x C.b dX10_isCamp_2 (by decide) ?_
  refine lv_aload_n C.x C.b dX10_isCamp_3 rfl (lv_at hl 0 rfl) ?_
  obtain ⟨g1, hf⟩ := gd_e hf
  refine r_getr C hR t_r0 fl_X10_20 (by decide) (nz_e g1) dX10_isCamp_4 (fun tq2 => ?_)
  have tg1 := okA tq2 rfl
  refine lv_bipush (v := (48 : Int32)) C.x C.b dX10_isCamp_7 (by decide) ?_
  obtain ⟨g3, hf⟩ := gd_e hf
  refine r_iald C hR tg1 g3 dX10_isCamp_9 ?_
  refine lv_iconst (v := (1 : Int32)) C.x C.b dX10_isCamp_10 (by decide) ?_
  refine lv_isub C.x C.b dX10_isCamp_11 ?_
  refine lv_i2l C.x C.b dX10_isCamp_12 rfl ?_
  obtain ⟨q4, h_q4, hf⟩ := bd_e hf
  refine r_callS (As := [.long (x1.toInt64), .long (0 : Int64), .long (((hpI h (hpR h r0 6) (ix (48 : Int32))) - (1 : Int32)).toInt64)]) (rest := []) C hR hS mk_X10_in cl_X10_117 (k_X10_in h_q4) ⟨⟨Nat.le_of_ble_eq_true rfl, Nat.le_of_ble_eq_true rfl⟩, ⟨rfl, rfl⟩, Nat.le_of_ble_eq_true rfl, Nat.le_of_ble_eq_true rfl⟩ rfl hl.1 rfl (Nat.le_of_ble_eq_true rfl) dX10_isCamp_13 (fun H locs hR hS hE1 z_q4 => ?_)
  have z_q4 := z_q4 _ rfl
  have hf := so_e hf
  subst hf
  exact r_zret C hr hlk hR Ext.rf hS z_q4 dX10_isCamp_16

def rm_X10_isOn : Room := { frames := 0, cells := 0, slots := 0, locals := 0 }
set_option maxRecDepth 100000 in
set_option maxHeartbeats 4000000 in
theorem k_X10_isOn {G : Gt} {l : Launch} {h : Hp} {r0 : Nat} {x1 : Int32} {out : Int32} (t_r0 : (hpT h r0).1 = 2)  (hf : f_X10_isOn h r0 x1 = some out) : Mt G l yX10_isOn cX10_isOn 2 (some .boolean) rm_X10_isOn [.ref (G.2.2 + r0), .int x1] h (some (.int out)) h 1 0 0 := by
  refine r_met (by decide +kernel) (Nat.le_of_ble_eq_true rfl) ?_
  intro p e s m args below meth c ls C hr hlk hnm hR hS hl
  have hl : lv_has ls 2 [(0, .ref (G.2.2 + r0)), (1, .int x1)] := hl
  rw [f_X10_isOn] at hf
  refine lv_iload_n C.x C.b dX10_isOn_0 rfl (lv_at hl 1 rfl) ?_
  refine lv_aload_n C.x C.b dX10_isOn_1 rfl (lv_at hl 0 rfl) ?_
  refine lv_bipush (v := (48 : Int32)) C.x C.b dX10_isOn_2 (by decide) ?_
  obtain ⟨g1, hf⟩ := gd_e hf
  refine r_iald C hR t_r0 g1 dX10_isOn_4 ?_
  refine lv_icmp_ge (tgt := 21) C.x C.b dX10_isOn_5 (by decide) (fun c2 => ?_) (fun c2 => ?_)
  · have hf := it_t hf c2
    refine lv_iconst (v := (0 : Int32)) C.x C.b dX10_isOn_21 (by decide) ?_
    have hf := so_e hf
    subst hf
    exact r_zret C hr hlk hR Ext.rf hS z_0 dX10_isOn_22
  · have hf := it_f hf c2
    refine lv_aload_n C.x C.b dX10_isOn_8 rfl (lv_at hl 0 rfl) ?_
    refine lv_bipush (v := (24 : Int32)) C.x C.b dX10_isOn_9 (by decide) ?_
    refine lv_iload_n C.x C.b dX10_isOn_11 rfl (lv_at hl 1 rfl) ?_
    refine lv_iadd C.x C.b dX10_isOn_12 ?_
    obtain ⟨g3, hf⟩ := gd_e hf
    refine r_iald C hR t_r0 g3 dX10_isOn_13 ?_
    refine lv_if_le (tgt := 21) C.x C.b dX10_isOn_14 (by decide) (fun c4 => ?_) (fun c4 => ?_)
    · have hf := it_t hf c4
      refine lv_iconst (v := (0 : Int32)) C.x C.b dX10_isOn_21 (by decide) ?_
      have hf := so_e hf
      subst hf
      exact r_zret C hr hlk hR Ext.rf hS z_0 dX10_isOn_22
    · have hf := it_f hf c4
      refine lv_iconst (v := (1 : Int32)) C.x C.b dX10_isOn_17 (by decide) ?_
      refine lv_goto (tgt := 22) C.x C.b dX10_isOn_18 (by decide) ?_
      have hf := so_e hf
      subst hf
      exact r_zret C hr hlk hR Ext.rf hS z_1 dX10_isOn_22

def rm_X10_isIn : Room := { frames := 0, cells := 0, slots := 0, locals := 0 }
set_option maxRecDepth 100000 in
set_option maxHeartbeats 4000000 in
theorem k_X10_isIn {G : Gt} {l : Launch} {h : Hp} {r0 : Nat} {x1 : Int32} {x2 : Int32} {x3 : Int32} {out : Int32} (t_r0 : hpT h r0 = (1, 10))  (hf : f_X10_isIn h r0 x1 x2 x3 = some out) : Mt G l yX10_isIn cX10_isIn 4 (some .boolean) rm_X10_isIn [.ref (G.2.2 + r0), .int x1, .int x2, .int x3] h (some (.int out)) h 1 0 0 := by
  refine r_met (by decide +kernel) (Nat.le_of_ble_eq_true rfl) ?_
  intro p e s m args below meth c ls C hr hlk hnm hR hS hl
  have hl : lv_has ls 4 [(0, .ref (G.2.2 + r0)), (1, .int x1), (2, .int x2), (3, .int x3)] := hl
  rw [f_X10_isIn] at hf
  refine lv_iload_n C.x C.b dX10_isIn_0 rfl (lv_at hl 1 rfl) ?_
  refine lv_aload_n C.x C.b dX10_isIn_1 rfl (lv_at hl 0 rfl) ?_
  refine r_geti C hR t_r0 fl_X10_17 rfl dX10_isIn_2 ?_
  obtain ⟨g1, hf⟩ := gd_e hf
  refine lv_idiv C.x C.b dX10_isIn_5 (nz32_e g1) ?_
  refine lv_iload_n C.x C.b dX10_isIn_6 rfl (lv_at hl 2 rfl) ?_
  refine lv_iadd C.x C.b dX10_isIn_7 ?_
  refine lv_aload_n C.x C.b dX10_isIn_8 rfl (lv_at hl 0 rfl) ?_
  refine r_geti C hR t_r0 fl_X10_13 rfl dX10_isIn_9 ?_
  refine lv_icmp_gt (tgt := 34) C.x C.b dX10_isIn_12 (by decide) (fun c2 => ?_) (fun c2 => ?_)
  · have hf := it_t hf c2
    refine lv_iconst (v := (0 : Int32)) C.x C.b dX10_isIn_34 (by decide) ?_
    have hf := so_e hf
    subst hf
    exact r_zret C hr hlk hR Ext.rf hS z_0 dX10_isIn_35
  · have hf := it_f hf c2
    refine lv_iload_n C.x C.b dX10_isIn_15 rfl (lv_at hl 1 rfl) ?_
    refine lv_aload_n C.x C.b dX10_isIn_16 rfl (lv_at hl 0 rfl) ?_
    refine r_geti C hR t_r0 fl_X10_17 rfl dX10_isIn_17 ?_
    obtain ⟨g3, hf⟩ := gd_e hf
    refine lv_irem C.x C.b dX10_isIn_20 (nz32_e g3) ?_
    refine lv_topi (fun v4 e_v4 => ?_)
    have hf := lt_e hf e_v4
    refine lv_iload_n C.x C.b dX10_isIn_21 rfl (lv_at hl 3 rfl) ?_
    refine lv_iadd C.x C.b dX10_isIn_22 ?_
    refine lv_aload_n C.x C.b dX10_isIn_23 rfl (lv_at hl 0 rfl) ?_
    refine r_geti C hR t_r0 fl_X10_17 rfl dX10_isIn_24 ?_
    refine lv_icmp_gt (tgt := 34) C.x C.b dX10_isIn_27 (by decide) (fun c5 => ?_) (fun c5 => ?_)
    · have hf := it_t hf c5
      refine lv_iconst (v := (0 : Int32)) C.x C.b dX10_isIn_34 (by decide) ?_
      have hf := so_e hf
      subst hf
      exact r_zret C hr hlk hR Ext.rf hS z_0 dX10_isIn_35
    · have hf := it_f hf c5
      refine lv_iconst (v := (1 : Int32)) C.x C.b dX10_isIn_30 (by decide) ?_
      refine lv_goto (tgt := 35) C.x C.b dX10_isIn_31 (by decide) ?_
      have hf := so_e hf
      subst hf
      exact r_zret C hr hlk hR Ext.rf hS z_1 dX10_isIn_35

def rm_X10_isOver : Room := { frames := 1, cells := 0, slots := 0, locals := 25 }
set_option maxRecDepth 100000 in
set_option maxHeartbeats 4000000 in
theorem k_X10_isOver {G : Gt} {l : Launch} {h : Hp} {r0 : Nat} {x1 : Int32} {x2 : Int32} {x3 : Int32} {x4 : Int32} {out : Int32} (t_r0 : hpT h r0 = (1, 10))  (hf : f_X10_isOver h r0 x1 x2 x3 x4 = some out) : Mt G l yX10_isOver cX10_isOver 7 (some .boolean) rm_X10_isOver [.ref (G.2.2 + r0), .int x1, .int x2, .int x3, .int x4] h (some (.int out)) h 1 0 0 := by
  refine r_met (by decide +kernel) (Nat.le_of_ble_eq_true rfl) ?_
  intro p e s m args below meth c ls C hr hlk hnm hR hS hl
  have hl : lv_has ls 7 [(0, .ref (G.2.2 + r0)), (1, .int x1), (2, .int x2), (3, .int x3), (4, .int x4)] := hl
  rw [f_X10_isOver] at hf
  refine lv_iload C.x C.b dX10_isOver_0 (lv_at hl 4 rfl) ?_
  refine lv_aload_n C.x C.b dX10_isOver_2 rfl (lv_at hl 0 rfl) ?_
  refine r_geti C hR t_r0 fl_X10_17 rfl dX10_isOver_3 ?_
  obtain ⟨g1, hf⟩ := gd_e hf
  refine lv_idiv C.x C.b dX10_isOver_6 (nz32_e g1) ?_
  refine lv_iload_n C.x C.b dX10_isOver_7 rfl (lv_at hl 1 rfl) ?_
  refine lv_aload_n C.x C.b dX10_isOver_8 rfl (lv_at hl 0 rfl) ?_
  refine r_geti C hR t_r0 fl_X10_17 rfl dX10_isOver_9 ?_
  obtain ⟨g2, hf⟩ := gd_e hf
  refine lv_idiv C.x C.b dX10_isOver_12 (nz32_e g2) ?_
  refine lv_isub C.x C.b dX10_isOver_13 ?_
  refine lv_topi (fun v3 e_v3 => ?_)
  have hf := lt_e hf e_v3
  refine lv_istore (lv' := [(5, .int v3), (0, .ref (G.2.2 + r0)), (1, .int x1), (2, .int x2), (3, .int x3), (4, .int x4)]) C.x C.b dX10_isOver_14 hl (by decide) rfl (fun ls hl => ?_)
  refine lv_iload C.x C.b dX10_isOver_16 (lv_at hl 5 rfl) ?_
  refine lv_aload_n C.x C.b dX10_isOver_18 rfl (lv_at hl 1 rfl) ?_
  refine r_geti C hR t_r0 fl_X10_17 rfl dX10_isOver_19 ?_
  obtain ⟨g4, hf⟩ := gd_e hf
  refine lv_irem C.x C.b dX10_isOver_22 (nz32_e g4) ?_
  refine lv_topi (fun v5 e_v5 => ?_)
  have hf := lt_e hf e_v5
  refine lv_iload_n C.x C.b dX10_isOver_23 rfl (lv_at hl 2 rfl) ?_
  refine lv_aload_n C.x C.b dX10_isOver_24 rfl (lv_at hl 1 rfl) ?_
  refine r_geti C hR t_r0 fl_X10_17 rfl dX10_isOver_25 ?_
  obtain ⟨g6, hf⟩ := gd_e hf
  refine lv_irem C.x C.b dX10_isOver_28 (nz32_e g6) ?_
  refine lv_topi (fun v7 e_v7 => ?_)
  have hf := lt_e hf e_v7
  refine lv_isub C.x C.b dX10_isOver_29 ?_
  refine lv_topi (fun v8 e_v8 => ?_)
  have hf := lt_e hf e_v8
  refine lv_istore (lv' := [(6, .int v8), (5, .int v3), (0, .ref (G.2.2 + r0)), (1, .int x1), (2, .int x2), (3, .int x3), (4, .int x4)]) C.x C.b dX10_isOver_30 hl (by decide) rfl (fun ls hl => ?_)
  refine lv_iload C.x C.b dX10_isOver_32 (lv_at hl 1 rfl) ?_
  refine lv_i2l C.x C.b dX10_isOver_34 rfl ?_
  refine lv_lconst (v := (0 : Int64)) C.x C.b dX10_isOver_35 (by decide) ?_
  refine lv_iload_n C.x C.b dX10_isOver_36 rfl (lv_at hl 4 rfl) ?_
  refine lv_iconst (v := (1 : Int32)) C.x C.b dX10_isOver_37 (by decide) ?_
  refine lv_isub C.x C.b dX10_isOver_38 ?_
  refine lv_i2l C.x C.b dX10_isOver_39 rfl ?_
  obtain ⟨q9, h_q9, hf⟩ := bd_e hf
  refine r_callS (As := [.long (v3.toInt64), .long (0 : Int64), .long ((x2 - (1 : Int32)).toInt64)]) (rest := []) C hR hS mk_X10_in cl_X10_117 (k_X10_in h_q9) ⟨⟨Nat.le_of_ble_eq_true rfl, Nat.le_of_ble_eq_true rfl⟩, ⟨rfl, rfl⟩, Nat.le_of_ble_eq_true rfl, Nat.le_of_ble_eq_true rfl⟩ rfl hl.1 rfl (Nat.le_of_ble_eq_true rfl) dX10_isOver_40 (fun H locs hR hS hE1 z_q9 => ?_)
  have z_q9 := z_q9 _ rfl
  refine lv_if_eq (tgt := 64) C.x C.b dX10_isOver_43 (by decide) (fun c10 => ?_) (fun c10 => ?_)
  · have hf := it_t hf c10
    refine lv_iconst (v := (0 : Int32)) C.x C.b dX10_isOver_64 (by decide) ?_
    have hf := so_e hf
    subst hf
    exact r_zret C hr hlk hR Ext.rf hS z_0 dX10_isOver_65
  · have hf := it_f hf c10
    refine lv_iload C.x C.b dX10_isOver_46 (lv_at hl 0 rfl) ?_
    refine lv_i2l C.x C.b dX10_isOver_48 rfl ?_
    refine lv_lconst (v := (0 : Int64)) C.x C.b dX10_isOver_49 (by decide) ?_
    refine lv_iload_n C.x C.b dX10_isOver_50 rfl (lv_at hl 5 rfl) ?_
    refine lv_iconst (v := (1 : Int32)) C.x C.b dX10_isOver_51 (by decide) ?_
    refine lv_isub C.x C.b dX10_isOver_52 ?_
    refine lv_i2l C.x C.b dX10_isOver_53 rfl ?_
    obtain ⟨q11, h_q11, hf⟩ := bd_e hf
    refine r_callS (As := [.long (v8.toInt64), .long (0 : Int64), .long ((x3 - (1 : Int32)).toInt64)]) (rest := []) C hR hS mk_X10_in cl_X10_117 (k_X10_in h_q11) ⟨⟨Nat.le_of_ble_eq_true rfl, Nat.le_of_ble_eq_true rfl⟩, ⟨rfl, rfl⟩, Nat.le_of_ble_eq_true rfl, Nat.le_of_ble_eq_true rfl⟩ rfl hl.1 rfl (Nat.le_of_ble_eq_true rfl) dX10_isOver_54 (fun H locs hR hS hE1 z_q11 => ?_)
    have z_q11 := z_q11 _ rfl
    refine lv_if_eq (tgt := 64) C.x C.b dX10_isOver_57 (by decide) (fun c12 => ?_) (fun c12 => ?_)
    · have hf := it_t hf c12
      refine lv_iconst (v := (0 : Int32)) C.x C.b dX10_isOver_64 (by decide) ?_
      have hf := so_e hf
      subst hf
      exact r_zret C hr hlk hR Ext.rf hS z_0 dX10_isOver_65
    · have hf := it_f hf c12
      refine lv_iconst (v := (1 : Int32)) C.x C.b dX10_isOver_60 (by decide) ?_
      refine lv_goto (tgt := 65) C.x C.b dX10_isOver_61 (by decide) ?_
      have hf := so_e hf
      subst hf
      exact r_zret C hr hlk hR Ext.rf hS z_1 dX10_isOver_65

def rm_X10_isLyingOver : Room := { frames := 2, cells := 0, slots := 0, locals := 51 }
set_option maxRecDepth 100000 in
set_option maxHeartbeats 4000000 in
theorem k_X10_isLyingOver {G : Gt} {l : Launch} {h : Hp} {r0 : Nat} {r1 : Nat} {x2 : Int32} {x3 : Int32} {out : Int32} (t_r0 : hpT h r0 = (1, 10)) (t_r1 : (hpT h r1).1 = 2)  (hf : f_X10_isLyingOver h r0 r1 x2 x3 = some out) : Mt G l yX10_isLyingOver cX10_isLyingOver 4 (some .boolean) rm_X10_isLyingOver [.ref (G.2.2 + r0), .ref (G.2.2 + r1), .int x2, .int x3] h (some (.int out)) h 1 0 0 := by
  refine r_met (by decide +kernel) (Nat.le_of_ble_eq_true rfl) ?_
  intro p e s m args below meth c ls C hr hlk hnm hR hS hl
  have hl : lv_has ls 4 [(0, .ref (G.2.2 + r0)), (1, .ref (G.2.2 + r1)), (2, .int x2), (3, .int x3)] := hl
  rw [f_X10_isLyingOver] at hf
  refine lv_aload_n C.x C.b dX10_isLyingOver_0 rfl (lv_at hl 0 rfl) ?_
  refine lv_aload_n C.x C.b dX10_isLyingOver_1 rfl (lv_at hl 1 rfl) ?_
  refine lv_iload_n C.x C.b dX10_isLyingOver_2 rfl (lv_at hl 2 rfl) ?_
  obtain ⟨g1, hf⟩ := gd_e hf
  refine r_iald C hR t_r1 g1 dX10_isLyingOver_3 ?_
  refine lv_aload_n C.x C.b dX10_isLyingOver_4 rfl (lv_at hl 1 rfl) ?_
  refine lv_bipush (v := (8 : Int32)) C.x C.b dX10_isLyingOver_5 (by decide) ?_
  refine lv_iload_n C.x C.b dX10_isLyingOver_7 rfl (lv_at hl 2 rfl) ?_
  refine lv_iadd C.x C.b dX10_isLyingOver_8 ?_
  obtain ⟨g2, hf⟩ := gd_e hf
  refine r_iald C hR t_r1 g2 dX10_isLyingOver_9 ?_
  refine lv_aload_n C.x C.b dX10_isLyingOver_10 rfl (lv_at hl 1 rfl) ?_
  refine lv_bipush (v := (16 : Int32)) C.x C.b dX10_isLyingOver_11 (by decide) ?_
  refine lv_iload_n C.x C.b dX10_isLyingOver_13 rfl (lv_at hl 2 rfl) ?_
  refine lv_iadd C.x C.b dX10_isLyingOver_14 ?_
  obtain ⟨g3, hf⟩ := gd_e hf
  refine r_iald C hR t_r1 g3 dX10_isLyingOver_15 ?_
  refine lv_iload_n C.x C.b dX10_isLyingOver_16 rfl (lv_at hl 3 rfl) ?_
  obtain ⟨q4, h_q4, hf⟩ := bd_e hf
  refine r_callV (As := [.int (hpI h r1 (ix x2)), .int (hpI h r1 (ix ((8 : Int32) + x2))), .int (hpI h r1 (ix ((16 : Int32) + x2))), .int x3]) (rest := []) C hR hS t_r0 rfl mk_X10_isOver cl_X10_121 (k_X10_isOver t_r0 h_q4) ⟨⟨Nat.le_of_ble_eq_true rfl, Nat.le_of_ble_eq_true rfl⟩, ⟨rfl, rfl⟩, Nat.le_of_ble_eq_true rfl, Nat.le_of_ble_eq_true rfl⟩ rfl hl.1 rfl (Nat.le_of_ble_eq_true rfl) dX10_isLyingOver_17 (fun H locs hR hS hE1 z_q4 => ?_)
  have z_q4 := z_q4 _ rfl
  have hf := so_e hf
  subst hf
  exact r_zret C hr hlk hR Ext.rf hS z_q4 dX10_isLyingOver_20

def rm_X10_area : Room := { frames := 2, cells := 0, slots := 0, locals := 51 }
def P_X10_area_37 (G : Gt) (l : Launch) (p : Program) (e : Env) (s : State) (m : MethodId) (args : Array Value) (below : List Frame) (meth : Method) (c : Code) (h : Hp) (out : Int64) (r0 : Nat) (x1 : Int32) (x2 : Int32) (x3 : Int32) (k : Int64 → Int64 → Int32 → Option Int64) : Prop := ∀ (H : Heap) (locs : List Loc) (ls : Array Slot) (s0 : Int64) (s1 : Int64) (x6 : Int32), k s0 s1 x6 = some out → Rel G h H → va_S (AA G.2.2) s.heap H locs → hpT h r0 = (1, 10) → lv_has ls 7 [(0, .ref (G.2.2 + r0)), (1, .int x1), (2, .int x2), (3, .int x3), (6, .int x6)] → W p l e rm_X10_area s m args below meth c H locs 0 0 (MQ below (Qm G h h (some (.long out)) 0) args s 0 0 (AA G.2.2)) (F0 m 37 ls [.long s1, .long s0])
def P_X10_area_6 (G : Gt) (l : Launch) (p : Program) (e : Env) (s : State) (m : MethodId) (args : Array Value) (below : List Frame) (meth : Method) (c : Code) (h : Hp) (out : Int64) (r0 : Nat) (x1 : Int32) (x2 : Int32) (x3 : Int32) (k : Int64 → Int32 → Option Int64) : Prop := ∀ (H : Heap) (locs : List Loc) (ls : Array Slot) (y4 : Int64) (x6 : Int32), k y4 x6 = some out → Rel G h H → va_S (AA G.2.2) s.heap H locs → hpT h r0 = (1, 10) → lv_has ls 7 [(0, .ref (G.2.2 + r0)), (1, .int x1), (2, .int x2), (3, .int x3), (4, .long y4), (6, .int x6)] → W p l e rm_X10_area s m args below meth c H locs 0 0 (MQ below (Qm G h h (some (.long out)) 0) args s 0 0 (AA G.2.2)) (F0 m 6 ls [])
set_option maxRecDepth 100000 in
set_option maxHeartbeats 4000000 in
theorem w_X10_area_37 {G : Gt} {l : Launch} {p : Program} {e : Env} {s : State} {m : MethodId} {args : Array Value} {below : List Frame} {meth : Method} {c : Code} {h : Hp} {out : Int64} {r0 : Nat} {x1 : Int32} {x2 : Int32} {x3 : Int32} {k6 : Int64 → Int32 → Option Int64} (C : Cx G p m c cX10_area 7 s args RX10) (hr : meth.sig.returnType = some .long) (hlk : meth.locks = false) (hk6 : P_X10_area_6 G l p e s m args below meth c h out r0 x1 x2 x3 k6) : P_X10_area_37 G l p e s m args below meth c h out r0 x1 x2 x3 (f_X10_area_37 h r0 x1 x2 x3 k6) := by
  intro H locs ls s0 s1 x6 hf hR hS t_r0 hl
  rw [f_X10_area_37] at hf
  refine lv_lor C.x C.b dX10_area_37 ?_
  refine lv_topl (fun v6 e_v6 => ?_)
  have hf := lt_e hf e_v6
  refine lv_lstore (lv' := [(4, .long v6), (0, .ref (G.2.2 + r0)), (1, .int x1), (2, .int x2), (3, .int x3), (6, .int x6)]) C.x C.b dX10_area_38 hl (by decide) rfl (fun ls hl => ?_)
  obtain ⟨v7, e_v7⟩ : ∃ y : Int32, y = x6 + (1 : Int32) := ⟨_, rfl⟩
  have hf := lt_e hf e_v7
  refine lv_iinc (v := v7) (lv' := [(6, .int v7), (4, .long v6), (0, .ref (G.2.2 + r0)), (1, .int x1), (2, .int x2), (3, .int x3)]) C.x C.b dX10_area_40 hl (k := 5) rfl (by rw [e_v7]; rfl) (by decide) rfl (fun ls hl => ?_)
  refine lv_goto (tgt := 6) C.x C.b dX10_area_43 (by decide) ?_
  exact hk6 _ _ _ _ _ hf hR hS t_r0 (lv_sub hl [2, 3, 4, 5, 1, 0] rfl)
set_option maxRecDepth 100000 in
set_option maxHeartbeats 4000000 in
theorem w_X10_area_6 {G : Gt} {l : Launch} {p : Program} {e : Env} {s : State} {m : MethodId} {args : Array Value} {below : List Frame} {meth : Method} {c : Code} {h : Hp} {out : Int64} {r0 : Nat} {x1 : Int32} {x2 : Int32} {x3 : Int32}  (C : Cx G p m c cX10_area 7 s args RX10) (hr : meth.sig.returnType = some .long) (hlk : meth.locks = false)  (n : Nat) : P_X10_area_6 G l p e s m args below meth c h out r0 x1 x2 x3 (f_X10_area_6 h r0 x1 x2 x3 n) := by
  induction n with
  | zero => intro H locs ls y4 x6 hf hR hS t_r0 hl; cases hf
  | succ n hk6 =>
    intro H locs ls y4 x6 hf hR hS t_r0 hl
    rw [f_X10_area_6] at hf
    obtain ⟨k6, e_k6⟩ : ∃ y, y = f_X10_area_6 h r0 x1 x2 x3 n := ⟨_, rfl⟩
    have hf := lt_e hf e_k6
    rw [← e_k6] at hk6
    refine lv_iload C.x C.b dX10_area_6 (lv_at hl 5 rfl) ?_
    refine lv_aload_n C.x C.b dX10_area_8 rfl (lv_at hl 0 rfl) ?_
    obtain ⟨q1, h_q1, hf⟩ := bd_e hf
    refine r_callV (As := []) (rest := [.int x6]) C hR hS t_r0 rfl mk_X10_cells cl_X10_113 (k_X10_cells t_r0 h_q1) ⟨⟨Nat.le_of_ble_eq_true rfl, Nat.le_of_ble_eq_true rfl⟩, ⟨rfl, rfl⟩, Nat.le_of_ble_eq_true rfl, Nat.le_of_ble_eq_true rfl⟩ rfl hl.1 rfl (Nat.le_of_ble_eq_true rfl) dX10_area_9 (fun H locs hR hS hE1 z_q1 => ?_)
    refine lv_icmp_ge (tgt := 46) C.x C.b dX10_area_12 (by decide) (fun c2 => ?_) (fun c2 => ?_)
    · have hf := it_t hf c2
      refine lv_lload C.x C.b dX10_area_46 (lv_at hl 4 rfl) ?_
      have hf := so_e hf
      subst hf
      exact r_lret C hr hlk hR Ext.rf hS dX10_area_48
    · have hf := it_f hf c2
      refine lv_lload C.x C.b dX10_area_15 (lv_at hl 4 rfl) ?_
      refine lv_aload_n C.x C.b dX10_area_17 rfl (lv_at hl 0 rfl) ?_
      refine lv_iload_n C.x C.b dX10_area_18 rfl (lv_at hl 1 rfl) ?_
      refine lv_iload_n C.x C.b dX10_area_19 rfl (lv_at hl 2 rfl) ?_
      refine lv_iload_n C.x C.b dX10_area_20 rfl (lv_at hl 3 rfl) ?_
      refine lv_iload C.x C.b dX10_area_21 (lv_at hl 5 rfl) ?_
      obtain ⟨q3, h_q3, hf⟩ := bd_e hf
      refine r_callV (As := [.int x1, .int x2, .int x3, .int x6]) (rest := [.long y4]) C hR hS t_r0 rfl mk_X10_isOver cl_X10_121 (k_X10_isOver t_r0 h_q3) ⟨⟨Nat.le_of_ble_eq_true rfl, Nat.le_of_ble_eq_true rfl⟩, ⟨rfl, rfl⟩, Nat.le_of_ble_eq_true rfl, Nat.le_of_ble_eq_true rfl⟩ rfl hl.1 rfl (Nat.le_of_ble_eq_true rfl) dX10_area_23 (fun H locs hR hS hE1 z_q3 => ?_)
      have z_q3 := z_q3 _ rfl
      refine lv_if_eq (tgt := 36) C.x C.b dX10_area_26 (by decide) (fun c4 => ?_) (fun c4 => ?_)
      · have hf := it_t hf c4
        refine lv_lconst (v := (0 : Int64)) C.x C.b dX10_area_36 (by decide) ?_
        exact w_X10_area_37 C hr hlk hk6 _ _ _ _ _ _ hf hR hS t_r0 (lv_sub hl [0, 1, 2, 3, 5] rfl)
      · have hf := it_f hf c4
        refine lv_lconst (v := (1 : Int64)) C.x C.b dX10_area_29 (by decide) ?_
        refine lv_iload C.x C.b dX10_area_30 (lv_at hl 5 rfl) ?_
        refine lv_lshl C.x C.b dX10_area_32 rfl ?_
        refine lv_topl (fun v5 e_v5 => ?_)
        have hf := lt_e hf e_v5
        refine lv_goto (tgt := 37) C.x C.b dX10_area_33 (by decide) ?_
        exact w_X10_area_37 C hr hlk hk6 _ _ _ _ _ _ hf hR hS t_r0 (lv_sub hl [0, 1, 2, 3, 5] rfl)
set_option maxRecDepth 100000 in
set_option maxHeartbeats 4000000 in
theorem k_X10_area {G : Gt} {l : Launch} {h : Hp} {r0 : Nat} {x1 : Int32} {x2 : Int32} {x3 : Int32} {out : Int64} (t_r0 : hpT h r0 = (1, 10))  (hf : f_X10_area h r0 x1 x2 x3 = some out) : Mt G l yX10_area cX10_area 7 (some .long) rm_X10_area [.ref (G.2.2 + r0), .int x1, .int x2, .int x3] h (some (.long out)) h 0 0 0 := by
  refine r_met (by decide +kernel) (Nat.le_of_ble_eq_true rfl) ?_
  intro p e s m args below meth c ls C hr hlk hnm hR hS hl
  have hl : lv_has ls 7 [(0, .ref (G.2.2 + r0)), (1, .int x1), (2, .int x2), (3, .int x3)] := hl
  rw [f_X10_area] at hf
  refine lv_lconst (v := (0 : Int64)) C.x C.b dX10_area_0 (by decide) ?_
  refine lv_lstore (lv' := [(4, .long (0 : Int64)), (0, .ref (G.2.2 + r0)), (1, .int x1), (2, .int x2), (3, .int x3)]) C.x C.b dX10_area_1 hl (by decide) rfl (fun ls hl => ?_)
  refine lv_iconst (v := (0 : Int32)) C.x C.b dX10_area_3 (by decide) ?_
  refine lv_istore (lv' := [(6, .int (0 : Int32)), (4, .long (0 : Int64)), (0, .ref (G.2.2 + r0)), (1, .int x1), (2, .int x2), (3, .int x3)]) C.x C.b dX10_area_4 hl (by decide) rfl (fun ls hl => ?_)
  exact w_X10_area_6 C hr hlk FU _ _ _ _ _ hf hR hS t_r0 (lv_sub hl [2, 3, 4, 5, 1, 0] rfl)

def rm_X10_areaOf : Room := { frames := 3, cells := 0, slots := 0, locals := 77 }
set_option maxRecDepth 100000 in
set_option maxHeartbeats 4000000 in
theorem k_X10_areaOf {G : Gt} {l : Launch} {h : Hp} {r0 : Nat} {r1 : Nat} {x2 : Int32} {out : Int64} (t_r0 : hpT h r0 = (1, 10)) (t_r1 : (hpT h r1).1 = 2)  (hf : f_X10_areaOf h r0 r1 x2 = some out) : Mt G l yX10_areaOf cX10_areaOf 3 (some .long) rm_X10_areaOf [.ref (G.2.2 + r0), .ref (G.2.2 + r1), .int x2] h (some (.long out)) h 0 0 0 := by
  refine r_met (by decide +kernel) (Nat.le_of_ble_eq_true rfl) ?_
  intro p e s m args below meth c ls C hr hlk hnm hR hS hl
  have hl : lv_has ls 3 [(0, .ref (G.2.2 + r0)), (1, .ref (G.2.2 + r1)), (2, .int x2)] := hl
  rw [f_X10_areaOf] at hf
  refine lv_aload_n C.x C.b dX10_areaOf_0 rfl (lv_at hl 0 rfl) ?_
  refine lv_aload_n C.x C.b dX10_areaOf_1 rfl (lv_at hl 1 rfl) ?_
  refine lv_iload_n C.x C.b dX10_areaOf_2 rfl (lv_at hl 2 rfl) ?_
  obtain ⟨g1, hf⟩ := gd_e hf
  refine r_iald C hR t_r1 g1 dX10_areaOf_3 ?_
  refine lv_aload_n C.x C.b dX10_areaOf_4 rfl (lv_at hl 1 rfl) ?_
  refine lv_bipush (v := (8 : Int32)) C.x C.b dX10_areaOf_5 (by decide) ?_
  refine lv_iload_n C.x C.b dX10_areaOf_7 rfl (lv_at hl 2 rfl) ?_
  refine lv_iadd C.x C.b dX10_areaOf_8 ?_
  obtain ⟨g2, hf⟩ := gd_e hf
  refine r_iald C hR t_r1 g2 dX10_areaOf_9 ?_
  refine lv_aload_n C.x C.b dX10_areaOf_10 rfl (lv_at hl 1 rfl) ?_
  refine lv_bipush (v := (16 : Int32)) C.x C.b dX10_areaOf_11 (by decide) ?_
  refine lv_iload_n C.x C.b dX10_areaOf_13 rfl (lv_at hl 2 rfl) ?_
  refine lv_iadd C.x C.b dX10_areaOf_14 ?_
  obtain ⟨g3, hf⟩ := gd_e hf
  refine r_iald C hR t_r1 g3 dX10_areaOf_15 ?_
  obtain ⟨q4, h_q4, hf⟩ := bd_e hf
  refine r_callV (As := [.int (hpI h r1 (ix x2)), .int (hpI h r1 (ix ((8 : Int32) + x2))), .int (hpI h r1 (ix ((16 : Int32) + x2)))]) (rest := []) C hR hS t_r0 rfl mk_X10_area cl_X10_125 (k_X10_area t_r0 h_q4) ⟨⟨Nat.le_of_ble_eq_true rfl, Nat.le_of_ble_eq_true rfl⟩, ⟨rfl, rfl⟩, Nat.le_of_ble_eq_true rfl, Nat.le_of_ble_eq_true rfl⟩ rfl hl.1 rfl (Nat.le_of_ble_eq_true rfl) dX10_areaOf_16 (fun H locs hR hS hE1 z_q4 => ?_)
  have hf := so_e hf
  subst hf
  exact r_lret C hr hlk hR Ext.rf hS dX10_areaOf_19

def rm_X10_on : Room := { frames := 1, cells := 0, slots := 0, locals := 21 }
def P_X10_on_28 (G : Gt) (l : Launch) (p : Program) (e : Env) (s : State) (m : MethodId) (args : Array Value) (below : List Frame) (meth : Method) (c : Code) (h : Hp) (out : Int32) (r0 : Nat) (k : Int32 → Int32 → Int32 → Option Int32) : Prop := ∀ (H : Heap) (locs : List Loc) (ls : Array Slot) (s0 : Int32) (s1 : Int32) (x2 : Int32), k s0 s1 x2 = some out → Rel G h H → va_S (AA G.2.2) s.heap H locs → (hpT h r0).1 = 2 → lv_has ls 3 [(0, .ref (G.2.2 + r0)), (2, .int x2)] → W p l e rm_X10_on s m args below meth c H locs 0 0 (MQ below (Qm G h h (some (.int out)) 0) args s 0 0 (AA G.2.2)) (F0 m 28 ls [.int s1, .int s0])
def P_X10_on_4 (G : Gt) (l : Launch) (p : Program) (e : Env) (s : State) (m : MethodId) (args : Array Value) (below : List Frame) (meth : Method) (c : Code) (h : Hp) (out : Int32) (r0 : Nat) (k : Int32 → Int32 → Option Int32) : Prop := ∀ (H : Heap) (locs : List Loc) (ls : Array Slot) (x1 : Int32) (x2 : Int32), k x1 x2 = some out → Rel G h H → va_S (AA G.2.2) s.heap H locs → (hpT h r0).1 = 2 → lv_has ls 3 [(0, .ref (G.2.2 + r0)), (1, .int x1), (2, .int x2)] → W p l e rm_X10_on s m args below meth c H locs 0 0 (MQ below (Qm G h h (some (.int out)) 0) args s 0 0 (AA G.2.2)) (F0 m 4 ls [])
set_option maxRecDepth 100000 in
set_option maxHeartbeats 4000000 in
theorem w_X10_on_28 {G : Gt} {l : Launch} {p : Program} {e : Env} {s : State} {m : MethodId} {args : Array Value} {below : List Frame} {meth : Method} {c : Code} {h : Hp} {out : Int32} {r0 : Nat} {k4 : Int32 → Int32 → Option Int32} (C : Cx G p m c cX10_on 3 s args RX10) (hr : meth.sig.returnType = some .int) (hlk : meth.locks = false) (hk4 : P_X10_on_4 G l p e s m args below meth c h out r0 k4) : P_X10_on_28 G l p e s m args below meth c h out r0 (f_X10_on_28 h r0 k4) := by
  intro H locs ls s0 s1 x2 hf hR hS t_r0 hl
  rw [f_X10_on_28] at hf
  refine lv_ior C.x C.b dX10_on_28 ?_
  refine lv_topi (fun v6 e_v6 => ?_)
  have hf := lt_e hf e_v6
  refine lv_istore_n (lv' := [(1, .int v6), (0, .ref (G.2.2 + r0)), (2, .int x2)]) C.x C.b dX10_on_29 rfl hl (by decide) rfl (fun ls hl => ?_)
  obtain ⟨v7, e_v7⟩ : ∃ y : Int32, y = x2 + (1 : Int32) := ⟨_, rfl⟩
  have hf := lt_e hf e_v7
  refine lv_iinc (v := v7) (lv' := [(2, .int v7), (1, .int v6), (0, .ref (G.2.2 + r0))]) C.x C.b dX10_on_30 hl (k := 2) rfl (by rw [e_v7]; rfl) (by decide) rfl (fun ls hl => ?_)
  refine lv_goto (tgt := 4) C.x C.b dX10_on_33 (by decide) ?_
  exact hk4 _ _ _ _ _ hf hR hS t_r0 (lv_sub hl [2, 1, 0] rfl)
set_option maxRecDepth 100000 in
set_option maxHeartbeats 4000000 in
theorem w_X10_on_4 {G : Gt} {l : Launch} {p : Program} {e : Env} {s : State} {m : MethodId} {args : Array Value} {below : List Frame} {meth : Method} {c : Code} {h : Hp} {out : Int32} {r0 : Nat}  (C : Cx G p m c cX10_on 3 s args RX10) (hr : meth.sig.returnType = some .int) (hlk : meth.locks = false)  (n : Nat) : P_X10_on_4 G l p e s m args below meth c h out r0 (f_X10_on_4 h r0 n) := by
  induction n with
  | zero => intro H locs ls x1 x2 hf hR hS t_r0 hl; cases hf
  | succ n hk4 =>
    intro H locs ls x1 x2 hf hR hS t_r0 hl
    rw [f_X10_on_4] at hf
    obtain ⟨k4, e_k4⟩ : ∃ y, y = f_X10_on_4 h r0 n := ⟨_, rfl⟩
    have hf := lt_e hf e_k4
    rw [← e_k4] at hk4
    refine lv_iload_n C.x C.b dX10_on_4 rfl (lv_at hl 2 rfl) ?_
    refine lv_aload_n C.x C.b dX10_on_5 rfl (lv_at hl 0 rfl) ?_
    refine lv_bipush (v := (48 : Int32)) C.x C.b dX10_on_6 (by decide) ?_
    obtain ⟨g1, hf⟩ := gd_e hf
    refine r_iald C hR t_r0 g1 dX10_on_8 ?_
    refine lv_icmp_ge (tgt := 36) C.x C.b dX10_on_9 (by decide) (fun c2 => ?_) (fun c2 => ?_)
    · have hf := it_t hf c2
      refine lv_iload_n C.x C.b dX10_on_36 rfl (lv_at hl 1 rfl) ?_
      have hf := so_e hf
      subst hf
      exact r_iret C hr hlk hR Ext.rf hS dX10_on_37
    · have hf := it_f hf c2
      refine lv_iload_n C.x C.b dX10_on_12 rfl (lv_at hl 1 rfl) ?_
      refine lv_aload_n C.x C.b dX10_on_13 rfl (lv_at hl 0 rfl) ?_
      refine lv_iload_n C.x C.b dX10_on_14 rfl (lv_at hl 2 rfl) ?_
      obtain ⟨q3, h_q3, hf⟩ := bd_e hf
      refine r_callS (As := [.ref (G.2.2 + r0), .int x2]) (rest := [.int x1]) C hR hS mk_X10_isOn cl_X10_129 (k_X10_isOn t_r0 h_q3) ⟨⟨Nat.le_of_ble_eq_true rfl, Nat.le_of_ble_eq_true rfl⟩, ⟨rfl, rfl⟩, Nat.le_of_ble_eq_true rfl, Nat.le_of_ble_eq_true rfl⟩ rfl hl.1 rfl (Nat.le_of_ble_eq_true rfl) dX10_on_15 (fun H locs hR hS hE1 z_q3 => ?_)
      have z_q3 := z_q3 _ rfl
      refine lv_if_eq (tgt := 27) C.x C.b dX10_on_18 (by decide) (fun c4 => ?_) (fun c4 => ?_)
      · have hf := it_t hf c4
        refine lv_iconst (v := (0 : Int32)) C.x C.b dX10_on_27 (by decide) ?_
        exact w_X10_on_28 C hr hlk hk4 _ _ _ _ _ _ hf hR hS t_r0 (lv_sub hl [0, 2] rfl)
      · have hf := it_f hf c4
        refine lv_iconst (v := (1 : Int32)) C.x C.b dX10_on_21 (by decide) ?_
        refine lv_iload_n C.x C.b dX10_on_22 rfl (lv_at hl 2 rfl) ?_
        refine lv_ishl C.x C.b dX10_on_23 ?_
        refine lv_topi (fun v5 e_v5 => ?_)
        have hf := lt_e hf e_v5
        refine lv_goto (tgt := 28) C.x C.b dX10_on_24 (by decide) ?_
        exact w_X10_on_28 C hr hlk hk4 _ _ _ _ _ _ hf hR hS t_r0 (lv_sub hl [0, 2] rfl)
set_option maxRecDepth 100000 in
set_option maxHeartbeats 4000000 in
theorem k_X10_on {G : Gt} {l : Launch} {h : Hp} {r0 : Nat} {out : Int32} (t_r0 : (hpT h r0).1 = 2)  (hf : f_X10_on h r0 = some out) : Mt G l yX10_on cX10_on 3 (some .int) rm_X10_on [.ref (G.2.2 + r0)] h (some (.int out)) h 0 0 0 := by
  refine r_met (by decide +kernel) (Nat.le_of_ble_eq_true rfl) ?_
  intro p e s m args below meth c ls C hr hlk hnm hR hS hl
  have hl : lv_has ls 3 [(0, .ref (G.2.2 + r0))] := hl
  rw [f_X10_on] at hf
  refine lv_iconst (v := (0 : Int32)) C.x C.b dX10_on_0 (by decide) ?_
  refine lv_istore_n (lv' := [(1, .int (0 : Int32)), (0, .ref (G.2.2 + r0))]) C.x C.b dX10_on_1 rfl hl (by decide) rfl (fun ls hl => ?_)
  refine lv_iconst (v := (0 : Int32)) C.x C.b dX10_on_2 (by decide) ?_
  refine lv_istore_n (lv' := [(2, .int (0 : Int32)), (1, .int (0 : Int32)), (0, .ref (G.2.2 + r0))]) C.x C.b dX10_on_3 rfl hl (by decide) rfl (fun ls hl => ?_)
  exact w_X10_on_4 C hr hlk FU _ _ _ _ _ hf hR hS t_r0 (lv_sub hl [2, 1, 0] rfl)

def rm_X10_sumOf : Room := { frames := 0, cells := 0, slots := 0, locals := 0 }
def P_X10_sumOf_4 (G : Gt) (l : Launch) (p : Program) (e : Env) (s : State) (m : MethodId) (args : Array Value) (below : List Frame) (meth : Method) (c : Code) (h : Hp) (out : Int32) (r0 : Nat) (x1 : Int32) (k : Int32 → Int32 → Option Int32) : Prop := ∀ (H : Heap) (locs : List Loc) (ls : Array Slot) (x2 : Int32) (x3 : Int32), k x2 x3 = some out → Rel G h H → va_S (AA G.2.2) s.heap H locs → (hpT h r0).1 = 2 → lv_has ls 4 [(0, .ref (G.2.2 + r0)), (1, .int x1), (2, .int x2), (3, .int x3)] → W p l e rm_X10_sumOf s m args below meth c H locs 0 0 (MQ below (Qm G h h (some (.int out)) 0) args s 0 0 (AA G.2.2)) (F0 m 4 ls [])
set_option maxRecDepth 100000 in
set_option maxHeartbeats 4000000 in
theorem w_X10_sumOf_4 {G : Gt} {l : Launch} {p : Program} {e : Env} {s : State} {m : MethodId} {args : Array Value} {below : List Frame} {meth : Method} {c : Code} {h : Hp} {out : Int32} {r0 : Nat} {x1 : Int32}  (C : Cx G p m c cX10_sumOf 4 s args RX10) (hr : meth.sig.returnType = some .int) (hlk : meth.locks = false)  (n : Nat) : P_X10_sumOf_4 G l p e s m args below meth c h out r0 x1 (f_X10_sumOf_4 h r0 x1 n) := by
  induction n with
  | zero => intro H locs ls x2 x3 hf hR hS t_r0 hl; cases hf
  | succ n hk4 =>
    intro H locs ls x2 x3 hf hR hS t_r0 hl
    rw [f_X10_sumOf_4] at hf
    obtain ⟨k4, e_k4⟩ : ∃ y, y = f_X10_sumOf_4 h r0 x1 n := ⟨_, rfl⟩
    have hf := lt_e hf e_k4
    rw [← e_k4] at hk4
    refine lv_iload_n C.x C.b dX10_sumOf_4 rfl (lv_at hl 3 rfl) ?_
    refine lv_aload_n C.x C.b dX10_sumOf_5 rfl (lv_at hl 0 rfl) ?_
    refine lv_bipush (v := (48 : Int32)) C.x C.b dX10_sumOf_6 (by decide) ?_
    obtain ⟨g1, hf⟩ := gd_e hf
    refine r_iald C hR t_r0 g1 dX10_sumOf_8 ?_
    refine lv_icmp_ge (tgt := 26) C.x C.b dX10_sumOf_9 (by decide) (fun c2 => ?_) (fun c2 => ?_)
    · have hf := it_t hf c2
      refine lv_iload_n C.x C.b dX10_sumOf_26 rfl (lv_at hl 2 rfl) ?_
      have hf := so_e hf
      subst hf
      exact r_iret C hr hlk hR Ext.rf hS dX10_sumOf_27
    · have hf := it_f hf c2
      refine lv_iload_n C.x C.b dX10_sumOf_12 rfl (lv_at hl 2 rfl) ?_
      refine lv_aload_n C.x C.b dX10_sumOf_13 rfl (lv_at hl 0 rfl) ?_
      refine lv_iload_n C.x C.b dX10_sumOf_14 rfl (lv_at hl 1 rfl) ?_
      refine lv_iload_n C.x C.b dX10_sumOf_15 rfl (lv_at hl 3 rfl) ?_
      refine lv_iadd C.x C.b dX10_sumOf_16 ?_
      obtain ⟨g3, hf⟩ := gd_e hf
      refine r_iald C hR t_r0 g3 dX10_sumOf_17 ?_
      refine lv_iadd C.x C.b dX10_sumOf_18 ?_
      refine lv_topi (fun v4 e_v4 => ?_)
      have hf := lt_e hf e_v4
      refine lv_istore_n (lv' := [(2, .int v4), (0, .ref (G.2.2 + r0)), (1, .int x1), (3, .int x3)]) C.x C.b dX10_sumOf_19 rfl hl (by decide) rfl (fun ls hl => ?_)
      obtain ⟨v5, e_v5⟩ : ∃ y : Int32, y = x3 + (1 : Int32) := ⟨_, rfl⟩
      have hf := lt_e hf e_v5
      refine lv_iinc (v := v5) (lv' := [(3, .int v5), (2, .int v4), (0, .ref (G.2.2 + r0)), (1, .int x1)]) C.x C.b dX10_sumOf_20 hl (k := 3) rfl (by rw [e_v5]; rfl) (by decide) rfl (fun ls hl => ?_)
      refine lv_goto (tgt := 4) C.x C.b dX10_sumOf_23 (by decide) ?_
      exact hk4 _ _ _ _ _ hf hR hS t_r0 (lv_sub hl [2, 3, 1, 0] rfl)
set_option maxRecDepth 100000 in
set_option maxHeartbeats 4000000 in
theorem k_X10_sumOf {G : Gt} {l : Launch} {h : Hp} {r0 : Nat} {x1 : Int32} {out : Int32} (t_r0 : (hpT h r0).1 = 2)  (hf : f_X10_sumOf h r0 x1 = some out) : Mt G l yX10_sumOf cX10_sumOf 4 (some .int) rm_X10_sumOf [.ref (G.2.2 + r0), .int x1] h (some (.int out)) h 0 0 0 := by
  refine r_met (by decide +kernel) (Nat.le_of_ble_eq_true rfl) ?_
  intro p e s m args below meth c ls C hr hlk hnm hR hS hl
  have hl : lv_has ls 4 [(0, .ref (G.2.2 + r0)), (1, .int x1)] := hl
  rw [f_X10_sumOf] at hf
  refine lv_iconst (v := (0 : Int32)) C.x C.b dX10_sumOf_0 (by decide) ?_
  refine lv_istore_n (lv' := [(2, .int (0 : Int32)), (0, .ref (G.2.2 + r0)), (1, .int x1)]) C.x C.b dX10_sumOf_1 rfl hl (by decide) rfl (fun ls hl => ?_)
  refine lv_iconst (v := (0 : Int32)) C.x C.b dX10_sumOf_2 (by decide) ?_
  refine lv_istore_n (lv' := [(3, .int (0 : Int32)), (2, .int (0 : Int32)), (0, .ref (G.2.2 + r0)), (1, .int x1)]) C.x C.b dX10_sumOf_3 rfl hl (by decide) rfl (fun ls hl => ?_)
  exact w_X10_sumOf_4 C hr hlk FU _ _ _ _ _ hf hR hS t_r0 (lv_sub hl [2, 3, 1, 0] rfl)

def rm_X10_campsOver : Room := { frames := 3, cells := 0, slots := 0, locals := 74 }
def P_X10_campsOver_43 (G : Gt) (l : Launch) (p : Program) (e : Env) (s : State) (m : MethodId) (args : Array Value) (below : List Frame) (meth : Method) (c : Code) (h : Hp) (out : Int32) (r0 : Nat) (r1 : Nat) (x2 : Int32) (k : Int32 → Int32 → Int32 → Option Int32) : Prop := ∀ (H : Heap) (locs : List Loc) (ls : Array Slot) (s0 : Int32) (s1 : Int32) (x4 : Int32), k s0 s1 x4 = some out → Rel G h H → va_S (AA G.2.2) s.heap H locs → hpT h r0 = (1, 10) → (hpT h r1).1 = 2 → lv_has ls 5 [(0, .ref (G.2.2 + r0)), (1, .ref (G.2.2 + r1)), (2, .int x2), (4, .int x4)] → W p l e rm_X10_campsOver s m args below meth c H locs 0 0 (MQ below (Qm G h h (some (.int out)) 0) args s 0 0 (AA G.2.2)) (F0 m 43 ls [.int s1, .int s0])
def P_X10_campsOver_42 (G : Gt) (l : Launch) (p : Program) (e : Env) (s : State) (m : MethodId) (args : Array Value) (below : List Frame) (meth : Method) (c : Code) (h : Hp) (out : Int32) (r0 : Nat) (r1 : Nat) (x2 : Int32) (k : Int32 → Int32 → Option Int32) : Prop := ∀ (H : Heap) (locs : List Loc) (ls : Array Slot) (s0 : Int32) (x4 : Int32), k s0 x4 = some out → Rel G h H → va_S (AA G.2.2) s.heap H locs → hpT h r0 = (1, 10) → (hpT h r1).1 = 2 → lv_has ls 5 [(0, .ref (G.2.2 + r0)), (1, .ref (G.2.2 + r1)), (2, .int x2), (4, .int x4)] → W p l e rm_X10_campsOver s m args below meth c H locs 0 0 (MQ below (Qm G h h (some (.int out)) 0) args s 0 0 (AA G.2.2)) (F0 m 42 ls [.int s0])
def P_X10_campsOver_5 (G : Gt) (l : Launch) (p : Program) (e : Env) (s : State) (m : MethodId) (args : Array Value) (below : List Frame) (meth : Method) (c : Code) (h : Hp) (out : Int32) (r0 : Nat) (r1 : Nat) (x2 : Int32) (k : Int32 → Int32 → Option Int32) : Prop := ∀ (H : Heap) (locs : List Loc) (ls : Array Slot) (x3 : Int32) (x4 : Int32), k x3 x4 = some out → Rel G h H → va_S (AA G.2.2) s.heap H locs → hpT h r0 = (1, 10) → (hpT h r1).1 = 2 → lv_has ls 5 [(0, .ref (G.2.2 + r0)), (1, .ref (G.2.2 + r1)), (2, .int x2), (3, .int x3), (4, .int x4)] → W p l e rm_X10_campsOver s m args below meth c H locs 0 0 (MQ below (Qm G h h (some (.int out)) 0) args s 0 0 (AA G.2.2)) (F0 m 5 ls [])
set_option maxRecDepth 100000 in
set_option maxHeartbeats 4000000 in
theorem w_X10_campsOver_43 {G : Gt} {l : Launch} {p : Program} {e : Env} {s : State} {m : MethodId} {args : Array Value} {below : List Frame} {meth : Method} {c : Code} {h : Hp} {out : Int32} {r0 : Nat} {r1 : Nat} {x2 : Int32} {k5 : Int32 → Int32 → Option Int32} (C : Cx G p m c cX10_campsOver 5 s args RX10) (hr : meth.sig.returnType = some .int) (hlk : meth.locks = false) (hk5 : P_X10_campsOver_5 G l p e s m args below meth c h out r0 r1 x2 k5) : P_X10_campsOver_43 G l p e s m args below meth c h out r0 r1 x2 (f_X10_campsOver_43 h r0 r1 x2 k5) := by
  intro H locs ls s0 s1 x4 hf hR hS t_r0 t_r1 hl
  rw [f_X10_campsOver_43] at hf
  refine lv_ior C.x C.b dX10_campsOver_43 ?_
  refine lv_topi (fun v8 e_v8 => ?_)
  have hf := lt_e hf e_v8
  refine lv_istore_n (lv' := [(3, .int v8), (0, .ref (G.2.2 + r0)), (1, .ref (G.2.2 + r1)), (2, .int x2), (4, .int x4)]) C.x C.b dX10_campsOver_44 rfl hl (by decide) rfl (fun ls hl => ?_)
  obtain ⟨v9, e_v9⟩ : ∃ y : Int32, y = x4 + (1 : Int32) := ⟨_, rfl⟩
  have hf := lt_e hf e_v9
  refine lv_iinc (v := v9) (lv' := [(4, .int v9), (3, .int v8), (0, .ref (G.2.2 + r0)), (1, .ref (G.2.2 + r1)), (2, .int x2)]) C.x C.b dX10_campsOver_45 hl (k := 4) rfl (by rw [e_v9]; rfl) (by decide) rfl (fun ls hl => ?_)
  refine lv_goto (tgt := 5) C.x C.b dX10_campsOver_48 (by decide) ?_
  exact hk5 _ _ _ _ _ hf hR hS t_r0 t_r1 (lv_sub hl [2, 3, 4, 1, 0] rfl)
set_option maxRecDepth 100000 in
set_option maxHeartbeats 4000000 in
theorem w_X10_campsOver_42 {G : Gt} {l : Launch} {p : Program} {e : Env} {s : State} {m : MethodId} {args : Array Value} {below : List Frame} {meth : Method} {c : Code} {h : Hp} {out : Int32} {r0 : Nat} {r1 : Nat} {x2 : Int32} {k5 : Int32 → Int32 → Option Int32} (C : Cx G p m c cX10_campsOver 5 s args RX10) (hr : meth.sig.returnType = some .int) (hlk : meth.locks = false) (hk5 : P_X10_campsOver_5 G l p e s m args below meth c h out r0 r1 x2 k5) : P_X10_campsOver_42 G l p e s m args below meth c h out r0 r1 x2 (f_X10_campsOver_42 h r0 r1 x2 k5) := by
  intro H locs ls s0 x4 hf hR hS t_r0 t_r1 hl
  rw [f_X10_campsOver_42] at hf
  refine lv_iconst (v := (0 : Int32)) C.x C.b dX10_campsOver_42 (by decide) ?_
  exact w_X10_campsOver_43 C hr hlk hk5 _ _ _ _ _ _ hf hR hS t_r0 t_r1 (lv_sub hl [0, 1, 2, 3] rfl)
set_option maxRecDepth 100000 in
set_option maxHeartbeats 4000000 in
theorem w_X10_campsOver_5 {G : Gt} {l : Launch} {p : Program} {e : Env} {s : State} {m : MethodId} {args : Array Value} {below : List Frame} {meth : Method} {c : Code} {h : Hp} {out : Int32} {r0 : Nat} {r1 : Nat} {x2 : Int32}  (C : Cx G p m c cX10_campsOver 5 s args RX10) (hr : meth.sig.returnType = some .int) (hlk : meth.locks = false)  (n : Nat) : P_X10_campsOver_5 G l p e s m args below meth c h out r0 r1 x2 (f_X10_campsOver_5 h r0 r1 x2 n) := by
  induction n with
  | zero => intro H locs ls x3 x4 hf hR hS t_r0 t_r1 hl; cases hf
  | succ n hk5 =>
    intro H locs ls x3 x4 hf hR hS t_r0 t_r1 hl
    rw [f_X10_campsOver_5] at hf
    obtain ⟨k5, e_k5⟩ : ∃ y, y = f_X10_campsOver_5 h r0 r1 x2 n := ⟨_, rfl⟩
    have hf := lt_e hf e_k5
    rw [← e_k5] at hk5
    refine lv_iload C.x C.b dX10_campsOver_5 (lv_at hl 4 rfl) ?_
    refine lv_aload_n C.x C.b dX10_campsOver_7 rfl (lv_at hl 1 rfl) ?_
    refine lv_bipush (v := (48 : Int32)) C.x C.b dX10_campsOver_8 (by decide) ?_
    obtain ⟨g1, hf⟩ := gd_e hf
    refine r_iald C hR t_r1 g1 dX10_campsOver_10 ?_
    refine lv_icmp_ge (tgt := 51) C.x C.b dX10_campsOver_11 (by decide) (fun c2 => ?_) (fun c2 => ?_)
    · have hf := it_t hf c2
      refine lv_iload_n C.x C.b dX10_campsOver_51 rfl (lv_at hl 3 rfl) ?_
      have hf := so_e hf
      subst hf
      exact r_iret C hr hlk hR Ext.rf hS dX10_campsOver_52
    · have hf := it_f hf c2
      refine lv_iload_n C.x C.b dX10_campsOver_14 rfl (lv_at hl 3 rfl) ?_
      refine lv_aload_n C.x C.b dX10_campsOver_15 rfl (lv_at hl 1 rfl) ?_
      refine lv_iload C.x C.b dX10_campsOver_16 (lv_at hl 4 rfl) ?_
      obtain ⟨q3, h_q3, hf⟩ := bd_e hf
      refine r_callS (As := [.ref (G.2.2 + r1), .int x4]) (rest := [.int x3]) C hR hS mk_X10_isOn cl_X10_129 (k_X10_isOn t_r1 h_q3) ⟨⟨Nat.le_of_ble_eq_true rfl, Nat.le_of_ble_eq_true rfl⟩, ⟨rfl, rfl⟩, Nat.le_of_ble_eq_true rfl, Nat.le_of_ble_eq_true rfl⟩ rfl hl.1 rfl (Nat.le_of_ble_eq_true rfl) dX10_campsOver_18 (fun H locs hR hS hE1 z_q3 => ?_)
      have z_q3 := z_q3 _ rfl
      refine lv_if_eq (tgt := 42) C.x C.b dX10_campsOver_21 (by decide) (fun c4 => ?_) (fun c4 => ?_)
      · have hf := it_t hf c4
        exact w_X10_campsOver_42 C hr hlk hk5 _ _ _ _ _ hf hR hS t_r0 t_r1 (lv_sub hl [0, 1, 2, 4] rfl)
      · have hf := it_f hf c4
        refine lv_aload_n C.x C.b dX10_campsOver_24 rfl (lv_at hl 0 rfl) ?_
        refine lv_aload_n C.x C.b dX10_campsOver_25 rfl (lv_at hl 1 rfl) ?_
        refine lv_iload C.x C.b dX10_campsOver_26 (lv_at hl 4 rfl) ?_
        refine lv_iload_n C.x C.b dX10_campsOver_28 rfl (lv_at hl 2 rfl) ?_
        obtain ⟨q5, h_q5, hf⟩ := bd_e hf
        refine r_callV (As := [.ref (G.2.2 + r1), .int x4, .int x2]) (rest := [.int x3]) C hR hS t_r0 rfl mk_X10_isLyingOver cl_X10_133 (k_X10_isLyingOver t_r0 t_r1 h_q5) ⟨⟨Nat.le_of_ble_eq_true rfl, Nat.le_of_ble_eq_true rfl⟩, ⟨rfl, rfl⟩, Nat.le_of_ble_eq_true rfl, Nat.le_of_ble_eq_true rfl⟩ rfl hl.1 rfl (Nat.le_of_ble_eq_true rfl) dX10_campsOver_29 (fun H locs hR hS hE1 z_q5 => ?_)
        have z_q5 := z_q5 _ rfl
        refine lv_if_eq (tgt := 42) C.x C.b dX10_campsOver_32 (by decide) (fun c6 => ?_) (fun c6 => ?_)
        · have hf := it_t hf c6
          exact w_X10_campsOver_42 C hr hlk hk5 _ _ _ _ _ hf hR hS t_r0 t_r1 (lv_sub hl [0, 1, 2, 4] rfl)
        · have hf := it_f hf c6
          refine lv_iconst (v := (1 : Int32)) C.x C.b dX10_campsOver_35 (by decide) ?_
          refine lv_iload C.x C.b dX10_campsOver_36 (lv_at hl 4 rfl) ?_
          refine lv_ishl C.x C.b dX10_campsOver_38 ?_
          refine lv_topi (fun v7 e_v7 => ?_)
          have hf := lt_e hf e_v7
          refine lv_goto (tgt := 43) C.x C.b dX10_campsOver_39 (by decide) ?_
          exact w_X10_campsOver_43 C hr hlk hk5 _ _ _ _ _ _ hf hR hS t_r0 t_r1 (lv_sub hl [0, 1, 2, 4] rfl)
set_option maxRecDepth 100000 in
set_option maxHeartbeats 4000000 in
theorem k_X10_campsOver {G : Gt} {l : Launch} {h : Hp} {r0 : Nat} {r1 : Nat} {x2 : Int32} {out : Int32} (t_r0 : hpT h r0 = (1, 10)) (t_r1 : (hpT h r1).1 = 2)  (hf : f_X10_campsOver h r0 r1 x2 = some out) : Mt G l yX10_campsOver cX10_campsOver 5 (some .int) rm_X10_campsOver [.ref (G.2.2 + r0), .ref (G.2.2 + r1), .int x2] h (some (.int out)) h 0 0 0 := by
  refine r_met (by decide +kernel) (Nat.le_of_ble_eq_true rfl) ?_
  intro p e s m args below meth c ls C hr hlk hnm hR hS hl
  have hl : lv_has ls 5 [(0, .ref (G.2.2 + r0)), (1, .ref (G.2.2 + r1)), (2, .int x2)] := hl
  rw [f_X10_campsOver] at hf
  refine lv_iconst (v := (0 : Int32)) C.x C.b dX10_campsOver_0 (by decide) ?_
  refine lv_istore_n (lv' := [(3, .int (0 : Int32)), (0, .ref (G.2.2 + r0)), (1, .ref (G.2.2 + r1)), (2, .int x2)]) C.x C.b dX10_campsOver_1 rfl hl (by decide) rfl (fun ls hl => ?_)
  refine lv_iconst (v := (0 : Int32)) C.x C.b dX10_campsOver_2 (by decide) ?_
  refine lv_istore (lv' := [(4, .int (0 : Int32)), (3, .int (0 : Int32)), (0, .ref (G.2.2 + r0)), (1, .ref (G.2.2 + r1)), (2, .int x2)]) C.x C.b dX10_campsOver_3 hl (by decide) rfl (fun ls hl => ?_)
  exact w_X10_campsOver_5 C hr hlk FU _ _ _ _ _ hf hR hS t_r0 t_r1 (lv_sub hl [2, 3, 4, 1, 0] rfl)

def rm_X10_sleptBy : Room := { frames := 4, cells := 0, slots := 0, locals := 99 }
def P_X10_sleptBy_45 (G : Gt) (l : Launch) (p : Program) (e : Env) (s : State) (m : MethodId) (args : Array Value) (below : List Frame) (meth : Method) (c : Code) (h : Hp) (out : Int64) (r0 : Nat) (r1 : Nat) (x2 : Int32) (k : Int64 → Int64 → Int32 → Option Int64) : Prop := ∀ (H : Heap) (locs : List Loc) (ls : Array Slot) (s0 : Int64) (s1 : Int64) (x5 : Int32), k s0 s1 x5 = some out → Rel G h H → va_S (AA G.2.2) s.heap H locs → hpT h r0 = (1, 10) → (hpT h r1).1 = 2 → lv_has ls 6 [(0, .ref (G.2.2 + r0)), (1, .ref (G.2.2 + r1)), (2, .int x2), (5, .int x5)] → W p l e rm_X10_sleptBy s m args below meth c H locs 0 0 (MQ below (Qm G h h (some (.long out)) 0) args s 0 0 (AA G.2.2)) (F0 m 45 ls [.long s1, .long s0])
def P_X10_sleptBy_44 (G : Gt) (l : Launch) (p : Program) (e : Env) (s : State) (m : MethodId) (args : Array Value) (below : List Frame) (meth : Method) (c : Code) (h : Hp) (out : Int64) (r0 : Nat) (r1 : Nat) (x2 : Int32) (k : Int64 → Int32 → Option Int64) : Prop := ∀ (H : Heap) (locs : List Loc) (ls : Array Slot) (s0 : Int64) (x5 : Int32), k s0 x5 = some out → Rel G h H → va_S (AA G.2.2) s.heap H locs → hpT h r0 = (1, 10) → (hpT h r1).1 = 2 → lv_has ls 6 [(0, .ref (G.2.2 + r0)), (1, .ref (G.2.2 + r1)), (2, .int x2), (5, .int x5)] → W p l e rm_X10_sleptBy s m args below meth c H locs 0 0 (MQ below (Qm G h h (some (.long out)) 0) args s 0 0 (AA G.2.2)) (F0 m 44 ls [.long s0])
def P_X10_sleptBy_5 (G : Gt) (l : Launch) (p : Program) (e : Env) (s : State) (m : MethodId) (args : Array Value) (below : List Frame) (meth : Method) (c : Code) (h : Hp) (out : Int64) (r0 : Nat) (r1 : Nat) (x2 : Int32) (k : Int64 → Int32 → Option Int64) : Prop := ∀ (H : Heap) (locs : List Loc) (ls : Array Slot) (y3 : Int64) (x5 : Int32), k y3 x5 = some out → Rel G h H → va_S (AA G.2.2) s.heap H locs → hpT h r0 = (1, 10) → (hpT h r1).1 = 2 → lv_has ls 6 [(0, .ref (G.2.2 + r0)), (1, .ref (G.2.2 + r1)), (2, .int x2), (3, .long y3), (5, .int x5)] → W p l e rm_X10_sleptBy s m args below meth c H locs 0 0 (MQ below (Qm G h h (some (.long out)) 0) args s 0 0 (AA G.2.2)) (F0 m 5 ls [])
set_option maxRecDepth 100000 in
set_option maxHeartbeats 4000000 in
theorem w_X10_sleptBy_45 {G : Gt} {l : Launch} {p : Program} {e : Env} {s : State} {m : MethodId} {args : Array Value} {below : List Frame} {meth : Method} {c : Code} {h : Hp} {out : Int64} {r0 : Nat} {r1 : Nat} {x2 : Int32} {k5 : Int64 → Int32 → Option Int64} (C : Cx G p m c cX10_sleptBy 6 s args RX10) (hr : meth.sig.returnType = some .long) (hlk : meth.locks = false) (hk5 : P_X10_sleptBy_5 G l p e s m args below meth c h out r0 r1 x2 k5) : P_X10_sleptBy_45 G l p e s m args below meth c h out r0 r1 x2 (f_X10_sleptBy_45 h r0 r1 x2 k5) := by
  intro H locs ls s0 s1 x5 hf hR hS t_r0 t_r1 hl
  rw [f_X10_sleptBy_45] at hf
  refine lv_lor C.x C.b dX10_sleptBy_45 ?_
  refine lv_topl (fun v8 e_v8 => ?_)
  have hf := lt_e hf e_v8
  refine lv_lstore_n (lv' := [(3, .long v8), (0, .ref (G.2.2 + r0)), (1, .ref (G.2.2 + r1)), (2, .int x2), (5, .int x5)]) C.x C.b dX10_sleptBy_46 rfl hl (by decide) rfl (fun ls hl => ?_)
  obtain ⟨v9, e_v9⟩ : ∃ y : Int32, y = x5 + (1 : Int32) := ⟨_, rfl⟩
  have hf := lt_e hf e_v9
  refine lv_iinc (v := v9) (lv' := [(5, .int v9), (3, .long v8), (0, .ref (G.2.2 + r0)), (1, .ref (G.2.2 + r1)), (2, .int x2)]) C.x C.b dX10_sleptBy_47 hl (k := 4) rfl (by rw [e_v9]; rfl) (by decide) rfl (fun ls hl => ?_)
  refine lv_goto (tgt := 5) C.x C.b dX10_sleptBy_50 (by decide) ?_
  exact hk5 _ _ _ _ _ hf hR hS t_r0 t_r1 (lv_sub hl [2, 3, 4, 1, 0] rfl)
set_option maxRecDepth 100000 in
set_option maxHeartbeats 4000000 in
theorem w_X10_sleptBy_44 {G : Gt} {l : Launch} {p : Program} {e : Env} {s : State} {m : MethodId} {args : Array Value} {below : List Frame} {meth : Method} {c : Code} {h : Hp} {out : Int64} {r0 : Nat} {r1 : Nat} {x2 : Int32} {k5 : Int64 → Int32 → Option Int64} (C : Cx G p m c cX10_sleptBy 6 s args RX10) (hr : meth.sig.returnType = some .long) (hlk : meth.locks = false) (hk5 : P_X10_sleptBy_5 G l p e s m args below meth c h out r0 r1 x2 k5) : P_X10_sleptBy_44 G l p e s m args below meth c h out r0 r1 x2 (f_X10_sleptBy_44 h r0 r1 x2 k5) := by
  intro H locs ls s0 x5 hf hR hS t_r0 t_r1 hl
  rw [f_X10_sleptBy_44] at hf
  refine lv_lconst (v := (0 : Int64)) C.x C.b dX10_sleptBy_44 (by decide) ?_
  exact w_X10_sleptBy_45 C hr hlk hk5 _ _ _ _ _ _ hf hR hS t_r0 t_r1 (lv_sub hl [0, 1, 2, 3] rfl)
set_option maxRecDepth 100000 in
set_option maxHeartbeats 4000000 in
theorem w_X10_sleptBy_5 {G : Gt} {l : Launch} {p : Program} {e : Env} {s : State} {m : MethodId} {args : Array Value} {below : List Frame} {meth : Method} {c : Code} {h : Hp} {out : Int64} {r0 : Nat} {r1 : Nat} {x2 : Int32}  (C : Cx G p m c cX10_sleptBy 6 s args RX10) (hr : meth.sig.returnType = some .long) (hlk : meth.locks = false)  (n : Nat) : P_X10_sleptBy_5 G l p e s m args below meth c h out r0 r1 x2 (f_X10_sleptBy_5 h r0 r1 x2 n) := by
  induction n with
  | zero => intro H locs ls y3 x5 hf hR hS t_r0 t_r1 hl; cases hf
  | succ n hk5 =>
    intro H locs ls y3 x5 hf hR hS t_r0 t_r1 hl
    rw [f_X10_sleptBy_5] at hf
    obtain ⟨k5, e_k5⟩ : ∃ y, y = f_X10_sleptBy_5 h r0 r1 x2 n := ⟨_, rfl⟩
    have hf := lt_e hf e_k5
    rw [← e_k5] at hk5
    refine lv_iload C.x C.b dX10_sleptBy_5 (lv_at hl 4 rfl) ?_
    refine lv_aload_n C.x C.b dX10_sleptBy_7 rfl (lv_at hl 1 rfl) ?_
    refine lv_bipush (v := (48 : Int32)) C.x C.b dX10_sleptBy_8 (by decide) ?_
    obtain ⟨g1, hf⟩ := gd_e hf
    refine r_iald C hR t_r1 g1 dX10_sleptBy_10 ?_
    refine lv_icmp_ge (tgt := 53) C.x C.b dX10_sleptBy_11 (by decide) (fun c2 => ?_) (fun c2 => ?_)
    · have hf := it_t hf c2
      refine lv_lload_n C.x C.b dX10_sleptBy_53 rfl (lv_at hl 3 rfl) ?_
      have hf := so_e hf
      subst hf
      exact r_lret C hr hlk hR Ext.rf hS dX10_sleptBy_54
    · have hf := it_f hf c2
      refine lv_lload_n C.x C.b dX10_sleptBy_14 rfl (lv_at hl 3 rfl) ?_
      refine lv_aload_n C.x C.b dX10_sleptBy_15 rfl (lv_at hl 1 rfl) ?_
      refine lv_iload C.x C.b dX10_sleptBy_16 (lv_at hl 4 rfl) ?_
      obtain ⟨q3, h_q3, hf⟩ := bd_e hf
      refine r_callS (As := [.ref (G.2.2 + r1), .int x5]) (rest := [.long y3]) C hR hS mk_X10_isOn cl_X10_129 (k_X10_isOn t_r1 h_q3) ⟨⟨Nat.le_of_ble_eq_true rfl, Nat.le_of_ble_eq_true rfl⟩, ⟨rfl, rfl⟩, Nat.le_of_ble_eq_true rfl, Nat.le_of_ble_eq_true rfl⟩ rfl hl.1 rfl (Nat.le_of_ble_eq_true rfl) dX10_sleptBy_18 (fun H locs hR hS hE1 z_q3 => ?_)
      have z_q3 := z_q3 _ rfl
      refine lv_if_eq (tgt := 44) C.x C.b dX10_sleptBy_21 (by decide) (fun c4 => ?_) (fun c4 => ?_)
      · have hf := it_t hf c4
        exact w_X10_sleptBy_44 C hr hlk hk5 _ _ _ _ _ hf hR hS t_r0 t_r1 (lv_sub hl [0, 1, 2, 4] rfl)
      · have hf := it_f hf c4
        refine lv_iload_n C.x C.b dX10_sleptBy_24 rfl (lv_at hl 2 rfl) ?_
        refine lv_i2l C.x C.b dX10_sleptBy_25 rfl ?_
        refine lv_iload C.x C.b dX10_sleptBy_26 (lv_at hl 4 rfl) ?_
        obtain ⟨q5, h_q5, hf⟩ := bd_e hf
        refine r_callS (As := [.long (x2.toInt64), .int x5]) (rest := [.long y3]) C hR hS mk_X10_has cl_X10_137 (k_X10_has h_q5) ⟨⟨Nat.le_of_ble_eq_true rfl, Nat.le_of_ble_eq_true rfl⟩, ⟨rfl, rfl⟩, Nat.le_of_ble_eq_true rfl, Nat.le_of_ble_eq_true rfl⟩ rfl hl.1 rfl (Nat.le_of_ble_eq_true rfl) dX10_sleptBy_28 (fun H locs hR hS hE1 z_q5 => ?_)
        have z_q5 := z_q5 _ rfl
        refine lv_if_eq (tgt := 44) C.x C.b dX10_sleptBy_31 (by decide) (fun c6 => ?_) (fun c6 => ?_)
        · have hf := it_t hf c6
          exact w_X10_sleptBy_44 C hr hlk hk5 _ _ _ _ _ hf hR hS t_r0 t_r1 (lv_sub hl [0, 1, 2, 4] rfl)
        · have hf := it_f hf c6
          refine lv_aload_n C.x C.b dX10_sleptBy_34 rfl (lv_at hl 0 rfl) ?_
          refine lv_aload_n C.x C.b dX10_sleptBy_35 rfl (lv_at hl 1 rfl) ?_
          refine lv_iload C.x C.b dX10_sleptBy_36 (lv_at hl 4 rfl) ?_
          obtain ⟨q7, h_q7, hf⟩ := bd_e hf
          refine r_callV (As := [.ref (G.2.2 + r1), .int x5]) (rest := [.long y3]) C hR hS t_r0 rfl mk_X10_areaOf cl_X10_141 (k_X10_areaOf t_r0 t_r1 h_q7) ⟨⟨Nat.le_of_ble_eq_true rfl, Nat.le_of_ble_eq_true rfl⟩, ⟨rfl, rfl⟩, Nat.le_of_ble_eq_true rfl, Nat.le_of_ble_eq_true rfl⟩ rfl hl.1 rfl (Nat.le_of_ble_eq_true rfl) dX10_sleptBy_38 (fun H locs hR hS hE1 z_q7 => ?_)
          refine lv_goto (tgt := 45) C.x C.b dX10_sleptBy_41 (by decide) ?_
          exact w_X10_sleptBy_45 C hr hlk hk5 _ _ _ _ _ _ hf hR hS t_r0 t_r1 (lv_sub hl [0, 1, 2, 4] rfl)
set_option maxRecDepth 100000 in
set_option maxHeartbeats 4000000 in
theorem k_X10_sleptBy {G : Gt} {l : Launch} {h : Hp} {r0 : Nat} {r1 : Nat} {x2 : Int32} {out : Int64} (t_r0 : hpT h r0 = (1, 10)) (t_r1 : (hpT h r1).1 = 2)  (hf : f_X10_sleptBy h r0 r1 x2 = some out) : Mt G l yX10_sleptBy cX10_sleptBy 6 (some .long) rm_X10_sleptBy [.ref (G.2.2 + r0), .ref (G.2.2 + r1), .int x2] h (some (.long out)) h 0 0 0 := by
  refine r_met (by decide +kernel) (Nat.le_of_ble_eq_true rfl) ?_
  intro p e s m args below meth c ls C hr hlk hnm hR hS hl
  have hl : lv_has ls 6 [(0, .ref (G.2.2 + r0)), (1, .ref (G.2.2 + r1)), (2, .int x2)] := hl
  rw [f_X10_sleptBy] at hf
  refine lv_lconst (v := (0 : Int64)) C.x C.b dX10_sleptBy_0 (by decide) ?_
  refine lv_lstore_n (lv' := [(3, .long (0 : Int64)), (0, .ref (G.2.2 + r0)), (1, .ref (G.2.2 + r1)), (2, .int x2)]) C.x C.b dX10_sleptBy_1 rfl hl (by decide) rfl (fun ls hl => ?_)
  refine lv_iconst (v := (0 : Int32)) C.x C.b dX10_sleptBy_2 (by decide) ?_
  refine lv_istore (lv' := [(5, .int (0 : Int32)), (3, .long (0 : Int64)), (0, .ref (G.2.2 + r0)), (1, .ref (G.2.2 + r1)), (2, .int x2)]) C.x C.b dX10_sleptBy_3 hl (by decide) rfl (fun ls hl => ?_)
  exact w_X10_sleptBy_5 C hr hlk FU _ _ _ _ _ hf hR hS t_r0 t_r1 (lv_sub hl [2, 3, 4, 1, 0] rfl)

def rm_X10_crossing : Room := { frames := 4, cells := 0, slots := 0, locals := 99 }
def P_X10_crossing_77 (G : Gt) (l : Launch) (p : Program) (e : Env) (s : State) (m : MethodId) (args : Array Value) (below : List Frame) (meth : Method) (c : Code) (h : Hp) (out : Int32) (r0 : Nat) (r1 : Nat) (x2 : Int32) (k : Int32 → Int32 → Int32 → Option Int32) : Prop := ∀ (H : Heap) (locs : List Loc) (ls : Array Slot) (s0 : Int32) (s1 : Int32) (x4 : Int32), k s0 s1 x4 = some out → Rel G h H → va_S (AA G.2.2) s.heap H locs → hpT h r0 = (1, 10) → (hpT h r1).1 = 2 → lv_has ls 6 [(0, .ref (G.2.2 + r0)), (1, .ref (G.2.2 + r1)), (2, .int x2), (4, .int x4)] → W p l e rm_X10_crossing s m args below meth c H locs 0 0 (MQ below (Qm G h h (some (.int out)) 0) args s 0 0 (AA G.2.2)) (F0 m 77 ls [.int s1, .int s0])
def P_X10_crossing_76 (G : Gt) (l : Launch) (p : Program) (e : Env) (s : State) (m : MethodId) (args : Array Value) (below : List Frame) (meth : Method) (c : Code) (h : Hp) (out : Int32) (r0 : Nat) (r1 : Nat) (x2 : Int32) (k : Int32 → Int32 → Option Int32) : Prop := ∀ (H : Heap) (locs : List Loc) (ls : Array Slot) (s0 : Int32) (x4 : Int32), k s0 x4 = some out → Rel G h H → va_S (AA G.2.2) s.heap H locs → hpT h r0 = (1, 10) → (hpT h r1).1 = 2 → lv_has ls 6 [(0, .ref (G.2.2 + r0)), (1, .ref (G.2.2 + r1)), (2, .int x2), (4, .int x4)] → W p l e rm_X10_crossing s m args below meth c H locs 0 0 (MQ below (Qm G h h (some (.int out)) 0) args s 0 0 (AA G.2.2)) (F0 m 76 ls [.int s0])
def P_X10_crossing_42 (G : Gt) (l : Launch) (p : Program) (e : Env) (s : State) (m : MethodId) (args : Array Value) (below : List Frame) (meth : Method) (c : Code) (h : Hp) (out : Int32) (r0 : Nat) (r1 : Nat) (x2 : Int32) (k : Int32 → Int32 → Int32 → Option Int32) : Prop := ∀ (H : Heap) (locs : List Loc) (ls : Array Slot) (s0 : Int32) (x3 : Int32) (x4 : Int32), k s0 x3 x4 = some out → Rel G h H → va_S (AA G.2.2) s.heap H locs → hpT h r0 = (1, 10) → (hpT h r1).1 = 2 → narrow .boolean (.int s0) = .int s0 → lv_has ls 6 [(0, .ref (G.2.2 + r0)), (1, .ref (G.2.2 + r1)), (2, .int x2), (3, .int x3), (4, .int x4)] → W p l e rm_X10_crossing s m args below meth c H locs 0 0 (MQ below (Qm G h h (some (.int out)) 0) args s 0 0 (AA G.2.2)) (F0 m 42 ls [.int s0])
def P_X10_crossing_41 (G : Gt) (l : Launch) (p : Program) (e : Env) (s : State) (m : MethodId) (args : Array Value) (below : List Frame) (meth : Method) (c : Code) (h : Hp) (out : Int32) (r0 : Nat) (r1 : Nat) (x2 : Int32) (k : Int32 → Int32 → Option Int32) : Prop := ∀ (H : Heap) (locs : List Loc) (ls : Array Slot) (x3 : Int32) (x4 : Int32), k x3 x4 = some out → Rel G h H → va_S (AA G.2.2) s.heap H locs → hpT h r0 = (1, 10) → (hpT h r1).1 = 2 → lv_has ls 6 [(0, .ref (G.2.2 + r0)), (1, .ref (G.2.2 + r1)), (2, .int x2), (3, .int x3), (4, .int x4)] → W p l e rm_X10_crossing s m args below meth c H locs 0 0 (MQ below (Qm G h h (some (.int out)) 0) args s 0 0 (AA G.2.2)) (F0 m 41 ls [])
def P_X10_crossing_5 (G : Gt) (l : Launch) (p : Program) (e : Env) (s : State) (m : MethodId) (args : Array Value) (below : List Frame) (meth : Method) (c : Code) (h : Hp) (out : Int32) (r0 : Nat) (r1 : Nat) (x2 : Int32) (k : Int32 → Int32 → Option Int32) : Prop := ∀ (H : Heap) (locs : List Loc) (ls : Array Slot) (x3 : Int32) (x4 : Int32), k x3 x4 = some out → Rel G h H → va_S (AA G.2.2) s.heap H locs → hpT h r0 = (1, 10) → (hpT h r1).1 = 2 → lv_has ls 6 [(0, .ref (G.2.2 + r0)), (1, .ref (G.2.2 + r1)), (2, .int x2), (3, .int x3), (4, .int x4)] → W p l e rm_X10_crossing s m args below meth c H locs 0 0 (MQ below (Qm G h h (some (.int out)) 0) args s 0 0 (AA G.2.2)) (F0 m 5 ls [])
set_option maxRecDepth 100000 in
set_option maxHeartbeats 4000000 in
theorem w_X10_crossing_77 {G : Gt} {l : Launch} {p : Program} {e : Env} {s : State} {m : MethodId} {args : Array Value} {below : List Frame} {meth : Method} {c : Code} {h : Hp} {out : Int32} {r0 : Nat} {r1 : Nat} {x2 : Int32} {k5 : Int32 → Int32 → Option Int32} (C : Cx G p m c cX10_crossing 6 s args RX10) (hr : meth.sig.returnType = some .int) (hlk : meth.locks = false) (hk5 : P_X10_crossing_5 G l p e s m args below meth c h out r0 r1 x2 k5) : P_X10_crossing_77 G l p e s m args below meth c h out r0 r1 x2 (f_X10_crossing_77 h r0 r1 x2 k5) := by
  intro H locs ls s0 s1 x4 hf hR hS t_r0 t_r1 hl
  rw [f_X10_crossing_77] at hf
  refine lv_ior C.x C.b dX10_crossing_77 ?_
  refine lv_topi (fun v13 e_v13 => ?_)
  have hf := lt_e hf e_v13
  refine lv_istore_n (lv' := [(3, .int v13), (0, .ref (G.2.2 + r0)), (1, .ref (G.2.2 + r1)), (2, .int x2), (4, .int x4)]) C.x C.b dX10_crossing_78 rfl hl (by decide) rfl (fun ls hl => ?_)
  obtain ⟨v14, e_v14⟩ : ∃ y : Int32, y = x4 + (1 : Int32) := ⟨_, rfl⟩
  have hf := lt_e hf e_v14
  refine lv_iinc (v := v14) (lv' := [(4, .int v14), (3, .int v13), (0, .ref (G.2.2 + r0)), (1, .ref (G.2.2 + r1)), (2, .int x2)]) C.x C.b dX10_crossing_79 hl (k := 4) rfl (by rw [e_v14]; rfl) (by decide) rfl (fun ls hl => ?_)
  refine lv_goto (tgt := 5) C.x C.b dX10_crossing_82 (by decide) ?_
  exact hk5 _ _ _ _ _ hf hR hS t_r0 t_r1 (lv_sub hl [2, 3, 4, 1, 0] rfl)
set_option maxRecDepth 100000 in
set_option maxHeartbeats 4000000 in
theorem w_X10_crossing_76 {G : Gt} {l : Launch} {p : Program} {e : Env} {s : State} {m : MethodId} {args : Array Value} {below : List Frame} {meth : Method} {c : Code} {h : Hp} {out : Int32} {r0 : Nat} {r1 : Nat} {x2 : Int32} {k5 : Int32 → Int32 → Option Int32} (C : Cx G p m c cX10_crossing 6 s args RX10) (hr : meth.sig.returnType = some .int) (hlk : meth.locks = false) (hk5 : P_X10_crossing_5 G l p e s m args below meth c h out r0 r1 x2 k5) : P_X10_crossing_76 G l p e s m args below meth c h out r0 r1 x2 (f_X10_crossing_76 h r0 r1 x2 k5) := by
  intro H locs ls s0 x4 hf hR hS t_r0 t_r1 hl
  rw [f_X10_crossing_76] at hf
  refine lv_iconst (v := (0 : Int32)) C.x C.b dX10_crossing_76 (by decide) ?_
  exact w_X10_crossing_77 C hr hlk hk5 _ _ _ _ _ _ hf hR hS t_r0 t_r1 (lv_sub hl [0, 1, 2, 3] rfl)
set_option maxRecDepth 100000 in
set_option maxHeartbeats 4000000 in
theorem w_X10_crossing_42 {G : Gt} {l : Launch} {p : Program} {e : Env} {s : State} {m : MethodId} {args : Array Value} {below : List Frame} {meth : Method} {c : Code} {h : Hp} {out : Int32} {r0 : Nat} {r1 : Nat} {x2 : Int32} {k5 : Int32 → Int32 → Option Int32} (C : Cx G p m c cX10_crossing 6 s args RX10) (hr : meth.sig.returnType = some .int) (hlk : meth.locks = false) (hk5 : P_X10_crossing_5 G l p e s m args below meth c h out r0 r1 x2 k5) : P_X10_crossing_42 G l p e s m args below meth c h out r0 r1 x2 (f_X10_crossing_42 h r0 r1 x2 k5) := by
  intro H locs ls s0 x3 x4 hf hR hS t_r0 t_r1 z_s0 hl
  rw [f_X10_crossing_42] at hf
  refine lv_istore (lv' := [(5, .int s0), (0, .ref (G.2.2 + r0)), (1, .ref (G.2.2 + r1)), (2, .int x2), (3, .int x3), (4, .int x4)]) C.x C.b dX10_crossing_42 hl (by decide) rfl (fun ls hl => ?_)
  refine lv_iload_n C.x C.b dX10_crossing_44 rfl (lv_at hl 4 rfl) ?_
  refine lv_iload C.x C.b dX10_crossing_45 (lv_at hl 0 rfl) ?_
  refine lv_if_eq (tgt := 76) C.x C.b dX10_crossing_47 (by decide) (fun c8 => ?_) (fun c8 => ?_)
  · have hf := it_t hf c8
    exact w_X10_crossing_76 C hr hlk hk5 _ _ _ _ _ hf hR hS t_r0 t_r1 (lv_sub hl [1, 2, 3, 5] rfl)
  · have hf := it_f hf c8
    refine lv_aload_n C.x C.b dX10_crossing_50 rfl (lv_at hl 1 rfl) ?_
    refine lv_aload_n C.x C.b dX10_crossing_51 rfl (lv_at hl 2 rfl) ?_
    refine lv_iload C.x C.b dX10_crossing_52 (lv_at hl 5 rfl) ?_
    obtain ⟨q9, h_q9, hf⟩ := bd_e hf
    refine r_callV (As := [.ref (G.2.2 + r1), .int x4]) (rest := [.int x3]) C hR hS t_r0 rfl mk_X10_areaOf cl_X10_141 (k_X10_areaOf t_r0 t_r1 h_q9) ⟨⟨Nat.le_of_ble_eq_true rfl, Nat.le_of_ble_eq_true rfl⟩, ⟨rfl, rfl⟩, Nat.le_of_ble_eq_true rfl, Nat.le_of_ble_eq_true rfl⟩ rfl hl.1 rfl (Nat.le_of_ble_eq_true rfl) dX10_crossing_54 (fun H locs hR hS hE1 z_q9 => ?_)
    refine lv_aload_n C.x C.b dX10_crossing_57 rfl (lv_at hl 1 rfl) ?_
    refine lv_aload_n C.x C.b dX10_crossing_58 rfl (lv_at hl 2 rfl) ?_
    refine lv_iload_n C.x C.b dX10_crossing_59 rfl (lv_at hl 3 rfl) ?_
    obtain ⟨q10, h_q10, hf⟩ := bd_e hf
    refine r_callV (As := [.ref (G.2.2 + r1), .int x2]) (rest := [.long q9, .int x3]) C hR hS t_r0 rfl mk_X10_areaOf cl_X10_141 (k_X10_areaOf t_r0 t_r1 h_q10) ⟨⟨Nat.le_of_ble_eq_true rfl, Nat.le_of_ble_eq_true rfl⟩, ⟨rfl, rfl⟩, Nat.le_of_ble_eq_true rfl, Nat.le_of_ble_eq_true rfl⟩ rfl hl.1 rfl (Nat.le_of_ble_eq_true rfl) dX10_crossing_60 (fun H locs hR hS hE1 z_q10 => ?_)
    refine lv_land C.x C.b dX10_crossing_63 ?_
    refine lv_lconst (v := (0 : Int64)) C.x C.b dX10_crossing_64 (by decide) ?_
    refine W.lcmp C.x C.b dX10_crossing_65 ?_
    refine lv_if_eq (tgt := 76) C.x C.b dX10_crossing_66 (by decide) (fun c11 => ?_) (fun c11 => ?_)
    · have hf := it_t hf c11
      exact w_X10_crossing_76 C hr hlk hk5 _ _ _ _ _ hf hR hS t_r0 t_r1 (lv_sub hl [1, 2, 3, 5] rfl)
    · have hf := it_f hf c11
      refine lv_iconst (v := (1 : Int32)) C.x C.b dX10_crossing_69 (by decide) ?_
      refine lv_iload C.x C.b dX10_crossing_70 (lv_at hl 5 rfl) ?_
      refine lv_ishl C.x C.b dX10_crossing_72 ?_
      refine lv_topi (fun v12 e_v12 => ?_)
      have hf := lt_e hf e_v12
      refine lv_goto (tgt := 77) C.x C.b dX10_crossing_73 (by decide) ?_
      exact w_X10_crossing_77 C hr hlk hk5 _ _ _ _ _ _ hf hR hS t_r0 t_r1 (lv_sub hl [1, 2, 3, 5] rfl)
set_option maxRecDepth 100000 in
set_option maxHeartbeats 4000000 in
theorem w_X10_crossing_41 {G : Gt} {l : Launch} {p : Program} {e : Env} {s : State} {m : MethodId} {args : Array Value} {below : List Frame} {meth : Method} {c : Code} {h : Hp} {out : Int32} {r0 : Nat} {r1 : Nat} {x2 : Int32} {k5 : Int32 → Int32 → Option Int32} (C : Cx G p m c cX10_crossing 6 s args RX10) (hr : meth.sig.returnType = some .int) (hlk : meth.locks = false) (hk5 : P_X10_crossing_5 G l p e s m args below meth c h out r0 r1 x2 k5) : P_X10_crossing_41 G l p e s m args below meth c h out r0 r1 x2 (f_X10_crossing_41 h r0 r1 x2 k5) := by
  intro H locs ls x3 x4 hf hR hS t_r0 t_r1 hl
  rw [f_X10_crossing_41] at hf
  refine lv_iconst (v := (0 : Int32)) C.x C.b dX10_crossing_41 (by decide) ?_
  exact w_X10_crossing_42 C hr hlk hk5 _ _ _ _ _ _ hf hR hS t_r0 t_r1 z_0 (lv_sub hl [0, 1, 2, 3, 4] rfl)
set_option maxRecDepth 100000 in
set_option maxHeartbeats 4000000 in
theorem w_X10_crossing_5 {G : Gt} {l : Launch} {p : Program} {e : Env} {s : State} {m : MethodId} {args : Array Value} {below : List Frame} {meth : Method} {c : Code} {h : Hp} {out : Int32} {r0 : Nat} {r1 : Nat} {x2 : Int32}  (C : Cx G p m c cX10_crossing 6 s args RX10) (hr : meth.sig.returnType = some .int) (hlk : meth.locks = false)  (n : Nat) : P_X10_crossing_5 G l p e s m args below meth c h out r0 r1 x2 (f_X10_crossing_5 h r0 r1 x2 n) := by
  induction n with
  | zero => intro H locs ls x3 x4 hf hR hS t_r0 t_r1 hl; cases hf
  | succ n hk5 =>
    intro H locs ls x3 x4 hf hR hS t_r0 t_r1 hl
    rw [f_X10_crossing_5] at hf
    obtain ⟨k5, e_k5⟩ : ∃ y, y = f_X10_crossing_5 h r0 r1 x2 n := ⟨_, rfl⟩
    have hf := lt_e hf e_k5
    rw [← e_k5] at hk5
    refine lv_iload C.x C.b dX10_crossing_5 (lv_at hl 4 rfl) ?_
    refine lv_aload_n C.x C.b dX10_crossing_7 rfl (lv_at hl 1 rfl) ?_
    refine lv_bipush (v := (48 : Int32)) C.x C.b dX10_crossing_8 (by decide) ?_
    obtain ⟨g1, hf⟩ := gd_e hf
    refine r_iald C hR t_r1 g1 dX10_crossing_10 ?_
    refine lv_icmp_ge (tgt := 85) C.x C.b dX10_crossing_11 (by decide) (fun c2 => ?_) (fun c2 => ?_)
    · have hf := it_t hf c2
      refine lv_iload_n C.x C.b dX10_crossing_85 rfl (lv_at hl 3 rfl) ?_
      have hf := so_e hf
      subst hf
      exact r_iret C hr hlk hR Ext.rf hS dX10_crossing_86
    · have hf := it_f hf c2
      refine lv_iload C.x C.b dX10_crossing_14 (lv_at hl 4 rfl) ?_
      refine lv_iload_n C.x C.b dX10_crossing_16 rfl (lv_at hl 2 rfl) ?_
      refine lv_icmp_eq (tgt := 41) C.x C.b dX10_crossing_17 (by decide) (fun c3 => ?_) (fun c3 => ?_)
      · have hf := it_t hf c3
        exact w_X10_crossing_41 C hr hlk hk5 _ _ _ _ _ hf hR hS t_r0 t_r1 (lv_sub hl [0, 1, 2, 3, 4] rfl)
      · have hf := it_f hf c3
        refine lv_aload_n C.x C.b dX10_crossing_20 rfl (lv_at hl 1 rfl) ?_
        refine lv_iload C.x C.b dX10_crossing_21 (lv_at hl 4 rfl) ?_
        obtain ⟨q4, h_q4, hf⟩ := bd_e hf
        refine r_callS (As := [.ref (G.2.2 + r1), .int x4]) (rest := []) C hR hS mk_X10_isOn cl_X10_129 (k_X10_isOn t_r1 h_q4) ⟨⟨Nat.le_of_ble_eq_true rfl, Nat.le_of_ble_eq_true rfl⟩, ⟨rfl, rfl⟩, Nat.le_of_ble_eq_true rfl, Nat.le_of_ble_eq_true rfl⟩ rfl hl.1 rfl (Nat.le_of_ble_eq_true rfl) dX10_crossing_23 (fun H locs hR hS hE1 z_q4 => ?_)
        have z_q4 := z_q4 _ rfl
        refine lv_if_eq (tgt := 41) C.x C.b dX10_crossing_26 (by decide) (fun c5 => ?_) (fun c5 => ?_)
        · have hf := it_t hf c5
          exact w_X10_crossing_41 C hr hlk hk5 _ _ _ _ _ hf hR hS t_r0 t_r1 (lv_sub hl [0, 1, 2, 3, 4] rfl)
        · have hf := it_f hf c5
          refine lv_aload_n C.x C.b dX10_crossing_29 rfl (lv_at hl 1 rfl) ?_
          refine lv_iload_n C.x C.b dX10_crossing_30 rfl (lv_at hl 2 rfl) ?_
          obtain ⟨q6, h_q6, hf⟩ := bd_e hf
          refine r_callS (As := [.ref (G.2.2 + r1), .int x2]) (rest := []) C hR hS mk_X10_isOn cl_X10_129 (k_X10_isOn t_r1 h_q6) ⟨⟨Nat.le_of_ble_eq_true rfl, Nat.le_of_ble_eq_true rfl⟩, ⟨rfl, rfl⟩, Nat.le_of_ble_eq_true rfl, Nat.le_of_ble_eq_true rfl⟩ rfl hl.1 rfl (Nat.le_of_ble_eq_true rfl) dX10_crossing_31 (fun H locs hR hS hE1 z_q6 => ?_)
          have z_q6 := z_q6 _ rfl
          refine lv_if_eq (tgt := 41) C.x C.b dX10_crossing_34 (by decide) (fun c7 => ?_) (fun c7 => ?_)
          · have hf := it_t hf c7
            exact w_X10_crossing_41 C hr hlk hk5 _ _ _ _ _ hf hR hS t_r0 t_r1 (lv_sub hl [0, 1, 2, 3, 4] rfl)
          · have hf := it_f hf c7
            refine lv_iconst (v := (1 : Int32)) C.x C.b dX10_crossing_37 (by decide) ?_
            refine lv_goto (tgt := 42) C.x C.b dX10_crossing_38 (by decide) ?_
            exact w_X10_crossing_42 C hr hlk hk5 _ _ _ _ _ _ hf hR hS t_r0 t_r1 z_1 (lv_sub hl [0, 1, 2, 3, 4] rfl)
set_option maxRecDepth 100000 in
set_option maxHeartbeats 4000000 in
theorem k_X10_crossing {G : Gt} {l : Launch} {h : Hp} {r0 : Nat} {r1 : Nat} {x2 : Int32} {out : Int32} (t_r0 : hpT h r0 = (1, 10)) (t_r1 : (hpT h r1).1 = 2)  (hf : f_X10_crossing h r0 r1 x2 = some out) : Mt G l yX10_crossing cX10_crossing 6 (some .int) rm_X10_crossing [.ref (G.2.2 + r0), .ref (G.2.2 + r1), .int x2] h (some (.int out)) h 0 0 0 := by
  refine r_met (by decide +kernel) (Nat.le_of_ble_eq_true rfl) ?_
  intro p e s m args below meth c ls C hr hlk hnm hR hS hl
  have hl : lv_has ls 6 [(0, .ref (G.2.2 + r0)), (1, .ref (G.2.2 + r1)), (2, .int x2)] := hl
  rw [f_X10_crossing] at hf
  refine lv_iconst (v := (0 : Int32)) C.x C.b dX10_crossing_0 (by decide) ?_
  refine lv_istore_n (lv' := [(3, .int (0 : Int32)), (0, .ref (G.2.2 + r0)), (1, .ref (G.2.2 + r1)), (2, .int x2)]) C.x C.b dX10_crossing_1 rfl hl (by decide) rfl (fun ls hl => ?_)
  refine lv_iconst (v := (0 : Int32)) C.x C.b dX10_crossing_2 (by decide) ?_
  refine lv_istore (lv' := [(4, .int (0 : Int32)), (3, .int (0 : Int32)), (0, .ref (G.2.2 + r0)), (1, .ref (G.2.2 + r1)), (2, .int x2)]) C.x C.b dX10_crossing_3 hl (by decide) rfl (fun ls hl => ?_)
  exact w_X10_crossing_5 C hr hlk FU _ _ _ _ _ hf hR hS t_r0 t_r1 (lv_sub hl [2, 3, 4, 1, 0] rfl)

def rm_X10_strengthOn : Room := { frames := 3, cells := 0, slots := 0, locals := 74 }
def P_X10_strengthOn_37 (G : Gt) (l : Launch) (p : Program) (e : Env) (s : State) (m : MethodId) (args : Array Value) (below : List Frame) (meth : Method) (c : Code) (h : Hp) (out : Int32) (r0 : Nat) (r1 : Nat) (x2 : Int32) (k : Int32 → Int32 → Int32 → Option Int32) : Prop := ∀ (H : Heap) (locs : List Loc) (ls : Array Slot) (s0 : Int32) (s1 : Int32) (x4 : Int32), k s0 s1 x4 = some out → Rel G h H → va_S (AA G.2.2) s.heap H locs → hpT h r0 = (1, 10) → (hpT h r1).1 = 2 → lv_has ls 5 [(0, .ref (G.2.2 + r0)), (1, .ref (G.2.2 + r1)), (2, .int x2), (4, .int x4)] → W p l e rm_X10_strengthOn s m args below meth c H locs 0 0 (MQ below (Qm G h h (some (.int out)) 0) args s 0 0 (AA G.2.2)) (F0 m 37 ls [.int s1, .int s0])
def P_X10_strengthOn_5 (G : Gt) (l : Launch) (p : Program) (e : Env) (s : State) (m : MethodId) (args : Array Value) (below : List Frame) (meth : Method) (c : Code) (h : Hp) (out : Int32) (r0 : Nat) (r1 : Nat) (x2 : Int32) (k : Int32 → Int32 → Option Int32) : Prop := ∀ (H : Heap) (locs : List Loc) (ls : Array Slot) (x3 : Int32) (x4 : Int32), k x3 x4 = some out → Rel G h H → va_S (AA G.2.2) s.heap H locs → hpT h r0 = (1, 10) → (hpT h r1).1 = 2 → lv_has ls 5 [(0, .ref (G.2.2 + r0)), (1, .ref (G.2.2 + r1)), (2, .int x2), (3, .int x3), (4, .int x4)] → W p l e rm_X10_strengthOn s m args below meth c H locs 0 0 (MQ below (Qm G h h (some (.int out)) 0) args s 0 0 (AA G.2.2)) (F0 m 5 ls [])
set_option maxRecDepth 100000 in
set_option maxHeartbeats 4000000 in
theorem w_X10_strengthOn_37 {G : Gt} {l : Launch} {p : Program} {e : Env} {s : State} {m : MethodId} {args : Array Value} {below : List Frame} {meth : Method} {c : Code} {h : Hp} {out : Int32} {r0 : Nat} {r1 : Nat} {x2 : Int32} {k5 : Int32 → Int32 → Option Int32} (C : Cx G p m c cX10_strengthOn 5 s args RX10) (hr : meth.sig.returnType = some .int) (hlk : meth.locks = false) (hk5 : P_X10_strengthOn_5 G l p e s m args below meth c h out r0 r1 x2 k5) : P_X10_strengthOn_37 G l p e s m args below meth c h out r0 r1 x2 (f_X10_strengthOn_37 h r0 r1 x2 k5) := by
  intro H locs ls s0 s1 x4 hf hR hS t_r0 t_r1 hl
  rw [f_X10_strengthOn_37] at hf
  refine lv_iadd C.x C.b dX10_strengthOn_37 ?_
  refine lv_topi (fun v6 e_v6 => ?_)
  have hf := lt_e hf e_v6
  refine lv_istore_n (lv' := [(3, .int v6), (0, .ref (G.2.2 + r0)), (1, .ref (G.2.2 + r1)), (2, .int x2), (4, .int x4)]) C.x C.b dX10_strengthOn_38 rfl hl (by decide) rfl (fun ls hl => ?_)
  obtain ⟨v7, e_v7⟩ : ∃ y : Int32, y = x4 + (1 : Int32) := ⟨_, rfl⟩
  have hf := lt_e hf e_v7
  refine lv_iinc (v := v7) (lv' := [(4, .int v7), (3, .int v6), (0, .ref (G.2.2 + r0)), (1, .ref (G.2.2 + r1)), (2, .int x2)]) C.x C.b dX10_strengthOn_39 hl (k := 4) rfl (by rw [e_v7]; rfl) (by decide) rfl (fun ls hl => ?_)
  refine lv_goto (tgt := 5) C.x C.b dX10_strengthOn_42 (by decide) ?_
  exact hk5 _ _ _ _ _ hf hR hS t_r0 t_r1 (lv_sub hl [2, 3, 4, 1, 0] rfl)
set_option maxRecDepth 100000 in
set_option maxHeartbeats 4000000 in
theorem w_X10_strengthOn_5 {G : Gt} {l : Launch} {p : Program} {e : Env} {s : State} {m : MethodId} {args : Array Value} {below : List Frame} {meth : Method} {c : Code} {h : Hp} {out : Int32} {r0 : Nat} {r1 : Nat} {x2 : Int32}  (C : Cx G p m c cX10_strengthOn 5 s args RX10) (hr : meth.sig.returnType = some .int) (hlk : meth.locks = false)  (n : Nat) : P_X10_strengthOn_5 G l p e s m args below meth c h out r0 r1 x2 (f_X10_strengthOn_5 h r0 r1 x2 n) := by
  induction n with
  | zero => intro H locs ls x3 x4 hf hR hS t_r0 t_r1 hl; cases hf
  | succ n hk5 =>
    intro H locs ls x3 x4 hf hR hS t_r0 t_r1 hl
    rw [f_X10_strengthOn_5] at hf
    obtain ⟨k5, e_k5⟩ : ∃ y, y = f_X10_strengthOn_5 h r0 r1 x2 n := ⟨_, rfl⟩
    have hf := lt_e hf e_k5
    rw [← e_k5] at hk5
    refine lv_iload C.x C.b dX10_strengthOn_5 (lv_at hl 4 rfl) ?_
    refine lv_aload_n C.x C.b dX10_strengthOn_7 rfl (lv_at hl 1 rfl) ?_
    refine lv_bipush (v := (48 : Int32)) C.x C.b dX10_strengthOn_8 (by decide) ?_
    obtain ⟨g1, hf⟩ := gd_e hf
    refine r_iald C hR t_r1 g1 dX10_strengthOn_10 ?_
    refine lv_icmp_ge (tgt := 45) C.x C.b dX10_strengthOn_11 (by decide) (fun c2 => ?_) (fun c2 => ?_)
    · have hf := it_t hf c2
      refine lv_iload_n C.x C.b dX10_strengthOn_45 rfl (lv_at hl 3 rfl) ?_
      have hf := so_e hf
      subst hf
      exact r_iret C hr hlk hR Ext.rf hS dX10_strengthOn_46
    · have hf := it_f hf c2
      refine lv_iload_n C.x C.b dX10_strengthOn_14 rfl (lv_at hl 3 rfl) ?_
      refine lv_aload_n C.x C.b dX10_strengthOn_15 rfl (lv_at hl 0 rfl) ?_
      refine lv_aload_n C.x C.b dX10_strengthOn_16 rfl (lv_at hl 1 rfl) ?_
      refine lv_iload C.x C.b dX10_strengthOn_17 (lv_at hl 4 rfl) ?_
      refine lv_iload_n C.x C.b dX10_strengthOn_19 rfl (lv_at hl 2 rfl) ?_
      obtain ⟨q3, h_q3, hf⟩ := bd_e hf
      refine r_callV (As := [.ref (G.2.2 + r1), .int x4, .int x2]) (rest := [.int x3]) C hR hS t_r0 rfl mk_X10_isLyingOver cl_X10_133 (k_X10_isLyingOver t_r0 t_r1 h_q3) ⟨⟨Nat.le_of_ble_eq_true rfl, Nat.le_of_ble_eq_true rfl⟩, ⟨rfl, rfl⟩, Nat.le_of_ble_eq_true rfl, Nat.le_of_ble_eq_true rfl⟩ rfl hl.1 rfl (Nat.le_of_ble_eq_true rfl) dX10_strengthOn_20 (fun H locs hR hS hE1 z_q3 => ?_)
      have z_q3 := z_q3 _ rfl
      refine lv_if_eq (tgt := 36) C.x C.b dX10_strengthOn_23 (by decide) (fun c4 => ?_) (fun c4 => ?_)
      · have hf := it_t hf c4
        refine lv_iconst (v := (0 : Int32)) C.x C.b dX10_strengthOn_36 (by decide) ?_
        exact w_X10_strengthOn_37 C hr hlk hk5 _ _ _ _ _ _ hf hR hS t_r0 t_r1 (lv_sub hl [0, 1, 2, 4] rfl)
      · have hf := it_f hf c4
        refine lv_aload_n C.x C.b dX10_strengthOn_26 rfl (lv_at hl 1 rfl) ?_
        refine lv_bipush (v := (24 : Int32)) C.x C.b dX10_strengthOn_27 (by decide) ?_
        refine lv_iload C.x C.b dX10_strengthOn_29 (lv_at hl 4 rfl) ?_
        refine lv_iadd C.x C.b dX10_strengthOn_31 ?_
        obtain ⟨g5, hf⟩ := gd_e hf
        refine r_iald C hR t_r1 g5 dX10_strengthOn_32 ?_
        refine lv_goto (tgt := 37) C.x C.b dX10_strengthOn_33 (by decide) ?_
        exact w_X10_strengthOn_37 C hr hlk hk5 _ _ _ _ _ _ hf hR hS t_r0 t_r1 (lv_sub hl [0, 1, 2, 4] rfl)
set_option maxRecDepth 100000 in
set_option maxHeartbeats 4000000 in
theorem k_X10_strengthOn {G : Gt} {l : Launch} {h : Hp} {r0 : Nat} {r1 : Nat} {x2 : Int32} {out : Int32} (t_r0 : hpT h r0 = (1, 10)) (t_r1 : (hpT h r1).1 = 2)  (hf : f_X10_strengthOn h r0 r1 x2 = some out) : Mt G l yX10_strengthOn cX10_strengthOn 5 (some .int) rm_X10_strengthOn [.ref (G.2.2 + r0), .ref (G.2.2 + r1), .int x2] h (some (.int out)) h 0 0 0 := by
  refine r_met (by decide +kernel) (Nat.le_of_ble_eq_true rfl) ?_
  intro p e s m args below meth c ls C hr hlk hnm hR hS hl
  have hl : lv_has ls 5 [(0, .ref (G.2.2 + r0)), (1, .ref (G.2.2 + r1)), (2, .int x2)] := hl
  rw [f_X10_strengthOn] at hf
  refine lv_iconst (v := (0 : Int32)) C.x C.b dX10_strengthOn_0 (by decide) ?_
  refine lv_istore_n (lv' := [(3, .int (0 : Int32)), (0, .ref (G.2.2 + r0)), (1, .ref (G.2.2 + r1)), (2, .int x2)]) C.x C.b dX10_strengthOn_1 rfl hl (by decide) rfl (fun ls hl => ?_)
  refine lv_iconst (v := (0 : Int32)) C.x C.b dX10_strengthOn_2 (by decide) ?_
  refine lv_istore (lv' := [(4, .int (0 : Int32)), (3, .int (0 : Int32)), (0, .ref (G.2.2 + r0)), (1, .ref (G.2.2 + r1)), (2, .int x2)]) C.x C.b dX10_strengthOn_3 hl (by decide) rfl (fun ls hl => ?_)
  exact w_X10_strengthOn_5 C hr hlk FU _ _ _ _ _ hf hR hS t_r0 t_r1 (lv_sub hl [2, 3, 4, 1, 0] rfl)

def rm_X10_sign : Room := { frames := 0, cells := 0, slots := 0, locals := 0 }
def P_X10_sign_18 (G : Gt) (l : Launch) (p : Program) (e : Env) (s : State) (m : MethodId) (args : Array Value) (below : List Frame) (meth : Method) (c : Code) (h0 : Hp) (out : (Int32 × Hp)) (r0 : Nat) (x1 : Int32) (k : Hp → Int32 → Option (Int32 × Hp)) : Prop := ∀ (H : Heap) (locs : List Loc) (ls : Array Slot) (h : Hp) (x2 : Int32), k h x2 = some out → Ext h0 h → Rel G h H → va_S (AA G.2.2) s.heap H locs → hpT h r0 = (1, 10) → lv_has ls 3 [(0, .ref (G.2.2 + r0)), (1, .int x1), (2, .int x2)] → W p l e rm_X10_sign s m args below meth c H locs 0 0 (MQ below (Qm G h0 out.2 (some (.int out.1)) 0) args s 0 0 (AA G.2.2)) (F0 m 18 ls [])
set_option maxRecDepth 100000 in
set_option maxHeartbeats 4000000 in
theorem w_X10_sign_18 {G : Gt} {l : Launch} {p : Program} {e : Env} {s : State} {m : MethodId} {args : Array Value} {below : List Frame} {meth : Method} {c : Code} {h0 : Hp} {out : (Int32 × Hp)} {r0 : Nat} {x1 : Int32}  (C : Cx G p m c cX10_sign 3 s args RX10) (hr : meth.sig.returnType = some .int) (hlk : meth.locks = false)  (n : Nat) : P_X10_sign_18 G l p e s m args below meth c h0 out r0 x1 (f_X10_sign_18 r0 x1 n) := by
  induction n with
  | zero => intro H locs ls h x2 hf hE hR hS t_r0 hl; cases hf
  | succ n hk18 =>
    intro H locs ls h x2 hf hE hR hS t_r0 hl
    rw [f_X10_sign_18] at hf
    obtain ⟨k18, e_k18⟩ : ∃ y, y = f_X10_sign_18 r0 x1 n := ⟨_, rfl⟩
    have hf := lt_e hf e_k18
    rw [← e_k18] at hk18
    refine lv_iload_n C.x C.b dX10_sign_18 rfl (lv_at hl 2 rfl) ?_
    refine lv_iconst (v := (4 : Int32)) C.x C.b dX10_sign_19 (by decide) ?_
    refine lv_icmp_ge (tgt := 53) C.x C.b dX10_sign_20 (by decide) (fun c3 => ?_) (fun c3 => ?_)
    · have hf := it_t hf c3
      refine lv_aload_n C.x C.b dX10_sign_53 rfl (lv_at hl 0 rfl) ?_
      refine lv_dup C.x C.b dX10_sign_54 rfl ?_
      refine r_geti C hR t_r0 fl_X10_145 rfl dX10_sign_55 ?_
      refine lv_iconst (v := (4 : Int32)) C.x C.b dX10_sign_58 (by decide) ?_
      refine lv_iadd C.x C.b dX10_sign_59 ?_
      refine r_puti C hR hS t_r0 fl_X10_145 fp_X10_10_9 rfl dX10_sign_60 (fun H locs hR hS => ?_)
      obtain ⟨h4, e_h4⟩ : ∃ y, y = upI h r0 9 ((hpI h r0 9) + (4 : Int32)) := ⟨_, rfl⟩
      rw [← e_h4] at hR
      have hf := lt_e hf e_h4
      have hE := eI e_h4 hE
      have t_r0 := tI e_h4 t_r0
      refine lv_aload_n C.x C.b dX10_sign_63 rfl (lv_at hl 0 rfl) ?_
      refine r_geti C hR t_r0 fl_X10_145 rfl dX10_sign_64 ?_
      have hf := so_e hf
      subst hf
      exact r_iret C hr hlk hR hE hS dX10_sign_67
    · have hf := it_f hf c3
      refine lv_aload_n C.x C.b dX10_sign_23 rfl (lv_at hl 0 rfl) ?_
      obtain ⟨g5, hf⟩ := gd_e hf
      refine r_getr C hR t_r0 fl_X10_27 (by decide) (nz_e g5) dX10_sign_24 (fun tq6 => ?_)
      have tg5 := okA tq6 rfl
      refine lv_aload_n C.x C.b dX10_sign_27 rfl (lv_at hl 0 rfl) ?_
      refine r_geti C hR t_r0 fl_X10_145 rfl dX10_sign_28 ?_
      refine lv_iload_n C.x C.b dX10_sign_31 rfl (lv_at hl 2 rfl) ?_
      refine lv_iadd C.x C.b dX10_sign_32 ?_
      refine lv_iload_n C.x C.b dX10_sign_33 rfl (lv_at hl 1 rfl) ?_
      refine lv_bipush (v := (24 : Int32)) C.x C.b dX10_sign_34 (by decide) ?_
      refine lv_bipush (v := (8 : Int32)) C.x C.b dX10_sign_36 (by decide) ?_
      refine lv_iload_n C.x C.b dX10_sign_38 rfl (lv_at hl 2 rfl) ?_
      refine lv_imul C.x C.b dX10_sign_39 ?_
      refine lv_isub C.x C.b dX10_sign_40 ?_
      refine lv_ishr C.x C.b dX10_sign_41 ?_
      refine lv_topi (fun v7 e_v7 => ?_)
      have hf := lt_e hf e_v7
      refine lv_sipush (v := (255 : Int32)) C.x C.b dX10_sign_42 (by decide) ?_
      refine lv_iand C.x C.b dX10_sign_45 ?_
      obtain ⟨g8, hf⟩ := gd_e hf
      refine r_iast C hR hS tg5 g8 dX10_sign_46 (fun H locs hR hS => ?_)
      obtain ⟨h9, e_h9⟩ : ∃ y, y = upI h (hpR h r0 8) (ix ((hpI h r0 9) + x2)) (v7 &&& (255 : Int32)) := ⟨_, rfl⟩
      rw [← e_h9] at hR
      have hf := lt_e hf e_h9
      have hE := eI e_h9 hE
      have t_r0 := tI e_h9 t_r0
      obtain ⟨v10, e_v10⟩ : ∃ y : Int32, y = x2 + (1 : Int32) := ⟨_, rfl⟩
      have hf := lt_e hf e_v10
      refine lv_iinc (v := v10) (lv' := [(2, .int v10), (0, .ref (G.2.2 + r0)), (1, .int x1)]) C.x C.b dX10_sign_47 hl (k := 2) rfl (by rw [e_v10]; rfl) (by decide) rfl (fun ls hl => ?_)
      refine lv_goto (tgt := 18) C.x C.b dX10_sign_50 (by decide) ?_
      exact hk18 _ _ _ _ _ hf hE hR hS t_r0 (lv_sub hl [1, 2, 0] rfl)
set_option maxRecDepth 100000 in
set_option maxHeartbeats 4000000 in
theorem k_X10_sign {G : Gt} {l : Launch} {h : Hp} {r0 : Nat} {x1 : Int32} {out : (Int32 × Hp)} (t_r0 : hpT h r0 = (1, 10))  (hf : f_X10_sign h r0 x1 = some out) : Mt G l yX10_sign cX10_sign 3 (some .int) rm_X10_sign [.ref (G.2.2 + r0), .int x1] h (some (.int out.1)) out.2 0 0 0 := by
  refine r_met (by decide +kernel) (Nat.le_of_ble_eq_true rfl) ?_
  intro p e s m args below meth c ls C hr hlk hnm hR hS hl
  have hE : Ext h h := Ext.rf
  have hl : lv_has ls 3 [(0, .ref (G.2.2 + r0)), (1, .int x1)] := hl
  rw [f_X10_sign] at hf
  refine lv_aload_n C.x C.b dX10_sign_0 rfl (lv_at hl 0 rfl) ?_
  refine lv_iconst (v := (0 : Int32)) C.x C.b dX10_sign_1 (by decide) ?_
  refine r_puti C hR hS t_r0 fl_X10_103 fp_X10_10_0 rfl dX10_sign_2 (fun H locs hR hS => ?_)
  obtain ⟨h1, e_h1⟩ : ∃ y, y = upI h r0 0 (0 : Int32) := ⟨_, rfl⟩
  rw [← e_h1] at hR
  have hf := lt_e hf e_h1
  have hE := eI e_h1 hE
  have t_r0 := tI e_h1 t_r0
  refine lv_aload_n C.x C.b dX10_sign_5 rfl (lv_at hl 0 rfl) ?_
  refine r_geti C hR t_r0 fl_X10_145 rfl dX10_sign_6 ?_
  refine lv_bipush (v := (76 : Int32)) C.x C.b dX10_sign_9 (by decide) ?_
  refine lv_icmp_le (tgt := 16) C.x C.b dX10_sign_11 (by decide) (fun c2 => ?_) (fun c2 => ?_)
  · have hf := it_t hf c2
    refine lv_iconst (v := (0 : Int32)) C.x C.b dX10_sign_16 (by decide) ?_
    refine lv_istore_n (lv' := [(2, .int (0 : Int32)), (0, .ref (G.2.2 + r0)), (1, .int x1)]) C.x C.b dX10_sign_17 rfl hl (by decide) rfl (fun ls hl => ?_)
    exact w_X10_sign_18 C hr hlk FU _ _ _ _ _ hf hE hR hS t_r0 (lv_sub hl [1, 2, 0] rfl)
  · have hf := it_f hf c2
    refine lv_iconst (v := (-1 : Int32)) C.x C.b dX10_sign_14 (by decide) ?_
    have hf := so_e hf
    subst hf
    exact r_iret C hr hlk hR hE hS dX10_sign_15

def rm_X10_end : Room := { frames := 1, cells := 0, slots := 0, locals := 25 }
set_option maxRecDepth 100000 in
set_option maxHeartbeats 4000000 in
theorem k_X10_end {G : Gt} {l : Launch} {h : Hp} {r0 : Nat} {x1 : Int32} {out : (Int32 × Hp)} (t_r0 : hpT h r0 = (1, 10))  (hf : f_X10_end h r0 x1 = some out) : Mt G l yX10_end cX10_end 2 (some .boolean) rm_X10_end [.ref (G.2.2 + r0), .int x1] h (some (.int out.1)) out.2 1 0 0 := by
  refine r_met (by decide +kernel) (Nat.le_of_ble_eq_true rfl) ?_
  intro p e s m args below meth c ls C hr hlk hnm hR hS hl
  have hE : Ext h h := Ext.rf
  have hl : lv_has ls 2 [(0, .ref (G.2.2 + r0)), (1, .int x1)] := hl
  rw [f_X10_end] at hf
  refine lv_aload_n C.x C.b dX10_end_0 rfl (lv_at hl 0 rfl) ?_
  refine lv_iconst (v := (0 : Int32)) C.x C.b dX10_end_1 (by decide) ?_
  refine r_puti C hR hS t_r0 fl_X10_103 fp_X10_10_0 rfl dX10_end_2 (fun H locs hR hS => ?_)
  obtain ⟨h1, e_h1⟩ : ∃ y, y = upI h r0 0 (0 : Int32) := ⟨_, rfl⟩
  rw [← e_h1] at hR
  have hf := lt_e hf e_h1
  have hE := eI e_h1 hE
  have t_r0 := tI e_h1 t_r0
  refine lv_iload_n C.x C.b dX10_end_5 rfl (lv_at hl 1 rfl) ?_
  refine lv_i2l C.x C.b dX10_end_6 rfl ?_
  refine lv_lconst (v := (0 : Int64)) C.x C.b dX10_end_7 (by decide) ?_
  refine lv_aload_n C.x C.b dX10_end_8 rfl (lv_at hl 0 rfl) ?_
  refine r_geti C hR t_r0 fl_X10_145 rfl dX10_end_9 ?_
  refine lv_i2l C.x C.b dX10_end_12 rfl ?_
  obtain ⟨q2, h_q2, hf⟩ := bd_e hf
  refine r_callS (As := [.long (x1.toInt64), .long (0 : Int64), .long ((hpI h1 r0 9).toInt64)]) (rest := []) C hR hS mk_X10_in cl_X10_117 (k_X10_in h_q2) ⟨⟨Nat.le_of_ble_eq_true rfl, Nat.le_of_ble_eq_true rfl⟩, ⟨rfl, rfl⟩, Nat.le_of_ble_eq_true rfl, Nat.le_of_ble_eq_true rfl⟩ rfl hl.1 rfl (Nat.le_of_ble_eq_true rfl) dX10_end_13 (fun H locs hR hS hE1 z_q2 => ?_)
  have z_q2 := z_q2 _ rfl
  refine lv_if_ne (tgt := 21) C.x C.b dX10_end_16 (by decide) (fun c3 => ?_) (fun c3 => ?_)
  · have hf := it_f hf c3
    refine lv_aload_n C.x C.b dX10_end_21 rfl (lv_at hl 0 rfl) ?_
    refine lv_iload_n C.x C.b dX10_end_22 rfl (lv_at hl 1 rfl) ?_
    refine r_puti C hR hS t_r0 fl_X10_145 fp_X10_10_9 rfl dX10_end_23 (fun H locs hR hS => ?_)
    obtain ⟨h4, e_h4⟩ : ∃ y, y = upI h1 r0 9 x1 := ⟨_, rfl⟩
    rw [← e_h4] at hR
    have hf := lt_e hf e_h4
    have hE := eI e_h4 hE
    have t_r0 := tI e_h4 t_r0
    refine lv_iconst (v := (1 : Int32)) C.x C.b dX10_end_26 (by decide) ?_
    have hf := so_e hf
    subst hf
    exact r_zret C hr hlk hR hE hS z_1 dX10_end_27
  · have hf := it_t hf c3
    refine lv_iconst (v := (0 : Int32)) C.x C.b dX10_end_19 (by decide) ?_
    have hf := so_e hf
    subst hf
    exact r_zret C hr hlk hR hE hS z_0 dX10_end_20

def rm_X10_begins : Room := { frames := 1, cells := 0, slots := 0, locals := 14 }
set_option maxRecDepth 100000 in
set_option maxHeartbeats 4000000 in
theorem k_X10_begins {G : Gt} {l : Launch} {h : Hp} {r0 : Nat} {x1 : Int32} {out : (Int32 × Hp)} (t_r0 : hpT h r0 = (1, 10))  (hf : f_X10_begins h r0 x1 = some out) : Mt G l yX10_begins cX10_begins 3 (some .int) rm_X10_begins [.ref (G.2.2 + r0), .int x1] h (some (.int out.1)) out.2 0 0 0 := by
  refine r_met (by decide +kernel) (Nat.le_of_ble_eq_true rfl) ?_
  intro p e s m args below meth c ls C hr hlk hnm hR hS hl
  have hE : Ext h h := Ext.rf
  have hl : lv_has ls 3 [(0, .ref (G.2.2 + r0)), (1, .int x1)] := hl
  rw [f_X10_begins] at hf
  refine lv_aload_n C.x C.b dX10_begins_0 rfl (lv_at hl 0 rfl) ?_
  refine r_geti C hR t_r0 fl_X10_145 rfl dX10_begins_1 ?_
  refine lv_topi (fun v1 e_v1 => ?_)
  have hf := lt_e hf e_v1
  refine lv_istore_n (lv' := [(2, .int v1), (0, .ref (G.2.2 + r0)), (1, .int x1)]) C.x C.b dX10_begins_4 rfl hl (by decide) rfl (fun ls hl => ?_)
  refine lv_aload_n C.x C.b dX10_begins_5 rfl (lv_at hl 1 rfl) ?_
  refine lv_iconst (v := (0 : Int32)) C.x C.b dX10_begins_6 (by decide) ?_
  refine r_puti C hR hS t_r0 fl_X10_145 fp_X10_10_9 rfl dX10_begins_7 (fun H locs hR hS => ?_)
  obtain ⟨h2, e_h2⟩ : ∃ y, y = upI h r0 9 (0 : Int32) := ⟨_, rfl⟩
  rw [← e_h2] at hR
  have hf := lt_e hf e_h2
  have hE := eI e_h2 hE
  have t_r0 := tI e_h2 t_r0
  refine lv_aload_n C.x C.b dX10_begins_10 rfl (lv_at hl 1 rfl) ?_
  refine lv_iconst (v := (0 : Int32)) C.x C.b dX10_begins_11 (by decide) ?_
  refine r_puti C hR hS t_r0 fl_X10_148 fp_X10_10_10 rfl dX10_begins_12 (fun H locs hR hS => ?_)
  obtain ⟨h3, e_h3⟩ : ∃ y, y = upI h2 r0 10 (0 : Int32) := ⟨_, rfl⟩
  rw [← e_h3] at hR
  have hf := lt_e hf e_h3
  have hE := eI e_h3 hE
  have t_r0 := tI e_h3 t_r0
  refine lv_aload_n C.x C.b dX10_begins_15 rfl (lv_at hl 1 rfl) ?_
  refine lv_iconst (v := (0 : Int32)) C.x C.b dX10_begins_16 (by decide) ?_
  refine r_puti C hR hS t_r0 fl_X10_151 fp_X10_10_12 rfl dX10_begins_17 (fun H locs hR hS => ?_)
  obtain ⟨h4, e_h4⟩ : ∃ y, y = upI h3 r0 12 (0 : Int32) := ⟨_, rfl⟩
  rw [← e_h4] at hR
  have hf := lt_e hf e_h4
  have hE := eI e_h4 hE
  have t_r0 := tI e_h4 t_r0
  refine lv_aload_n C.x C.b dX10_begins_20 rfl (lv_at hl 1 rfl) ?_
  refine lv_iload_n C.x C.b dX10_begins_21 rfl (lv_at hl 0 rfl) ?_
  refine lv_iload_n C.x C.b dX10_begins_22 rfl (lv_at hl 2 rfl) ?_
  refine va_mmin C.x C.b (C.ml.trans hl.1.symm) C.ow (C.ts _ lk_X10_154) (C.ts _ lk_Mmin_s) (C.ts _ lk_Math) (C.ts _ lk_Mmin_c) (Nat.le_of_ble_eq_true rfl) (Nat.le_of_ble_eq_true rfl) (Nat.le_of_ble_eq_true rfl) (Nat.le_of_ble_eq_true rfl) dX10_begins_23 ?_
  refine lv_topi (fun v5 e_v5 => ?_)
  have hf := lt_e hf e_v5
  refine r_puti C hR hS t_r0 fl_X10_160 fp_X10_10_11 rfl dX10_begins_26 (fun H locs hR hS => ?_)
  obtain ⟨h6, e_h6⟩ : ∃ y, y = upI h4 r0 11 v5 := ⟨_, rfl⟩
  rw [← e_h6] at hR
  have hf := lt_e hf e_h6
  have hE := eI e_h6 hE
  have t_r0 := tI e_h6 t_r0
  refine lv_iload_n C.x C.b dX10_begins_29 rfl (lv_at hl 0 rfl) ?_
  have hf := so_e hf
  subst hf
  exact r_iret C hr hlk hR hE hS dX10_begins_30

def rm_X10_takes : Room := { frames := 1, cells := 0, slots := 0, locals := 20 }
def P_X10_takes_29 (G : Gt) (l : Launch) (p : Program) (e : Env) (s : State) (m : MethodId) (args : Array Value) (below : List Frame) (meth : Method) (c : Code) (h0 : Hp) (out : (Int32 × Hp)) (r0 : Nat) (x1 : Int32) (k : Hp → Int32 → Option (Int32 × Hp)) : Prop := ∀ (H : Heap) (locs : List Loc) (ls : Array Slot) (h : Hp) (s0 : Int32), k h s0 = some out → Ext h0 h → Rel G h H → va_S (AA G.2.2) s.heap H locs → hpT h r0 = (1, 10) → narrow .boolean (.int s0) = .int s0 → lv_has ls 3 [(0, .ref (G.2.2 + r0)), (1, .int x1)] → W p l e rm_X10_takes s m args below meth c H locs 0 0 (MQ below (Qm G h0 out.2 (some (.int out.1)) 1) args s 0 0 (AA G.2.2)) (F0 m 29 ls [.int s0])
def P_X10_takes_28 (G : Gt) (l : Launch) (p : Program) (e : Env) (s : State) (m : MethodId) (args : Array Value) (below : List Frame) (meth : Method) (c : Code) (h0 : Hp) (out : (Int32 × Hp)) (r0 : Nat) (x1 : Int32) (k : Hp → Option (Int32 × Hp)) : Prop := ∀ (H : Heap) (locs : List Loc) (ls : Array Slot) (h : Hp), k h = some out → Ext h0 h → Rel G h H → va_S (AA G.2.2) s.heap H locs → hpT h r0 = (1, 10) → lv_has ls 3 [(0, .ref (G.2.2 + r0)), (1, .int x1)] → W p l e rm_X10_takes s m args below meth c H locs 0 0 (MQ below (Qm G h0 out.2 (some (.int out.1)) 1) args s 0 0 (AA G.2.2)) (F0 m 28 ls [])
set_option maxRecDepth 100000 in
set_option maxHeartbeats 4000000 in
theorem w_X10_takes_29 {G : Gt} {l : Launch} {p : Program} {e : Env} {s : State} {m : MethodId} {args : Array Value} {below : List Frame} {meth : Method} {c : Code} {h0 : Hp} {out : (Int32 × Hp)} {r0 : Nat} {x1 : Int32}  (C : Cx G p m c cX10_takes 3 s args RX10) (hr : meth.sig.returnType = some .boolean) (hlk : meth.locks = false)  : P_X10_takes_29 G l p e s m args below meth c h0 out r0 x1 (f_X10_takes_29 r0 x1) := by
  intro H locs ls h s0 hf hE hR hS t_r0 z_s0 hl
  rw [f_X10_takes_29] at hf
  refine lv_istore_n (lv' := [(2, .int s0), (0, .ref (G.2.2 + r0)), (1, .int x1)]) C.x C.b dX10_takes_29 rfl hl (by decide) rfl (fun ls hl => ?_)
  refine lv_aload_n C.x C.b dX10_takes_30 rfl (lv_at hl 1 rfl) ?_
  refine lv_dup C.x C.b dX10_takes_31 rfl ?_
  refine r_geti C hR t_r0 fl_X10_148 rfl dX10_takes_32 ?_
  refine lv_iload_n C.x C.b dX10_takes_35 rfl (lv_at hl 0 rfl) ?_
  obtain ⟨q6, h_q6, hf⟩ := bd_e hf
  refine r_callS (As := [.int s0]) (rest := [.int (hpI h r0 10), .ref (G.2.2 + r0)]) C hR hS mk_X10_flag cl_X10_163 (k_X10_flag h_q6) ⟨⟨Nat.le_of_ble_eq_true rfl, Nat.le_of_ble_eq_true rfl⟩, ⟨rfl, rfl⟩, Nat.le_of_ble_eq_true rfl, Nat.le_of_ble_eq_true rfl⟩ rfl hl.1 rfl (Nat.le_of_ble_eq_true rfl) dX10_takes_36 (fun H locs hR hS hE1 z_q6 => ?_)
  refine lv_iadd C.x C.b dX10_takes_39 ?_
  refine r_puti C hR hS t_r0 fl_X10_148 fp_X10_10_10 rfl dX10_takes_40 (fun H locs hR hS => ?_)
  obtain ⟨h7, e_h7⟩ : ∃ y, y = upI h r0 10 ((hpI h r0 10) + q6) := ⟨_, rfl⟩
  rw [← e_h7] at hR
  have hf := lt_e hf e_h7
  have hE := eI e_h7 hE
  have t_r0 := tI e_h7 t_r0
  refine lv_iload_n C.x C.b dX10_takes_43 rfl (lv_at hl 0 rfl) ?_
  have hf := so_e hf
  subst hf
  exact r_zret C hr hlk hR hE hS z_s0 dX10_takes_44
set_option maxRecDepth 100000 in
set_option maxHeartbeats 4000000 in
theorem w_X10_takes_28 {G : Gt} {l : Launch} {p : Program} {e : Env} {s : State} {m : MethodId} {args : Array Value} {below : List Frame} {meth : Method} {c : Code} {h0 : Hp} {out : (Int32 × Hp)} {r0 : Nat} {x1 : Int32}  (C : Cx G p m c cX10_takes 3 s args RX10) (hr : meth.sig.returnType = some .boolean) (hlk : meth.locks = false)  : P_X10_takes_28 G l p e s m args below meth c h0 out r0 x1 (f_X10_takes_28 r0 x1) := by
  intro H locs ls h hf hE hR hS t_r0 hl
  rw [f_X10_takes_28] at hf
  refine lv_iconst (v := (0 : Int32)) C.x C.b dX10_takes_28 (by decide) ?_
  exact w_X10_takes_29 C hr hlk _ _ _ _ _ hf hE hR hS t_r0 z_0 (lv_sub hl [0, 1] rfl)
set_option maxRecDepth 100000 in
set_option maxHeartbeats 4000000 in
theorem k_X10_takes {G : Gt} {l : Launch} {h : Hp} {r0 : Nat} {x1 : Int32} {out : (Int32 × Hp)} (t_r0 : hpT h r0 = (1, 10))  (hf : f_X10_takes h r0 x1 = some out) : Mt G l yX10_takes cX10_takes 3 (some .boolean) rm_X10_takes [.ref (G.2.2 + r0), .int x1] h (some (.int out.1)) out.2 1 0 0 := by
  refine r_met (by decide +kernel) (Nat.le_of_ble_eq_true rfl) ?_
  intro p e s m args below meth c ls C hr hlk hnm hR hS hl
  have hE : Ext h h := Ext.rf
  have hl : lv_has ls 3 [(0, .ref (G.2.2 + r0)), (1, .int x1)] := hl
  rw [f_X10_takes] at hf
  refine lv_aload_n C.x C.b dX10_takes_0 rfl (lv_at hl 0 rfl) ?_
  refine r_geti C hR t_r0 fl_X10_148 rfl dX10_takes_1 ?_
  refine lv_aload_n C.x C.b dX10_takes_4 rfl (lv_at hl 0 rfl) ?_
  refine r_geti C hR t_r0 fl_X10_160 rfl dX10_takes_5 ?_
  refine lv_icmp_ge (tgt := 28) C.x C.b dX10_takes_8 (by decide) (fun c1 => ?_) (fun c1 => ?_)
  · have hf := it_t hf c1
    exact w_X10_takes_28 C hr hlk _ _ _ _ hf hE hR hS t_r0 (lv_sub hl [0, 1] rfl)
  · have hf := it_f hf c1
    refine lv_aload_n C.x C.b dX10_takes_11 rfl (lv_at hl 0 rfl) ?_
    obtain ⟨g2, hf⟩ := gd_e hf
    refine r_getr C hR t_r0 fl_X10_27 (by decide) (nz_e g2) dX10_takes_12 (fun tq3 => ?_)
    have tg2 := okA tq3 rfl
    refine lv_aload_n C.x C.b dX10_takes_15 rfl (lv_at hl 0 rfl) ?_
    refine r_geti C hR t_r0 fl_X10_148 rfl dX10_takes_16 ?_
    obtain ⟨g4, hf⟩ := gd_e hf
    refine r_iald C hR tg2 g4 dX10_takes_19 ?_
    refine lv_iload_n C.x C.b dX10_takes_20 rfl (lv_at hl 1 rfl) ?_
    refine lv_icmp_ne (tgt := 28) C.x C.b dX10_takes_21 (by decide) (fun c5 => ?_) (fun c5 => ?_)
    · have hf := it_f hf c5
      exact w_X10_takes_28 C hr hlk _ _ _ _ hf hE hR hS t_r0 (lv_sub hl [0, 1] rfl)
    · have hf := it_t hf c5
      refine lv_iconst (v := (1 : Int32)) C.x C.b dX10_takes_24 (by decide) ?_
      refine lv_goto (tgt := 29) C.x C.b dX10_takes_25 (by decide) ?_
      exact w_X10_takes_29 C hr hlk _ _ _ _ _ hf hE hR hS t_r0 z_1 (lv_sub hl [0, 1] rfl)

