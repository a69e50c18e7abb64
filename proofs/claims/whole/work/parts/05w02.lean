def rm_X4_meaning : Room := { frames := 0, cells := 0, slots := 0, locals := 0 }
set_option maxRecDepth 100000 in
set_option maxHeartbeats 4000000 in
theorem k_X4_meaning {G : Gt} {l : Launch}  {h : Hp} {r0 : Nat} {x1 : Int32} {r2 : Nat} {x3 : Int32} {out : Int32} (t_r0 : hpT h r0 = (1, 4)) (t_r2 : hpT h r2 = (1, 0))  (hf : f_X4_meaning  h r0 x1 r2 x3 = some out) : Mt G l yX4_meaning cX4_meaning 4 (some .int) rm_X4_meaning [.ref (G.2.2 + r0), .int x1, .ref (G.2.2 + r2), .int x3] h (some (.int out)) h 0 0 0 := by
  refine r_met (by decide +kernel) (Nat.le_of_ble_eq_true rfl) ?_
  intro p e s m args below meth c ls C hr hlk hnm hR hS hl
  have hl : lv_has ls 4 [(0, .ref (G.2.2 + r0)), (1, .int x1), (2, .ref (G.2.2 + r2)), (3, .int x3)] := hl
  rw [f_X4_meaning] at hf
  refine lv_iload_n C.x C.b dX4_meaning_0 rfl (lv_at hl 1 rfl) ?_
  by_cases c36_0 : x1 = (97 : Int32)
  · have hf := it_t hf c36_0
    refine lv_tableIn (tgt := 115) C.x C.b dX4_meaning_1 (by rw [c36_0]; decide) (by rw [c36_0]; decide) (by rw [c36_0]; rfl) (by decide) ?_
    refine lv_aload_n C.x C.b dX4_meaning_115 rfl (lv_at hl 2 rfl) ?_
    obtain ⟨g1, hf⟩ := gd_e hf
    refine r_getr C hR t_r2 fl_X4_90 (by decide) (nz_e g1) dX4_meaning_116 (fun tq2 => ?_)
    have tg1 := okA tq2 rfl
    refine lv_iload_n C.x C.b dX4_meaning_119 rfl (lv_at hl 3 rfl) ?_
    obtain ⟨g3, hf⟩ := gd_e hf
    refine r_iald C hR tg1 g3 dX4_meaning_120 ?_
    have hf := so_e hf
    subst hf
    exact r_iret C hr hlk hR Ext.rf hS dX4_meaning_121
  have hf := it_f hf c36_0
  by_cases c36_1 : x1 = (98 : Int32)
  · have hf := it_t hf c36_1
    refine lv_tableIn (tgt := 155) C.x C.b dX4_meaning_1 (by rw [c36_1]; decide) (by rw [c36_1]; decide) (by rw [c36_1]; rfl) (by decide) ?_
    refine lv_aload_n C.x C.b dX4_meaning_155 rfl (lv_at hl 2 rfl) ?_
    refine r_geti C hR t_r2 fl_X4_105 rfl dX4_meaning_156 ?_
    refine lv_bipush (v := (7 : Int32)) C.x C.b dX4_meaning_159 (by decide) ?_
    refine lv_irem C.x C.b dX4_meaning_161 (by decide) ?_
    refine lv_topi (fun v4 e_v4 => ?_)
    have hf := lt_e hf e_v4
    have hf := so_e hf
    subst hf
    exact r_iret C hr hlk hR Ext.rf hS dX4_meaning_162
  have hf := it_f hf c36_1
  by_cases c36_2 : x1 = (99 : Int32)
  · have hf := it_t hf c36_2
    refine lv_tableIn (tgt := 141) C.x C.b dX4_meaning_1 (by rw [c36_2]; decide) (by rw [c36_2]; decide) (by rw [c36_2]; rfl) (by decide) ?_
    refine lv_aload_n C.x C.b dX4_meaning_141 rfl (lv_at hl 2 rfl) ?_
    obtain ⟨g5, hf⟩ := gd_e hf
    refine r_getr C hR t_r2 fl_X4_99 (by decide) (nz_e g5) dX4_meaning_142 (fun tq6 => ?_)
    have tg5 := okA tq6 rfl
    refine lv_iload_n C.x C.b dX4_meaning_145 rfl (lv_at hl 3 rfl) ?_
    obtain ⟨g7, hf⟩ := gd_e hf
    refine r_iald C hR tg5 g7 dX4_meaning_146 ?_
    have hf := so_e hf
    subst hf
    exact r_iret C hr hlk hR Ext.rf hS dX4_meaning_147
  have hf := it_f hf c36_2
  by_cases c36_3 : x1 = (100 : Int32)
  · have hf := it_t hf c36_3
    refine lv_tableIn (tgt := 155) C.x C.b dX4_meaning_1 (by rw [c36_3]; decide) (by rw [c36_3]; decide) (by rw [c36_3]; rfl) (by decide) ?_
    refine lv_aload_n C.x C.b dX4_meaning_155 rfl (lv_at hl 2 rfl) ?_
    refine r_geti C hR t_r2 fl_X4_105 rfl dX4_meaning_156 ?_
    refine lv_bipush (v := (7 : Int32)) C.x C.b dX4_meaning_159 (by decide) ?_
    refine lv_irem C.x C.b dX4_meaning_161 (by decide) ?_
    refine lv_topi (fun v8 e_v8 => ?_)
    have hf := lt_e hf e_v8
    have hf := so_e hf
    subst hf
    exact r_iret C hr hlk hR Ext.rf hS dX4_meaning_162
  have hf := it_f hf c36_3
  by_cases c36_4 : x1 = (101 : Int32)
  · have hf := it_t hf c36_4
    refine lv_tableIn (tgt := 155) C.x C.b dX4_meaning_1 (by rw [c36_4]; decide) (by rw [c36_4]; decide) (by rw [c36_4]; rfl) (by decide) ?_
    refine lv_aload_n C.x C.b dX4_meaning_155 rfl (lv_at hl 2 rfl) ?_
    refine r_geti C hR t_r2 fl_X4_105 rfl dX4_meaning_156 ?_
    refine lv_bipush (v := (7 : Int32)) C.x C.b dX4_meaning_159 (by decide) ?_
    refine lv_irem C.x C.b dX4_meaning_161 (by decide) ?_
    refine lv_topi (fun v9 e_v9 => ?_)
    have hf := lt_e hf e_v9
    have hf := so_e hf
    subst hf
    exact r_iret C hr hlk hR Ext.rf hS dX4_meaning_162
  have hf := it_f hf c36_4
  by_cases c36_5 : x1 = (102 : Int32)
  · have hf := it_t hf c36_5
    refine lv_tableIn (tgt := 155) C.x C.b dX4_meaning_1 (by rw [c36_5]; decide) (by rw [c36_5]; decide) (by rw [c36_5]; rfl) (by decide) ?_
    refine lv_aload_n C.x C.b dX4_meaning_155 rfl (lv_at hl 2 rfl) ?_
    refine r_geti C hR t_r2 fl_X4_105 rfl dX4_meaning_156 ?_
    refine lv_bipush (v := (7 : Int32)) C.x C.b dX4_meaning_159 (by decide) ?_
    refine lv_irem C.x C.b dX4_meaning_161 (by decide) ?_
    refine lv_topi (fun v10 e_v10 => ?_)
    have hf := lt_e hf e_v10
    have hf := so_e hf
    subst hf
    exact r_iret C hr hlk hR Ext.rf hS dX4_meaning_162
  have hf := it_f hf c36_5
  by_cases c36_6 : x1 = (103 : Int32)
  · have hf := it_t hf c36_6
    refine lv_tableIn (tgt := 155) C.x C.b dX4_meaning_1 (by rw [c36_6]; decide) (by rw [c36_6]; decide) (by rw [c36_6]; rfl) (by decide) ?_
    refine lv_aload_n C.x C.b dX4_meaning_155 rfl (lv_at hl 2 rfl) ?_
    refine r_geti C hR t_r2 fl_X4_105 rfl dX4_meaning_156 ?_
    refine lv_bipush (v := (7 : Int32)) C.x C.b dX4_meaning_159 (by decide) ?_
    refine lv_irem C.x C.b dX4_meaning_161 (by decide) ?_
    refine lv_topi (fun v11 e_v11 => ?_)
    have hf := lt_e hf e_v11
    have hf := so_e hf
    subst hf
    exact r_iret C hr hlk hR Ext.rf hS dX4_meaning_162
  have hf := it_f hf c36_6
  by_cases c36_7 : x1 = (104 : Int32)
  · have hf := it_t hf c36_7
    refine lv_tableIn (tgt := 127) C.x C.b dX4_meaning_1 (by rw [c36_7]; decide) (by rw [c36_7]; decide) (by rw [c36_7]; rfl) (by decide) ?_
    refine lv_aload_n C.x C.b dX4_meaning_127 rfl (lv_at hl 2 rfl) ?_
    obtain ⟨g12, hf⟩ := gd_e hf
    refine r_getr C hR t_r2 fl_X4_93 (by decide) (nz_e g12) dX4_meaning_128 (fun tq13 => ?_)
    have tg12 := okA tq13 rfl
    refine lv_iload_n C.x C.b dX4_meaning_131 rfl (lv_at hl 3 rfl) ?_
    obtain ⟨g14, hf⟩ := gd_e hf
    refine r_iald C hR tg12 g14 dX4_meaning_132 ?_
    have hf := so_e hf
    subst hf
    exact r_iret C hr hlk hR Ext.rf hS dX4_meaning_133
  have hf := it_f hf c36_7
  by_cases c36_8 : x1 = (105 : Int32)
  · have hf := it_t hf c36_8
    refine lv_tableIn (tgt := 155) C.x C.b dX4_meaning_1 (by rw [c36_8]; decide) (by rw [c36_8]; decide) (by rw [c36_8]; rfl) (by decide) ?_
    refine lv_aload_n C.x C.b dX4_meaning_155 rfl (lv_at hl 2 rfl) ?_
    refine r_geti C hR t_r2 fl_X4_105 rfl dX4_meaning_156 ?_
    refine lv_bipush (v := (7 : Int32)) C.x C.b dX4_meaning_159 (by decide) ?_
    refine lv_irem C.x C.b dX4_meaning_161 (by decide) ?_
    refine lv_topi (fun v15 e_v15 => ?_)
    have hf := lt_e hf e_v15
    have hf := so_e hf
    subst hf
    exact r_iret C hr hlk hR Ext.rf hS dX4_meaning_162
  have hf := it_f hf c36_8
  by_cases c36_9 : x1 = (106 : Int32)
  · have hf := it_t hf c36_9
    refine lv_tableIn (tgt := 155) C.x C.b dX4_meaning_1 (by rw [c36_9]; decide) (by rw [c36_9]; decide) (by rw [c36_9]; rfl) (by decide) ?_
    refine lv_aload_n C.x C.b dX4_meaning_155 rfl (lv_at hl 2 rfl) ?_
    refine r_geti C hR t_r2 fl_X4_105 rfl dX4_meaning_156 ?_
    refine lv_bipush (v := (7 : Int32)) C.x C.b dX4_meaning_159 (by decide) ?_
    refine lv_irem C.x C.b dX4_meaning_161 (by decide) ?_
    refine lv_topi (fun v16 e_v16 => ?_)
    have hf := lt_e hf e_v16
    have hf := so_e hf
    subst hf
    exact r_iret C hr hlk hR Ext.rf hS dX4_meaning_162
  have hf := it_f hf c36_9
  by_cases c36_10 : x1 = (107 : Int32)
  · have hf := it_t hf c36_10
    refine lv_tableIn (tgt := 155) C.x C.b dX4_meaning_1 (by rw [c36_10]; decide) (by rw [c36_10]; decide) (by rw [c36_10]; rfl) (by decide) ?_
    refine lv_aload_n C.x C.b dX4_meaning_155 rfl (lv_at hl 2 rfl) ?_
    refine r_geti C hR t_r2 fl_X4_105 rfl dX4_meaning_156 ?_
    refine lv_bipush (v := (7 : Int32)) C.x C.b dX4_meaning_159 (by decide) ?_
    refine lv_irem C.x C.b dX4_meaning_161 (by decide) ?_
    refine lv_topi (fun v17 e_v17 => ?_)
    have hf := lt_e hf e_v17
    have hf := so_e hf
    subst hf
    exact r_iret C hr hlk hR Ext.rf hS dX4_meaning_162
  have hf := it_f hf c36_10
  by_cases c36_11 : x1 = (108 : Int32)
  · have hf := it_t hf c36_11
    refine lv_tableIn (tgt := 155) C.x C.b dX4_meaning_1 (by rw [c36_11]; decide) (by rw [c36_11]; decide) (by rw [c36_11]; rfl) (by decide) ?_
    refine lv_aload_n C.x C.b dX4_meaning_155 rfl (lv_at hl 2 rfl) ?_
    refine r_geti C hR t_r2 fl_X4_105 rfl dX4_meaning_156 ?_
    refine lv_bipush (v := (7 : Int32)) C.x C.b dX4_meaning_159 (by decide) ?_
    refine lv_irem C.x C.b dX4_meaning_161 (by decide) ?_
    refine lv_topi (fun v18 e_v18 => ?_)
    have hf := lt_e hf e_v18
    have hf := so_e hf
    subst hf
    exact r_iret C hr hlk hR Ext.rf hS dX4_meaning_162
  have hf := it_f hf c36_11
  by_cases c36_12 : x1 = (109 : Int32)
  · have hf := it_t hf c36_12
    refine lv_tableIn (tgt := 155) C.x C.b dX4_meaning_1 (by rw [c36_12]; decide) (by rw [c36_12]; decide) (by rw [c36_12]; rfl) (by decide) ?_
    refine lv_aload_n C.x C.b dX4_meaning_155 rfl (lv_at hl 2 rfl) ?_
    refine r_geti C hR t_r2 fl_X4_105 rfl dX4_meaning_156 ?_
    refine lv_bipush (v := (7 : Int32)) C.x C.b dX4_meaning_159 (by decide) ?_
    refine lv_irem C.x C.b dX4_meaning_161 (by decide) ?_
    refine lv_topi (fun v19 e_v19 => ?_)
    have hf := lt_e hf e_v19
    have hf := so_e hf
    subst hf
    exact r_iret C hr hlk hR Ext.rf hS dX4_meaning_162
  have hf := it_f hf c36_12
  by_cases c36_13 : x1 = (110 : Int32)
  · have hf := it_t hf c36_13
    refine lv_tableIn (tgt := 155) C.x C.b dX4_meaning_1 (by rw [c36_13]; decide) (by rw [c36_13]; decide) (by rw [c36_13]; rfl) (by decide) ?_
    refine lv_aload_n C.x C.b dX4_meaning_155 rfl (lv_at hl 2 rfl) ?_
    refine r_geti C hR t_r2 fl_X4_105 rfl dX4_meaning_156 ?_
    refine lv_bipush (v := (7 : Int32)) C.x C.b dX4_meaning_159 (by decide) ?_
    refine lv_irem C.x C.b dX4_meaning_161 (by decide) ?_
    refine lv_topi (fun v20 e_v20 => ?_)
    have hf := lt_e hf e_v20
    have hf := so_e hf
    subst hf
    exact r_iret C hr hlk hR Ext.rf hS dX4_meaning_162
  have hf := it_f hf c36_13
  by_cases c36_14 : x1 = (111 : Int32)
  · have hf := it_t hf c36_14
    refine lv_tableIn (tgt := 122) C.x C.b dX4_meaning_1 (by rw [c36_14]; decide) (by rw [c36_14]; decide) (by rw [c36_14]; rfl) (by decide) ?_
    refine lv_aload_n C.x C.b dX4_meaning_122 rfl (lv_at hl 0 rfl) ?_
    refine r_geti C hR t_r0 fl_X4_56 rfl dX4_meaning_123 ?_
    have hf := so_e hf
    subst hf
    exact r_iret C hr hlk hR Ext.rf hS dX4_meaning_126
  have hf := it_f hf c36_14
  by_cases c36_15 : x1 = (112 : Int32)
  · have hf := it_t hf c36_15
    refine lv_tableIn (tgt := 155) C.x C.b dX4_meaning_1 (by rw [c36_15]; decide) (by rw [c36_15]; decide) (by rw [c36_15]; rfl) (by decide) ?_
    refine lv_aload_n C.x C.b dX4_meaning_155 rfl (lv_at hl 2 rfl) ?_
    refine r_geti C hR t_r2 fl_X4_105 rfl dX4_meaning_156 ?_
    refine lv_bipush (v := (7 : Int32)) C.x C.b dX4_meaning_159 (by decide) ?_
    refine lv_irem C.x C.b dX4_meaning_161 (by decide) ?_
    refine lv_topi (fun v21 e_v21 => ?_)
    have hf := lt_e hf e_v21
    have hf := so_e hf
    subst hf
    exact r_iret C hr hlk hR Ext.rf hS dX4_meaning_162
  have hf := it_f hf c36_15
  by_cases c36_16 : x1 = (113 : Int32)
  · have hf := it_t hf c36_16
    refine lv_tableIn (tgt := 155) C.x C.b dX4_meaning_1 (by rw [c36_16]; decide) (by rw [c36_16]; decide) (by rw [c36_16]; rfl) (by decide) ?_
    refine lv_aload_n C.x C.b dX4_meaning_155 rfl (lv_at hl 2 rfl) ?_
    refine r_geti C hR t_r2 fl_X4_105 rfl dX4_meaning_156 ?_
    refine lv_bipush (v := (7 : Int32)) C.x C.b dX4_meaning_159 (by decide) ?_
    refine lv_irem C.x C.b dX4_meaning_161 (by decide) ?_
    refine lv_topi (fun v22 e_v22 => ?_)
    have hf := lt_e hf e_v22
    have hf := so_e hf
    subst hf
    exact r_iret C hr hlk hR Ext.rf hS dX4_meaning_162
  have hf := it_f hf c36_16
  by_cases c36_17 : x1 = (114 : Int32)
  · have hf := it_t hf c36_17
    refine lv_tableIn (tgt := 148) C.x C.b dX4_meaning_1 (by rw [c36_17]; decide) (by rw [c36_17]; decide) (by rw [c36_17]; rfl) (by decide) ?_
    refine lv_aload_n C.x C.b dX4_meaning_148 rfl (lv_at hl 2 rfl) ?_
    obtain ⟨g23, hf⟩ := gd_e hf
    refine r_getr C hR t_r2 fl_X4_102 (by decide) (nz_e g23) dX4_meaning_149 (fun tq24 => ?_)
    have tg23 := okA tq24 rfl
    refine lv_iload_n C.x C.b dX4_meaning_152 rfl (lv_at hl 3 rfl) ?_
    obtain ⟨g25, hf⟩ := gd_e hf
    refine r_iald C hR tg23 g25 dX4_meaning_153 ?_
    have hf := so_e hf
    subst hf
    exact r_iret C hr hlk hR Ext.rf hS dX4_meaning_154
  have hf := it_f hf c36_17
  by_cases c36_18 : x1 = (115 : Int32)
  · have hf := it_t hf c36_18
    refine lv_tableIn (tgt := 108) C.x C.b dX4_meaning_1 (by rw [c36_18]; decide) (by rw [c36_18]; decide) (by rw [c36_18]; rfl) (by decide) ?_
    refine lv_aload_n C.x C.b dX4_meaning_108 rfl (lv_at hl 2 rfl) ?_
    obtain ⟨g26, hf⟩ := gd_e hf
    refine r_getr C hR t_r2 fl_X4_87 (by decide) (nz_e g26) dX4_meaning_109 (fun tq27 => ?_)
    have tg26 := okA tq27 rfl
    refine lv_iload_n C.x C.b dX4_meaning_112 rfl (lv_at hl 3 rfl) ?_
    obtain ⟨g28, hf⟩ := gd_e hf
    refine r_iald C hR tg26 g28 dX4_meaning_113 ?_
    have hf := so_e hf
    subst hf
    exact r_iret C hr hlk hR Ext.rf hS dX4_meaning_114
  have hf := it_f hf c36_18
  by_cases c36_19 : x1 = (116 : Int32)
  · have hf := it_t hf c36_19
    refine lv_tableIn (tgt := 155) C.x C.b dX4_meaning_1 (by rw [c36_19]; decide) (by rw [c36_19]; decide) (by rw [c36_19]; rfl) (by decide) ?_
    refine lv_aload_n C.x C.b dX4_meaning_155 rfl (lv_at hl 2 rfl) ?_
    refine r_geti C hR t_r2 fl_X4_105 rfl dX4_meaning_156 ?_
    refine lv_bipush (v := (7 : Int32)) C.x C.b dX4_meaning_159 (by decide) ?_
    refine lv_irem C.x C.b dX4_meaning_161 (by decide) ?_
    refine lv_topi (fun v29 e_v29 => ?_)
    have hf := lt_e hf e_v29
    have hf := so_e hf
    subst hf
    exact r_iret C hr hlk hR Ext.rf hS dX4_meaning_162
  have hf := it_f hf c36_19
  by_cases c36_20 : x1 = (117 : Int32)
  · have hf := it_t hf c36_20
    refine lv_tableIn (tgt := 155) C.x C.b dX4_meaning_1 (by rw [c36_20]; decide) (by rw [c36_20]; decide) (by rw [c36_20]; rfl) (by decide) ?_
    refine lv_aload_n C.x C.b dX4_meaning_155 rfl (lv_at hl 2 rfl) ?_
    refine r_geti C hR t_r2 fl_X4_105 rfl dX4_meaning_156 ?_
    refine lv_bipush (v := (7 : Int32)) C.x C.b dX4_meaning_159 (by decide) ?_
    refine lv_irem C.x C.b dX4_meaning_161 (by decide) ?_
    refine lv_topi (fun v30 e_v30 => ?_)
    have hf := lt_e hf e_v30
    have hf := so_e hf
    subst hf
    exact r_iret C hr hlk hR Ext.rf hS dX4_meaning_162
  have hf := it_f hf c36_20
  by_cases c36_21 : x1 = (118 : Int32)
  · have hf := it_t hf c36_21
    refine lv_tableIn (tgt := 155) C.x C.b dX4_meaning_1 (by rw [c36_21]; decide) (by rw [c36_21]; decide) (by rw [c36_21]; rfl) (by decide) ?_
    refine lv_aload_n C.x C.b dX4_meaning_155 rfl (lv_at hl 2 rfl) ?_
    refine r_geti C hR t_r2 fl_X4_105 rfl dX4_meaning_156 ?_
    refine lv_bipush (v := (7 : Int32)) C.x C.b dX4_meaning_159 (by decide) ?_
    refine lv_irem C.x C.b dX4_meaning_161 (by decide) ?_
    refine lv_topi (fun v31 e_v31 => ?_)
    have hf := lt_e hf e_v31
    have hf := so_e hf
    subst hf
    exact r_iret C hr hlk hR Ext.rf hS dX4_meaning_162
  have hf := it_f hf c36_21
  by_cases c36_22 : x1 = (119 : Int32)
  · have hf := it_t hf c36_22
    refine lv_tableIn (tgt := 134) C.x C.b dX4_meaning_1 (by rw [c36_22]; decide) (by rw [c36_22]; decide) (by rw [c36_22]; rfl) (by decide) ?_
    refine lv_aload_n C.x C.b dX4_meaning_134 rfl (lv_at hl 2 rfl) ?_
    obtain ⟨g32, hf⟩ := gd_e hf
    refine r_getr C hR t_r2 fl_X4_96 (by decide) (nz_e g32) dX4_meaning_135 (fun tq33 => ?_)
    have tg32 := okA tq33 rfl
    refine lv_iload_n C.x C.b dX4_meaning_138 rfl (lv_at hl 3 rfl) ?_
    obtain ⟨g34, hf⟩ := gd_e hf
    refine r_iald C hR tg32 g34 dX4_meaning_139 ?_
    have hf := so_e hf
    subst hf
    exact r_iret C hr hlk hR Ext.rf hS dX4_meaning_140
  have hf := it_f hf c36_22
  refine lv_tableOut (tgt := 155) C.x C.b dX4_meaning_1 (tb_out 23 (by decide) (fun j hj => match j, hj with | 0, _ => fun q => c36_0 (q.trans (by decide)) | 1, _ => fun q => c36_1 (q.trans (by decide)) | 2, _ => fun q => c36_2 (q.trans (by decide)) | 3, _ => fun q => c36_3 (q.trans (by decide)) | 4, _ => fun q => c36_4 (q.trans (by decide)) | 5, _ => fun q => c36_5 (q.trans (by decide)) | 6, _ => fun q => c36_6 (q.trans (by decide)) | 7, _ => fun q => c36_7 (q.trans (by decide)) | 8, _ => fun q => c36_8 (q.trans (by decide)) | 9, _ => fun q => c36_9 (q.trans (by decide)) | 10, _ => fun q => c36_10 (q.trans (by decide)) | 11, _ => fun q => c36_11 (q.trans (by decide)) | 12, _ => fun q => c36_12 (q.trans (by decide)) | 13, _ => fun q => c36_13 (q.trans (by decide)) | 14, _ => fun q => c36_14 (q.trans (by decide)) | 15, _ => fun q => c36_15 (q.trans (by decide)) | 16, _ => fun q => c36_16 (q.trans (by decide)) | 17, _ => fun q => c36_17 (q.trans (by decide)) | 18, _ => fun q => c36_18 (q.trans (by decide)) | 19, _ => fun q => c36_19 (q.trans (by decide)) | 20, _ => fun q => c36_20 (q.trans (by decide)) | 21, _ => fun q => c36_21 (q.trans (by decide)) | 22, _ => fun q => c36_22 (q.trans (by decide)) | n + 23, hn => absurd hn (by omega))) (by decide) ?_
  refine lv_aload_n C.x C.b dX4_meaning_155 rfl (lv_at hl 2 rfl) ?_
  refine r_geti C hR t_r2 fl_X4_105 rfl dX4_meaning_156 ?_
  refine lv_bipush (v := (7 : Int32)) C.x C.b dX4_meaning_159 (by decide) ?_
  refine lv_irem C.x C.b dX4_meaning_161 (by decide) ?_
  refine lv_topi (fun v35 e_v35 => ?_)
  have hf := lt_e hf e_v35
  have hf := so_e hf
  subst hf
  exact r_iret C hr hlk hR Ext.rf hS dX4_meaning_162

def rm_X9_digitOf : Room := { frames := 1, cells := 0, slots := 0, locals := 14 }
set_option maxRecDepth 100000 in
set_option maxHeartbeats 4000000 in
theorem k_X9_digitOf {G : Gt} {l : Launch}  {h : Hp} {x0 : Int32} {out : Int32}   (hf : f_X9_digitOf  h x0 = some out) : Mt G l yX9_digitOf cX9_digitOf 1 (some .int) rm_X9_digitOf [.int x0] h (some (.int out)) h 0 0 0 := by
  refine r_met (by decide +kernel) (Nat.le_of_ble_eq_true rfl) ?_
  intro p e s m args below meth c ls C hr hlk hnm hR hS hl
  have hl : lv_has ls 1 [(0, .int x0)] := hl
  rw [f_X9_digitOf] at hf
  refine lv_iconst (v := (0 : Int32)) C.x C.b dX9_digitOf_0 (by decide) ?_
  refine lv_bipush (v := (9 : Int32)) C.x C.b dX9_digitOf_1 (by decide) ?_
  refine lv_iload_n C.x C.b dX9_digitOf_3 rfl (lv_at hl 0 rfl) ?_
  refine va_mmin C.x C.b (C.ml.trans hl.1.symm) C.ow (C.ts _ lk_X9_129) (C.ts _ lk_Mmin_s) (C.ts _ lk_Math) (C.ts _ lk_Mmin_c) (Nat.le_of_ble_eq_true rfl) (Nat.le_of_ble_eq_true rfl) (Nat.le_of_ble_eq_true rfl) (Nat.le_of_ble_eq_true rfl) dX9_digitOf_4 ?_
  refine lv_topi (fun v1 e_v1 => ?_)
  have hf := lt_e hf e_v1
  refine va_mmax C.x C.b (C.ml.trans hl.1.symm) C.ow (C.ts _ lk_X9_210) (C.ts _ lk_Mmax_s) (C.ts _ lk_Math) (C.ts _ lk_Mmax_c) (Nat.le_of_ble_eq_true rfl) (Nat.le_of_ble_eq_true rfl) (Nat.le_of_ble_eq_true rfl) (Nat.le_of_ble_eq_true rfl) dX9_digitOf_7 ?_
  refine lv_topi (fun v2 e_v2 => ?_)
  have hf := lt_e hf e_v2
  have hf := so_e hf
  subst hf
  exact r_iret C hr hlk hR Ext.rf hS dX9_digitOf_10

def rm_X4_loss : Room := { frames := 2, cells := 0, slots := 0, locals := 34 }
def P_X4_loss_107 (G : Gt) (l : Launch) (p : Program) (e : Env) (s : State) (m : MethodId) (args : Array Value) (below : List Frame) (meth : Method) (c : Code) (h0 : Hp) (out : (Int32 × Hp)) (r0 : Nat) (r1 : Nat) (x2 : Int32) (k : Hp → Int32 → Option (Int32 × Hp)) : Prop := ∀ (H : Heap) (locs : List Loc) (ls : Array Slot) (h : Hp) (x3 : Int32), k h x3 = some out → Ext h0 h → Rel G h H → va_S (AA G.2.2) s.heap H locs → hpT h r0 = (1, 4) → hpT h r1 = (1, 0) → lv_has ls 7 [(0, .ref (G.2.2 + r0)), (1, .ref (G.2.2 + r1)), (2, .int x2), (3, .int x3)] → W p l e rm_X4_loss s m args below meth c H locs 0 0 (MQ below (Qm G h0 out.2 (some (.int out.1)) 0) args s 0 0 (AA G.2.2)) (F0 m 107 ls [])
def P_X4_loss_7 (G : Gt) (l : Launch) (p : Program) (e : Env) (s : State) (m : MethodId) (args : Array Value) (below : List Frame) (meth : Method) (c : Code) (h0 : Hp) (out : (Int32 × Hp)) (r0 : Nat) (r1 : Nat) (x2 : Int32) (k : Hp → Int32 → Option (Int32 × Hp)) : Prop := ∀ (H : Heap) (locs : List Loc) (ls : Array Slot) (h : Hp) (x3 : Int32), k h x3 = some out → Ext h0 h → Rel G h H → va_S (AA G.2.2) s.heap H locs → hpT h r0 = (1, 4) → hpT h r1 = (1, 0) → lv_has ls 7 [(0, .ref (G.2.2 + r0)), (1, .ref (G.2.2 + r1)), (2, .int x2), (3, .int x3)] → W p l e rm_X4_loss s m args below meth c H locs 0 0 (MQ below (Qm G h0 out.2 (some (.int out.1)) 0) args s 0 0 (AA G.2.2)) (F0 m 7 ls [])
set_option maxRecDepth 100000 in
set_option maxHeartbeats 4000000 in
theorem w_X4_loss_107 {G : Gt} {l : Launch} {p : Program} {e : Env} {s : State} {m : MethodId} {args : Array Value} {below : List Frame} {meth : Method} {c : Code}  {h0 : Hp} {out : (Int32 × Hp)} {r0 : Nat} {r1 : Nat} {x2 : Int32} {k7 : Hp → Int32 → Option (Int32 × Hp)} (C : Cx G p m c cX4_loss 7 s args RX4) (hr : meth.sig.returnType = some .int) (hlk : meth.locks = false)  (hk7 : P_X4_loss_7 G l p e s m args below meth c h0 out r0 r1 x2 k7) : P_X4_loss_107 G l p e s m args below meth c h0 out r0 r1 x2 (f_X4_loss_107 r0 r1 x2 k7) := by
  intro H locs ls h x3 hf hE hR hS t_r0 t_r1 hl
  rw [f_X4_loss_107] at hf
  obtain ⟨v22, e_v22⟩ : ∃ y : Int32, y = x3 + (1 : Int32) := ⟨_, rfl⟩
  have hf := lt_e hf e_v22
  refine lv_iinc (v := v22) (lv' := [(3, .int v22), (0, .ref (G.2.2 + r0)), (1, .ref (G.2.2 + r1)), (2, .int x2)]) C.x C.b dX4_loss_107 hl (k := 3) rfl (by rw [e_v22]; rfl) (by decide) rfl (fun ls hl => ?_)
  refine lv_goto (tgt := 7) C.x C.b dX4_loss_110 (by decide) ?_
  exact hk7 _ _ _ _ _ hf hE hR hS t_r0 t_r1 (lv_sub hl [1, 2, 3, 0] rfl)
set_option maxRecDepth 100000 in
set_option maxHeartbeats 4000000 in
theorem w_X4_loss_7 {G : Gt} {l : Launch} {p : Program} {e : Env} {s : State} {m : MethodId} {args : Array Value} {below : List Frame} {meth : Method} {c : Code}  {h0 : Hp} {out : (Int32 × Hp)} {r0 : Nat} {r1 : Nat} {x2 : Int32}  (C : Cx G p m c cX4_loss 7 s args RX4) (hr : meth.sig.returnType = some .int) (hlk : meth.locks = false)   (n : Nat) : P_X4_loss_7 G l p e s m args below meth c h0 out r0 r1 x2 (f_X4_loss_7 r0 r1 x2 n) := by
  induction n with
  | zero => intro H locs ls h x3 hf hE hR hS t_r0 t_r1 hl; cases hf
  | succ n hk7 =>
    intro H locs ls h x3 hf hE hR hS t_r0 t_r1 hl
    rw [f_X4_loss_7] at hf
    obtain ⟨k7, e_k7⟩ : ∃ y, y = f_X4_loss_7 r0 r1 x2 n := ⟨_, rfl⟩
    have hf := lt_e hf e_k7
    rw [← e_k7] at hk7
    refine lv_iload_n C.x C.b dX4_loss_7 rfl (lv_at hl 3 rfl) ?_
    refine lv_aload_n C.x C.b dX4_loss_8 rfl (lv_at hl 0 rfl) ?_
    refine r_geti C hR t_r0 fl_X4_21 rfl dX4_loss_9 ?_
    refine lv_icmp_ge (tgt := 113) C.x C.b dX4_loss_12 (by decide) (fun c2 => ?_) (fun c2 => ?_)
    · have hf := it_t hf c2
      refine lv_aload_n C.x C.b dX4_loss_113 rfl (lv_at hl 0 rfl) ?_
      obtain ⟨q3, h_q3, hf⟩ := bd_e hf
      refine r_callV (As := []) (rest := []) C hR hS t_r0 rfl mk_X4_pop cl_X4_69 (k_X4_pop t_r0 h_q3) ⟨⟨Nat.le_of_ble_eq_true rfl, Nat.le_of_ble_eq_true rfl⟩, ⟨rfl, rfl⟩, Nat.le_of_ble_eq_true rfl, Nat.le_of_ble_eq_true rfl⟩ rfl hl.1 rfl (Nat.le_of_ble_eq_true rfl) dX4_loss_114 (fun H locs hR hS hE1 z_q3 => ?_)
      have hE := hE.tr hE1
      have t_r0 := hE1.at t_r0 (by decide)
      have t_r1 := hE1.at t_r1 (by decide)
      obtain ⟨q4, h_q4, hf⟩ := bd_e hf
      refine r_callSN (As := [.int q3.1]) (rest := []) C hR hS mk_X9_digitOf cn_X4_84 (k_X9_digitOf h_q4) ⟨⟨Nat.le_of_ble_eq_true rfl, Nat.le_of_ble_eq_true rfl⟩, ⟨rfl, rfl⟩, Nat.le_of_ble_eq_true rfl, Nat.le_of_ble_eq_true rfl⟩ rfl hl.1 rfl (Nat.le_of_ble_eq_true rfl) dX4_loss_117 (fun H locs hR hS hE1 z_q4 => ?_)
      have hf := so_e hf
      subst hf
      exact r_iret C hr hlk hR hE hS dX4_loss_120
    · have hf := it_f hf c2
      refine lv_aload_n C.x C.b dX4_loss_15 rfl (lv_at hl 0 rfl) ?_
      obtain ⟨g5, hf⟩ := gd_e hf
      refine r_getr C hR t_r0 fl_X4_9 (by decide) (nz_e g5) dX4_loss_16 (fun tq6 => ?_)
      have tg5 := okA tq6 rfl
      refine lv_iload_n C.x C.b dX4_loss_19 rfl (lv_at hl 3 rfl) ?_
      obtain ⟨g7, hf⟩ := gd_e hf
      refine r_iald C hR tg5 g7 dX4_loss_20 ?_
      refine lv_topi (fun v8 e_v8 => ?_)
      have hf := lt_e hf e_v8
      refine lv_istore (lv' := [(4, .int v8), (0, .ref (G.2.2 + r0)), (1, .ref (G.2.2 + r1)), (2, .int x2), (3, .int x3)]) C.x C.b dX4_loss_21 hl (by decide) rfl (fun ls hl => ?_)
      refine lv_iload C.x C.b dX4_loss_23 (lv_at hl 0 rfl) ?_
      refine lv_if_lt (tgt := 37) C.x C.b dX4_loss_25 (by decide) (fun c9 => ?_) (fun c9 => ?_)
      · have hf := it_t hf c9
        refine lv_iload C.x C.b dX4_loss_37 (lv_at hl 0 rfl) ?_
        refine lv_bipush (v := (-126 : Int32)) C.x C.b dX4_loss_39 (by decide) ?_
        refine lv_icmp_ne (tgt := 56) C.x C.b dX4_loss_41 (by decide) (fun c10 => ?_) (fun c10 => ?_)
        · have hf := it_f hf c10
          refine lv_iload C.x C.b dX4_loss_56 (lv_at hl 0 rfl) ?_
          refine lv_ineg C.x C.b dX4_loss_58 ?_
          obtain ⟨q11, h_q11, hf⟩ := bd_e hf
          refine r_callS (As := [.int (-v8)]) (rest := []) C hR hS mk_X4_isOperator cl_X4_73 (k_X4_isOperator h_q11) ⟨⟨Nat.le_of_ble_eq_true rfl, Nat.le_of_ble_eq_true rfl⟩, ⟨rfl, rfl⟩, Nat.le_of_ble_eq_true rfl, Nat.le_of_ble_eq_true rfl⟩ rfl hl.1 rfl (Nat.le_of_ble_eq_true rfl) dX4_loss_59 (fun H locs hR hS hE1 z_q11 => ?_)
          have z_q11 := z_q11 _ rfl
          refine lv_if_eq (tgt := 94) C.x C.b dX4_loss_62 (by decide) (fun c12 => ?_) (fun c12 => ?_)
          · have hf := it_t hf c12
            refine lv_aload_n C.x C.b dX4_loss_94 rfl (lv_at hl 1 rfl) ?_
            refine lv_aload_n C.x C.b dX4_loss_95 rfl (lv_at hl 1 rfl) ?_
            refine lv_iload C.x C.b dX4_loss_96 (lv_at hl 0 rfl) ?_
            refine lv_ineg C.x C.b dX4_loss_98 ?_
            refine lv_aload_n C.x C.b dX4_loss_99 rfl (lv_at hl 2 rfl) ?_
            refine lv_iload_n C.x C.b dX4_loss_100 rfl (lv_at hl 3 rfl) ?_
            obtain ⟨q13, h_q13, hf⟩ := bd_e hf
            refine r_callV (As := [.int (-v8), .ref (G.2.2 + r1), .int x2]) (rest := [.ref (G.2.2 + r0)]) C hR hS t_r0 rfl mk_X4_meaning cl_X4_80 (k_X4_meaning t_r0 t_r1 h_q13) ⟨⟨Nat.le_of_ble_eq_true rfl, Nat.le_of_ble_eq_true rfl⟩, ⟨rfl, rfl⟩, Nat.le_of_ble_eq_true rfl, Nat.le_of_ble_eq_true rfl⟩ rfl hl.1 rfl (Nat.le_of_ble_eq_true rfl) dX4_loss_101 (fun H locs hR hS hE1 z_q13 => ?_)
            obtain ⟨q14, h_q14, hf⟩ := bd_e hf
            refine r_callV (As := [.int q13]) (rest := []) C hR hS t_r0 rfl mk_X4_push cl_X4_66 (k_X4_push t_r0 h_q14) ⟨⟨Nat.le_of_ble_eq_true rfl, Nat.le_of_ble_eq_true rfl⟩, ⟨rfl, rfl⟩, Nat.le_of_ble_eq_true rfl, Nat.le_of_ble_eq_true rfl⟩ rfl hl.1 rfl (Nat.le_of_ble_eq_true rfl) dX4_loss_104 (fun H locs hR hS hE1 z_q14 => ?_)
            have hE := hE.tr hE1
            have t_r0 := hE1.at t_r0 (by decide)
            have t_r1 := hE1.at t_r1 (by decide)
            exact w_X4_loss_107 C hr hlk hk7 _ _ _ _ _ hf hE hR hS t_r0 t_r1 (lv_sub hl [1, 2, 3, 4] rfl)
          · have hf := it_f hf c12
            refine lv_aload_n C.x C.b dX4_loss_65 rfl (lv_at hl 1 rfl) ?_
            obtain ⟨q15, h_q15, hf⟩ := bd_e hf
            refine r_callV (As := []) (rest := []) C hR hS t_r0 rfl mk_X4_pop cl_X4_69 (k_X4_pop t_r0 h_q15) ⟨⟨Nat.le_of_ble_eq_true rfl, Nat.le_of_ble_eq_true rfl⟩, ⟨rfl, rfl⟩, Nat.le_of_ble_eq_true rfl, Nat.le_of_ble_eq_true rfl⟩ rfl hl.1 rfl (Nat.le_of_ble_eq_true rfl) dX4_loss_66 (fun H locs hR hS hE1 z_q15 => ?_)
            have hE := hE.tr hE1
            have t_r0 := hE1.at t_r0 (by decide)
            have t_r1 := hE1.at t_r1 (by decide)
            refine lv_istore (lv' := [(5, .int q15.1), (4, .int v8), (0, .ref (G.2.2 + r0)), (1, .ref (G.2.2 + r1)), (2, .int x2), (3, .int x3)]) C.x C.b dX4_loss_69 hl (by decide) rfl (fun ls hl => ?_)
            refine lv_aload_n C.x C.b dX4_loss_71 rfl (lv_at hl 2 rfl) ?_
            obtain ⟨q16, h_q16, hf⟩ := bd_e hf
            refine r_callV (As := []) (rest := []) C hR hS t_r0 rfl mk_X4_pop cl_X4_69 (k_X4_pop t_r0 h_q16) ⟨⟨Nat.le_of_ble_eq_true rfl, Nat.le_of_ble_eq_true rfl⟩, ⟨rfl, rfl⟩, Nat.le_of_ble_eq_true rfl, Nat.le_of_ble_eq_true rfl⟩ rfl hl.1 rfl (Nat.le_of_ble_eq_true rfl) dX4_loss_72 (fun H locs hR hS hE1 z_q16 => ?_)
            have hE := hE.tr hE1
            have t_r0 := hE1.at t_r0 (by decide)
            have t_r1 := hE1.at t_r1 (by decide)
            refine lv_istore (lv' := [(6, .int q16.1), (5, .int q15.1), (4, .int v8), (0, .ref (G.2.2 + r0)), (1, .ref (G.2.2 + r1)), (2, .int x2), (3, .int x3)]) C.x C.b dX4_loss_75 hl (by decide) rfl (fun ls hl => ?_)
            refine lv_aload_n C.x C.b dX4_loss_77 rfl (lv_at hl 3 rfl) ?_
            refine lv_iload C.x C.b dX4_loss_78 (lv_at hl 2 rfl) ?_
            refine lv_ineg C.x C.b dX4_loss_80 ?_
            refine lv_iload C.x C.b dX4_loss_81 (lv_at hl 0 rfl) ?_
            refine lv_iload C.x C.b dX4_loss_83 (lv_at hl 1 rfl) ?_
            obtain ⟨q17, h_q17, hf⟩ := bd_e hf
            refine r_callS (As := [.int (-v8), .int q16.1, .int q15.1]) (rest := [.ref (G.2.2 + r0)]) C hR hS mk_X4_joined cl_X4_76 (k_X4_joined h_q17) ⟨⟨Nat.le_of_ble_eq_true rfl, Nat.le_of_ble_eq_true rfl⟩, ⟨rfl, rfl⟩, Nat.le_of_ble_eq_true rfl, Nat.le_of_ble_eq_true rfl⟩ rfl hl.1 rfl (Nat.le_of_ble_eq_true rfl) dX4_loss_85 (fun H locs hR hS hE1 z_q17 => ?_)
            obtain ⟨q18, h_q18, hf⟩ := bd_e hf
            refine r_callV (As := [.int q17]) (rest := []) C hR hS t_r0 rfl mk_X4_push cl_X4_66 (k_X4_push t_r0 h_q18) ⟨⟨Nat.le_of_ble_eq_true rfl, Nat.le_of_ble_eq_true rfl⟩, ⟨rfl, rfl⟩, Nat.le_of_ble_eq_true rfl, Nat.le_of_ble_eq_true rfl⟩ rfl hl.1 rfl (Nat.le_of_ble_eq_true rfl) dX4_loss_88 (fun H locs hR hS hE1 z_q18 => ?_)
            have hE := hE.tr hE1
            have t_r0 := hE1.at t_r0 (by decide)
            have t_r1 := hE1.at t_r1 (by decide)
            refine lv_goto (tgt := 107) C.x C.b dX4_loss_91 (by decide) ?_
            exact w_X4_loss_107 C hr hlk hk7 _ _ _ _ _ hf hE hR hS t_r0 t_r1 (lv_sub hl [3, 4, 5, 6] rfl)
        · have hf := it_t hf c10
          refine lv_aload_n C.x C.b dX4_loss_44 rfl (lv_at hl 1 rfl) ?_
          refine lv_aload_n C.x C.b dX4_loss_45 rfl (lv_at hl 1 rfl) ?_
          obtain ⟨q19, h_q19, hf⟩ := bd_e hf
          refine r_callV (As := []) (rest := [.ref (G.2.2 + r0)]) C hR hS t_r0 rfl mk_X4_pop cl_X4_69 (k_X4_pop t_r0 h_q19) ⟨⟨Nat.le_of_ble_eq_true rfl, Nat.le_of_ble_eq_true rfl⟩, ⟨rfl, rfl⟩, Nat.le_of_ble_eq_true rfl, Nat.le_of_ble_eq_true rfl⟩ rfl hl.1 rfl (Nat.le_of_ble_eq_true rfl) dX4_loss_46 (fun H locs hR hS hE1 z_q19 => ?_)
          have hE := hE.tr hE1
          have t_r0 := hE1.at t_r0 (by decide)
          have t_r1 := hE1.at t_r1 (by decide)
          refine lv_ineg C.x C.b dX4_loss_49 ?_
          obtain ⟨q20, h_q20, hf⟩ := bd_e hf
          refine r_callV (As := [.int (-q19.1)]) (rest := []) C hR hS t_r0 rfl mk_X4_push cl_X4_66 (k_X4_push t_r0 h_q20) ⟨⟨Nat.le_of_ble_eq_true rfl, Nat.le_of_ble_eq_true rfl⟩, ⟨rfl, rfl⟩, Nat.le_of_ble_eq_true rfl, Nat.le_of_ble_eq_true rfl⟩ rfl hl.1 rfl (Nat.le_of_ble_eq_true rfl) dX4_loss_50 (fun H locs hR hS hE1 z_q20 => ?_)
          have hE := hE.tr hE1
          have t_r0 := hE1.at t_r0 (by decide)
          have t_r1 := hE1.at t_r1 (by decide)
          refine lv_goto (tgt := 107) C.x C.b dX4_loss_53 (by decide) ?_
          exact w_X4_loss_107 C hr hlk hk7 _ _ _ _ _ hf hE hR hS t_r0 t_r1 (lv_sub hl [1, 2, 3, 4] rfl)
      · have hf := it_f hf c9
        refine lv_aload_n C.x C.b dX4_loss_28 rfl (lv_at hl 1 rfl) ?_
        refine lv_iload C.x C.b dX4_loss_29 (lv_at hl 0 rfl) ?_
        obtain ⟨q21, h_q21, hf⟩ := bd_e hf
        refine r_callV (As := [.int v8]) (rest := []) C hR hS t_r0 rfl mk_X4_push cl_X4_66 (k_X4_push t_r0 h_q21) ⟨⟨Nat.le_of_ble_eq_true rfl, Nat.le_of_ble_eq_true rfl⟩, ⟨rfl, rfl⟩, Nat.le_of_ble_eq_true rfl, Nat.le_of_ble_eq_true rfl⟩ rfl hl.1 rfl (Nat.le_of_ble_eq_true rfl) dX4_loss_31 (fun H locs hR hS hE1 z_q21 => ?_)
        have hE := hE.tr hE1
        have t_r0 := hE1.at t_r0 (by decide)
        have t_r1 := hE1.at t_r1 (by decide)
        refine lv_goto (tgt := 107) C.x C.b dX4_loss_34 (by decide) ?_
        exact w_X4_loss_107 C hr hlk hk7 _ _ _ _ _ hf hE hR hS t_r0 t_r1 (lv_sub hl [1, 2, 3, 4] rfl)
set_option maxRecDepth 100000 in
set_option maxHeartbeats 4000000 in
theorem k_X4_loss {G : Gt} {l : Launch}  {h : Hp} {r0 : Nat} {r1 : Nat} {x2 : Int32} {out : (Int32 × Hp)} (t_r0 : hpT h r0 = (1, 4)) (t_r1 : hpT h r1 = (1, 0))  (hf : f_X4_loss  h r0 r1 x2 = some out) : Mt G l yX4_loss cX4_loss 7 (some .int) rm_X4_loss [.ref (G.2.2 + r0), .ref (G.2.2 + r1), .int x2] h (some (.int out.1)) out.2 0 0 0 := by
  refine r_met (by decide +kernel) (Nat.le_of_ble_eq_true rfl) ?_
  intro p e s m args below meth c ls C hr hlk hnm hR hS hl
  have hE : Ext h h := Ext.rf
  have hl : lv_has ls 7 [(0, .ref (G.2.2 + r0)), (1, .ref (G.2.2 + r1)), (2, .int x2)] := hl
  rw [f_X4_loss] at hf
  refine lv_aload_n C.x C.b dX4_loss_0 rfl (lv_at hl 0 rfl) ?_
  refine lv_iconst (v := (0 : Int32)) C.x C.b dX4_loss_1 (by decide) ?_
  refine r_puti C hR hS t_r0 fl_X4_63 fp_X4_4_4 rfl dX4_loss_2 (fun H locs hR hS => ?_)
  obtain ⟨h1, e_h1⟩ : ∃ y, y = upI h r0 4 (0 : Int32) := ⟨_, rfl⟩
  rw [← e_h1] at hR
  have hf := lt_e hf e_h1
  have hE := eI e_h1 hE
  have t_r0 := tI e_h1 t_r0
  have t_r1 := tI e_h1 t_r1
  refine lv_iconst (v := (0 : Int32)) C.x C.b dX4_loss_5 (by decide) ?_
  refine lv_istore_n (lv' := [(3, .int (0 : Int32)), (0, .ref (G.2.2 + r0)), (1, .ref (G.2.2 + r1)), (2, .int x2)]) C.x C.b dX4_loss_6 rfl hl (by decide) rfl (fun ls hl => ?_)
  exact w_X4_loss_7 C hr hlk FU _ _ _ _ _ hf hE hR hS t_r0 t_r1 (lv_sub hl [1, 2, 3, 0] rfl)

def rm_X4_losses : Room := { frames := 3, cells := 0, slots := 0, locals := 60 }
def P_X4_losses_47 (G : Gt) (l : Launch) (p : Program) (e : Env) (s : State) (m : MethodId) (args : Array Value) (below : List Frame) (meth : Method) (c : Code) (h0 : Hp) (out : (Nat × Hp)) (r0 : Nat) (r1 : Nat) (k : Hp → Int32 → Option (Nat × Hp)) : Prop := ∀ (H : Heap) (locs : List Loc) (ls : Array Slot) (h : Hp) (x2 : Int32), k h x2 = some out → Ext h0 h → Rel G h H → va_S (AA G.2.2) s.heap H locs → hpT h r0 = (1, 4) → hpT h r1 = (1, 0) → lv_has ls 3 [(0, .ref (G.2.2 + r0)), (1, .ref (G.2.2 + r1)), (2, .int x2)] → W p l e rm_X4_losses s m args below meth c H locs 0 0 (MQ below (Qm G h0 out.2 (some (.ref (G.2.2 + out.1))) 2) args s 0 0 (AA G.2.2)) (F0 m 47 ls [])
def P_X4_losses_2 (G : Gt) (l : Launch) (p : Program) (e : Env) (s : State) (m : MethodId) (args : Array Value) (below : List Frame) (meth : Method) (c : Code) (h0 : Hp) (out : (Nat × Hp)) (r0 : Nat) (r1 : Nat) (k : Hp → Int32 → Option (Nat × Hp)) : Prop := ∀ (H : Heap) (locs : List Loc) (ls : Array Slot) (h : Hp) (x2 : Int32), k h x2 = some out → Ext h0 h → Rel G h H → va_S (AA G.2.2) s.heap H locs → hpT h r0 = (1, 4) → hpT h r1 = (1, 0) → lv_has ls 3 [(0, .ref (G.2.2 + r0)), (1, .ref (G.2.2 + r1)), (2, .int x2)] → W p l e rm_X4_losses s m args below meth c H locs 0 0 (MQ below (Qm G h0 out.2 (some (.ref (G.2.2 + out.1))) 2) args s 0 0 (AA G.2.2)) (F0 m 2 ls [])
set_option maxRecDepth 100000 in
set_option maxHeartbeats 4000000 in
theorem w_X4_losses_47 {G : Gt} {l : Launch} {p : Program} {e : Env} {s : State} {m : MethodId} {args : Array Value} {below : List Frame} {meth : Method} {c : Code}  {h0 : Hp} {out : (Nat × Hp)} {r0 : Nat} {r1 : Nat} {k2 : Hp → Int32 → Option (Nat × Hp)} (C : Cx G p m c cX4_losses 3 s args RX4) (hr : meth.sig.returnType = some (.array .int)) (hlk : meth.locks = false)  (hk2 : P_X4_losses_2 G l p e s m args below meth c h0 out r0 r1 k2) : P_X4_losses_47 G l p e s m args below meth c h0 out r0 r1 (f_X4_losses_47 r0 r1 k2) := by
  intro H locs ls h x2 hf hE hR hS t_r0 t_r1 hl
  rw [f_X4_losses_47] at hf
  obtain ⟨v18, e_v18⟩ : ∃ y : Int32, y = x2 + (1 : Int32) := ⟨_, rfl⟩
  have hf := lt_e hf e_v18
  refine lv_iinc (v := v18) (lv' := [(2, .int v18), (0, .ref (G.2.2 + r0)), (1, .ref (G.2.2 + r1))]) C.x C.b dX4_losses_47 hl (k := 2) rfl (by rw [e_v18]; rfl) (by decide) rfl (fun ls hl => ?_)
  refine lv_goto (tgt := 2) C.x C.b dX4_losses_50 (by decide) ?_
  exact hk2 _ _ _ _ _ hf hE hR hS t_r0 t_r1 (lv_sub hl [1, 2, 0] rfl)
set_option maxRecDepth 100000 in
set_option maxHeartbeats 4000000 in
theorem w_X4_losses_2 {G : Gt} {l : Launch} {p : Program} {e : Env} {s : State} {m : MethodId} {args : Array Value} {below : List Frame} {meth : Method} {c : Code}  {h0 : Hp} {out : (Nat × Hp)} {r0 : Nat} {r1 : Nat}  (C : Cx G p m c cX4_losses 3 s args RX4) (hr : meth.sig.returnType = some (.array .int)) (hlk : meth.locks = false)   (n : Nat) : P_X4_losses_2 G l p e s m args below meth c h0 out r0 r1 (f_X4_losses_2 r0 r1 n) := by
  induction n with
  | zero => intro H locs ls h x2 hf hE hR hS t_r0 t_r1 hl; cases hf
  | succ n hk2 =>
    intro H locs ls h x2 hf hE hR hS t_r0 t_r1 hl
    rw [f_X4_losses_2] at hf
    obtain ⟨k2, e_k2⟩ : ∃ y, y = f_X4_losses_2 r0 r1 n := ⟨_, rfl⟩
    have hf := lt_e hf e_k2
    rw [← e_k2] at hk2
    refine lv_iload_n C.x C.b dX4_losses_2 rfl (lv_at hl 2 rfl) ?_
    refine lv_bipush (v := (8 : Int32)) C.x C.b dX4_losses_3 (by decide) ?_
    refine lv_icmp_ge (tgt := 53) C.x C.b dX4_losses_5 (by decide) (fun c1 => ?_) (fun c1 => ?_)
    · have hf := it_t hf c1
      refine lv_aload_n C.x C.b dX4_losses_53 rfl (lv_at hl 0 rfl) ?_
      obtain ⟨g2, hf⟩ := gd_e hf
      refine r_getr C hR t_r0 fl_X4_18 (by decide) (nz_e g2) dX4_losses_54 (fun tq3 => ?_)
      have tg2 := okA tq3 rfl
      have hf := so_e hf
      subst hf
      exact r_aret C hr hlk hR hE hS tg2 dX4_losses_57
    · have hf := it_f hf c1
      refine lv_aload_n C.x C.b dX4_losses_8 rfl (lv_at hl 0 rfl) ?_
      obtain ⟨g4, hf⟩ := gd_e hf
      refine r_getr C hR t_r0 fl_X4_18 (by decide) (nz_e g4) dX4_losses_9 (fun tq5 => ?_)
      have tg4 := okA tq5 rfl
      refine lv_iload_n C.x C.b dX4_losses_12 rfl (lv_at hl 2 rfl) ?_
      refine lv_iconst (v := (0 : Int32)) C.x C.b dX4_losses_13 (by decide) ?_
      obtain ⟨g6, hf⟩ := gd_e hf
      refine r_iast C hR hS tg4 g6 dX4_losses_14 (fun H locs hR hS => ?_)
      obtain ⟨h7, e_h7⟩ : ∃ y, y = upI h (hpR h r0 2) (ix x2) (0 : Int32) := ⟨_, rfl⟩
      rw [← e_h7] at hR
      have hf := lt_e hf e_h7
      have hE := eI e_h7 hE
      have t_r0 := tI e_h7 t_r0
      have t_r1 := tI e_h7 t_r1
      refine lv_aload_n C.x C.b dX4_losses_15 rfl (lv_at hl 1 rfl) ?_
      refine lv_iload_n C.x C.b dX4_losses_16 rfl (lv_at hl 2 rfl) ?_
      obtain ⟨q8, h_q8, hf⟩ := bd_e hf
      refine r_callV (As := [.int x2]) (rest := []) C hR hS t_r1 rfl mk_X0_isOn cl_X4_41 (k_X0_isOn t_r1 h_q8) ⟨⟨Nat.le_of_ble_eq_true rfl, Nat.le_of_ble_eq_true rfl⟩, ⟨rfl, rfl⟩, Nat.le_of_ble_eq_true rfl, Nat.le_of_ble_eq_true rfl⟩ rfl hl.1 rfl (Nat.le_of_ble_eq_true rfl) dX4_losses_17 (fun H locs hR hS hE1 z_q8 => ?_)
      have z_q8 := z_q8 _ rfl
      refine lv_if_eq (tgt := 47) C.x C.b dX4_losses_20 (by decide) (fun c9 => ?_) (fun c9 => ?_)
      · have hf := it_t hf c9
        exact w_X4_losses_47 C hr hlk hk2 _ _ _ _ _ hf hE hR hS t_r0 t_r1 (lv_sub hl [0, 1, 2] rfl)
      · have hf := it_f hf c9
        refine lv_aload_n C.x C.b dX4_losses_23 rfl (lv_at hl 0 rfl) ?_
        refine lv_aload_n C.x C.b dX4_losses_24 rfl (lv_at hl 1 rfl) ?_
        refine lv_iload_n C.x C.b dX4_losses_25 rfl (lv_at hl 2 rfl) ?_
        obtain ⟨q10, h_q10, hf⟩ := bd_e hf
        refine r_callV (As := [.int x2]) (rest := [.ref (G.2.2 + r0)]) C hR hS t_r1 rfl mk_X0_crossedBy cl_X4_47 (k_X0_crossedBy t_r1 h_q10) ⟨⟨Nat.le_of_ble_eq_true rfl, Nat.le_of_ble_eq_true rfl⟩, ⟨rfl, rfl⟩, Nat.le_of_ble_eq_true rfl, Nat.le_of_ble_eq_true rfl⟩ rfl hl.1 rfl (Nat.le_of_ble_eq_true rfl) dX4_losses_26 (fun H locs hR hS hE1 z_q10 => ?_)
        obtain ⟨q11, h_q11, hf⟩ := bd_e hf
        refine r_callS (As := [.int q10]) (rest := [.ref (G.2.2 + r0)]) C hR hS mk_J6_bitCount_0f7a4 cl_X4_51 (k_J6_bitCount_0f7a4 h_q11) ⟨⟨Nat.le_of_ble_eq_true rfl, Nat.le_of_ble_eq_true rfl⟩, ⟨rfl, rfl⟩, Nat.le_of_ble_eq_true rfl, Nat.le_of_ble_eq_true rfl⟩ rfl hl.1 rfl (Nat.le_of_ble_eq_true rfl) dX4_losses_29 (fun H locs hR hS hE1 z_q11 => ?_)
        refine r_puti C hR hS t_r0 fl_X4_56 fp_X4_4_5 rfl dX4_losses_32 (fun H locs hR hS => ?_)
        obtain ⟨h12, e_h12⟩ : ∃ y, y = upI h7 r0 5 q11 := ⟨_, rfl⟩
        rw [← e_h12] at hR
        have hf := lt_e hf e_h12
        have hE := eI e_h12 hE
        have t_r0 := tI e_h12 t_r0
        have t_r1 := tI e_h12 t_r1
        refine lv_aload_n C.x C.b dX4_losses_35 rfl (lv_at hl 0 rfl) ?_
        obtain ⟨g13, hf⟩ := gd_e hf
        refine r_getr C hR t_r0 fl_X4_18 (by decide) (nz_e g13) dX4_losses_36 (fun tq14 => ?_)
        have tg13 := okA tq14 rfl
        refine lv_iload_n C.x C.b dX4_losses_39 rfl (lv_at hl 2 rfl) ?_
        refine lv_aload_n C.x C.b dX4_losses_40 rfl (lv_at hl 0 rfl) ?_
        refine lv_aload_n C.x C.b dX4_losses_41 rfl (lv_at hl 1 rfl) ?_
        refine lv_iload_n C.x C.b dX4_losses_42 rfl (lv_at hl 2 rfl) ?_
        obtain ⟨q15, h_q15, hf⟩ := bd_e hf
        refine r_callV (As := [.ref (G.2.2 + r1), .int x2]) (rest := [.int x2, .ref (G.2.2 + (hpR h12 r0 2))]) C hR hS t_r0 rfl mk_X4_loss cl_X4_59 (k_X4_loss t_r0 t_r1 h_q15) ⟨⟨Nat.le_of_ble_eq_true rfl, Nat.le_of_ble_eq_true rfl⟩, ⟨rfl, rfl⟩, Nat.le_of_ble_eq_true rfl, Nat.le_of_ble_eq_true rfl⟩ rfl hl.1 rfl (Nat.le_of_ble_eq_true rfl) dX4_losses_43 (fun H locs hR hS hE1 z_q15 => ?_)
        have hE := hE.tr hE1
        have tg13 := hE1.k tg13 (by decide)
        have t_r0 := hE1.at t_r0 (by decide)
        have t_r1 := hE1.at t_r1 (by decide)
        obtain ⟨g16, hf⟩ := gd_e hf
        refine r_iast C hR hS tg13 g16 dX4_losses_46 (fun H locs hR hS => ?_)
        obtain ⟨h17, e_h17⟩ : ∃ y, y = upI q15.2 (hpR h12 r0 2) (ix x2) q15.1 := ⟨_, rfl⟩
        rw [← e_h17] at hR
        have hf := lt_e hf e_h17
        have hE := eI e_h17 hE
        have t_r0 := tI e_h17 t_r0
        have t_r1 := tI e_h17 t_r1
        exact w_X4_losses_47 C hr hlk hk2 _ _ _ _ _ hf hE hR hS t_r0 t_r1 (lv_sub hl [0, 1, 2] rfl)
set_option maxRecDepth 100000 in
set_option maxHeartbeats 4000000 in
theorem k_X4_losses {G : Gt} {l : Launch}  {h : Hp} {r0 : Nat} {r1 : Nat} {out : (Nat × Hp)} (t_r0 : hpT h r0 = (1, 4)) (t_r1 : hpT h r1 = (1, 0))  (hf : f_X4_losses  h r0 r1 = some out) : Mt G l yX4_losses cX4_losses 3 (some (.array .int)) rm_X4_losses [.ref (G.2.2 + r0), .ref (G.2.2 + r1)] h (some (.ref (G.2.2 + out.1))) out.2 2 0 0 := by
  refine r_met (by decide +kernel) (Nat.le_of_ble_eq_true rfl) ?_
  intro p e s m args below meth c ls C hr hlk hnm hR hS hl
  have hE : Ext h h := Ext.rf
  have hl : lv_has ls 3 [(0, .ref (G.2.2 + r0)), (1, .ref (G.2.2 + r1))] := hl
  rw [f_X4_losses] at hf
  refine lv_iconst (v := (0 : Int32)) C.x C.b dX4_losses_0 (by decide) ?_
  refine lv_istore_n (lv' := [(2, .int (0 : Int32)), (0, .ref (G.2.2 + r0)), (1, .ref (G.2.2 + r1))]) C.x C.b dX4_losses_1 rfl hl (by decide) rfl (fun ls hl => ?_)
  exact w_X4_losses_2 C hr hlk FU _ _ _ _ _ hf hE hR hS t_r0 t_r1 (lv_sub hl [1, 2, 0] rfl)

def rm_X0_slide : Room := { frames := 0, cells := 0, slots := 0, locals := 0 }
def P_X0_slide_74 (G : Gt) (l : Launch) (p : Program) (e : Env) (s : State) (m : MethodId) (args : Array Value) (below : List Frame) (meth : Method) (c : Code) (h0 : Hp) (out : Hp) (r0 : Nat) (x1 : Int32) (k : Hp → Nat → Int32 → Int32 → Option Hp) : Prop := ∀ (H : Heap) (locs : List Loc) (ls : Array Slot) (h : Hp) (s0 : Nat) (s1 : Int32) (s2 : Int32), k h s0 s1 s2 = some out → Ext h0 h → Rel G h H → va_S (AA G.2.2) s.heap H locs → hpT h r0 = (1, 0) → (hpT h s0).1 = 2 → lv_has ls 3 [(0, .ref (G.2.2 + r0)), (1, .int x1)] → W p l e rm_X0_slide s m args below meth c H locs 0 0 (MQ below (Qm G h0 out (none) 0) args s 0 0 (AA G.2.2)) (F0 m 74 ls [.int s2, .int s1, .ref (G.2.2 + s0)])
def P_X0_slide_52 (G : Gt) (l : Launch) (p : Program) (e : Env) (s : State) (m : MethodId) (args : Array Value) (below : List Frame) (meth : Method) (c : Code) (h0 : Hp) (out : Hp) (r0 : Nat) (x1 : Int32) (k : Hp → Int32 → Option Hp) : Prop := ∀ (H : Heap) (locs : List Loc) (ls : Array Slot) (h : Hp) (s0 : Int32), k h s0 = some out → Ext h0 h → Rel G h H → va_S (AA G.2.2) s.heap H locs → hpT h r0 = (1, 0) → narrow .boolean (.int s0) = .int s0 → lv_has ls 3 [(0, .ref (G.2.2 + r0)), (1, .int x1)] → W p l e rm_X0_slide s m args below meth c H locs 0 0 (MQ below (Qm G h0 out (none) 0) args s 0 0 (AA G.2.2)) (F0 m 52 ls [.int s0])
set_option maxRecDepth 100000 in
set_option maxHeartbeats 4000000 in
theorem w_X0_slide_74 {G : Gt} {l : Launch} {p : Program} {e : Env} {s : State} {m : MethodId} {args : Array Value} {below : List Frame} {meth : Method} {c : Code}  {h0 : Hp} {out : Hp} {r0 : Nat} {x1 : Int32}  (C : Cx G p m c cX0_slide 3 s args RX0) (hr : meth.sig.returnType = none) (hlk : meth.locks = false)   : P_X0_slide_74 G l p e s m args below meth c h0 out r0 x1 (f_X0_slide_74 r0 x1) := by
  intro H locs ls h s0 s1 s2 hf hE hR hS t_r0 t_s0 hl
  rw [f_X0_slide_74] at hf
  obtain ⟨g25, hf⟩ := gd_e hf
  refine r_iast C hR hS t_s0 g25 dX0_slide_74 (fun H locs hR hS => ?_)
  obtain ⟨h26, e_h26⟩ : ∃ y, y = upI h s0 (ix s1) s2 := ⟨_, rfl⟩
  rw [← e_h26] at hR
  have hf := lt_e hf e_h26
  have hE := eI e_h26 hE
  have t_r0 := tI e_h26 t_r0
  have hf := so_e hf
  subst hf
  exact r_vret C hr hlk hR hE hS dX0_slide_75
set_option maxRecDepth 100000 in
set_option maxHeartbeats 4000000 in
theorem w_X0_slide_52 {G : Gt} {l : Launch} {p : Program} {e : Env} {s : State} {m : MethodId} {args : Array Value} {below : List Frame} {meth : Method} {c : Code}  {h0 : Hp} {out : Hp} {r0 : Nat} {x1 : Int32}  (C : Cx G p m c cX0_slide 3 s args RX0) (hr : meth.sig.returnType = none) (hlk : meth.locks = false)   : P_X0_slide_52 G l p e s m args below meth c h0 out r0 x1 (f_X0_slide_52 r0 x1) := by
  intro H locs ls h s0 hf hE hR hS t_r0 z_s0 hl
  rw [f_X0_slide_52] at hf
  refine lv_istore_n (lv' := [(2, .int s0), (0, .ref (G.2.2 + r0)), (1, .int x1)]) C.x C.b dX0_slide_52 rfl hl (by decide) rfl (fun ls hl => ?_)
  refine lv_aload_n C.x C.b dX0_slide_53 rfl (lv_at hl 1 rfl) ?_
  obtain ⟨g20, hf⟩ := gd_e hf
  refine r_getr C hR t_r0 fl_X0_22 (by decide) (nz_e g20) dX0_slide_54 (fun tq21 => ?_)
  have tg20 := okA tq21 rfl
  refine lv_iload_n C.x C.b dX0_slide_57 rfl (lv_at hl 2 rfl) ?_
  refine lv_iload_n C.x C.b dX0_slide_58 rfl (lv_at hl 0 rfl) ?_
  refine lv_if_eq (tgt := 73) C.x C.b dX0_slide_59 (by decide) (fun c22 => ?_) (fun c22 => ?_)
  · have hf := it_t hf c22
    refine lv_iconst (v := (0 : Int32)) C.x C.b dX0_slide_73 (by decide) ?_
    exact w_X0_slide_74 C hr hlk _ _ _ _ _ _ _ hf hE hR hS t_r0 tg20 (lv_sub hl [1, 2] rfl)
  · have hf := it_f hf c22
    refine lv_aload_n C.x C.b dX0_slide_62 rfl (lv_at hl 1 rfl) ?_
    refine r_getr C hR t_r0 fl_X0_22 (by decide) (nz_e g20) dX0_slide_63 (fun tq23 => ?_)
    refine lv_iload_n C.x C.b dX0_slide_66 rfl (lv_at hl 2 rfl) ?_
    obtain ⟨g24, hf⟩ := gd_e hf
    refine r_iald C hR tg20 g24 dX0_slide_67 ?_
    refine lv_iconst (v := (1 : Int32)) C.x C.b dX0_slide_68 (by decide) ?_
    refine lv_iadd C.x C.b dX0_slide_69 ?_
    refine lv_goto (tgt := 74) C.x C.b dX0_slide_70 (by decide) ?_
    exact w_X0_slide_74 C hr hlk _ _ _ _ _ _ _ hf hE hR hS t_r0 tg20 (lv_sub hl [1, 2] rfl)
set_option maxRecDepth 100000 in
set_option maxHeartbeats 4000000 in
theorem k_X0_slide {G : Gt} {l : Launch}  {h : Hp} {r0 : Nat} {x1 : Int32} {out : Hp} (t_r0 : hpT h r0 = (1, 0))  (hf : f_X0_slide  h r0 x1 = some out) : Mt G l yX0_slide cX0_slide 3 (none) rm_X0_slide [.ref (G.2.2 + r0), .int x1] h (none) out 0 0 0 := by
  refine r_met (by decide +kernel) (Nat.le_of_ble_eq_true rfl) ?_
  intro p e s m args below meth c ls C hr hlk hnm hR hS hl
  have hE : Ext h h := Ext.rf
  have hl : lv_has ls 3 [(0, .ref (G.2.2 + r0)), (1, .int x1)] := hl
  rw [f_X0_slide] at hf
  refine lv_aload_n C.x C.b dX0_slide_0 rfl (lv_at hl 0 rfl) ?_
  obtain ⟨g1, hf⟩ := gd_e hf
  refine r_getr C hR t_r0 fl_X0_34 (by decide) (nz_e g1) dX0_slide_1 (fun tq2 => ?_)
  have tg1 := okA tq2 rfl
  refine lv_iload_n C.x C.b dX0_slide_4 rfl (lv_at hl 1 rfl) ?_
  obtain ⟨g3, hf⟩ := gd_e hf
  refine r_iald C hR tg1 g3 dX0_slide_5 ?_
  refine lv_if_le (tgt := 75) C.x C.b dX0_slide_6 (by decide) (fun c4 => ?_) (fun c4 => ?_)
  · have hf := it_t hf c4
    have hf := so_e hf
    subst hf
    exact r_vret C hr hlk hR hE hS dX0_slide_75
  · have hf := it_f hf c4
    refine lv_aload_n C.x C.b dX0_slide_9 rfl (lv_at hl 0 rfl) ?_
    obtain ⟨g5, hf⟩ := gd_e hf
    refine r_getr C hR t_r0 fl_X0_37 (by decide) (nz_e g5) dX0_slide_10 (fun tq6 => ?_)
    have tg5 := okA tq6 rfl
    refine lv_iload_n C.x C.b dX0_slide_13 rfl (lv_at hl 1 rfl) ?_
    obtain ⟨g7, hf⟩ := gd_e hf
    refine r_iald C hR tg5 g7 dX0_slide_14 ?_
    refine lv_aload_n C.x C.b dX0_slide_15 rfl (lv_at hl 0 rfl) ?_
    refine r_getr C hR t_r0 fl_X0_34 (by decide) (nz_e g1) dX0_slide_16 (fun tq8 => ?_)
    refine lv_iload_n C.x C.b dX0_slide_19 rfl (lv_at hl 1 rfl) ?_
    obtain ⟨g9, hf⟩ := gd_e hf
    refine r_iald C hR tg1 g9 dX0_slide_20 ?_
    obtain ⟨g10, hf⟩ := gd_e hf
    refine lv_irem C.x C.b dX0_slide_21 (nz32_e g10) ?_
    refine lv_topi (fun v11 e_v11 => ?_)
    have hf := lt_e hf e_v11
    refine lv_if_ne (tgt := 75) C.x C.b dX0_slide_22 (by decide) (fun c12 => ?_) (fun c12 => ?_)
    · have hf := it_f hf c12
      have hf := so_e hf
      subst hf
      exact r_vret C hr hlk hR hE hS dX0_slide_75
    · have hf := it_t hf c12
      refine lv_aload_n C.x C.b dX0_slide_25 rfl (lv_at hl 0 rfl) ?_
      obtain ⟨g13, hf⟩ := gd_e hf
      refine r_getr C hR t_r0 fl_X0_22 (by decide) (nz_e g13) dX0_slide_26 (fun tq14 => ?_)
      have tg13 := okA tq14 rfl
      refine lv_iload_n C.x C.b dX0_slide_29 rfl (lv_at hl 1 rfl) ?_
      obtain ⟨g15, hf⟩ := gd_e hf
      refine r_iald C hR tg13 g15 dX0_slide_30 ?_
      refine lv_iconst (v := (1 : Int32)) C.x C.b dX0_slide_31 (by decide) ?_
      refine lv_iadd C.x C.b dX0_slide_32 ?_
      refine lv_aload_n C.x C.b dX0_slide_33 rfl (lv_at hl 0 rfl) ?_
      obtain ⟨g16, hf⟩ := gd_e hf
      refine r_getr C hR t_r0 fl_X0_28 (by decide) (nz_e g16) dX0_slide_34 (fun tq17 => ?_)
      have tg16 := okA tq17 rfl
      refine lv_iload_n C.x C.b dX0_slide_37 rfl (lv_at hl 1 rfl) ?_
      obtain ⟨g18, hf⟩ := gd_e hf
      refine r_iald C hR tg16 g18 dX0_slide_38 ?_
      refine lv_iadd C.x C.b dX0_slide_39 ?_
      refine lv_aload_n C.x C.b dX0_slide_40 rfl (lv_at hl 0 rfl) ?_
      refine r_geti C hR t_r0 fl_X0_15 rfl dX0_slide_41 ?_
      refine lv_icmp_gt (tgt := 51) C.x C.b dX0_slide_44 (by decide) (fun c19 => ?_) (fun c19 => ?_)
      · simp only [if_pos c19] at hf
        refine lv_iconst (v := (0 : Int32)) C.x C.b dX0_slide_51 (by decide) ?_
        exact w_X0_slide_52 C hr hlk _ _ _ _ _ hf hE hR hS t_r0 z_0 (lv_sub hl [0, 1] rfl)
      · simp only [if_neg c19] at hf
        refine lv_iconst (v := (1 : Int32)) C.x C.b dX0_slide_47 (by decide) ?_
        refine lv_goto (tgt := 52) C.x C.b dX0_slide_48 (by decide) ?_
        exact w_X0_slide_52 C hr hlk _ _ _ _ _ hf hE hR hS t_r0 z_1 (lv_sub hl [0, 1] rfl)

def rm_X0_goBy : Room := { frames := 4, cells := 0, slots := 0, locals := 82 }
def P_X0_goBy_93 (G : Gt) (l : Launch) (p : Program) (e : Env) (s : State) (m : MethodId) (args : Array Value) (below : List Frame) (meth : Method) (c : Code) (h0 : Hp) (out : (Int32 × Hp)) (r0 : Nat) (r1 : Nat) (k : Hp → Nat → Int32 → Int32 → Option (Int32 × Hp)) : Prop := ∀ (H : Heap) (locs : List Loc) (ls : Array Slot) (h : Hp) (r2 : Nat) (x3 : Int32) (x4 : Int32), k h r2 x3 x4 = some out → Ext h0 h → Rel G h H → va_S (AA G.2.2) s.heap H locs → hpT h r0 = (1, 0) → hpT h r1 = (1, 4) → (hpT h r2).1 = 2 → lv_has ls 5 [(0, .ref (G.2.2 + r0)), (1, .ref (G.2.2 + r1)), (2, .ref (G.2.2 + r2)), (3, .int x3), (4, .int x4)] → W p l e rm_X0_goBy s m args below meth c H locs 0 0 (MQ below (Qm G h0 out.2 (some (.int out.1)) 0) args s 0 0 (AA G.2.2)) (F0 m 93 ls [])
def P_X0_goBy_66 (G : Gt) (l : Launch) (p : Program) (e : Env) (s : State) (m : MethodId) (args : Array Value) (below : List Frame) (meth : Method) (c : Code) (h0 : Hp) (out : (Int32 × Hp)) (r0 : Nat) (r1 : Nat) (k : Hp → Nat → Int32 → Int32 → Option (Int32 × Hp)) : Prop := ∀ (H : Heap) (locs : List Loc) (ls : Array Slot) (h : Hp) (r2 : Nat) (x3 : Int32) (x4 : Int32), k h r2 x3 x4 = some out → Ext h0 h → Rel G h H → va_S (AA G.2.2) s.heap H locs → hpT h r0 = (1, 0) → hpT h r1 = (1, 4) → (hpT h r2).1 = 2 → lv_has ls 5 [(0, .ref (G.2.2 + r0)), (1, .ref (G.2.2 + r1)), (2, .ref (G.2.2 + r2)), (3, .int x3), (4, .int x4)] → W p l e rm_X0_goBy s m args below meth c H locs 0 0 (MQ below (Qm G h0 out.2 (some (.int out.1)) 0) args s 0 0 (AA G.2.2)) (F0 m 66 ls [])
def P_X0_goBy_11 (G : Gt) (l : Launch) (p : Program) (e : Env) (s : State) (m : MethodId) (args : Array Value) (below : List Frame) (meth : Method) (c : Code) (h0 : Hp) (out : (Int32 × Hp)) (r0 : Nat) (r1 : Nat) (k : Hp → Nat → Int32 → Int32 → Option (Int32 × Hp)) : Prop := ∀ (H : Heap) (locs : List Loc) (ls : Array Slot) (h : Hp) (r2 : Nat) (x3 : Int32) (x4 : Int32), k h r2 x3 x4 = some out → Ext h0 h → Rel G h H → va_S (AA G.2.2) s.heap H locs → hpT h r0 = (1, 0) → hpT h r1 = (1, 4) → (hpT h r2).1 = 2 → lv_has ls 5 [(0, .ref (G.2.2 + r0)), (1, .ref (G.2.2 + r1)), (2, .ref (G.2.2 + r2)), (3, .int x3), (4, .int x4)] → W p l e rm_X0_goBy s m args below meth c H locs 0 0 (MQ below (Qm G h0 out.2 (some (.int out.1)) 0) args s 0 0 (AA G.2.2)) (F0 m 11 ls [])
set_option maxRecDepth 100000 in
set_option maxHeartbeats 4000000 in
theorem w_X0_goBy_93 {G : Gt} {l : Launch} {p : Program} {e : Env} {s : State} {m : MethodId} {args : Array Value} {below : List Frame} {meth : Method} {c : Code}  {h0 : Hp} {out : (Int32 × Hp)} {r0 : Nat} {r1 : Nat} {k11 : Hp → Nat → Int32 → Int32 → Option (Int32 × Hp)} (C : Cx G p m c cX0_goBy 5 s args RX0) (hr : meth.sig.returnType = some .int) (hlk : meth.locks = false)  (hk11 : P_X0_goBy_11 G l p e s m args below meth c h0 out r0 r1 k11) : P_X0_goBy_93 G l p e s m args below meth c h0 out r0 r1 (f_X0_goBy_93 r0 r1 k11) := by
  intro H locs ls h r2 x3 x4 hf hE hR hS t_r0 t_r1 t_r2 hl
  rw [f_X0_goBy_93] at hf
  obtain ⟨v30, e_v30⟩ : ∃ y : Int32, y = x4 + (1 : Int32) := ⟨_, rfl⟩
  have hf := lt_e hf e_v30
  refine lv_iinc (v := v30) (lv' := [(4, .int v30), (0, .ref (G.2.2 + r0)), (1, .ref (G.2.2 + r1)), (2, .ref (G.2.2 + r2)), (3, .int x3)]) C.x C.b dX0_goBy_93 hl (k := 4) rfl (by rw [e_v30]; rfl) (by decide) rfl (fun ls hl => ?_)
  refine lv_goto (tgt := 11) C.x C.b dX0_goBy_96 (by decide) ?_
  exact hk11 _ _ _ _ _ _ _ hf hE hR hS t_r0 t_r1 t_r2 (lv_sub hl [1, 2, 3, 4, 0] rfl)
set_option maxRecDepth 100000 in
set_option maxHeartbeats 4000000 in
theorem w_X0_goBy_66 {G : Gt} {l : Launch} {p : Program} {e : Env} {s : State} {m : MethodId} {args : Array Value} {below : List Frame} {meth : Method} {c : Code}  {h0 : Hp} {out : (Int32 × Hp)} {r0 : Nat} {r1 : Nat} {k11 : Hp → Nat → Int32 → Int32 → Option (Int32 × Hp)} (C : Cx G p m c cX0_goBy 5 s args RX0) (hr : meth.sig.returnType = some .int) (hlk : meth.locks = false)  (hk11 : P_X0_goBy_11 G l p e s m args below meth c h0 out r0 r1 k11) : P_X0_goBy_66 G l p e s m args below meth c h0 out r0 r1 (f_X0_goBy_66 r0 r1 k11) := by
  intro H locs ls h r2 x3 x4 hf hE hR hS t_r0 t_r1 t_r2 hl
  rw [f_X0_goBy_66] at hf
  refine lv_aload_n C.x C.b dX0_goBy_66 rfl (lv_at hl 0 rfl) ?_
  obtain ⟨g22, hf⟩ := gd_e hf
  refine r_getr C hR t_r0 fl_X0_37 (by decide) (nz_e g22) dX0_goBy_67 (fun tq23 => ?_)
  have tg22 := okA tq23 rfl
  refine lv_iload C.x C.b dX0_goBy_70 (lv_at hl 4 rfl) ?_
  refine lv_bipush (v := (99 : Int32)) C.x C.b dX0_goBy_72 (by decide) ?_
  refine lv_aload_n C.x C.b dX0_goBy_74 rfl (lv_at hl 0 rfl) ?_
  refine r_getr C hR t_r0 fl_X0_37 (by decide) (nz_e g22) dX0_goBy_75 (fun tq24 => ?_)
  refine lv_iload C.x C.b dX0_goBy_78 (lv_at hl 4 rfl) ?_
  obtain ⟨g25, hf⟩ := gd_e hf
  refine r_iald C hR tg22 g25 dX0_goBy_80 ?_
  refine lv_iconst (v := (1 : Int32)) C.x C.b dX0_goBy_81 (by decide) ?_
  refine lv_iadd C.x C.b dX0_goBy_82 ?_
  refine va_mmin C.x C.b (C.ml.trans hl.1.symm) C.ow (C.ts _ lk_X0_120) (C.ts _ lk_Mmin_s) (C.ts _ lk_Math) (C.ts _ lk_Mmin_c) (Nat.le_of_ble_eq_true rfl) (Nat.le_of_ble_eq_true rfl) (Nat.le_of_ble_eq_true rfl) (Nat.le_of_ble_eq_true rfl) dX0_goBy_83 ?_
  refine lv_topi (fun v26 e_v26 => ?_)
  have hf := lt_e hf e_v26
  obtain ⟨g27, hf⟩ := gd_e hf
  refine r_iast C hR hS tg22 g27 dX0_goBy_86 (fun H locs hR hS => ?_)
  obtain ⟨h28, e_h28⟩ : ∃ y, y = upI h (hpR h r0 11) (ix x4) v26 := ⟨_, rfl⟩
  rw [← e_h28] at hR
  have hf := lt_e hf e_h28
  have hE := eI e_h28 hE
  have t_r0 := tI e_h28 t_r0
  have t_r1 := tI e_h28 t_r1
  have t_r2 := tIk e_h28 t_r2
  refine lv_aload_n C.x C.b dX0_goBy_87 rfl (lv_at hl 0 rfl) ?_
  refine lv_iload C.x C.b dX0_goBy_88 (lv_at hl 4 rfl) ?_
  obtain ⟨q29, h_q29, hf⟩ := bd_e hf
  refine r_callV (As := [.int x4]) (rest := []) C hR hS t_r0 rfl mk_X0_slide cl_X0_148 (k_X0_slide t_r0 h_q29) ⟨⟨Nat.le_of_ble_eq_true rfl, Nat.le_of_ble_eq_true rfl⟩, ⟨rfl, rfl⟩, Nat.le_of_ble_eq_true rfl, Nat.le_of_ble_eq_true rfl⟩ rfl hl.1 rfl (Nat.le_of_ble_eq_true rfl) dX0_goBy_90 (fun H locs hR hS hE1 z_q29 => ?_)
  have hE := hE.tr hE1
  have t_r0 := hE1.at t_r0 (by decide)
  have t_r1 := hE1.at t_r1 (by decide)
  have t_r2 := hE1.k t_r2 (by decide)
  exact w_X0_goBy_93 C hr hlk hk11 _ _ _ _ _ _ _ hf hE hR hS t_r0 t_r1 t_r2 (lv_sub hl [0, 1, 2, 3, 4] rfl)
set_option maxRecDepth 100000 in
set_option maxHeartbeats 4000000 in
theorem w_X0_goBy_11 {G : Gt} {l : Launch} {p : Program} {e : Env} {s : State} {m : MethodId} {args : Array Value} {below : List Frame} {meth : Method} {c : Code}  {h0 : Hp} {out : (Int32 × Hp)} {r0 : Nat} {r1 : Nat}  (C : Cx G p m c cX0_goBy 5 s args RX0) (hr : meth.sig.returnType = some .int) (hlk : meth.locks = false)   (n : Nat) : P_X0_goBy_11 G l p e s m args below meth c h0 out r0 r1 (f_X0_goBy_11 r0 r1 n) := by
  induction n with
  | zero => intro H locs ls h r2 x3 x4 hf hE hR hS t_r0 t_r1 t_r2 hl; cases hf
  | succ n hk11 =>
    intro H locs ls h r2 x3 x4 hf hE hR hS t_r0 t_r1 t_r2 hl
    rw [f_X0_goBy_11] at hf
    obtain ⟨k11, e_k11⟩ : ∃ y, y = f_X0_goBy_11 r0 r1 n := ⟨_, rfl⟩
    have hf := lt_e hf e_k11
    rw [← e_k11] at hk11
    refine lv_iload C.x C.b dX0_goBy_11 (lv_at hl 4 rfl) ?_
    refine lv_aload_n C.x C.b dX0_goBy_13 rfl (lv_at hl 0 rfl) ?_
    refine r_geti C hR t_r0 fl_X0_40 rfl dX0_goBy_14 ?_
    refine lv_icmp_ge (tgt := 99) C.x C.b dX0_goBy_17 (by decide) (fun c2 => ?_) (fun c2 => ?_)
    · have hf := it_t hf c2
      refine lv_aload_n C.x C.b dX0_goBy_99 rfl (lv_at hl 0 rfl) ?_
      refine lv_sipush (v := (999 : Int32)) C.x C.b dX0_goBy_100 (by decide) ?_
      refine lv_aload_n C.x C.b dX0_goBy_103 rfl (lv_at hl 0 rfl) ?_
      refine r_geti C hR t_r0 fl_X0_46 rfl dX0_goBy_104 ?_
      refine lv_iload_n C.x C.b dX0_goBy_107 rfl (lv_at hl 3 rfl) ?_
      refine lv_iadd C.x C.b dX0_goBy_108 ?_
      refine va_mmin C.x C.b (C.ml.trans hl.1.symm) C.ow (C.ts _ lk_X0_120) (C.ts _ lk_Mmin_s) (C.ts _ lk_Math) (C.ts _ lk_Mmin_c) (Nat.le_of_ble_eq_true rfl) (Nat.le_of_ble_eq_true rfl) (Nat.le_of_ble_eq_true rfl) (Nat.le_of_ble_eq_true rfl) dX0_goBy_109 ?_
      refine lv_topi (fun v3 e_v3 => ?_)
      have hf := lt_e hf e_v3
      refine r_puti C hR hS t_r0 fl_X0_46 fp_X0_0_4 rfl dX0_goBy_112 (fun H locs hR hS => ?_)
      obtain ⟨h4, e_h4⟩ : ∃ y, y = upI h r0 4 v3 := ⟨_, rfl⟩
      rw [← e_h4] at hR
      have hf := lt_e hf e_h4
      have hE := eI e_h4 hE
      have t_r0 := tI e_h4 t_r0
      have t_r1 := tI e_h4 t_r1
      have t_r2 := tIk e_h4 t_r2
      refine lv_aload_n C.x C.b dX0_goBy_115 rfl (lv_at hl 0 rfl) ?_
      refine lv_dup C.x C.b dX0_goBy_116 rfl ?_
      refine r_geti C hR t_r0 fl_X0_43 rfl dX0_goBy_117 ?_
      refine lv_iconst (v := (1 : Int32)) C.x C.b dX0_goBy_120 (by decide) ?_
      refine lv_iadd C.x C.b dX0_goBy_121 ?_
      refine r_puti C hR hS t_r0 fl_X0_43 fp_X0_0_3 rfl dX0_goBy_122 (fun H locs hR hS => ?_)
      obtain ⟨h5, e_h5⟩ : ∃ y, y = upI h4 r0 3 ((hpI h4 r0 3) + (1 : Int32)) := ⟨_, rfl⟩
      rw [← e_h5] at hR
      have hf := lt_e hf e_h5
      have hE := eI e_h5 hE
      have t_r0 := tI e_h5 t_r0
      have t_r1 := tI e_h5 t_r1
      have t_r2 := tIk e_h5 t_r2
      refine lv_iload_n C.x C.b dX0_goBy_125 rfl (lv_at hl 3 rfl) ?_
      have hf := so_e hf
      subst hf
      exact r_iret C hr hlk hR hE hS dX0_goBy_126
    · have hf := it_f hf c2
      refine lv_aload_n C.x C.b dX0_goBy_20 rfl (lv_at hl 0 rfl) ?_
      obtain ⟨g6, hf⟩ := gd_e hf
      refine r_getr C hR t_r0 fl_X0_31 (by decide) (nz_e g6) dX0_goBy_21 (fun tq7 => ?_)
      have tg6 := okA tq7 rfl
      refine lv_iload C.x C.b dX0_goBy_24 (lv_at hl 4 rfl) ?_
      obtain ⟨g8, hf⟩ := gd_e hf
      refine r_iald C hR tg6 g8 dX0_goBy_26 ?_
      refine lv_if_le (tgt := 93) C.x C.b dX0_goBy_27 (by decide) (fun c9 => ?_) (fun c9 => ?_)
      · have hf := it_t hf c9
        exact w_X0_goBy_93 C hr hlk hk11 _ _ _ _ _ _ _ hf hE hR hS t_r0 t_r1 t_r2 (lv_sub hl [0, 1, 2, 3, 4] rfl)
      · have hf := it_f hf c9
        refine lv_aload_n C.x C.b dX0_goBy_30 rfl (lv_at hl 0 rfl) ?_
        refine r_getr C hR t_r0 fl_X0_31 (by decide) (nz_e g6) dX0_goBy_31 (fun tq10 => ?_)
        refine lv_iload C.x C.b dX0_goBy_34 (lv_at hl 4 rfl) ?_
        refine lv_iconst (v := (0 : Int32)) C.x C.b dX0_goBy_36 (by decide) ?_
        refine lv_aload_n C.x C.b dX0_goBy_37 rfl (lv_at hl 0 rfl) ?_
        refine r_getr C hR t_r0 fl_X0_31 (by decide) (nz_e g6) dX0_goBy_38 (fun tq11 => ?_)
        refine lv_iload C.x C.b dX0_goBy_41 (lv_at hl 4 rfl) ?_
        obtain ⟨g12, hf⟩ := gd_e hf
        refine r_iald C hR tg6 g12 dX0_goBy_43 ?_
        refine lv_aload_n C.x C.b dX0_goBy_44 rfl (lv_at hl 2 rfl) ?_
        refine lv_iload C.x C.b dX0_goBy_45 (lv_at hl 4 rfl) ?_
        obtain ⟨g13, hf⟩ := gd_e hf
        refine r_iald C hR t_r2 g13 dX0_goBy_47 ?_
        refine lv_isub C.x C.b dX0_goBy_48 ?_
        refine va_mmax C.x C.b (C.ml.trans hl.1.symm) C.ow (C.ts _ lk_X0_125) (C.ts _ lk_Mmax_s) (C.ts _ lk_Math) (C.ts _ lk_Mmax_c) (Nat.le_of_ble_eq_true rfl) (Nat.le_of_ble_eq_true rfl) (Nat.le_of_ble_eq_true rfl) (Nat.le_of_ble_eq_true rfl) dX0_goBy_49 ?_
        refine lv_topi (fun v14 e_v14 => ?_)
        have hf := lt_e hf e_v14
        obtain ⟨g15, hf⟩ := gd_e hf
        refine r_iast C hR hS tg6 g15 dX0_goBy_52 (fun H locs hR hS => ?_)
        obtain ⟨h16, e_h16⟩ : ∃ y, y = upI h (hpR h r0 9) (ix x4) v14 := ⟨_, rfl⟩
        rw [← e_h16] at hR
        have hf := lt_e hf e_h16
        have hE := eI e_h16 hE
        have t_r0 := tI e_h16 t_r0
        have t_r1 := tI e_h16 t_r1
        have t_r2 := tIk e_h16 t_r2
        refine lv_aload_n C.x C.b dX0_goBy_53 rfl (lv_at hl 0 rfl) ?_
        obtain ⟨g17, hf⟩ := gd_e hf
        refine r_getr C hR t_r0 fl_X0_31 (by decide) (nz_e g17) dX0_goBy_54 (fun tq18 => ?_)
        have tg17 := okA tq18 rfl
        refine lv_iload C.x C.b dX0_goBy_57 (lv_at hl 4 rfl) ?_
        obtain ⟨g19, hf⟩ := gd_e hf
        refine r_iald C hR tg17 g19 dX0_goBy_59 ?_
        refine lv_if_ne (tgt := 66) C.x C.b dX0_goBy_60 (by decide) (fun c20 => ?_) (fun c20 => ?_)
        · have hf := it_f hf c20
          exact w_X0_goBy_66 C hr hlk hk11 _ _ _ _ _ _ _ hf hE hR hS t_r0 t_r1 t_r2 (lv_sub hl [0, 1, 2, 3, 4] rfl)
        · have hf := it_t hf c20
          obtain ⟨v21, e_v21⟩ : ∃ y : Int32, y = x3 + (1 : Int32) := ⟨_, rfl⟩
          have hf := lt_e hf e_v21
          refine lv_iinc (v := v21) (lv' := [(3, .int v21), (0, .ref (G.2.2 + r0)), (1, .ref (G.2.2 + r1)), (2, .ref (G.2.2 + r2)), (4, .int x4)]) C.x C.b dX0_goBy_63 hl (k := 3) rfl (by rw [e_v21]; rfl) (by decide) rfl (fun ls hl => ?_)
          exact w_X0_goBy_66 C hr hlk hk11 _ _ _ _ _ _ _ hf hE hR hS t_r0 t_r1 t_r2 (lv_sub hl [1, 2, 3, 0, 4] rfl)
set_option maxRecDepth 100000 in
set_option maxHeartbeats 4000000 in
theorem k_X0_goBy {G : Gt} {l : Launch}  {h : Hp} {r0 : Nat} {r1 : Nat} {out : (Int32 × Hp)} (t_r0 : hpT h r0 = (1, 0)) (t_r1 : hpT h r1 = (1, 4))  (hf : f_X0_goBy  h r0 r1 = some out) : Mt G l yX0_goBy cX0_goBy 5 (some .int) rm_X0_goBy [.ref (G.2.2 + r0), .ref (G.2.2 + r1)] h (some (.int out.1)) out.2 0 0 0 := by
  refine r_met (by decide +kernel) (Nat.le_of_ble_eq_true rfl) ?_
  intro p e s m args below meth c ls C hr hlk hnm hR hS hl
  have hE : Ext h h := Ext.rf
  have hl : lv_has ls 5 [(0, .ref (G.2.2 + r0)), (1, .ref (G.2.2 + r1))] := hl
  rw [f_X0_goBy] at hf
  refine lv_aload_n C.x C.b dX0_goBy_0 rfl (lv_at hl 1 rfl) ?_
  refine lv_aload_n C.x C.b dX0_goBy_1 rfl (lv_at hl 0 rfl) ?_
  obtain ⟨q1, h_q1, hf⟩ := bd_e hf
  refine r_callV (As := [.ref (G.2.2 + r0)]) (rest := []) C hR hS t_r1 rfl mk_X4_losses cl_X0_142 (k_X4_losses t_r1 t_r0 h_q1) ⟨⟨Nat.le_of_ble_eq_true rfl, Nat.le_of_ble_eq_true rfl⟩, ⟨rfl, rfl⟩, Nat.le_of_ble_eq_true rfl, Nat.le_of_ble_eq_true rfl⟩ rfl hl.1 rfl (Nat.le_of_ble_eq_true rfl) dX0_goBy_2 (fun H locs hR hS hE1 z_q1 => ?_)
  have hE := hE.tr hE1
  have t_r0 := hE1.at t_r0 (by decide)
  have t_r1 := hE1.at t_r1 (by decide)
  have t_q1 := z_q1 _ rfl
  refine lv_astore_n (lv' := [(2, .ref (G.2.2 + q1.1)), (0, .ref (G.2.2 + r0)), (1, .ref (G.2.2 + r1))]) C.x C.b dX0_goBy_5 rfl hl (by decide) rfl (fun ls hl => ?_)
  refine lv_iconst (v := (0 : Int32)) C.x C.b dX0_goBy_6 (by decide) ?_
  refine lv_istore_n (lv' := [(3, .int (0 : Int32)), (2, .ref (G.2.2 + q1.1)), (0, .ref (G.2.2 + r0)), (1, .ref (G.2.2 + r1))]) C.x C.b dX0_goBy_7 rfl hl (by decide) rfl (fun ls hl => ?_)
  refine lv_iconst (v := (0 : Int32)) C.x C.b dX0_goBy_8 (by decide) ?_
  refine lv_istore (lv' := [(4, .int (0 : Int32)), (3, .int (0 : Int32)), (2, .ref (G.2.2 + q1.1)), (0, .ref (G.2.2 + r0)), (1, .ref (G.2.2 + r1))]) C.x C.b dX0_goBy_9 hl (by decide) rfl (fun ls hl => ?_)
  exact w_X0_goBy_11 C hr hlk FU _ _ _ _ _ _ _ hf hE hR hS t_r0 t_r1 t_q1 (lv_sub hl [3, 4, 2, 1, 0] rfl)

def rm_X0_goByTimes : Room := { frames := 5, cells := 0, slots := 0, locals := 106 }
def P_X0_goByTimes_5 (G : Gt) (l : Launch) (p : Program) (e : Env) (s : State) (m : MethodId) (args : Array Value) (below : List Frame) (meth : Method) (c : Code) (h0 : Hp) (out : (Int32 × Hp)) (r0 : Nat) (r1 : Nat) (x2 : Int32) (k : Hp → Int32 → Int32 → Option (Int32 × Hp)) : Prop := ∀ (H : Heap) (locs : List Loc) (ls : Array Slot) (h : Hp) (x3 : Int32) (x4 : Int32), k h x3 x4 = some out → Ext h0 h → Rel G h H → va_S (AA G.2.2) s.heap H locs → hpT h r0 = (1, 0) → hpT h r1 = (1, 4) → lv_has ls 5 [(0, .ref (G.2.2 + r0)), (1, .ref (G.2.2 + r1)), (2, .int x2), (3, .int x3), (4, .int x4)] → W p l e rm_X0_goByTimes s m args below meth c H locs 0 0 (MQ below (Qm G h0 out.2 (some (.int out.1)) 0) args s 0 0 (AA G.2.2)) (F0 m 5 ls [])
set_option maxRecDepth 100000 in
set_option maxHeartbeats 4000000 in
theorem w_X0_goByTimes_5 {G : Gt} {l : Launch} {p : Program} {e : Env} {s : State} {m : MethodId} {args : Array Value} {below : List Frame} {meth : Method} {c : Code}  {h0 : Hp} {out : (Int32 × Hp)} {r0 : Nat} {r1 : Nat} {x2 : Int32}  (C : Cx G p m c cX0_goByTimes 5 s args RX0) (hr : meth.sig.returnType = some .int) (hlk : meth.locks = false)   (n : Nat) : P_X0_goByTimes_5 G l p e s m args below meth c h0 out r0 r1 x2 (f_X0_goByTimes_5 r0 r1 x2 n) := by
  induction n with
  | zero => intro H locs ls h x3 x4 hf hE hR hS t_r0 t_r1 hl; cases hf
  | succ n hk5 =>
    intro H locs ls h x3 x4 hf hE hR hS t_r0 t_r1 hl
    rw [f_X0_goByTimes_5] at hf
    obtain ⟨k5, e_k5⟩ : ∃ y, y = f_X0_goByTimes_5 r0 r1 x2 n := ⟨_, rfl⟩
    have hf := lt_e hf e_k5
    rw [← e_k5] at hk5
    refine lv_iload C.x C.b dX0_goByTimes_5 (lv_at hl 4 rfl) ?_
    refine lv_iload_n C.x C.b dX0_goByTimes_7 rfl (lv_at hl 2 rfl) ?_
    refine lv_icmp_ge (tgt := 25) C.x C.b dX0_goByTimes_8 (by decide) (fun c1 => ?_) (fun c1 => ?_)
    · have hf := it_t hf c1
      refine lv_iload_n C.x C.b dX0_goByTimes_25 rfl (lv_at hl 3 rfl) ?_
      have hf := so_e hf
      subst hf
      exact r_iret C hr hlk hR hE hS dX0_goByTimes_26
    · have hf := it_f hf c1
      refine lv_iload_n C.x C.b dX0_goByTimes_11 rfl (lv_at hl 3 rfl) ?_
      refine lv_aload_n C.x C.b dX0_goByTimes_12 rfl (lv_at hl 0 rfl) ?_
      refine lv_aload_n C.x C.b dX0_goByTimes_13 rfl (lv_at hl 1 rfl) ?_
      obtain ⟨q2, h_q2, hf⟩ := bd_e hf
      refine r_callV (As := [.ref (G.2.2 + r1)]) (rest := [.int x3]) C hR hS t_r0 rfl mk_X0_goBy cl_X0_152 (k_X0_goBy t_r0 t_r1 h_q2) ⟨⟨Nat.le_of_ble_eq_true rfl, Nat.le_of_ble_eq_true rfl⟩, ⟨rfl, rfl⟩, Nat.le_of_ble_eq_true rfl, Nat.le_of_ble_eq_true rfl⟩ rfl hl.1 rfl (Nat.le_of_ble_eq_true rfl) dX0_goByTimes_14 (fun H locs hR hS hE1 z_q2 => ?_)
      have hE := hE.tr hE1
      have t_r0 := hE1.at t_r0 (by decide)
      have t_r1 := hE1.at t_r1 (by decide)
      refine lv_iadd C.x C.b dX0_goByTimes_17 ?_
      refine lv_topi (fun v3 e_v3 => ?_)
      have hf := lt_e hf e_v3
      refine lv_istore_n (lv' := [(3, .int v3), (0, .ref (G.2.2 + r0)), (1, .ref (G.2.2 + r1)), (2, .int x2), (4, .int x4)]) C.x C.b dX0_goByTimes_18 rfl hl (by decide) rfl (fun ls hl => ?_)
      obtain ⟨v4, e_v4⟩ : ∃ y : Int32, y = x4 + (1 : Int32) := ⟨_, rfl⟩
      have hf := lt_e hf e_v4
      refine lv_iinc (v := v4) (lv' := [(4, .int v4), (3, .int v3), (0, .ref (G.2.2 + r0)), (1, .ref (G.2.2 + r1)), (2, .int x2)]) C.x C.b dX0_goByTimes_19 hl (k := 4) rfl (by rw [e_v4]; rfl) (by decide) rfl (fun ls hl => ?_)
      refine lv_goto (tgt := 5) C.x C.b dX0_goByTimes_22 (by decide) ?_
      exact hk5 _ _ _ _ _ _ hf hE hR hS t_r0 t_r1 (lv_sub hl [2, 3, 4, 1, 0] rfl)
set_option maxRecDepth 100000 in
set_option maxHeartbeats 4000000 in
theorem k_X0_goByTimes {G : Gt} {l : Launch}  {h : Hp} {r0 : Nat} {r1 : Nat} {x2 : Int32} {out : (Int32 × Hp)} (t_r0 : hpT h r0 = (1, 0)) (t_r1 : hpT h r1 = (1, 4))  (hf : f_X0_goByTimes  h r0 r1 x2 = some out) : Mt G l yX0_goByTimes cX0_goByTimes 5 (some .int) rm_X0_goByTimes [.ref (G.2.2 + r0), .ref (G.2.2 + r1), .int x2] h (some (.int out.1)) out.2 0 0 0 := by
  refine r_met (by decide +kernel) (Nat.le_of_ble_eq_true rfl) ?_
  intro p e s m args below meth c ls C hr hlk hnm hR hS hl
  have hE : Ext h h := Ext.rf
  have hl : lv_has ls 5 [(0, .ref (G.2.2 + r0)), (1, .ref (G.2.2 + r1)), (2, .int x2)] := hl
  rw [f_X0_goByTimes] at hf
  refine lv_iconst (v := (0 : Int32)) C.x C.b dX0_goByTimes_0 (by decide) ?_
  refine lv_istore_n (lv' := [(3, .int (0 : Int32)), (0, .ref (G.2.2 + r0)), (1, .ref (G.2.2 + r1)), (2, .int x2)]) C.x C.b dX0_goByTimes_1 rfl hl (by decide) rfl (fun ls hl => ?_)
  refine lv_iconst (v := (0 : Int32)) C.x C.b dX0_goByTimes_2 (by decide) ?_
  refine lv_istore (lv' := [(4, .int (0 : Int32)), (3, .int (0 : Int32)), (0, .ref (G.2.2 + r0)), (1, .ref (G.2.2 + r1)), (2, .int x2)]) C.x C.b dX0_goByTimes_3 hl (by decide) rfl (fun ls hl => ?_)
  exact w_X0_goByTimes_5 C hr hlk FU _ _ _ _ _ _ hf hE hR hS t_r0 t_r1 (lv_sub hl [2, 3, 4, 1, 0] rfl)

def rm_X9_areSides : Room := { frames := 0, cells := 0, slots := 0, locals := 0 }
set_option maxRecDepth 100000 in
set_option maxHeartbeats 4000000 in
theorem k_X9_areSides {G : Gt} {l : Launch}  {h : Hp} {x0 : Int32} {x1 : Int32} {out : Int32}   (hf : f_X9_areSides  h x0 x1 = some out) : Mt G l yX9_areSides cX9_areSides 2 (some .boolean) rm_X9_areSides [.int x0, .int x1] h (some (.int out)) h 1 0 0 := by
  refine r_met (by decide +kernel) (Nat.le_of_ble_eq_true rfl) ?_
  intro p e s m args below meth c ls C hr hlk hnm hR hS hl
  have hl : lv_has ls 2 [(0, .int x0), (1, .int x1)] := hl
  rw [f_X9_areSides] at hf
  refine lv_iload_n C.x C.b dX9_areSides_0 rfl (lv_at hl 0 rfl) ?_
  refine lv_iconst (v := (1 : Int32)) C.x C.b dX9_areSides_1 (by decide) ?_
  refine lv_icmp_lt (tgt := 24) C.x C.b dX9_areSides_2 (by decide) (fun c1 => ?_) (fun c1 => ?_)
  · have hf := it_t hf c1
    refine lv_iconst (v := (0 : Int32)) C.x C.b dX9_areSides_24 (by decide) ?_
    have hf := so_e hf
    subst hf
    exact r_zret C hr hlk hR Ext.rf hS z_0 dX9_areSides_25
  · have hf := it_f hf c1
    refine lv_iload_n C.x C.b dX9_areSides_5 rfl (lv_at hl 0 rfl) ?_
    refine lv_iconst (v := (3 : Int32)) C.x C.b dX9_areSides_6 (by decide) ?_
    refine lv_icmp_gt (tgt := 24) C.x C.b dX9_areSides_7 (by decide) (fun c2 => ?_) (fun c2 => ?_)
    · have hf := it_t hf c2
      refine lv_iconst (v := (0 : Int32)) C.x C.b dX9_areSides_24 (by decide) ?_
      have hf := so_e hf
      subst hf
      exact r_zret C hr hlk hR Ext.rf hS z_0 dX9_areSides_25
    · have hf := it_f hf c2
      refine lv_iload_n C.x C.b dX9_areSides_10 rfl (lv_at hl 1 rfl) ?_
      refine lv_iconst (v := (1 : Int32)) C.x C.b dX9_areSides_11 (by decide) ?_
      refine lv_icmp_lt (tgt := 24) C.x C.b dX9_areSides_12 (by decide) (fun c3 => ?_) (fun c3 => ?_)
      · have hf := it_t hf c3
        refine lv_iconst (v := (0 : Int32)) C.x C.b dX9_areSides_24 (by decide) ?_
        have hf := so_e hf
        subst hf
        exact r_zret C hr hlk hR Ext.rf hS z_0 dX9_areSides_25
      · have hf := it_f hf c3
        refine lv_iload_n C.x C.b dX9_areSides_15 rfl (lv_at hl 1 rfl) ?_
        refine lv_iconst (v := (3 : Int32)) C.x C.b dX9_areSides_16 (by decide) ?_
        refine lv_icmp_gt (tgt := 24) C.x C.b dX9_areSides_17 (by decide) (fun c4 => ?_) (fun c4 => ?_)
        · have hf := it_t hf c4
          refine lv_iconst (v := (0 : Int32)) C.x C.b dX9_areSides_24 (by decide) ?_
          have hf := so_e hf
          subst hf
          exact r_zret C hr hlk hR Ext.rf hS z_0 dX9_areSides_25
        · have hf := it_f hf c4
          refine lv_iconst (v := (1 : Int32)) C.x C.b dX9_areSides_20 (by decide) ?_
          refine lv_goto (tgt := 25) C.x C.b dX9_areSides_21 (by decide) ?_
          have hf := so_e hf
          subst hf
          exact r_zret C hr hlk hR Ext.rf hS z_1 dX9_areSides_25

def rm_X0_pitchOn : Room := { frames := 4, cells := 0, slots := 0, locals := 88 }
set_option maxRecDepth 100000 in
set_option maxHeartbeats 4000000 in
theorem k_X0_pitchOn {G : Gt} {l : Launch}  {h : Hp} {r0 : Nat} {x1 : Int32} {x2 : Int32} {x3 : Int32} {x4 : Int32} {x5 : Int32} {out : (Int32 × Hp)} (t_r0 : hpT h r0 = (1, 0))  (hf : f_X0_pitchOn  h r0 x1 x2 x3 x4 x5 = some out) : Mt G l yX0_pitchOn cX0_pitchOn 6 (some .int) rm_X0_pitchOn [.ref (G.2.2 + r0), .int x1, .int x2, .int x3, .int x4, .int x5] h (some (.int out.1)) out.2 0 0 0 := by
  refine r_met (by decide +kernel) (Nat.le_of_ble_eq_true rfl) ?_
  intro p e s m args below meth c ls C hr hlk hnm hR hS hl
  have hE : Ext h h := Ext.rf
  have hl : lv_has ls 6 [(0, .ref (G.2.2 + r0)), (1, .int x1), (2, .int x2), (3, .int x3), (4, .int x4), (5, .int x5)] := hl
  rw [f_X0_pitchOn] at hf
  refine lv_aload_n C.x C.b dX0_pitchOn_0 rfl (lv_at hl 0 rfl) ?_
  refine lv_iload_n C.x C.b dX0_pitchOn_1 rfl (lv_at hl 1 rfl) ?_
  obtain ⟨q1, h_q1, hf⟩ := bd_e hf
  refine r_callV (As := [.int x1]) (rest := []) C hR hS t_r0 rfl mk_X0_hasCell cl_X0_117 (k_X0_hasCell t_r0 h_q1) ⟨⟨Nat.le_of_ble_eq_true rfl, Nat.le_of_ble_eq_true rfl⟩, ⟨rfl, rfl⟩, Nat.le_of_ble_eq_true rfl, Nat.le_of_ble_eq_true rfl⟩ rfl hl.1 rfl (Nat.le_of_ble_eq_true rfl) dX0_pitchOn_2 (fun H locs hR hS hE1 z_q1 => ?_)
  have z_q1 := z_q1 _ rfl
  refine lv_if_eq (tgt := 41) C.x C.b dX0_pitchOn_5 (by decide) (fun c2 => ?_) (fun c2 => ?_)
  · have hf := it_t hf c2
    refine lv_iconst (v := (-1 : Int32)) C.x C.b dX0_pitchOn_41 (by decide) ?_
    have hf := so_e hf
    subst hf
    exact r_iret C hr hlk hR hE hS dX0_pitchOn_42
  · have hf := it_f hf c2
    refine lv_iload_n C.x C.b dX0_pitchOn_8 rfl (lv_at hl 2 rfl) ?_
    refine lv_iload_n C.x C.b dX0_pitchOn_9 rfl (lv_at hl 3 rfl) ?_
    obtain ⟨q3, h_q3, hf⟩ := bd_e hf
    refine r_callSN (As := [.int x2, .int x3]) (rest := []) C hR hS mk_X9_areSides cn_X0_156 (k_X9_areSides h_q3) ⟨⟨Nat.le_of_ble_eq_true rfl, Nat.le_of_ble_eq_true rfl⟩, ⟨rfl, rfl⟩, Nat.le_of_ble_eq_true rfl, Nat.le_of_ble_eq_true rfl⟩ rfl hl.1 rfl (Nat.le_of_ble_eq_true rfl) dX0_pitchOn_10 (fun H locs hR hS hE1 z_q3 => ?_)
    have z_q3 := z_q3 _ rfl
    refine lv_if_eq (tgt := 41) C.x C.b dX0_pitchOn_13 (by decide) (fun c4 => ?_) (fun c4 => ?_)
    · have hf := it_t hf c4
      refine lv_iconst (v := (-1 : Int32)) C.x C.b dX0_pitchOn_41 (by decide) ?_
      have hf := so_e hf
      subst hf
      exact r_iret C hr hlk hR hE hS dX0_pitchOn_42
    · have hf := it_f hf c4
      refine lv_iload C.x C.b dX0_pitchOn_16 (lv_at hl 4 rfl) ?_
      refine lv_iconst (v := (1 : Int32)) C.x C.b dX0_pitchOn_18 (by decide) ?_
      refine lv_icmp_lt (tgt := 41) C.x C.b dX0_pitchOn_19 (by decide) (fun c5 => ?_) (fun c5 => ?_)
      · have hf := it_t hf c5
        refine lv_iconst (v := (-1 : Int32)) C.x C.b dX0_pitchOn_41 (by decide) ?_
        have hf := so_e hf
        subst hf
        exact r_iret C hr hlk hR hE hS dX0_pitchOn_42
      · have hf := it_f hf c5
        refine lv_iload C.x C.b dX0_pitchOn_22 (lv_at hl 4 rfl) ?_
        refine lv_bipush (v := (9 : Int32)) C.x C.b dX0_pitchOn_24 (by decide) ?_
        refine lv_icmp_gt (tgt := 41) C.x C.b dX0_pitchOn_26 (by decide) (fun c6 => ?_) (fun c6 => ?_)
        · have hf := it_t hf c6
          refine lv_iconst (v := (-1 : Int32)) C.x C.b dX0_pitchOn_41 (by decide) ?_
          have hf := so_e hf
          subst hf
          exact r_iret C hr hlk hR hE hS dX0_pitchOn_42
        · have hf := it_f hf c6
          refine lv_iload C.x C.b dX0_pitchOn_29 (lv_at hl 5 rfl) ?_
          refine lv_if_lt (tgt := 41) C.x C.b dX0_pitchOn_31 (by decide) (fun c7 => ?_) (fun c7 => ?_)
          · have hf := it_t hf c7
            refine lv_iconst (v := (-1 : Int32)) C.x C.b dX0_pitchOn_41 (by decide) ?_
            have hf := so_e hf
            subst hf
            exact r_iret C hr hlk hR hE hS dX0_pitchOn_42
          · have hf := it_f hf c7
            refine lv_iload C.x C.b dX0_pitchOn_34 (lv_at hl 5 rfl) ?_
            refine lv_bipush (v := (9 : Int32)) C.x C.b dX0_pitchOn_36 (by decide) ?_
            refine lv_icmp_le (tgt := 43) C.x C.b dX0_pitchOn_38 (by decide) (fun c8 => ?_) (fun c8 => ?_)
            · have hf := it_t hf c8
              refine lv_aload_n C.x C.b dX0_pitchOn_43 rfl (lv_at hl 0 rfl) ?_
              refine lv_iload_n C.x C.b dX0_pitchOn_44 rfl (lv_at hl 1 rfl) ?_
              refine lv_iload_n C.x C.b dX0_pitchOn_45 rfl (lv_at hl 2 rfl) ?_
              refine lv_iload_n C.x C.b dX0_pitchOn_46 rfl (lv_at hl 3 rfl) ?_
              obtain ⟨q9, h_q9, hf⟩ := bd_e hf
              refine r_callV (As := [.int x1, .int x2, .int x3]) (rest := []) C hR hS t_r0 rfl mk_X0_holds cl_X0_135 (k_X0_holds t_r0 h_q9) ⟨⟨Nat.le_of_ble_eq_true rfl, Nat.le_of_ble_eq_true rfl⟩, ⟨rfl, rfl⟩, Nat.le_of_ble_eq_true rfl, Nat.le_of_ble_eq_true rfl⟩ rfl hl.1 rfl (Nat.le_of_ble_eq_true rfl) dX0_pitchOn_47 (fun H locs hR hS hE1 z_q9 => ?_)
              have z_q9 := z_q9 _ rfl
              refine lv_if_ne (tgt := 56) C.x C.b dX0_pitchOn_50 (by decide) (fun c10 => ?_) (fun c10 => ?_)
              · have hf := it_f hf c10
                refine lv_aload_n C.x C.b dX0_pitchOn_56 rfl (lv_at hl 0 rfl) ?_
                refine r_geti C hR t_r0 fl_X0_40 rfl dX0_pitchOn_57 ?_
                refine lv_bipush (v := (8 : Int32)) C.x C.b dX0_pitchOn_60 (by decide) ?_
                refine lv_icmp_lt (tgt := 68) C.x C.b dX0_pitchOn_62 (by decide) (fun c11 => ?_) (fun c11 => ?_)
                · have hf := it_t hf c11
                  refine lv_aload_n C.x C.b dX0_pitchOn_68 rfl (lv_at hl 0 rfl) ?_
                  refine lv_iload_n C.x C.b dX0_pitchOn_69 rfl (lv_at hl 1 rfl) ?_
                  refine lv_iload_n C.x C.b dX0_pitchOn_70 rfl (lv_at hl 2 rfl) ?_
                  refine lv_iload_n C.x C.b dX0_pitchOn_71 rfl (lv_at hl 3 rfl) ?_
                  obtain ⟨q12, h_q12, hf⟩ := bd_e hf
                  refine r_callV (As := [.int x1, .int x2, .int x3]) (rest := []) C hR hS t_r0 rfl mk_X0_onUnder cl_X0_98 (k_X0_onUnder t_r0 h_q12) ⟨⟨Nat.le_of_ble_eq_true rfl, Nat.le_of_ble_eq_true rfl⟩, ⟨rfl, rfl⟩, Nat.le_of_ble_eq_true rfl, Nat.le_of_ble_eq_true rfl⟩ rfl hl.1 rfl (Nat.le_of_ble_eq_true rfl) dX0_pitchOn_72 (fun H locs hR hS hE1 z_q12 => ?_)
                  refine lv_if_eq (tgt := 81) C.x C.b dX0_pitchOn_75 (by decide) (fun c13 => ?_) (fun c13 => ?_)
                  · have hf := it_t hf c13
                    refine lv_aload_n C.x C.b dX0_pitchOn_81 rfl (lv_at hl 0 rfl) ?_
                    obtain ⟨g14, hf⟩ := gd_e hf
                    refine r_getr C hR t_r0 fl_X0_18 (by decide) (nz_e g14) dX0_pitchOn_82 (fun tq15 => ?_)
                    have tg14 := okA tq15 rfl
                    refine lv_aload_n C.x C.b dX0_pitchOn_85 rfl (lv_at hl 0 rfl) ?_
                    refine r_geti C hR t_r0 fl_X0_40 rfl dX0_pitchOn_86 ?_
                    refine lv_aload_n C.x C.b dX0_pitchOn_89 rfl (lv_at hl 0 rfl) ?_
                    refine lv_iload_n C.x C.b dX0_pitchOn_90 rfl (lv_at hl 1 rfl) ?_
                    obtain ⟨q16, h_q16, hf⟩ := bd_e hf
                    refine r_callV (As := [.int x1]) (rest := [.int (hpI h r0 2), .ref (G.2.2 + (hpR h r0 5))]) C hR hS t_r0 rfl mk_X0_rowOf cl_X0_59 (k_X0_rowOf t_r0 h_q16) ⟨⟨Nat.le_of_ble_eq_true rfl, Nat.le_of_ble_eq_true rfl⟩, ⟨rfl, rfl⟩, Nat.le_of_ble_eq_true rfl, Nat.le_of_ble_eq_true rfl⟩ rfl hl.1 rfl (Nat.le_of_ble_eq_true rfl) dX0_pitchOn_91 (fun H locs hR hS hE1 z_q16 => ?_)
                    obtain ⟨g17, hf⟩ := gd_e hf
                    refine r_iast C hR hS tg14 g17 dX0_pitchOn_94 (fun H locs hR hS => ?_)
                    obtain ⟨h18, e_h18⟩ : ∃ y, y = upI h (hpR h r0 5) (ix (hpI h r0 2)) q16 := ⟨_, rfl⟩
                    rw [← e_h18] at hR
                    have hf := lt_e hf e_h18
                    have hE := eI e_h18 hE
                    have t_r0 := tI e_h18 t_r0
                    refine lv_aload_n C.x C.b dX0_pitchOn_95 rfl (lv_at hl 0 rfl) ?_
                    obtain ⟨g19, hf⟩ := gd_e hf
                    refine r_getr C hR t_r0 fl_X0_22 (by decide) (nz_e g19) dX0_pitchOn_96 (fun tq20 => ?_)
                    have tg19 := okA tq20 rfl
                    refine lv_aload_n C.x C.b dX0_pitchOn_99 rfl (lv_at hl 0 rfl) ?_
                    refine r_geti C hR t_r0 fl_X0_40 rfl dX0_pitchOn_100 ?_
                    refine lv_aload_n C.x C.b dX0_pitchOn_103 rfl (lv_at hl 0 rfl) ?_
                    refine lv_iload_n C.x C.b dX0_pitchOn_104 rfl (lv_at hl 1 rfl) ?_
                    obtain ⟨q21, h_q21, hf⟩ := bd_e hf
                    refine r_callV (As := [.int x1]) (rest := [.int (hpI h18 r0 2), .ref (G.2.2 + (hpR h18 r0 6))]) C hR hS t_r0 rfl mk_X0_columnOf cl_X0_63 (k_X0_columnOf t_r0 h_q21) ⟨⟨Nat.le_of_ble_eq_true rfl, Nat.le_of_ble_eq_true rfl⟩, ⟨rfl, rfl⟩, Nat.le_of_ble_eq_true rfl, Nat.le_of_ble_eq_true rfl⟩ rfl hl.1 rfl (Nat.le_of_ble_eq_true rfl) dX0_pitchOn_105 (fun H locs hR hS hE1 z_q21 => ?_)
                    obtain ⟨g22, hf⟩ := gd_e hf
                    refine r_iast C hR hS tg19 g22 dX0_pitchOn_108 (fun H locs hR hS => ?_)
                    obtain ⟨h23, e_h23⟩ : ∃ y, y = upI h18 (hpR h18 r0 6) (ix (hpI h18 r0 2)) q21 := ⟨_, rfl⟩
                    rw [← e_h23] at hR
                    have hf := lt_e hf e_h23
                    have hE := eI e_h23 hE
                    have t_r0 := tI e_h23 t_r0
                    refine lv_aload_n C.x C.b dX0_pitchOn_109 rfl (lv_at hl 0 rfl) ?_
                    obtain ⟨g24, hf⟩ := gd_e hf
                    refine r_getr C hR t_r0 fl_X0_25 (by decide) (nz_e g24) dX0_pitchOn_110 (fun tq25 => ?_)
                    have tg24 := okA tq25 rfl
                    refine lv_aload_n C.x C.b dX0_pitchOn_113 rfl (lv_at hl 0 rfl) ?_
                    refine r_geti C hR t_r0 fl_X0_40 rfl dX0_pitchOn_114 ?_
                    refine lv_iload_n C.x C.b dX0_pitchOn_117 rfl (lv_at hl 2 rfl) ?_
                    obtain ⟨g26, hf⟩ := gd_e hf
                    refine r_iast C hR hS tg24 g26 dX0_pitchOn_118 (fun H locs hR hS => ?_)
                    obtain ⟨h27, e_h27⟩ : ∃ y, y = upI h23 (hpR h23 r0 7) (ix (hpI h23 r0 2)) x2 := ⟨_, rfl⟩
                    rw [← e_h27] at hR
                    have hf := lt_e hf e_h27
                    have hE := eI e_h27 hE
                    have t_r0 := tI e_h27 t_r0
                    refine lv_aload_n C.x C.b dX0_pitchOn_119 rfl (lv_at hl 0 rfl) ?_
                    obtain ⟨g28, hf⟩ := gd_e hf
                    refine r_getr C hR t_r0 fl_X0_28 (by decide) (nz_e g28) dX0_pitchOn_120 (fun tq29 => ?_)
                    have tg28 := okA tq29 rfl
                    refine lv_aload_n C.x C.b dX0_pitchOn_123 rfl (lv_at hl 0 rfl) ?_
                    refine r_geti C hR t_r0 fl_X0_40 rfl dX0_pitchOn_124 ?_
                    refine lv_iload_n C.x C.b dX0_pitchOn_127 rfl (lv_at hl 3 rfl) ?_
                    obtain ⟨g30, hf⟩ := gd_e hf
                    refine r_iast C hR hS tg28 g30 dX0_pitchOn_128 (fun H locs hR hS => ?_)
                    obtain ⟨h31, e_h31⟩ : ∃ y, y = upI h27 (hpR h27 r0 8) (ix (hpI h27 r0 2)) x3 := ⟨_, rfl⟩
                    rw [← e_h31] at hR
                    have hf := lt_e hf e_h31
                    have hE := eI e_h31 hE
                    have t_r0 := tI e_h31 t_r0
                    refine lv_aload_n C.x C.b dX0_pitchOn_129 rfl (lv_at hl 0 rfl) ?_
                    obtain ⟨g32, hf⟩ := gd_e hf
                    refine r_getr C hR t_r0 fl_X0_31 (by decide) (nz_e g32) dX0_pitchOn_130 (fun tq33 => ?_)
                    have tg32 := okA tq33 rfl
                    refine lv_aload_n C.x C.b dX0_pitchOn_133 rfl (lv_at hl 0 rfl) ?_
                    refine r_geti C hR t_r0 fl_X0_40 rfl dX0_pitchOn_134 ?_
                    refine lv_iload C.x C.b dX0_pitchOn_137 (lv_at hl 4 rfl) ?_
                    obtain ⟨g34, hf⟩ := gd_e hf
                    refine r_iast C hR hS tg32 g34 dX0_pitchOn_139 (fun H locs hR hS => ?_)
                    obtain ⟨h35, e_h35⟩ : ∃ y, y = upI h31 (hpR h31 r0 9) (ix (hpI h31 r0 2)) x4 := ⟨_, rfl⟩
                    rw [← e_h35] at hR
                    have hf := lt_e hf e_h35
                    have hE := eI e_h35 hE
                    have t_r0 := tI e_h35 t_r0
                    refine lv_aload_n C.x C.b dX0_pitchOn_140 rfl (lv_at hl 0 rfl) ?_
                    obtain ⟨g36, hf⟩ := gd_e hf
                    refine r_getr C hR t_r0 fl_X0_34 (by decide) (nz_e g36) dX0_pitchOn_141 (fun tq37 => ?_)
                    have tg36 := okA tq37 rfl
                    refine lv_aload_n C.x C.b dX0_pitchOn_144 rfl (lv_at hl 0 rfl) ?_
                    refine r_geti C hR t_r0 fl_X0_40 rfl dX0_pitchOn_145 ?_
                    refine lv_iload C.x C.b dX0_pitchOn_148 (lv_at hl 5 rfl) ?_
                    obtain ⟨g38, hf⟩ := gd_e hf
                    refine r_iast C hR hS tg36 g38 dX0_pitchOn_150 (fun H locs hR hS => ?_)
                    obtain ⟨h39, e_h39⟩ : ∃ y, y = upI h35 (hpR h35 r0 10) (ix (hpI h35 r0 2)) x5 := ⟨_, rfl⟩
                    rw [← e_h39] at hR
                    have hf := lt_e hf e_h39
                    have hE := eI e_h39 hE
                    have t_r0 := tI e_h39 t_r0
                    refine lv_aload_n C.x C.b dX0_pitchOn_151 rfl (lv_at hl 0 rfl) ?_
                    obtain ⟨g40, hf⟩ := gd_e hf
                    refine r_getr C hR t_r0 fl_X0_37 (by decide) (nz_e g40) dX0_pitchOn_152 (fun tq41 => ?_)
                    have tg40 := okA tq41 rfl
                    refine lv_aload_n C.x C.b dX0_pitchOn_155 rfl (lv_at hl 0 rfl) ?_
                    refine r_geti C hR t_r0 fl_X0_40 rfl dX0_pitchOn_156 ?_
                    refine lv_iconst (v := (0 : Int32)) C.x C.b dX0_pitchOn_159 (by decide) ?_
                    obtain ⟨g42, hf⟩ := gd_e hf
                    refine r_iast C hR hS tg40 g42 dX0_pitchOn_160 (fun H locs hR hS => ?_)
                    obtain ⟨h43, e_h43⟩ : ∃ y, y = upI h39 (hpR h39 r0 11) (ix (hpI h39 r0 2)) (0 : Int32) := ⟨_, rfl⟩
                    rw [← e_h43] at hR
                    have hf := lt_e hf e_h43
                    have hE := eI e_h43 hE
                    have t_r0 := tI e_h43 t_r0
                    refine lv_aload_n C.x C.b dX0_pitchOn_161 rfl (lv_at hl 0 rfl) ?_
                    refine lv_dup C.x C.b dX0_pitchOn_162 rfl ?_
                    refine r_geti C hR t_r0 fl_X0_40 rfl dX0_pitchOn_163 ?_
                    refine lv_iconst (v := (1 : Int32)) C.x C.b dX0_pitchOn_166 (by decide) ?_
                    refine lv_iadd C.x C.b dX0_pitchOn_167 ?_
                    refine r_puti C hR hS t_r0 fl_X0_40 fp_X0_0_2 rfl dX0_pitchOn_168 (fun H locs hR hS => ?_)
                    obtain ⟨h44, e_h44⟩ : ∃ y, y = upI h43 r0 2 ((hpI h43 r0 2) + (1 : Int32)) := ⟨_, rfl⟩
                    rw [← e_h44] at hR
                    have hf := lt_e hf e_h44
                    have hE := eI e_h44 hE
                    have t_r0 := tI e_h44 t_r0
                    refine lv_aload_n C.x C.b dX0_pitchOn_171 rfl (lv_at hl 0 rfl) ?_
                    refine r_geti C hR t_r0 fl_X0_40 rfl dX0_pitchOn_172 ?_
                    refine lv_iconst (v := (1 : Int32)) C.x C.b dX0_pitchOn_175 (by decide) ?_
                    refine lv_isub C.x C.b dX0_pitchOn_176 ?_
                    have hf := so_e hf
                    subst hf
                    exact r_iret C hr hlk hR hE hS dX0_pitchOn_177
                  · have hf := it_f hf c13
                    refine lv_bipush (v := (-4 : Int32)) C.x C.b dX0_pitchOn_78 (by decide) ?_
                    have hf := so_e hf
                    subst hf
                    exact r_iret C hr hlk hR hE hS dX0_pitchOn_80
                · have hf := it_f hf c11
                  refine lv_bipush (v := (-3 : Int32)) C.x C.b dX0_pitchOn_65 (by decide) ?_
                  have hf := so_e hf
                  subst hf
                  exact r_iret C hr hlk hR hE hS dX0_pitchOn_67
              · have hf := it_t hf c10
                refine lv_bipush (v := (-2 : Int32)) C.x C.b dX0_pitchOn_53 (by decide) ?_
                have hf := so_e hf
                subst hf
                exact r_iret C hr hlk hR hE hS dX0_pitchOn_55
            · have hf := it_f hf c8
              refine lv_iconst (v := (-1 : Int32)) C.x C.b dX0_pitchOn_41 (by decide) ?_
              have hf := so_e hf
              subst hf
              exact r_iret C hr hlk hR hE hS dX0_pitchOn_42

def rm_X0_treadOn : Room := { frames := 2, cells := 0, slots := 0, locals := 42 }
set_option maxRecDepth 100000 in
set_option maxHeartbeats 4000000 in
theorem k_X0_treadOn {G : Gt} {l : Launch}  {h : Hp} {r0 : Nat} {x1 : Int32} {x2 : Int32} {out : (Int32 × Hp)} (t_r0 : hpT h r0 = (1, 0))  (hf : f_X0_treadOn  h r0 x1 x2 = some out) : Mt G l yX0_treadOn cX0_treadOn 3 (some .int) rm_X0_treadOn [.ref (G.2.2 + r0), .int x1, .int x2] h (some (.int out.1)) out.2 0 0 0 := by
  refine r_met (by decide +kernel) (Nat.le_of_ble_eq_true rfl) ?_
  intro p e s m args below meth c ls C hr hlk hnm hR hS hl
  have hE : Ext h h := Ext.rf
  have hl : lv_has ls 3 [(0, .ref (G.2.2 + r0)), (1, .int x1), (2, .int x2)] := hl
  rw [f_X0_treadOn] at hf
  refine lv_aload_n C.x C.b dX0_treadOn_0 rfl (lv_at hl 0 rfl) ?_
  refine lv_iload_n C.x C.b dX0_treadOn_1 rfl (lv_at hl 1 rfl) ?_
  obtain ⟨q1, h_q1, hf⟩ := bd_e hf
  refine r_callV (As := [.int x1]) (rest := []) C hR hS t_r0 rfl mk_X0_has cl_X0_70 (k_X0_has t_r0 h_q1) ⟨⟨Nat.le_of_ble_eq_true rfl, Nat.le_of_ble_eq_true rfl⟩, ⟨rfl, rfl⟩, Nat.le_of_ble_eq_true rfl, Nat.le_of_ble_eq_true rfl⟩ rfl hl.1 rfl (Nat.le_of_ble_eq_true rfl) dX0_treadOn_2 (fun H locs hR hS hE1 z_q1 => ?_)
  have z_q1 := z_q1 _ rfl
  refine lv_if_eq (tgt := 19) C.x C.b dX0_treadOn_5 (by decide) (fun c2 => ?_) (fun c2 => ?_)
  · have hf := it_t hf c2
    refine lv_iconst (v := (-1 : Int32)) C.x C.b dX0_treadOn_19 (by decide) ?_
    have hf := so_e hf
    subst hf
    exact r_iret C hr hlk hR hE hS dX0_treadOn_20
  · have hf := it_f hf c2
    refine lv_iload_n C.x C.b dX0_treadOn_8 rfl (lv_at hl 2 rfl) ?_
    refine lv_iconst (v := (1 : Int32)) C.x C.b dX0_treadOn_9 (by decide) ?_
    refine lv_icmp_lt (tgt := 19) C.x C.b dX0_treadOn_10 (by decide) (fun c3 => ?_) (fun c3 => ?_)
    · have hf := it_t hf c3
      refine lv_iconst (v := (-1 : Int32)) C.x C.b dX0_treadOn_19 (by decide) ?_
      have hf := so_e hf
      subst hf
      exact r_iret C hr hlk hR hE hS dX0_treadOn_20
    · have hf := it_f hf c3
      refine lv_iload_n C.x C.b dX0_treadOn_13 rfl (lv_at hl 2 rfl) ?_
      refine lv_bipush (v := (9 : Int32)) C.x C.b dX0_treadOn_14 (by decide) ?_
      refine lv_icmp_le (tgt := 21) C.x C.b dX0_treadOn_16 (by decide) (fun c4 => ?_) (fun c4 => ?_)
      · have hf := it_t hf c4
        refine lv_aload_n C.x C.b dX0_treadOn_21 rfl (lv_at hl 0 rfl) ?_
        refine lv_iload_n C.x C.b dX0_treadOn_22 rfl (lv_at hl 1 rfl) ?_
        obtain ⟨q5, h_q5, hf⟩ := bd_e hf
        refine r_callV (As := [.int x1]) (rest := []) C hR hS t_r0 rfl mk_X0_isOn cl_X0_108 (k_X0_isOn t_r0 h_q5) ⟨⟨Nat.le_of_ble_eq_true rfl, Nat.le_of_ble_eq_true rfl⟩, ⟨rfl, rfl⟩, Nat.le_of_ble_eq_true rfl, Nat.le_of_ble_eq_true rfl⟩ rfl hl.1 rfl (Nat.le_of_ble_eq_true rfl) dX0_treadOn_23 (fun H locs hR hS hE1 z_q5 => ?_)
        have z_q5 := z_q5 _ rfl
        refine lv_if_ne (tgt := 32) C.x C.b dX0_treadOn_26 (by decide) (fun c6 => ?_) (fun c6 => ?_)
        · have hf := it_f hf c6
          refine lv_aload_n C.x C.b dX0_treadOn_32 rfl (lv_at hl 0 rfl) ?_
          obtain ⟨g7, hf⟩ := gd_e hf
          refine r_getr C hR t_r0 fl_X0_31 (by decide) (nz_e g7) dX0_treadOn_33 (fun tq8 => ?_)
          have tg7 := okA tq8 rfl
          refine lv_iload_n C.x C.b dX0_treadOn_36 rfl (lv_at hl 1 rfl) ?_
          refine lv_iconst (v := (0 : Int32)) C.x C.b dX0_treadOn_37 (by decide) ?_
          refine lv_aload_n C.x C.b dX0_treadOn_38 rfl (lv_at hl 0 rfl) ?_
          refine r_getr C hR t_r0 fl_X0_31 (by decide) (nz_e g7) dX0_treadOn_39 (fun tq9 => ?_)
          refine lv_iload_n C.x C.b dX0_treadOn_42 rfl (lv_at hl 1 rfl) ?_
          obtain ⟨g10, hf⟩ := gd_e hf
          refine r_iald C hR tg7 g10 dX0_treadOn_43 ?_
          refine lv_iload_n C.x C.b dX0_treadOn_44 rfl (lv_at hl 2 rfl) ?_
          refine lv_isub C.x C.b dX0_treadOn_45 ?_
          refine va_mmax C.x C.b (C.ml.trans hl.1.symm) C.ow (C.ts _ lk_X0_125) (C.ts _ lk_Mmax_s) (C.ts _ lk_Math) (C.ts _ lk_Mmax_c) (Nat.le_of_ble_eq_true rfl) (Nat.le_of_ble_eq_true rfl) (Nat.le_of_ble_eq_true rfl) (Nat.le_of_ble_eq_true rfl) dX0_treadOn_46 ?_
          refine lv_topi (fun v11 e_v11 => ?_)
          have hf := lt_e hf e_v11
          obtain ⟨g12, hf⟩ := gd_e hf
          refine r_iast C hR hS tg7 g12 dX0_treadOn_49 (fun H locs hR hS => ?_)
          obtain ⟨h13, e_h13⟩ : ∃ y, y = upI h (hpR h r0 9) (ix x1) v11 := ⟨_, rfl⟩
          rw [← e_h13] at hR
          have hf := lt_e hf e_h13
          have hE := eI e_h13 hE
          have t_r0 := tI e_h13 t_r0
          refine lv_aload_n C.x C.b dX0_treadOn_50 rfl (lv_at hl 0 rfl) ?_
          obtain ⟨g14, hf⟩ := gd_e hf
          refine r_getr C hR t_r0 fl_X0_31 (by decide) (nz_e g14) dX0_treadOn_51 (fun tq15 => ?_)
          have tg14 := okA tq15 rfl
          refine lv_iload_n C.x C.b dX0_treadOn_54 rfl (lv_at hl 1 rfl) ?_
          obtain ⟨g16, hf⟩ := gd_e hf
          refine r_iald C hR tg14 g16 dX0_treadOn_55 ?_
          have hf := so_e hf
          subst hf
          exact r_iret C hr hlk hR hE hS dX0_treadOn_56
        · have hf := it_t hf c6
          refine lv_bipush (v := (-2 : Int32)) C.x C.b dX0_treadOn_29 (by decide) ?_
          have hf := so_e hf
          subst hf
          exact r_iret C hr hlk hR hE hS dX0_treadOn_31
      · have hf := it_f hf c4
        refine lv_iconst (v := (-1 : Int32)) C.x C.b dX0_treadOn_19 (by decide) ?_
        have hf := so_e hf
        subst hf
        exact r_iret C hr hlk hR hE hS dX0_treadOn_20

def rm_X0_singTo : Room := { frames := 1, cells := 0, slots := 0, locals := 21 }
set_option maxRecDepth 100000 in
set_option maxHeartbeats 4000000 in
theorem k_X0_singTo {G : Gt} {l : Launch}  {h : Hp} {r0 : Nat} {x1 : Int32} {x2 : Int32} {out : (Int32 × Hp)} (t_r0 : hpT h r0 = (1, 0))  (hf : f_X0_singTo  h r0 x1 x2 = some out) : Mt G l yX0_singTo cX0_singTo 3 (some .int) rm_X0_singTo [.ref (G.2.2 + r0), .int x1, .int x2] h (some (.int out.1)) out.2 0 0 0 := by
  refine r_met (by decide +kernel) (Nat.le_of_ble_eq_true rfl) ?_
  intro p e s m args below meth c ls C hr hlk hnm hR hS hl
  have hE : Ext h h := Ext.rf
  have hl : lv_has ls 3 [(0, .ref (G.2.2 + r0)), (1, .int x1), (2, .int x2)] := hl
  rw [f_X0_singTo] at hf
  refine lv_aload_n C.x C.b dX0_singTo_0 rfl (lv_at hl 0 rfl) ?_
  refine lv_iload_n C.x C.b dX0_singTo_1 rfl (lv_at hl 1 rfl) ?_
  obtain ⟨q1, h_q1, hf⟩ := bd_e hf
  refine r_callV (As := [.int x1]) (rest := []) C hR hS t_r0 rfl mk_X0_has cl_X0_70 (k_X0_has t_r0 h_q1) ⟨⟨Nat.le_of_ble_eq_true rfl, Nat.le_of_ble_eq_true rfl⟩, ⟨rfl, rfl⟩, Nat.le_of_ble_eq_true rfl, Nat.le_of_ble_eq_true rfl⟩ rfl hl.1 rfl (Nat.le_of_ble_eq_true rfl) dX0_singTo_2 (fun H locs hR hS hE1 z_q1 => ?_)
  have z_q1 := z_q1 _ rfl
  refine lv_if_eq (tgt := 19) C.x C.b dX0_singTo_5 (by decide) (fun c2 => ?_) (fun c2 => ?_)
  · have hf := it_t hf c2
    refine lv_iconst (v := (-1 : Int32)) C.x C.b dX0_singTo_19 (by decide) ?_
    have hf := so_e hf
    subst hf
    exact r_iret C hr hlk hR hE hS dX0_singTo_20
  · have hf := it_f hf c2
    refine lv_iload_n C.x C.b dX0_singTo_8 rfl (lv_at hl 2 rfl) ?_
    refine lv_iconst (v := (1 : Int32)) C.x C.b dX0_singTo_9 (by decide) ?_
    refine lv_icmp_lt (tgt := 19) C.x C.b dX0_singTo_10 (by decide) (fun c3 => ?_) (fun c3 => ?_)
    · have hf := it_t hf c3
      refine lv_iconst (v := (-1 : Int32)) C.x C.b dX0_singTo_19 (by decide) ?_
      have hf := so_e hf
      subst hf
      exact r_iret C hr hlk hR hE hS dX0_singTo_20
    · have hf := it_f hf c3
      refine lv_iload_n C.x C.b dX0_singTo_13 rfl (lv_at hl 2 rfl) ?_
      refine lv_bipush (v := (9 : Int32)) C.x C.b dX0_singTo_14 (by decide) ?_
      refine lv_icmp_le (tgt := 21) C.x C.b dX0_singTo_16 (by decide) (fun c4 => ?_) (fun c4 => ?_)
      · have hf := it_t hf c4
        refine lv_aload_n C.x C.b dX0_singTo_21 rfl (lv_at hl 0 rfl) ?_
        obtain ⟨g5, hf⟩ := gd_e hf
        refine r_getr C hR t_r0 fl_X0_31 (by decide) (nz_e g5) dX0_singTo_22 (fun tq6 => ?_)
        have tg5 := okA tq6 rfl
        refine lv_iload_n C.x C.b dX0_singTo_25 rfl (lv_at hl 1 rfl) ?_
        refine lv_bipush (v := (9 : Int32)) C.x C.b dX0_singTo_26 (by decide) ?_
        refine lv_aload_n C.x C.b dX0_singTo_28 rfl (lv_at hl 0 rfl) ?_
        refine r_getr C hR t_r0 fl_X0_31 (by decide) (nz_e g5) dX0_singTo_29 (fun tq7 => ?_)
        refine lv_iload_n C.x C.b dX0_singTo_32 rfl (lv_at hl 1 rfl) ?_
        obtain ⟨g8, hf⟩ := gd_e hf
        refine r_iald C hR tg5 g8 dX0_singTo_33 ?_
        refine lv_iload_n C.x C.b dX0_singTo_34 rfl (lv_at hl 2 rfl) ?_
        refine lv_iadd C.x C.b dX0_singTo_35 ?_
        refine va_mmin C.x C.b (C.ml.trans hl.1.symm) C.ow (C.ts _ lk_X0_120) (C.ts _ lk_Mmin_s) (C.ts _ lk_Math) (C.ts _ lk_Mmin_c) (Nat.le_of_ble_eq_true rfl) (Nat.le_of_ble_eq_true rfl) (Nat.le_of_ble_eq_true rfl) (Nat.le_of_ble_eq_true rfl) dX0_singTo_36 ?_
        refine lv_topi (fun v9 e_v9 => ?_)
        have hf := lt_e hf e_v9
        obtain ⟨g10, hf⟩ := gd_e hf
        refine r_iast C hR hS tg5 g10 dX0_singTo_39 (fun H locs hR hS => ?_)
        obtain ⟨h11, e_h11⟩ : ∃ y, y = upI h (hpR h r0 9) (ix x1) v9 := ⟨_, rfl⟩
        rw [← e_h11] at hR
        have hf := lt_e hf e_h11
        have hE := eI e_h11 hE
        have t_r0 := tI e_h11 t_r0
        refine lv_aload_n C.x C.b dX0_singTo_40 rfl (lv_at hl 0 rfl) ?_
        obtain ⟨g12, hf⟩ := gd_e hf
        refine r_getr C hR t_r0 fl_X0_31 (by decide) (nz_e g12) dX0_singTo_41 (fun tq13 => ?_)
        have tg12 := okA tq13 rfl
        refine lv_iload_n C.x C.b dX0_singTo_44 rfl (lv_at hl 1 rfl) ?_
        obtain ⟨g14, hf⟩ := gd_e hf
        refine r_iald C hR tg12 g14 dX0_singTo_45 ?_
        have hf := so_e hf
        subst hf
        exact r_iret C hr hlk hR hE hS dX0_singTo_46
      · have hf := it_f hf c4
        refine lv_iconst (v := (-1 : Int32)) C.x C.b dX0_singTo_19 (by decide) ?_
        have hf := so_e hf
        subst hf
        exact r_iret C hr hlk hR hE hS dX0_singTo_20

