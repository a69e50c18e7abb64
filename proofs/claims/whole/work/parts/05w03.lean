def rm_X0_takeDigit : Room := { frames := 0, cells := 0, slots := 0, locals := 0 }
set_option maxRecDepth 100000 in
set_option maxHeartbeats 4000000 in
theorem k_X0_takeDigit {G : Gt} {l : Launch} {h : Hp} {r0 : Nat} {x1 : Int32} {x2 : Int32} {out : (Int32 × Hp)} (t_r0 : hpT h r0 = (1, 0))  (hf : f_X0_takeDigit h r0 x1 x2 = some out) : Mt G l yX0_takeDigit cX0_takeDigit 3 (some .boolean) rm_X0_takeDigit [.ref (G.2.2 + r0), .int x1, .int x2] h (some (.int out.1)) out.2 1 0 0 := by
  refine r_met (by decide +kernel) (Nat.le_of_ble_eq_true rfl) ?_
  intro p e s m args below meth c ls C hr hlk hnm hR hS hl
  have hE : Ext h h := Ext.rf
  have hl : lv_has ls 3 [(0, .ref (G.2.2 + r0)), (1, .int x1), (2, .int x2)] := hl
  rw [f_X0_takeDigit] at hf
  refine lv_aload_n C.x C.b dX0_takeDigit_0 rfl (lv_at hl 0 rfl) ?_
  refine r_geti C hR t_r0 fl_X0_40 rfl dX0_takeDigit_1 ?_
  refine lv_bipush (v := (8 : Int32)) C.x C.b dX0_takeDigit_4 (by decide) ?_
  refine lv_icmp_lt (tgt := 11) C.x C.b dX0_takeDigit_6 (by decide) (fun c1 => ?_) (fun c1 => ?_)
  · have hf := it_t hf c1
    refine lv_iload_n C.x C.b dX0_takeDigit_11 rfl (lv_at hl 1 rfl) ?_
    by_cases c41_0 : x1 = (0 : Int32)
    · have hf := it_t hf c41_0
      refine lv_tableIn (tgt := 48) C.x C.b dX0_takeDigit_12 (by rw [c41_0]; decide) (by rw [c41_0]; decide) (by rw [c41_0]; rfl) (by decide) ?_
      refine lv_aload_n C.x C.b dX0_takeDigit_48 rfl (lv_at hl 0 rfl) ?_
      obtain ⟨g2, hf⟩ := gd_e hf
      refine r_getr C hR t_r0 fl_X0_18 (by decide) (nz_e g2) dX0_takeDigit_49 (fun tq3 => ?_)
      have tg2 := okA tq3 rfl
      refine lv_aload_n C.x C.b dX0_takeDigit_52 rfl (lv_at hl 0 rfl) ?_
      refine r_geti C hR t_r0 fl_X0_40 rfl dX0_takeDigit_53 ?_
      refine lv_iload_n C.x C.b dX0_takeDigit_56 rfl (lv_at hl 2 rfl) ?_
      obtain ⟨g4, hf⟩ := gd_e hf
      refine r_iast C hR hS tg2 g4 dX0_takeDigit_57 (fun H locs hR hS => ?_)
      obtain ⟨h5, e_h5⟩ : ∃ y, y = upI h (hpR h r0 5) (ix (hpI h r0 2)) x2 := ⟨_, rfl⟩
      rw [← e_h5] at hR
      have hf := lt_e hf e_h5
      have hE := eI e_h5 hE
      have t_r0 := tI e_h5 t_r0
      refine lv_iload_n C.x C.b dX0_takeDigit_58 rfl (lv_at hl 2 rfl) ?_
      refine lv_aload_n C.x C.b dX0_takeDigit_59 rfl (lv_at hl 0 rfl) ?_
      refine r_geti C hR t_r0 fl_X0_9 rfl dX0_takeDigit_60 ?_
      refine lv_icmp_ge (tgt := 70) C.x C.b dX0_takeDigit_63 (by decide) (fun c6 => ?_) (fun c6 => ?_)
      · have hf := it_t hf c6
        refine lv_iconst (v := (0 : Int32)) C.x C.b dX0_takeDigit_70 (by decide) ?_
        have hf := so_e hf
        subst hf
        exact r_zret C hr hlk hR hE hS z_0 dX0_takeDigit_71
      · have hf := it_f hf c6
        refine lv_iconst (v := (1 : Int32)) C.x C.b dX0_takeDigit_66 (by decide) ?_
        refine lv_goto (tgt := 71) C.x C.b dX0_takeDigit_67 (by decide) ?_
        have hf := so_e hf
        subst hf
        exact r_zret C hr hlk hR hE hS z_1 dX0_takeDigit_71
    have hf := it_f hf c41_0
    by_cases c41_1 : x1 = (1 : Int32)
    · have hf := it_t hf c41_1
      refine lv_tableIn (tgt := 72) C.x C.b dX0_takeDigit_12 (by rw [c41_1]; decide) (by rw [c41_1]; decide) (by rw [c41_1]; rfl) (by decide) ?_
      refine lv_aload_n C.x C.b dX0_takeDigit_72 rfl (lv_at hl 0 rfl) ?_
      obtain ⟨g7, hf⟩ := gd_e hf
      refine r_getr C hR t_r0 fl_X0_22 (by decide) (nz_e g7) dX0_takeDigit_73 (fun tq8 => ?_)
      have tg7 := okA tq8 rfl
      refine lv_aload_n C.x C.b dX0_takeDigit_76 rfl (lv_at hl 0 rfl) ?_
      refine r_geti C hR t_r0 fl_X0_40 rfl dX0_takeDigit_77 ?_
      refine lv_iload_n C.x C.b dX0_takeDigit_80 rfl (lv_at hl 2 rfl) ?_
      obtain ⟨g9, hf⟩ := gd_e hf
      refine r_iast C hR hS tg7 g9 dX0_takeDigit_81 (fun H locs hR hS => ?_)
      obtain ⟨h10, e_h10⟩ : ∃ y, y = upI h (hpR h r0 6) (ix (hpI h r0 2)) x2 := ⟨_, rfl⟩
      rw [← e_h10] at hR
      have hf := lt_e hf e_h10
      have hE := eI e_h10 hE
      have t_r0 := tI e_h10 t_r0
      refine lv_iload_n C.x C.b dX0_takeDigit_82 rfl (lv_at hl 2 rfl) ?_
      refine lv_aload_n C.x C.b dX0_takeDigit_83 rfl (lv_at hl 0 rfl) ?_
      refine r_geti C hR t_r0 fl_X0_15 rfl dX0_takeDigit_84 ?_
      refine lv_icmp_ge (tgt := 94) C.x C.b dX0_takeDigit_87 (by decide) (fun c11 => ?_) (fun c11 => ?_)
      · have hf := it_t hf c11
        refine lv_iconst (v := (0 : Int32)) C.x C.b dX0_takeDigit_94 (by decide) ?_
        have hf := so_e hf
        subst hf
        exact r_zret C hr hlk hR hE hS z_0 dX0_takeDigit_95
      · have hf := it_f hf c11
        refine lv_iconst (v := (1 : Int32)) C.x C.b dX0_takeDigit_90 (by decide) ?_
        refine lv_goto (tgt := 95) C.x C.b dX0_takeDigit_91 (by decide) ?_
        have hf := so_e hf
        subst hf
        exact r_zret C hr hlk hR hE hS z_1 dX0_takeDigit_95
    have hf := it_f hf c41_1
    by_cases c41_2 : x1 = (2 : Int32)
    · have hf := it_t hf c41_2
      refine lv_tableIn (tgt := 96) C.x C.b dX0_takeDigit_12 (by rw [c41_2]; decide) (by rw [c41_2]; decide) (by rw [c41_2]; rfl) (by decide) ?_
      refine lv_aload_n C.x C.b dX0_takeDigit_96 rfl (lv_at hl 0 rfl) ?_
      obtain ⟨g12, hf⟩ := gd_e hf
      refine r_getr C hR t_r0 fl_X0_25 (by decide) (nz_e g12) dX0_takeDigit_97 (fun tq13 => ?_)
      have tg12 := okA tq13 rfl
      refine lv_aload_n C.x C.b dX0_takeDigit_100 rfl (lv_at hl 0 rfl) ?_
      refine r_geti C hR t_r0 fl_X0_40 rfl dX0_takeDigit_101 ?_
      refine lv_iload_n C.x C.b dX0_takeDigit_104 rfl (lv_at hl 2 rfl) ?_
      obtain ⟨g14, hf⟩ := gd_e hf
      refine r_iast C hR hS tg12 g14 dX0_takeDigit_105 (fun H locs hR hS => ?_)
      obtain ⟨h15, e_h15⟩ : ∃ y, y = upI h (hpR h r0 7) (ix (hpI h r0 2)) x2 := ⟨_, rfl⟩
      rw [← e_h15] at hR
      have hf := lt_e hf e_h15
      have hE := eI e_h15 hE
      have t_r0 := tI e_h15 t_r0
      refine lv_iload_n C.x C.b dX0_takeDigit_106 rfl (lv_at hl 2 rfl) ?_
      refine lv_iconst (v := (1 : Int32)) C.x C.b dX0_takeDigit_107 (by decide) ?_
      refine lv_icmp_lt (tgt := 138) C.x C.b dX0_takeDigit_108 (by decide) (fun c16 => ?_) (fun c16 => ?_)
      · have hf := it_t hf c16
        refine lv_iconst (v := (0 : Int32)) C.x C.b dX0_takeDigit_138 (by decide) ?_
        have hf := so_e hf
        subst hf
        exact r_zret C hr hlk hR hE hS z_0 dX0_takeDigit_139
      · have hf := it_f hf c16
        refine lv_iload_n C.x C.b dX0_takeDigit_111 rfl (lv_at hl 2 rfl) ?_
        refine lv_iconst (v := (3 : Int32)) C.x C.b dX0_takeDigit_112 (by decide) ?_
        refine lv_icmp_gt (tgt := 138) C.x C.b dX0_takeDigit_113 (by decide) (fun c17 => ?_) (fun c17 => ?_)
        · have hf := it_t hf c17
          refine lv_iconst (v := (0 : Int32)) C.x C.b dX0_takeDigit_138 (by decide) ?_
          have hf := so_e hf
          subst hf
          exact r_zret C hr hlk hR hE hS z_0 dX0_takeDigit_139
        · have hf := it_f hf c17
          refine lv_aload_n C.x C.b dX0_takeDigit_116 rfl (lv_at hl 0 rfl) ?_
          obtain ⟨g18, hf⟩ := gd_e hf
          refine r_getr C hR t_r0 fl_X0_18 (by decide) (nz_e g18) dX0_takeDigit_117 (fun tq19 => ?_)
          have tg18 := okA tq19 rfl
          refine lv_aload_n C.x C.b dX0_takeDigit_120 rfl (lv_at hl 0 rfl) ?_
          refine r_geti C hR t_r0 fl_X0_40 rfl dX0_takeDigit_121 ?_
          obtain ⟨g20, hf⟩ := gd_e hf
          refine r_iald C hR tg18 g20 dX0_takeDigit_124 ?_
          refine lv_iload_n C.x C.b dX0_takeDigit_125 rfl (lv_at hl 2 rfl) ?_
          refine lv_iadd C.x C.b dX0_takeDigit_126 ?_
          refine lv_aload_n C.x C.b dX0_takeDigit_127 rfl (lv_at hl 0 rfl) ?_
          refine r_geti C hR t_r0 fl_X0_9 rfl dX0_takeDigit_128 ?_
          refine lv_icmp_gt (tgt := 138) C.x C.b dX0_takeDigit_131 (by decide) (fun c21 => ?_) (fun c21 => ?_)
          · have hf := it_t hf c21
            refine lv_iconst (v := (0 : Int32)) C.x C.b dX0_takeDigit_138 (by decide) ?_
            have hf := so_e hf
            subst hf
            exact r_zret C hr hlk hR hE hS z_0 dX0_takeDigit_139
          · have hf := it_f hf c21
            refine lv_iconst (v := (1 : Int32)) C.x C.b dX0_takeDigit_134 (by decide) ?_
            refine lv_goto (tgt := 139) C.x C.b dX0_takeDigit_135 (by decide) ?_
            have hf := so_e hf
            subst hf
            exact r_zret C hr hlk hR hE hS z_1 dX0_takeDigit_139
    have hf := it_f hf c41_2
    by_cases c41_3 : x1 = (3 : Int32)
    · have hf := it_t hf c41_3
      refine lv_tableIn (tgt := 140) C.x C.b dX0_takeDigit_12 (by rw [c41_3]; decide) (by rw [c41_3]; decide) (by rw [c41_3]; rfl) (by decide) ?_
      refine lv_aload_n C.x C.b dX0_takeDigit_140 rfl (lv_at hl 0 rfl) ?_
      obtain ⟨g22, hf⟩ := gd_e hf
      refine r_getr C hR t_r0 fl_X0_28 (by decide) (nz_e g22) dX0_takeDigit_141 (fun tq23 => ?_)
      have tg22 := okA tq23 rfl
      refine lv_aload_n C.x C.b dX0_takeDigit_144 rfl (lv_at hl 0 rfl) ?_
      refine r_geti C hR t_r0 fl_X0_40 rfl dX0_takeDigit_145 ?_
      refine lv_iload_n C.x C.b dX0_takeDigit_148 rfl (lv_at hl 2 rfl) ?_
      obtain ⟨g24, hf⟩ := gd_e hf
      refine r_iast C hR hS tg22 g24 dX0_takeDigit_149 (fun H locs hR hS => ?_)
      obtain ⟨h25, e_h25⟩ : ∃ y, y = upI h (hpR h r0 8) (ix (hpI h r0 2)) x2 := ⟨_, rfl⟩
      rw [← e_h25] at hR
      have hf := lt_e hf e_h25
      have hE := eI e_h25 hE
      have t_r0 := tI e_h25 t_r0
      refine lv_iload_n C.x C.b dX0_takeDigit_150 rfl (lv_at hl 2 rfl) ?_
      refine lv_iconst (v := (1 : Int32)) C.x C.b dX0_takeDigit_151 (by decide) ?_
      refine lv_icmp_lt (tgt := 182) C.x C.b dX0_takeDigit_152 (by decide) (fun c26 => ?_) (fun c26 => ?_)
      · have hf := it_t hf c26
        refine lv_iconst (v := (0 : Int32)) C.x C.b dX0_takeDigit_182 (by decide) ?_
        have hf := so_e hf
        subst hf
        exact r_zret C hr hlk hR hE hS z_0 dX0_takeDigit_183
      · have hf := it_f hf c26
        refine lv_iload_n C.x C.b dX0_takeDigit_155 rfl (lv_at hl 2 rfl) ?_
        refine lv_iconst (v := (3 : Int32)) C.x C.b dX0_takeDigit_156 (by decide) ?_
        refine lv_icmp_gt (tgt := 182) C.x C.b dX0_takeDigit_157 (by decide) (fun c27 => ?_) (fun c27 => ?_)
        · have hf := it_t hf c27
          refine lv_iconst (v := (0 : Int32)) C.x C.b dX0_takeDigit_182 (by decide) ?_
          have hf := so_e hf
          subst hf
          exact r_zret C hr hlk hR hE hS z_0 dX0_takeDigit_183
        · have hf := it_f hf c27
          refine lv_aload_n C.x C.b dX0_takeDigit_160 rfl (lv_at hl 0 rfl) ?_
          obtain ⟨g28, hf⟩ := gd_e hf
          refine r_getr C hR t_r0 fl_X0_22 (by decide) (nz_e g28) dX0_takeDigit_161 (fun tq29 => ?_)
          have tg28 := okA tq29 rfl
          refine lv_aload_n C.x C.b dX0_takeDigit_164 rfl (lv_at hl 0 rfl) ?_
          refine r_geti C hR t_r0 fl_X0_40 rfl dX0_takeDigit_165 ?_
          obtain ⟨g30, hf⟩ := gd_e hf
          refine r_iald C hR tg28 g30 dX0_takeDigit_168 ?_
          refine lv_iload_n C.x C.b dX0_takeDigit_169 rfl (lv_at hl 2 rfl) ?_
          refine lv_iadd C.x C.b dX0_takeDigit_170 ?_
          refine lv_aload_n C.x C.b dX0_takeDigit_171 rfl (lv_at hl 0 rfl) ?_
          refine r_geti C hR t_r0 fl_X0_15 rfl dX0_takeDigit_172 ?_
          refine lv_icmp_gt (tgt := 182) C.x C.b dX0_takeDigit_175 (by decide) (fun c31 => ?_) (fun c31 => ?_)
          · have hf := it_t hf c31
            refine lv_iconst (v := (0 : Int32)) C.x C.b dX0_takeDigit_182 (by decide) ?_
            have hf := so_e hf
            subst hf
            exact r_zret C hr hlk hR hE hS z_0 dX0_takeDigit_183
          · have hf := it_f hf c31
            refine lv_iconst (v := (1 : Int32)) C.x C.b dX0_takeDigit_178 (by decide) ?_
            refine lv_goto (tgt := 183) C.x C.b dX0_takeDigit_179 (by decide) ?_
            have hf := so_e hf
            subst hf
            exact r_zret C hr hlk hR hE hS z_1 dX0_takeDigit_183
    have hf := it_f hf c41_3
    by_cases c41_4 : x1 = (4 : Int32)
    · have hf := it_t hf c41_4
      refine lv_tableIn (tgt := 184) C.x C.b dX0_takeDigit_12 (by rw [c41_4]; decide) (by rw [c41_4]; decide) (by rw [c41_4]; rfl) (by decide) ?_
      refine lv_aload_n C.x C.b dX0_takeDigit_184 rfl (lv_at hl 0 rfl) ?_
      obtain ⟨g32, hf⟩ := gd_e hf
      refine r_getr C hR t_r0 fl_X0_31 (by decide) (nz_e g32) dX0_takeDigit_185 (fun tq33 => ?_)
      have tg32 := okA tq33 rfl
      refine lv_aload_n C.x C.b dX0_takeDigit_188 rfl (lv_at hl 0 rfl) ?_
      refine r_geti C hR t_r0 fl_X0_40 rfl dX0_takeDigit_189 ?_
      refine lv_iload_n C.x C.b dX0_takeDigit_192 rfl (lv_at hl 2 rfl) ?_
      obtain ⟨g34, hf⟩ := gd_e hf
      refine r_iast C hR hS tg32 g34 dX0_takeDigit_193 (fun H locs hR hS => ?_)
      obtain ⟨h35, e_h35⟩ : ∃ y, y = upI h (hpR h r0 9) (ix (hpI h r0 2)) x2 := ⟨_, rfl⟩
      rw [← e_h35] at hR
      have hf := lt_e hf e_h35
      have hE := eI e_h35 hE
      have t_r0 := tI e_h35 t_r0
      refine lv_iload_n C.x C.b dX0_takeDigit_194 rfl (lv_at hl 2 rfl) ?_
      refine lv_iconst (v := (1 : Int32)) C.x C.b dX0_takeDigit_195 (by decide) ?_
      refine lv_icmp_lt (tgt := 203) C.x C.b dX0_takeDigit_196 (by decide) (fun c36 => ?_) (fun c36 => ?_)
      · have hf := it_t hf c36
        refine lv_iconst (v := (0 : Int32)) C.x C.b dX0_takeDigit_203 (by decide) ?_
        have hf := so_e hf
        subst hf
        exact r_zret C hr hlk hR hE hS z_0 dX0_takeDigit_204
      · have hf := it_f hf c36
        refine lv_iconst (v := (1 : Int32)) C.x C.b dX0_takeDigit_199 (by decide) ?_
        refine lv_goto (tgt := 204) C.x C.b dX0_takeDigit_200 (by decide) ?_
        have hf := so_e hf
        subst hf
        exact r_zret C hr hlk hR hE hS z_1 dX0_takeDigit_204
    have hf := it_f hf c41_4
    refine lv_tableOut (tgt := 205) C.x C.b dX0_takeDigit_12 (tb_out 5 (by decide) (fun j hj => match j, hj with | 0, _ => fun q => c41_0 (q.trans (by decide)) | 1, _ => fun q => c41_1 (q.trans (by decide)) | 2, _ => fun q => c41_2 (q.trans (by decide)) | 3, _ => fun q => c41_3 (q.trans (by decide)) | 4, _ => fun q => c41_4 (q.trans (by decide)) | n + 5, hn => absurd hn (by omega))) (by decide) ?_
    refine lv_aload_n C.x C.b dX0_takeDigit_205 rfl (lv_at hl 0 rfl) ?_
    obtain ⟨g37, hf⟩ := gd_e hf
    refine r_getr C hR t_r0 fl_X0_34 (by decide) (nz_e g37) dX0_takeDigit_206 (fun tq38 => ?_)
    have tg37 := okA tq38 rfl
    refine lv_aload_n C.x C.b dX0_takeDigit_209 rfl (lv_at hl 0 rfl) ?_
    refine r_geti C hR t_r0 fl_X0_40 rfl dX0_takeDigit_210 ?_
    refine lv_iload_n C.x C.b dX0_takeDigit_213 rfl (lv_at hl 2 rfl) ?_
    obtain ⟨g39, hf⟩ := gd_e hf
    refine r_iast C hR hS tg37 g39 dX0_takeDigit_214 (fun H locs hR hS => ?_)
    obtain ⟨h40, e_h40⟩ : ∃ y, y = upI h (hpR h r0 10) (ix (hpI h r0 2)) x2 := ⟨_, rfl⟩
    rw [← e_h40] at hR
    have hf := lt_e hf e_h40
    have hE := eI e_h40 hE
    have t_r0 := tI e_h40 t_r0
    refine lv_iconst (v := (1 : Int32)) C.x C.b dX0_takeDigit_215 (by decide) ?_
    have hf := so_e hf
    subst hf
    exact r_zret C hr hlk hR hE hS z_1 dX0_takeDigit_216
  · have hf := it_f hf c1
    refine lv_iconst (v := (0 : Int32)) C.x C.b dX0_takeDigit_9 (by decide) ?_
    have hf := so_e hf
    subst hf
    exact r_zret C hr hlk hR hE hS z_0 dX0_takeDigit_10

def rm_X0_readLine : Room := { frames := 2, cells := 0, slots := 0, locals := 44 }
def P_X0_readLine_49 (G : Gt) (l : Launch) (p : Program) (e : Env) (s : State) (m : MethodId) (args : Array Value) (below : List Frame) (meth : Method) (c : Code) (h0 : Hp) (out : (Int32 × Hp)) (r0 : Nat) (r1 : Nat) (x2 : Int32) (x3 : Int32) (k : Hp → Int32 → Option (Int32 × Hp)) : Prop := ∀ (H : Heap) (locs : List Loc) (ls : Array Slot) (h : Hp) (x4 : Int32), k h x4 = some out → Ext h0 h → Rel G h H → va_S (AA G.2.2) s.heap H locs → hpT h r0 = (1, 0) → hpT h r1 = (1, 6) → lv_has ls 6 [(0, .ref (G.2.2 + r0)), (1, .ref (G.2.2 + r1)), (2, .int x2), (3, .int x3), (4, .int x4)] → W p l e rm_X0_readLine s m args below meth c H locs 0 0 (MQ below (Qm G h0 out.2 (some (.int out.1)) 0) args s 0 0 (AA G.2.2)) (F0 m 49 ls [])
def P_X0_readLine_14 (G : Gt) (l : Launch) (p : Program) (e : Env) (s : State) (m : MethodId) (args : Array Value) (below : List Frame) (meth : Method) (c : Code) (h0 : Hp) (out : (Int32 × Hp)) (r0 : Nat) (r1 : Nat) (x2 : Int32) (x3 : Int32) (k : Hp → Int32 → Option (Int32 × Hp)) : Prop := ∀ (H : Heap) (locs : List Loc) (ls : Array Slot) (h : Hp) (x4 : Int32), k h x4 = some out → Ext h0 h → Rel G h H → va_S (AA G.2.2) s.heap H locs → hpT h r0 = (1, 0) → hpT h r1 = (1, 6) → lv_has ls 6 [(0, .ref (G.2.2 + r0)), (1, .ref (G.2.2 + r1)), (2, .int x2), (3, .int x3), (4, .int x4)] → W p l e rm_X0_readLine s m args below meth c H locs 0 0 (MQ below (Qm G h0 out.2 (some (.int out.1)) 0) args s 0 0 (AA G.2.2)) (F0 m 14 ls [])
set_option maxRecDepth 100000 in
set_option maxHeartbeats 4000000 in
theorem w_X0_readLine_49 {G : Gt} {l : Launch} {p : Program} {e : Env} {s : State} {m : MethodId} {args : Array Value} {below : List Frame} {meth : Method} {c : Code} {h0 : Hp} {out : (Int32 × Hp)} {r0 : Nat} {r1 : Nat} {x2 : Int32} {x3 : Int32}  (C : Cx G p m c cX0_readLine 6 s args RX0) (hr : meth.sig.returnType = some .int) (hlk : meth.locks = false)  : P_X0_readLine_49 G l p e s m args below meth c h0 out r0 r1 x2 x3 (f_X0_readLine_49 r0 r1 x2 x3) := by
  intro H locs ls h x4 hf hE hR hS t_r0 t_r1 hl
  rw [f_X0_readLine_49] at hf
  refine lv_iload_n C.x C.b dX0_readLine_49 rfl (lv_at hl 2 rfl) ?_
  refine lv_iload C.x C.b dX0_readLine_50 (lv_at hl 4 rfl) ?_
  refine lv_iadd C.x C.b dX0_readLine_52 ?_
  have hf := so_e hf
  subst hf
  exact r_iret C hr hlk hR hE hS dX0_readLine_53
set_option maxRecDepth 100000 in
set_option maxHeartbeats 4000000 in
theorem w_X0_readLine_14 {G : Gt} {l : Launch} {p : Program} {e : Env} {s : State} {m : MethodId} {args : Array Value} {below : List Frame} {meth : Method} {c : Code} {h0 : Hp} {out : (Int32 × Hp)} {r0 : Nat} {r1 : Nat} {x2 : Int32} {x3 : Int32}  (C : Cx G p m c cX0_readLine 6 s args RX0) (hr : meth.sig.returnType = some .int) (hlk : meth.locks = false)  (n : Nat) : P_X0_readLine_14 G l p e s m args below meth c h0 out r0 r1 x2 x3 (f_X0_readLine_14 r0 r1 x2 x3 n) := by
  induction n with
  | zero => intro H locs ls h x4 hf hE hR hS t_r0 t_r1 hl; cases hf
  | succ n hk14 =>
    intro H locs ls h x4 hf hE hR hS t_r0 t_r1 hl
    rw [f_X0_readLine_14] at hf
    obtain ⟨k14, e_k14⟩ : ∃ y, y = f_X0_readLine_14 r0 r1 x2 x3 n := ⟨_, rfl⟩
    have hf := lt_e hf e_k14
    rw [← e_k14] at hk14
    refine lv_iload C.x C.b dX0_readLine_14 (lv_at hl 4 rfl) ?_
    refine lv_bipush (v := (6 : Int32)) C.x C.b dX0_readLine_16 (by decide) ?_
    refine lv_icmp_ge (tgt := 60) C.x C.b dX0_readLine_18 (by decide) (fun c2 => ?_) (fun c2 => ?_)
    · have hf := it_t hf c2
      refine lv_aload_n C.x C.b dX0_readLine_60 rfl (lv_at hl 0 rfl) ?_
      obtain ⟨g3, hf⟩ := gd_e hf
      refine r_getr C hR t_r0 fl_X0_37 (by decide) (nz_e g3) dX0_readLine_61 (fun tq4 => ?_)
      have tg3 := okA tq4 rfl
      refine lv_aload_n C.x C.b dX0_readLine_64 rfl (lv_at hl 0 rfl) ?_
      refine r_geti C hR t_r0 fl_X0_40 rfl dX0_readLine_65 ?_
      refine lv_iconst (v := (0 : Int32)) C.x C.b dX0_readLine_68 (by decide) ?_
      obtain ⟨g5, hf⟩ := gd_e hf
      refine r_iast C hR hS tg3 g5 dX0_readLine_69 (fun H locs hR hS => ?_)
      obtain ⟨h6, e_h6⟩ : ∃ y, y = upI h (hpR h r0 11) (ix (hpI h r0 2)) (0 : Int32) := ⟨_, rfl⟩
      rw [← e_h6] at hR
      have hf := lt_e hf e_h6
      have hE := eI e_h6 hE
      have t_r0 := tI e_h6 t_r0
      have t_r1 := tI e_h6 t_r1
      refine lv_aload_n C.x C.b dX0_readLine_70 rfl (lv_at hl 0 rfl) ?_
      refine lv_dup C.x C.b dX0_readLine_71 rfl ?_
      refine r_geti C hR t_r0 fl_X0_40 rfl dX0_readLine_72 ?_
      refine lv_iconst (v := (1 : Int32)) C.x C.b dX0_readLine_75 (by decide) ?_
      refine lv_iadd C.x C.b dX0_readLine_76 ?_
      refine r_puti C hR hS t_r0 fl_X0_40 fp_X0_0_2 rfl dX0_readLine_77 (fun H locs hR hS => ?_)
      obtain ⟨h7, e_h7⟩ : ∃ y, y = upI h6 r0 2 ((hpI h6 r0 2) + (1 : Int32)) := ⟨_, rfl⟩
      rw [← e_h7] at hR
      have hf := lt_e hf e_h7
      have hE := eI e_h7 hE
      have t_r0 := tI e_h7 t_r0
      have t_r1 := tI e_h7 t_r1
      refine lv_iconst (v := (-1 : Int32)) C.x C.b dX0_readLine_80 (by decide) ?_
      have hf := so_e hf
      subst hf
      exact r_iret C hr hlk hR hE hS dX0_readLine_81
    · have hf := it_f hf c2
      refine lv_aload_n C.x C.b dX0_readLine_21 rfl (lv_at hl 1 rfl) ?_
      refine lv_iload_n C.x C.b dX0_readLine_22 rfl (lv_at hl 2 rfl) ?_
      refine lv_iload C.x C.b dX0_readLine_23 (lv_at hl 4 rfl) ?_
      refine lv_iadd C.x C.b dX0_readLine_25 ?_
      refine lv_iload_n C.x C.b dX0_readLine_26 rfl (lv_at hl 3 rfl) ?_
      obtain ⟨q8, h_q8, hf⟩ := bd_e hf
      refine r_callV (As := [.int (x2 + x4), .int x3]) (rest := []) C hR hS t_r1 rfl mk_X6_digit cl_X0_162 (k_X6_digit t_r1 h_q8) ⟨⟨Nat.le_of_ble_eq_true rfl, Nat.le_of_ble_eq_true rfl⟩, ⟨rfl, rfl⟩, Nat.le_of_ble_eq_true rfl, Nat.le_of_ble_eq_true rfl⟩ rfl hl.1 rfl (Nat.le_of_ble_eq_true rfl) dX0_readLine_27 (fun H locs hR hS hE1 z_q8 => ?_)
      refine lv_istore (lv' := [(5, .int q8), (0, .ref (G.2.2 + r0)), (1, .ref (G.2.2 + r1)), (2, .int x2), (3, .int x3), (4, .int x4)]) C.x C.b dX0_readLine_30 hl (by decide) rfl (fun ls hl => ?_)
      refine lv_iload C.x C.b dX0_readLine_32 (lv_at hl 0 rfl) ?_
      refine lv_iconst (v := (-1 : Int32)) C.x C.b dX0_readLine_34 (by decide) ?_
      refine lv_icmp_eq (tgt := 49) C.x C.b dX0_readLine_35 (by decide) (fun c9 => ?_) (fun c9 => ?_)
      · have hf := it_t hf c9
        exact w_X0_readLine_49 C hr hlk _ _ _ _ _ hf hE hR hS t_r0 t_r1 (lv_sub hl [1, 2, 3, 4, 5] rfl)
      · have hf := it_f hf c9
        refine lv_aload_n C.x C.b dX0_readLine_38 rfl (lv_at hl 1 rfl) ?_
        refine lv_iload C.x C.b dX0_readLine_39 (lv_at hl 5 rfl) ?_
        refine lv_iload C.x C.b dX0_readLine_41 (lv_at hl 0 rfl) ?_
        obtain ⟨q10, h_q10, hf⟩ := bd_e hf
        refine r_callV (As := [.int x4, .int q8]) (rest := []) C hR hS t_r0 rfl mk_X0_takeDigit cl_X0_167 (k_X0_takeDigit t_r0 h_q10) ⟨⟨Nat.le_of_ble_eq_true rfl, Nat.le_of_ble_eq_true rfl⟩, ⟨rfl, rfl⟩, Nat.le_of_ble_eq_true rfl, Nat.le_of_ble_eq_true rfl⟩ rfl hl.1 rfl (Nat.le_of_ble_eq_true rfl) dX0_readLine_43 (fun H locs hR hS hE1 z_q10 => ?_)
        have hE := hE.tr hE1
        have t_r0 := hE1.at t_r0 (by decide)
        have t_r1 := hE1.at t_r1 (by decide)
        have z_q10 := z_q10 _ rfl
        refine lv_if_ne (tgt := 54) C.x C.b dX0_readLine_46 (by decide) (fun c11 => ?_) (fun c11 => ?_)
        · have hf := it_f hf c11
          obtain ⟨v12, e_v12⟩ : ∃ y : Int32, y = x4 + (1 : Int32) := ⟨_, rfl⟩
          have hf := lt_e hf e_v12
          refine lv_iinc (v := v12) (lv' := [(4, .int v12), (5, .int q8), (0, .ref (G.2.2 + r0)), (1, .ref (G.2.2 + r1)), (2, .int x2), (3, .int x3)]) C.x C.b dX0_readLine_54 hl (k := 5) rfl (by rw [e_v12]; rfl) (by decide) rfl (fun ls hl => ?_)
          refine lv_goto (tgt := 14) C.x C.b dX0_readLine_57 (by decide) ?_
          exact hk14 _ _ _ _ _ hf hE hR hS t_r0 t_r1 (lv_sub hl [2, 3, 4, 5, 0] rfl)
        · have hf := it_t hf c11
          exact w_X0_readLine_49 C hr hlk _ _ _ _ _ hf hE hR hS t_r0 t_r1 (lv_sub hl [1, 2, 3, 4, 5] rfl)
set_option maxRecDepth 100000 in
set_option maxHeartbeats 4000000 in
theorem k_X0_readLine {G : Gt} {l : Launch} {h : Hp} {r0 : Nat} {r1 : Nat} {x2 : Int32} {x3 : Int32} {out : (Int32 × Hp)} (t_r0 : hpT h r0 = (1, 0)) (t_r1 : hpT h r1 = (1, 6))  (hf : f_X0_readLine h r0 r1 x2 x3 = some out) : Mt G l yX0_readLine cX0_readLine 6 (some .int) rm_X0_readLine [.ref (G.2.2 + r0), .ref (G.2.2 + r1), .int x2, .int x3] h (some (.int out.1)) out.2 0 0 0 := by
  refine r_met (by decide +kernel) (Nat.le_of_ble_eq_true rfl) ?_
  intro p e s m args below meth c ls C hr hlk hnm hR hS hl
  have hE : Ext h h := Ext.rf
  have hl : lv_has ls 6 [(0, .ref (G.2.2 + r0)), (1, .ref (G.2.2 + r1)), (2, .int x2), (3, .int x3)] := hl
  rw [f_X0_readLine] at hf
  refine lv_aload_n C.x C.b dX0_readLine_0 rfl (lv_at hl 0 rfl) ?_
  refine r_geti C hR t_r0 fl_X0_40 rfl dX0_readLine_1 ?_
  refine lv_bipush (v := (8 : Int32)) C.x C.b dX0_readLine_4 (by decide) ?_
  refine lv_icmp_lt (tgt := 11) C.x C.b dX0_readLine_6 (by decide) (fun c1 => ?_) (fun c1 => ?_)
  · have hf := it_t hf c1
    refine lv_iconst (v := (0 : Int32)) C.x C.b dX0_readLine_11 (by decide) ?_
    refine lv_istore (lv' := [(4, .int (0 : Int32)), (0, .ref (G.2.2 + r0)), (1, .ref (G.2.2 + r1)), (2, .int x2), (3, .int x3)]) C.x C.b dX0_readLine_12 hl (by decide) rfl (fun ls hl => ?_)
    exact w_X0_readLine_14 C hr hlk FU _ _ _ _ _ hf hE hR hS t_r0 t_r1 (lv_sub hl [1, 2, 3, 4, 0] rfl)
  · have hf := it_f hf c1
    refine lv_iload_n C.x C.b dX0_readLine_9 rfl (lv_at hl 2 rfl) ?_
    have hf := so_e hf
    subst hf
    exact r_iret C hr hlk hR hE hS dX0_readLine_10

def rm_X1_of : Room := { frames := 0, cells := 0, slots := 0, locals := 0 }
set_option maxRecDepth 100000 in
set_option maxHeartbeats 4000000 in
theorem k_X1_of {G : Gt} {l : Launch} {h : Hp} {r0 : Nat} {x1 : Int32} {out : (Int32 × Hp)} (t_r0 : hpT h r0 = (1, 1))  (hf : f_X1_of h r0 x1 = some out) : Mt G l yX1_of cX1_of 2 (some .int) rm_X1_of [.ref (G.2.2 + r0), .int x1] h (some (.int out.1)) out.2 0 0 0 := by
  refine r_met (by decide +kernel) (Nat.le_of_ble_eq_true rfl) ?_
  intro p e s m args below meth c ls C hr hlk hnm hR hS hl
  have hE : Ext h h := Ext.rf
  have hl : lv_has ls 2 [(0, .ref (G.2.2 + r0)), (1, .int x1)] := hl
  rw [f_X1_of] at hf
  refine lv_aload_n C.x C.b dX1_of_0 rfl (lv_at hl 0 rfl) ?_
  refine lv_aload_n C.x C.b dX1_of_1 rfl (lv_at hl 0 rfl) ?_
  refine r_geti C hR t_r0 fl_X1_7 rfl dX1_of_2 ?_
  refine lv_ldc C.x C.b C.ow (C.ts _ lk_X1_13) dX1_of_5 ?_
  refine lv_imul C.x C.b dX1_of_7 ?_
  refine lv_sipush (v := (12345 : Int32)) C.x C.b dX1_of_8 (by decide) ?_
  refine lv_iadd C.x C.b dX1_of_11 ?_
  refine r_puti C hR hS t_r0 fl_X1_7 fp_X1_1_0 rfl dX1_of_12 (fun H locs hR hS => ?_)
  obtain ⟨h1, e_h1⟩ : ∃ y, y = upI h r0 0 (((hpI h r0 0) * (1103515245 : Int32)) + (12345 : Int32)) := ⟨_, rfl⟩
  rw [← e_h1] at hR
  have hf := lt_e hf e_h1
  have hE := eI e_h1 hE
  have t_r0 := tI e_h1 t_r0
  refine lv_iload_n C.x C.b dX1_of_15 rfl (lv_at hl 1 rfl) ?_
  refine lv_if_le (tgt := 31) C.x C.b dX1_of_16 (by decide) (fun c2 => ?_) (fun c2 => ?_)
  · have hf := it_t hf c2
    refine lv_iconst (v := (0 : Int32)) C.x C.b dX1_of_31 (by decide) ?_
    have hf := so_e hf
    subst hf
    exact r_iret C hr hlk hR hE hS dX1_of_32
  · have hf := it_f hf c2
    refine lv_aload_n C.x C.b dX1_of_19 rfl (lv_at hl 0 rfl) ?_
    refine r_geti C hR t_r0 fl_X1_7 rfl dX1_of_20 ?_
    refine lv_bipush (v := (16 : Int32)) C.x C.b dX1_of_23 (by decide) ?_
    refine lv_iushr C.x C.b dX1_of_25 rfl ?_
    refine lv_topi (fun v3 e_v3 => ?_)
    have hf := lt_e hf e_v3
    refine lv_iload_n C.x C.b dX1_of_26 rfl (lv_at hl 1 rfl) ?_
    obtain ⟨g4, hf⟩ := gd_e hf
    refine lv_irem C.x C.b dX1_of_27 (nz32_e g4) ?_
    refine lv_topi (fun v5 e_v5 => ?_)
    have hf := lt_e hf e_v5
    refine lv_goto (tgt := 32) C.x C.b dX1_of_28 (by decide) ?_
    have hf := so_e hf
    subst hf
    exact r_iret C hr hlk hR hE hS dX1_of_32

def rm_X2_isFull : Room := { frames := 0, cells := 0, slots := 0, locals := 0 }
set_option maxRecDepth 100000 in
set_option maxHeartbeats 4000000 in
theorem k_X2_isFull {G : Gt} {l : Launch} {h : Hp} {r0 : Nat} {out : Int32} (t_r0 : hpT h r0 = (1, 2))  (hf : f_X2_isFull h r0 = some out) : Mt G l yX2_isFull cX2_isFull 1 (some .boolean) rm_X2_isFull [.ref (G.2.2 + r0)] h (some (.int out)) h 1 0 0 := by
  refine r_met (by decide +kernel) (Nat.le_of_ble_eq_true rfl) ?_
  intro p e s m args below meth c ls C hr hlk hnm hR hS hl
  have hl : lv_has ls 1 [(0, .ref (G.2.2 + r0))] := hl
  rw [f_X2_isFull] at hf
  refine lv_aload_n C.x C.b dX2_isFull_0 rfl (lv_at hl 0 rfl) ?_
  refine r_geti C hR t_r0 fl_X2_19 rfl dX2_isFull_1 ?_
  refine lv_aload_n C.x C.b dX2_isFull_4 rfl (lv_at hl 0 rfl) ?_
  obtain ⟨g1, hf⟩ := gd_e hf
  refine r_getr C hR t_r0 fl_X2_7 (by decide) (nz_e g1) dX2_isFull_5 (fun tq2 => ?_)
  have tg1 := okA tq2 rfl
  refine r_alen C hR (Or.inl tg1) dX2_isFull_8 ?_
  refine lv_icmp_lt (tgt := 16) C.x C.b dX2_isFull_9 (by decide) (fun c3 => ?_) (fun c3 => ?_)
  · have hf := it_t hf c3
    refine lv_iconst (v := (0 : Int32)) C.x C.b dX2_isFull_16 (by decide) ?_
    have hf := so_e hf
    subst hf
    exact r_zret C hr hlk hR Ext.rf hS z_0 dX2_isFull_17
  · have hf := it_f hf c3
    refine lv_iconst (v := (1 : Int32)) C.x C.b dX2_isFull_12 (by decide) ?_
    refine lv_goto (tgt := 17) C.x C.b dX2_isFull_13 (by decide) ?_
    have hf := so_e hf
    subst hf
    exact r_zret C hr hlk hR Ext.rf hS z_1 dX2_isFull_17

def rm_X2_add : Room := { frames := 1, cells := 0, slots := 0, locals := 20 }
set_option maxRecDepth 100000 in
set_option maxHeartbeats 4000000 in
theorem k_X2_add {G : Gt} {l : Launch} {h : Hp} {r0 : Nat} {x1 : Int32} {x2 : Int32} {x3 : Int32} {out : Hp} (t_r0 : hpT h r0 = (1, 2))  (hf : f_X2_add h r0 x1 x2 x3 = some out) : Mt G l yX2_add cX2_add 4 (none) rm_X2_add [.ref (G.2.2 + r0), .int x1, .int x2, .int x3] h (none) out 0 0 0 := by
  refine r_met (by decide +kernel) (Nat.le_of_ble_eq_true rfl) ?_
  intro p e s m args below meth c ls C hr hlk hnm hR hS hl
  have hE : Ext h h := Ext.rf
  have hl : lv_has ls 4 [(0, .ref (G.2.2 + r0)), (1, .int x1), (2, .int x2), (3, .int x3)] := hl
  rw [f_X2_add] at hf
  refine lv_aload_n C.x C.b dX2_add_0 rfl (lv_at hl 0 rfl) ?_
  obtain ⟨q1, h_q1, hf⟩ := bd_e hf
  refine r_callV (As := []) (rest := []) C hR hS t_r0 rfl mk_X2_isFull cl_X2_23 (k_X2_isFull t_r0 h_q1) ⟨⟨Nat.le_of_ble_eq_true rfl, Nat.le_of_ble_eq_true rfl⟩, ⟨rfl, rfl⟩, Nat.le_of_ble_eq_true rfl, Nat.le_of_ble_eq_true rfl⟩ rfl hl.1 rfl (Nat.le_of_ble_eq_true rfl) dX2_add_1 (fun H locs hR hS hE1 z_q1 => ?_)
  have z_q1 := z_q1 _ rfl
  refine lv_if_ne (tgt := 47) C.x C.b dX2_add_4 (by decide) (fun c2 => ?_) (fun c2 => ?_)
  · have hf := it_f hf c2
    have hf := so_e hf
    subst hf
    exact r_vret C hr hlk hR hE hS dX2_add_47
  · have hf := it_t hf c2
    refine lv_aload_n C.x C.b dX2_add_7 rfl (lv_at hl 0 rfl) ?_
    obtain ⟨g3, hf⟩ := gd_e hf
    refine r_getr C hR t_r0 fl_X2_7 (by decide) (nz_e g3) dX2_add_8 (fun tq4 => ?_)
    have tg3 := okA tq4 rfl
    refine lv_aload_n C.x C.b dX2_add_11 rfl (lv_at hl 0 rfl) ?_
    refine r_geti C hR t_r0 fl_X2_19 rfl dX2_add_12 ?_
    refine lv_iload_n C.x C.b dX2_add_15 rfl (lv_at hl 1 rfl) ?_
    obtain ⟨g5, hf⟩ := gd_e hf
    refine r_iast C hR hS tg3 g5 dX2_add_16 (fun H locs hR hS => ?_)
    obtain ⟨h6, e_h6⟩ : ∃ y, y = upI h (hpR h r0 0) (ix (hpI h r0 3)) x1 := ⟨_, rfl⟩
    rw [← e_h6] at hR
    have hf := lt_e hf e_h6
    have hE := eI e_h6 hE
    have t_r0 := tI e_h6 t_r0
    refine lv_aload_n C.x C.b dX2_add_17 rfl (lv_at hl 0 rfl) ?_
    obtain ⟨g7, hf⟩ := gd_e hf
    refine r_getr C hR t_r0 fl_X2_13 (by decide) (nz_e g7) dX2_add_18 (fun tq8 => ?_)
    have tg7 := okA tq8 rfl
    refine lv_aload_n C.x C.b dX2_add_21 rfl (lv_at hl 0 rfl) ?_
    refine r_geti C hR t_r0 fl_X2_19 rfl dX2_add_22 ?_
    refine lv_iload_n C.x C.b dX2_add_25 rfl (lv_at hl 2 rfl) ?_
    obtain ⟨g9, hf⟩ := gd_e hf
    refine r_iast C hR hS tg7 g9 dX2_add_26 (fun H locs hR hS => ?_)
    obtain ⟨h10, e_h10⟩ : ∃ y, y = upI h6 (hpR h6 r0 1) (ix (hpI h6 r0 3)) x2 := ⟨_, rfl⟩
    rw [← e_h10] at hR
    have hf := lt_e hf e_h10
    have hE := eI e_h10 hE
    have t_r0 := tI e_h10 t_r0
    refine lv_aload_n C.x C.b dX2_add_27 rfl (lv_at hl 0 rfl) ?_
    obtain ⟨g11, hf⟩ := gd_e hf
    refine r_getr C hR t_r0 fl_X2_16 (by decide) (nz_e g11) dX2_add_28 (fun tq12 => ?_)
    have tg11 := okA tq12 rfl
    refine lv_aload_n C.x C.b dX2_add_31 rfl (lv_at hl 0 rfl) ?_
    refine r_geti C hR t_r0 fl_X2_19 rfl dX2_add_32 ?_
    refine lv_iload_n C.x C.b dX2_add_35 rfl (lv_at hl 3 rfl) ?_
    obtain ⟨g13, hf⟩ := gd_e hf
    refine r_iast C hR hS tg11 g13 dX2_add_36 (fun H locs hR hS => ?_)
    obtain ⟨h14, e_h14⟩ : ∃ y, y = upI h10 (hpR h10 r0 2) (ix (hpI h10 r0 3)) x3 := ⟨_, rfl⟩
    rw [← e_h14] at hR
    have hf := lt_e hf e_h14
    have hE := eI e_h14 hE
    have t_r0 := tI e_h14 t_r0
    refine lv_aload_n C.x C.b dX2_add_37 rfl (lv_at hl 0 rfl) ?_
    refine lv_dup C.x C.b dX2_add_38 rfl ?_
    refine r_geti C hR t_r0 fl_X2_19 rfl dX2_add_39 ?_
    refine lv_iconst (v := (1 : Int32)) C.x C.b dX2_add_42 (by decide) ?_
    refine lv_iadd C.x C.b dX2_add_43 ?_
    refine r_puti C hR hS t_r0 fl_X2_19 fp_X2_2_3 rfl dX2_add_44 (fun H locs hR hS => ?_)
    obtain ⟨h15, e_h15⟩ : ∃ y, y = upI h14 r0 3 ((hpI h14 r0 3) + (1 : Int32)) := ⟨_, rfl⟩
    rw [← e_h15] at hR
    have hf := lt_e hf e_h15
    have hE := eI e_h15 hE
    have t_r0 := tI e_h15 t_r0
    have hf := so_e hf
    subst hf
    exact r_vret C hr hlk hR hE hS dX2_add_47

def rm_X2_wipe : Room := { frames := 0, cells := 0, slots := 0, locals := 0 }
set_option maxRecDepth 100000 in
set_option maxHeartbeats 4000000 in
theorem k_X2_wipe {G : Gt} {l : Launch} {h : Hp} {r0 : Nat} {out : (Int32 × Hp)} (t_r0 : hpT h r0 = (1, 2))  (hf : f_X2_wipe h r0 = some out) : Mt G l yX2_wipe cX2_wipe 2 (some .int) rm_X2_wipe [.ref (G.2.2 + r0)] h (some (.int out.1)) out.2 0 0 0 := by
  refine r_met (by decide +kernel) (Nat.le_of_ble_eq_true rfl) ?_
  intro p e s m args below meth c ls C hr hlk hnm hR hS hl
  have hE : Ext h h := Ext.rf
  have hl : lv_has ls 2 [(0, .ref (G.2.2 + r0))] := hl
  rw [f_X2_wipe] at hf
  refine lv_aload_n C.x C.b dX2_wipe_0 rfl (lv_at hl 0 rfl) ?_
  refine r_geti C hR t_r0 fl_X2_19 rfl dX2_wipe_1 ?_
  refine lv_topi (fun v1 e_v1 => ?_)
  have hf := lt_e hf e_v1
  refine lv_istore_n (lv' := [(1, .int v1), (0, .ref (G.2.2 + r0))]) C.x C.b dX2_wipe_4 rfl hl (by decide) rfl (fun ls hl => ?_)
  refine lv_aload_n C.x C.b dX2_wipe_5 rfl (lv_at hl 1 rfl) ?_
  refine lv_iconst (v := (0 : Int32)) C.x C.b dX2_wipe_6 (by decide) ?_
  refine r_puti C hR hS t_r0 fl_X2_19 fp_X2_2_3 rfl dX2_wipe_7 (fun H locs hR hS => ?_)
  obtain ⟨h2, e_h2⟩ : ∃ y, y = upI h r0 3 (0 : Int32) := ⟨_, rfl⟩
  rw [← e_h2] at hR
  have hf := lt_e hf e_h2
  have hE := eI e_h2 hE
  have t_r0 := tI e_h2 t_r0
  refine lv_iload_n C.x C.b dX2_wipe_10 rfl (lv_at hl 0 rfl) ?_
  have hf := so_e hf
  subst hf
  exact r_iret C hr hlk hR hE hS dX2_wipe_11

def rm_X3_wipe : Room := { frames := 0, cells := 0, slots := 0, locals := 0 }
set_option maxRecDepth 100000 in
set_option maxHeartbeats 4000000 in
theorem k_X3_wipe {G : Gt} {l : Launch} {h : Hp} {r0 : Nat} {out : Hp} (t_r0 : hpT h r0 = (1, 3))  (hf : f_X3_wipe h r0 = some out) : Mt G l yX3_wipe cX3_wipe 1 (none) rm_X3_wipe [.ref (G.2.2 + r0)] h (none) out 0 0 0 := by
  refine r_met (by decide +kernel) (Nat.le_of_ble_eq_true rfl) ?_
  intro p e s m args below meth c ls C hr hlk hnm hR hS hl
  have hE : Ext h h := Ext.rf
  have hl : lv_has ls 1 [(0, .ref (G.2.2 + r0))] := hl
  rw [f_X3_wipe] at hf
  refine lv_aload_n C.x C.b dX3_wipe_0 rfl (lv_at hl 0 rfl) ?_
  refine lv_iconst (v := (0 : Int32)) C.x C.b dX3_wipe_1 (by decide) ?_
  refine r_puti C hR hS t_r0 fl_X3_16 fp_X3_3_1 rfl dX3_wipe_2 (fun H locs hR hS => ?_)
  obtain ⟨h1, e_h1⟩ : ∃ y, y = upI h r0 1 (0 : Int32) := ⟨_, rfl⟩
  rw [← e_h1] at hR
  have hf := lt_e hf e_h1
  have hE := eI e_h1 hE
  have t_r0 := tI e_h1 t_r0
  refine lv_aload_n C.x C.b dX3_wipe_5 rfl (lv_at hl 0 rfl) ?_
  refine lv_iconst (v := (0 : Int32)) C.x C.b dX3_wipe_6 (by decide) ?_
  refine r_puti C hR hS t_r0 fl_X3_20 fp_X3_3_2 rfl dX3_wipe_7 (fun H locs hR hS => ?_)
  obtain ⟨h2, e_h2⟩ : ∃ y, y = upI h1 r0 2 (0 : Int32) := ⟨_, rfl⟩
  rw [← e_h2] at hR
  have hf := lt_e hf e_h2
  have hE := eI e_h2 hE
  have t_r0 := tI e_h2 t_r0
  have hf := so_e hf
  subst hf
  exact r_vret C hr hlk hR hE hS dX3_wipe_10

def rm_X3_push : Room := { frames := 2, cells := 0, slots := 0, locals := 39 }
def P_X3_push_32 (G : Gt) (l : Launch) (p : Program) (e : Env) (s : State) (m : MethodId) (args : Array Value) (below : List Frame) (meth : Method) (c : Code) (h0 : Hp) (out : Hp) (r0 : Nat) (r1 : Nat) (k : Hp → Option Hp) : Prop := ∀ (H : Heap) (locs : List Loc) (ls : Array Slot) (h : Hp), k h = some out → Ext h0 h → Rel G h H → va_S (AA G.2.2) s.heap H locs → hpT h r0 = (1, 3) → hpT h r1 = (1, 0) → lv_has ls 2 [(0, .ref (G.2.2 + r0)), (1, .ref (G.2.2 + r1))] → W p l e rm_X3_push s m args below meth c H locs 0 0 (MQ below (Qm G h0 out (none) 0) args s 0 0 (AA G.2.2)) (F0 m 32 ls [])
set_option maxRecDepth 100000 in
set_option maxHeartbeats 4000000 in
theorem w_X3_push_32 {G : Gt} {l : Launch} {p : Program} {e : Env} {s : State} {m : MethodId} {args : Array Value} {below : List Frame} {meth : Method} {c : Code} {h0 : Hp} {out : Hp} {r0 : Nat} {r1 : Nat}  (C : Cx G p m c cX3_push 2 s args RX3) (hr : meth.sig.returnType = none) (hlk : meth.locks = false)  : P_X3_push_32 G l p e s m args below meth c h0 out r0 r1 (f_X3_push_32 r0 r1) := by
  intro H locs ls h hf hE hR hS t_r0 t_r1 hl
  rw [f_X3_push_32] at hf
  refine lv_aload_n C.x C.b dX3_push_32 rfl (lv_at hl 0 rfl) ?_
  obtain ⟨g5, hf⟩ := gd_e hf
  refine r_getr C hR t_r0 fl_X3_11 (by decide) (nz_e g5) dX3_push_33 (fun tq6 => ?_)
  have tg5 := okA tq6 rfl
  refine lv_aload_n C.x C.b dX3_push_36 rfl (lv_at hl 0 rfl) ?_
  refine r_geti C hR t_r0 fl_X3_16 rfl dX3_push_37 ?_
  refine lv_aload_n C.x C.b dX3_push_40 rfl (lv_at hl 0 rfl) ?_
  refine r_geti C hR t_r0 fl_X3_20 rfl dX3_push_41 ?_
  refine lv_iadd C.x C.b dX3_push_44 ?_
  refine lv_bipush (v := (15 : Int32)) C.x C.b dX3_push_45 (by decide) ?_
  refine lv_irem C.x C.b dX3_push_47 (by decide) ?_
  refine lv_topi (fun v7 e_v7 => ?_)
  have hf := lt_e hf e_v7
  obtain ⟨g8, hf⟩ := gd_e hf
  obtain ⟨g9, hf⟩ := gd_e hf
  refine r_aald C hR tg5 g8 (nz_e g9) dX3_push_48 (fun tg9 => ?_)
  refine lv_aload_n C.x C.b dX3_push_49 rfl (lv_at hl 1 rfl) ?_
  obtain ⟨q10, h_q10, hf⟩ := bd_e hf
  refine r_callV (As := [.ref (G.2.2 + r1)]) (rest := []) C hR hS tg9 rfl mk_X0_copy cl_X3_23 (k_X0_copy tg9 t_r1 h_q10) ⟨⟨Nat.le_of_ble_eq_true rfl, Nat.le_of_ble_eq_true rfl⟩, ⟨rfl, rfl⟩, Nat.le_of_ble_eq_true rfl, Nat.le_of_ble_eq_true rfl⟩ rfl hl.1 rfl (Nat.le_of_ble_eq_true rfl) dX3_push_50 (fun H locs hR hS hE1 z_q10 => ?_)
  have hE := hE.tr hE1
  have t_r0 := hE1.at t_r0 (by decide)
  have t_r1 := hE1.at t_r1 (by decide)
  refine lv_aload_n C.x C.b dX3_push_53 rfl (lv_at hl 0 rfl) ?_
  refine lv_dup C.x C.b dX3_push_54 rfl ?_
  refine r_geti C hR t_r0 fl_X3_20 rfl dX3_push_55 ?_
  refine lv_iconst (v := (1 : Int32)) C.x C.b dX3_push_58 (by decide) ?_
  refine lv_iadd C.x C.b dX3_push_59 ?_
  refine r_puti C hR hS t_r0 fl_X3_20 fp_X3_3_2 rfl dX3_push_60 (fun H locs hR hS => ?_)
  obtain ⟨h11, e_h11⟩ : ∃ y, y = upI q10 r0 2 ((hpI q10 r0 2) + (1 : Int32)) := ⟨_, rfl⟩
  rw [← e_h11] at hR
  have hf := lt_e hf e_h11
  have hE := eI e_h11 hE
  have t_r0 := tI e_h11 t_r0
  have t_r1 := tI e_h11 t_r1
  have hf := so_e hf
  subst hf
  exact r_vret C hr hlk hR hE hS dX3_push_63
set_option maxRecDepth 100000 in
set_option maxHeartbeats 4000000 in
theorem k_X3_push {G : Gt} {l : Launch} {h : Hp} {r0 : Nat} {r1 : Nat} {out : Hp} (t_r0 : hpT h r0 = (1, 3)) (t_r1 : hpT h r1 = (1, 0))  (hf : f_X3_push h r0 r1 = some out) : Mt G l yX3_push cX3_push 2 (none) rm_X3_push [.ref (G.2.2 + r0), .ref (G.2.2 + r1)] h (none) out 0 0 0 := by
  refine r_met (by decide +kernel) (Nat.le_of_ble_eq_true rfl) ?_
  intro p e s m args below meth c ls C hr hlk hnm hR hS hl
  have hE : Ext h h := Ext.rf
  have hl : lv_has ls 2 [(0, .ref (G.2.2 + r0)), (1, .ref (G.2.2 + r1))] := hl
  rw [f_X3_push] at hf
  refine lv_aload_n C.x C.b dX3_push_0 rfl (lv_at hl 0 rfl) ?_
  refine r_geti C hR t_r0 fl_X3_20 rfl dX3_push_1 ?_
  refine lv_bipush (v := (15 : Int32)) C.x C.b dX3_push_4 (by decide) ?_
  refine lv_icmp_ne (tgt := 32) C.x C.b dX3_push_6 (by decide) (fun c1 => ?_) (fun c1 => ?_)
  · have hf := it_f hf c1
    exact w_X3_push_32 C hr hlk _ _ _ _ hf hE hR hS t_r0 t_r1 (lv_sub hl [0, 1] rfl)
  · have hf := it_t hf c1
    refine lv_aload_n C.x C.b dX3_push_9 rfl (lv_at hl 0 rfl) ?_
    refine lv_aload_n C.x C.b dX3_push_10 rfl (lv_at hl 0 rfl) ?_
    refine r_geti C hR t_r0 fl_X3_16 rfl dX3_push_11 ?_
    refine lv_iconst (v := (1 : Int32)) C.x C.b dX3_push_14 (by decide) ?_
    refine lv_iadd C.x C.b dX3_push_15 ?_
    refine lv_bipush (v := (15 : Int32)) C.x C.b dX3_push_16 (by decide) ?_
    refine lv_irem C.x C.b dX3_push_18 (by decide) ?_
    refine lv_topi (fun v2 e_v2 => ?_)
    have hf := lt_e hf e_v2
    refine r_puti C hR hS t_r0 fl_X3_16 fp_X3_3_1 rfl dX3_push_19 (fun H locs hR hS => ?_)
    obtain ⟨h3, e_h3⟩ : ∃ y, y = upI h r0 1 v2 := ⟨_, rfl⟩
    rw [← e_h3] at hR
    have hf := lt_e hf e_h3
    have hE := eI e_h3 hE
    have t_r0 := tI e_h3 t_r0
    have t_r1 := tI e_h3 t_r1
    refine lv_aload_n C.x C.b dX3_push_22 rfl (lv_at hl 0 rfl) ?_
    refine lv_dup C.x C.b dX3_push_23 rfl ?_
    refine r_geti C hR t_r0 fl_X3_20 rfl dX3_push_24 ?_
    refine lv_iconst (v := (1 : Int32)) C.x C.b dX3_push_27 (by decide) ?_
    refine lv_isub C.x C.b dX3_push_28 ?_
    refine r_puti C hR hS t_r0 fl_X3_20 fp_X3_3_2 rfl dX3_push_29 (fun H locs hR hS => ?_)
    obtain ⟨h4, e_h4⟩ : ∃ y, y = upI h3 r0 2 ((hpI h3 r0 2) - (1 : Int32)) := ⟨_, rfl⟩
    rw [← e_h4] at hR
    have hf := lt_e hf e_h4
    have hE := eI e_h4 hE
    have t_r0 := tI e_h4 t_r0
    have t_r1 := tI e_h4 t_r1
    exact w_X3_push_32 C hr hlk _ _ _ _ hf hE hR hS t_r0 t_r1 (lv_sub hl [0, 1] rfl)

def rm_X3_pop : Room := { frames := 2, cells := 0, slots := 0, locals := 39 }
set_option maxRecDepth 100000 in
set_option maxHeartbeats 4000000 in
theorem k_X3_pop {G : Gt} {l : Launch} {h : Hp} {r0 : Nat} {r1 : Nat} {out : Hp} (t_r0 : hpT h r0 = (1, 3)) (t_r1 : hpT h r1 = (1, 0))  (hf : f_X3_pop h r0 r1 = some out) : Mt G l yX3_pop cX3_pop 2 (none) rm_X3_pop [.ref (G.2.2 + r0), .ref (G.2.2 + r1)] h (none) out 0 0 0 := by
  refine r_met (by decide +kernel) (Nat.le_of_ble_eq_true rfl) ?_
  intro p e s m args below meth c ls C hr hlk hnm hR hS hl
  have hE : Ext h h := Ext.rf
  have hl : lv_has ls 2 [(0, .ref (G.2.2 + r0)), (1, .ref (G.2.2 + r1))] := hl
  rw [f_X3_pop] at hf
  refine lv_aload_n C.x C.b dX3_pop_0 rfl (lv_at hl 0 rfl) ?_
  refine r_geti C hR t_r0 fl_X3_20 rfl dX3_pop_1 ?_
  refine lv_if_le (tgt := 38) C.x C.b dX3_pop_4 (by decide) (fun c1 => ?_) (fun c1 => ?_)
  · have hf := it_t hf c1
    have hf := so_e hf
    subst hf
    exact r_vret C hr hlk hR hE hS dX3_pop_38
  · have hf := it_f hf c1
    refine lv_aload_n C.x C.b dX3_pop_7 rfl (lv_at hl 0 rfl) ?_
    refine lv_dup C.x C.b dX3_pop_8 rfl ?_
    refine r_geti C hR t_r0 fl_X3_20 rfl dX3_pop_9 ?_
    refine lv_iconst (v := (1 : Int32)) C.x C.b dX3_pop_12 (by decide) ?_
    refine lv_isub C.x C.b dX3_pop_13 ?_
    refine r_puti C hR hS t_r0 fl_X3_20 fp_X3_3_2 rfl dX3_pop_14 (fun H locs hR hS => ?_)
    obtain ⟨h2, e_h2⟩ : ∃ y, y = upI h r0 2 ((hpI h r0 2) - (1 : Int32)) := ⟨_, rfl⟩
    rw [← e_h2] at hR
    have hf := lt_e hf e_h2
    have hE := eI e_h2 hE
    have t_r0 := tI e_h2 t_r0
    have t_r1 := tI e_h2 t_r1
    refine lv_aload_n C.x C.b dX3_pop_17 rfl (lv_at hl 1 rfl) ?_
    refine lv_aload_n C.x C.b dX3_pop_18 rfl (lv_at hl 0 rfl) ?_
    obtain ⟨g3, hf⟩ := gd_e hf
    refine r_getr C hR t_r0 fl_X3_11 (by decide) (nz_e g3) dX3_pop_19 (fun tq4 => ?_)
    have tg3 := okA tq4 rfl
    refine lv_aload_n C.x C.b dX3_pop_22 rfl (lv_at hl 0 rfl) ?_
    refine r_geti C hR t_r0 fl_X3_16 rfl dX3_pop_23 ?_
    refine lv_aload_n C.x C.b dX3_pop_26 rfl (lv_at hl 0 rfl) ?_
    refine r_geti C hR t_r0 fl_X3_20 rfl dX3_pop_27 ?_
    refine lv_iadd C.x C.b dX3_pop_30 ?_
    refine lv_bipush (v := (15 : Int32)) C.x C.b dX3_pop_31 (by decide) ?_
    refine lv_irem C.x C.b dX3_pop_33 (by decide) ?_
    refine lv_topi (fun v5 e_v5 => ?_)
    have hf := lt_e hf e_v5
    obtain ⟨g6, hf⟩ := gd_e hf
    obtain ⟨g7, hf⟩ := gd_e hf
    refine r_aald C hR tg3 g6 (nz_e g7) dX3_pop_34 (fun tg7 => ?_)
    obtain ⟨q8, h_q8, hf⟩ := bd_e hf
    refine r_callV (As := [.ref (G.2.2 + (hpR h2 (hpR h2 r0 0) (ix v5)))]) (rest := []) C hR hS t_r1 rfl mk_X0_copy cl_X3_23 (k_X0_copy t_r1 tg7 h_q8) ⟨⟨Nat.le_of_ble_eq_true rfl, Nat.le_of_ble_eq_true rfl⟩, ⟨rfl, rfl⟩, Nat.le_of_ble_eq_true rfl, Nat.le_of_ble_eq_true rfl⟩ rfl hl.1 rfl (Nat.le_of_ble_eq_true rfl) dX3_pop_35 (fun H locs hR hS hE1 z_q8 => ?_)
    have hE := hE.tr hE1
    have t_r0 := hE1.at t_r0 (by decide)
    have t_r1 := hE1.at t_r1 (by decide)
    have hf := so_e hf
    subst hf
    exact r_vret C hr hlk hR hE hS dX3_pop_38

def rm_X4_start : Room := { frames := 0, cells := 0, slots := 0, locals := 0 }
set_option maxRecDepth 100000 in
set_option maxHeartbeats 4000000 in
theorem k_X4_start {G : Gt} {l : Launch} {h : Hp} {r0 : Nat} {out : Hp} (t_r0 : hpT h r0 = (1, 4))  (hf : f_X4_start h r0 = some out) : Mt G l yX4_start cX4_start 1 (none) rm_X4_start [.ref (G.2.2 + r0)] h (none) out 0 0 0 := by
  refine r_met (by decide +kernel) (Nat.le_of_ble_eq_true rfl) ?_
  intro p e s m args below meth c ls C hr hlk hnm hR hS hl
  have hE : Ext h h := Ext.rf
  have hl : lv_has ls 1 [(0, .ref (G.2.2 + r0))] := hl
  rw [f_X4_start] at hf
  refine lv_aload_n C.x C.b dX4_start_0 rfl (lv_at hl 0 rfl) ?_
  refine lv_iconst (v := (0 : Int32)) C.x C.b dX4_start_1 (by decide) ?_
  refine r_puti C hR hS t_r0 fl_X4_21 fp_X4_4_3 rfl dX4_start_2 (fun H locs hR hS => ?_)
  obtain ⟨h1, e_h1⟩ : ∃ y, y = upI h r0 3 (0 : Int32) := ⟨_, rfl⟩
  rw [← e_h1] at hR
  have hf := lt_e hf e_h1
  have hE := eI e_h1 hE
  have t_r0 := tI e_h1 t_r0
  have hf := so_e hf
  subst hf
  exact r_vret C hr hlk hR hE hS dX4_start_5

def rm_X4_addNumber : Room := { frames := 0, cells := 0, slots := 0, locals := 0 }
set_option maxRecDepth 100000 in
set_option maxHeartbeats 4000000 in
theorem k_X4_addNumber {G : Gt} {l : Launch} {h : Hp} {r0 : Nat} {x1 : Int32} {out : Hp} (t_r0 : hpT h r0 = (1, 4))  (hf : f_X4_addNumber h r0 x1 = some out) : Mt G l yX4_addNumber cX4_addNumber 2 (none) rm_X4_addNumber [.ref (G.2.2 + r0), .int x1] h (none) out 0 0 0 := by
  refine r_met (by decide +kernel) (Nat.le_of_ble_eq_true rfl) ?_
  intro p e s m args below meth c ls C hr hlk hnm hR hS hl
  have hE : Ext h h := Ext.rf
  have hl : lv_has ls 2 [(0, .ref (G.2.2 + r0)), (1, .int x1)] := hl
  rw [f_X4_addNumber] at hf
  refine lv_aload_n C.x C.b dX4_addNumber_0 rfl (lv_at hl 0 rfl) ?_
  refine r_geti C hR t_r0 fl_X4_21 rfl dX4_addNumber_1 ?_
  refine lv_aload_n C.x C.b dX4_addNumber_4 rfl (lv_at hl 0 rfl) ?_
  obtain ⟨g1, hf⟩ := gd_e hf
  refine r_getr C hR t_r0 fl_X4_9 (by decide) (nz_e g1) dX4_addNumber_5 (fun tq2 => ?_)
  have tg1 := okA tq2 rfl
  refine r_alen C hR (Or.inl tg1) dX4_addNumber_8 ?_
  refine lv_icmp_ge (tgt := 32) C.x C.b dX4_addNumber_9 (by decide) (fun c3 => ?_) (fun c3 => ?_)
  · have hf := it_t hf c3
    have hf := so_e hf
    subst hf
    exact r_vret C hr hlk hR hE hS dX4_addNumber_32
  · have hf := it_f hf c3
    refine lv_aload_n C.x C.b dX4_addNumber_12 rfl (lv_at hl 0 rfl) ?_
    refine r_getr C hR t_r0 fl_X4_9 (by decide) (nz_e g1) dX4_addNumber_13 (fun tq4 => ?_)
    refine lv_aload_n C.x C.b dX4_addNumber_16 rfl (lv_at hl 0 rfl) ?_
    refine r_geti C hR t_r0 fl_X4_21 rfl dX4_addNumber_17 ?_
    refine lv_iload_n C.x C.b dX4_addNumber_20 rfl (lv_at hl 1 rfl) ?_
    obtain ⟨g5, hf⟩ := gd_e hf
    refine r_iast C hR hS tg1 g5 dX4_addNumber_21 (fun H locs hR hS => ?_)
    obtain ⟨h6, e_h6⟩ : ∃ y, y = upI h (hpR h r0 0) (ix (hpI h r0 3)) x1 := ⟨_, rfl⟩
    rw [← e_h6] at hR
    have hf := lt_e hf e_h6
    have hE := eI e_h6 hE
    have t_r0 := tI e_h6 t_r0
    refine lv_aload_n C.x C.b dX4_addNumber_22 rfl (lv_at hl 0 rfl) ?_
    refine lv_dup C.x C.b dX4_addNumber_23 rfl ?_
    refine r_geti C hR t_r0 fl_X4_21 rfl dX4_addNumber_24 ?_
    refine lv_iconst (v := (1 : Int32)) C.x C.b dX4_addNumber_27 (by decide) ?_
    refine lv_iadd C.x C.b dX4_addNumber_28 ?_
    refine r_puti C hR hS t_r0 fl_X4_21 fp_X4_4_3 rfl dX4_addNumber_29 (fun H locs hR hS => ?_)
    obtain ⟨h7, e_h7⟩ : ∃ y, y = upI h6 r0 3 ((hpI h6 r0 3) + (1 : Int32)) := ⟨_, rfl⟩
    rw [← e_h7] at hR
    have hf := lt_e hf e_h7
    have hE := eI e_h7 hE
    have t_r0 := tI e_h7 t_r0
    have hf := so_e hf
    subst hf
    exact r_vret C hr hlk hR hE hS dX4_addNumber_32

def rm_X4_addSign : Room := { frames := 1, cells := 0, slots := 0, locals := 21 }
set_option maxRecDepth 100000 in
set_option maxHeartbeats 4000000 in
theorem k_X4_addSign {G : Gt} {l : Launch} {h : Hp} {r0 : Nat} {x1 : Int32} {out : Hp} (t_r0 : hpT h r0 = (1, 4))  (hf : f_X4_addSign h r0 x1 = some out) : Mt G l yX4_addSign cX4_addSign 2 (none) rm_X4_addSign [.ref (G.2.2 + r0), .int x1] h (none) out 0 0 0 := by
  refine r_met (by decide +kernel) (Nat.le_of_ble_eq_true rfl) ?_
  intro p e s m args below meth c ls C hr hlk hnm hR hS hl
  have hE : Ext h h := Ext.rf
  have hl : lv_has ls 2 [(0, .ref (G.2.2 + r0)), (1, .int x1)] := hl
  rw [f_X4_addSign] at hf
  refine lv_aload_n C.x C.b dX4_addSign_0 rfl (lv_at hl 0 rfl) ?_
  refine lv_iload_n C.x C.b dX4_addSign_1 rfl (lv_at hl 1 rfl) ?_
  refine lv_ineg C.x C.b dX4_addSign_2 ?_
  obtain ⟨q1, h_q1, hf⟩ := bd_e hf
  refine r_callV (As := [.int (-x1)]) (rest := []) C hR hS t_r0 rfl mk_X4_addNumber cl_X4_25 (k_X4_addNumber t_r0 h_q1) ⟨⟨Nat.le_of_ble_eq_true rfl, Nat.le_of_ble_eq_true rfl⟩, ⟨rfl, rfl⟩, Nat.le_of_ble_eq_true rfl, Nat.le_of_ble_eq_true rfl⟩ rfl hl.1 rfl (Nat.le_of_ble_eq_true rfl) dX4_addSign_3 (fun H locs hR hS hE1 z_q1 => ?_)
  have hE := hE.tr hE1
  have t_r0 := hE1.at t_r0 (by decide)
  have hf := so_e hf
  subst hf
  exact r_vret C hr hlk hR hE hS dX4_addSign_6

def rm_X4_copy : Room := { frames := 1, cells := 0, slots := 0, locals := 18 }
set_option maxRecDepth 100000 in
set_option maxHeartbeats 4000000 in
theorem k_X4_copy {G : Gt} {l : Launch} {h : Hp} {r0 : Nat} {r1 : Nat} {out : Hp} (t_r0 : hpT h r0 = (1, 4)) (t_r1 : hpT h r1 = (1, 4))  (hf : f_X4_copy h r0 r1 = some out) : Mt G l yX4_copy cX4_copy 2 (none) rm_X4_copy [.ref (G.2.2 + r0), .ref (G.2.2 + r1)] h (none) out 0 0 0 := by
  refine r_met (by decide +kernel) (Nat.le_of_ble_eq_true rfl) ?_
  intro p e s m args below meth c ls C hr hlk hnm hR hS hl
  have hE : Ext h h := Ext.rf
  have hl : lv_has ls 2 [(0, .ref (G.2.2 + r0)), (1, .ref (G.2.2 + r1))] := hl
  rw [f_X4_copy] at hf
  refine lv_aload_n C.x C.b dX4_copy_0 rfl (lv_at hl 0 rfl) ?_
  refine lv_aload_n C.x C.b dX4_copy_1 rfl (lv_at hl 1 rfl) ?_
  refine r_geti C hR t_r1 fl_X4_21 rfl dX4_copy_2 ?_
  refine r_puti C hR hS t_r0 fl_X4_21 fp_X4_4_3 rfl dX4_copy_5 (fun H locs hR hS => ?_)
  obtain ⟨h1, e_h1⟩ : ∃ y, y = upI h r0 3 (hpI h r1 3) := ⟨_, rfl⟩
  rw [← e_h1] at hR
  have hf := lt_e hf e_h1
  have hE := eI e_h1 hE
  have t_r0 := tI e_h1 t_r0
  have t_r1 := tI e_h1 t_r1
  refine lv_aload_n C.x C.b dX4_copy_8 rfl (lv_at hl 1 rfl) ?_
  obtain ⟨g2, hf⟩ := gd_e hf
  refine r_getr C hR t_r1 fl_X4_9 (by decide) (nz_e g2) dX4_copy_9 (fun tq3 => ?_)
  have tg2 := okA tq3 rfl
  refine lv_iconst (v := (0 : Int32)) C.x C.b dX4_copy_12 (by decide) ?_
  refine lv_aload_n C.x C.b dX4_copy_13 rfl (lv_at hl 0 rfl) ?_
  obtain ⟨g4, hf⟩ := gd_e hf
  refine r_getr C hR t_r0 fl_X4_9 (by decide) (nz_e g4) dX4_copy_14 (fun tq5 => ?_)
  have tg4 := okA tq5 rfl
  refine lv_iconst (v := (0 : Int32)) C.x C.b dX4_copy_17 (by decide) ?_
  refine lv_bipush (v := (40 : Int32)) C.x C.b dX4_copy_18 (by decide) ?_
  obtain ⟨g6, hf⟩ := gd_e hf
  refine r_copy C hR hS hl.1 tg2 tg4 g6 lk_X4_29 lk_System (Nat.le_of_ble_eq_true rfl) (Nat.le_of_ble_eq_true rfl) dX4_copy_20 (fun H locs hR hS => ?_)
  obtain ⟨h7, e_h7⟩ : ∃ y, y = cpI h1 (hpR h1 r1 0) (ix (0 : Int32)) (hpR h1 r0 0) (ix (0 : Int32)) (ix (40 : Int32)) := ⟨_, rfl⟩
  rw [← e_h7] at hR
  have hf := lt_e hf e_h7
  have hE := eC e_h7 hE
  have t_r0 := tC e_h7 t_r0
  have t_r1 := tC e_h7 t_r1
  have hf := so_e hf
  subst hf
  exact r_vret C hr hlk hR hE hS dX4_copy_23

def rm_X4_putNone : Room := { frames := 2, cells := 0, slots := 0, locals := 42 }
set_option maxRecDepth 100000 in
set_option maxHeartbeats 4000000 in
theorem k_X4_putNone {G : Gt} {l : Launch} {h : Hp} {r0 : Nat} {out : Hp} (t_r0 : hpT h r0 = (1, 4))  (hf : f_X4_putNone h r0 = some out) : Mt G l yX4_putNone cX4_putNone 1 (none) rm_X4_putNone [.ref (G.2.2 + r0)] h (none) out 0 0 0 := by
  refine r_met (by decide +kernel) (Nat.le_of_ble_eq_true rfl) ?_
  intro p e s m args below meth c ls C hr hlk hnm hR hS hl
  have hE : Ext h h := Ext.rf
  have hl : lv_has ls 1 [(0, .ref (G.2.2 + r0))] := hl
  rw [f_X4_putNone] at hf
  refine lv_aload_n C.x C.b dX4_putNone_0 rfl (lv_at hl 0 rfl) ?_
  obtain ⟨q1, h_q1, hf⟩ := bd_e hf
  refine r_callV (As := []) (rest := []) C hR hS t_r0 rfl mk_X4_start cl_X4_35 (k_X4_start t_r0 h_q1) ⟨⟨Nat.le_of_ble_eq_true rfl, Nat.le_of_ble_eq_true rfl⟩, ⟨rfl, rfl⟩, Nat.le_of_ble_eq_true rfl, Nat.le_of_ble_eq_true rfl⟩ rfl hl.1 rfl (Nat.le_of_ble_eq_true rfl) dX4_putNone_1 (fun H locs hR hS hE1 z_q1 => ?_)
  have hE := hE.tr hE1
  have t_r0 := hE1.at t_r0 (by decide)
  refine lv_aload_n C.x C.b dX4_putNone_4 rfl (lv_at hl 0 rfl) ?_
  refine lv_iconst (v := (1 : Int32)) C.x C.b dX4_putNone_5 (by decide) ?_
  obtain ⟨q2, h_q2, hf⟩ := bd_e hf
  refine r_callV (As := [.int (1 : Int32)]) (rest := []) C hR hS t_r0 rfl mk_X4_addNumber cl_X4_25 (k_X4_addNumber t_r0 h_q2) ⟨⟨Nat.le_of_ble_eq_true rfl, Nat.le_of_ble_eq_true rfl⟩, ⟨rfl, rfl⟩, Nat.le_of_ble_eq_true rfl, Nat.le_of_ble_eq_true rfl⟩ rfl hl.1 rfl (Nat.le_of_ble_eq_true rfl) dX4_putNone_6 (fun H locs hR hS hE1 z_q2 => ?_)
  have hE := hE.tr hE1
  have t_r0 := hE1.at t_r0 (by decide)
  refine lv_aload_n C.x C.b dX4_putNone_9 rfl (lv_at hl 0 rfl) ?_
  refine lv_bipush (v := (111 : Int32)) C.x C.b dX4_putNone_10 (by decide) ?_
  obtain ⟨q3, h_q3, hf⟩ := bd_e hf
  refine r_callV (As := [.int (111 : Int32)]) (rest := []) C hR hS t_r0 rfl mk_X4_addSign cl_X4_38 (k_X4_addSign t_r0 h_q3) ⟨⟨Nat.le_of_ble_eq_true rfl, Nat.le_of_ble_eq_true rfl⟩, ⟨rfl, rfl⟩, Nat.le_of_ble_eq_true rfl, Nat.le_of_ble_eq_true rfl⟩ rfl hl.1 rfl (Nat.le_of_ble_eq_true rfl) dX4_putNone_12 (fun H locs hR hS hE1 z_q3 => ?_)
  have hE := hE.tr hE1
  have t_r0 := hE1.at t_r0 (by decide)
  refine lv_aload_n C.x C.b dX4_putNone_15 rfl (lv_at hl 0 rfl) ?_
  refine lv_iconst (v := (1 : Int32)) C.x C.b dX4_putNone_16 (by decide) ?_
  obtain ⟨q4, h_q4, hf⟩ := bd_e hf
  refine r_callV (As := [.int (1 : Int32)]) (rest := []) C hR hS t_r0 rfl mk_X4_addNumber cl_X4_25 (k_X4_addNumber t_r0 h_q4) ⟨⟨Nat.le_of_ble_eq_true rfl, Nat.le_of_ble_eq_true rfl⟩, ⟨rfl, rfl⟩, Nat.le_of_ble_eq_true rfl, Nat.le_of_ble_eq_true rfl⟩ rfl hl.1 rfl (Nat.le_of_ble_eq_true rfl) dX4_putNone_17 (fun H locs hR hS hE1 z_q4 => ?_)
  have hE := hE.tr hE1
  have t_r0 := hE1.at t_r0 (by decide)
  refine lv_aload_n C.x C.b dX4_putNone_20 rfl (lv_at hl 0 rfl) ?_
  refine lv_bipush (v := (62 : Int32)) C.x C.b dX4_putNone_21 (by decide) ?_
  obtain ⟨q5, h_q5, hf⟩ := bd_e hf
  refine r_callV (As := [.int (62 : Int32)]) (rest := []) C hR hS t_r0 rfl mk_X4_addSign cl_X4_38 (k_X4_addSign t_r0 h_q5) ⟨⟨Nat.le_of_ble_eq_true rfl, Nat.le_of_ble_eq_true rfl⟩, ⟨rfl, rfl⟩, Nat.le_of_ble_eq_true rfl, Nat.le_of_ble_eq_true rfl⟩ rfl hl.1 rfl (Nat.le_of_ble_eq_true rfl) dX4_putNone_23 (fun H locs hR hS hE1 z_q5 => ?_)
  have hE := hE.tr hE1
  have t_r0 := hE1.at t_r0 (by decide)
  refine lv_aload_n C.x C.b dX4_putNone_26 rfl (lv_at hl 0 rfl) ?_
  refine lv_bipush (v := (43 : Int32)) C.x C.b dX4_putNone_27 (by decide) ?_
  obtain ⟨q6, h_q6, hf⟩ := bd_e hf
  refine r_callV (As := [.int (43 : Int32)]) (rest := []) C hR hS t_r0 rfl mk_X4_addSign cl_X4_38 (k_X4_addSign t_r0 h_q6) ⟨⟨Nat.le_of_ble_eq_true rfl, Nat.le_of_ble_eq_true rfl⟩, ⟨rfl, rfl⟩, Nat.le_of_ble_eq_true rfl, Nat.le_of_ble_eq_true rfl⟩ rfl hl.1 rfl (Nat.le_of_ble_eq_true rfl) dX4_putNone_29 (fun H locs hR hS hE1 z_q6 => ?_)
  have hE := hE.tr hE1
  have t_r0 := hE1.at t_r0 (by decide)
  have hf := so_e hf
  subst hf
  exact r_vret C hr hlk hR hE hS dX4_putNone_32

def rm_X4_putLaw : Room := { frames := 2, cells := 0, slots := 0, locals := 42 }
set_option maxRecDepth 100000 in
set_option maxHeartbeats 4000000 in
theorem k_X4_putLaw {G : Gt} {l : Launch} {h : Hp} {r0 : Nat} {x1 : Int32} {x2 : Int32} {out : Hp} (t_r0 : hpT h r0 = (1, 4))  (hf : f_X4_putLaw h r0 x1 x2 = some out) : Mt G l yX4_putLaw cX4_putLaw 3 (none) rm_X4_putLaw [.ref (G.2.2 + r0), .int x1, .int x2] h (none) out 0 0 0 := by
  refine r_met (by decide +kernel) (Nat.le_of_ble_eq_true rfl) ?_
  intro p e s m args below meth c ls C hr hlk hnm hR hS hl
  have hE : Ext h h := Ext.rf
  have hl : lv_has ls 3 [(0, .ref (G.2.2 + r0)), (1, .int x1), (2, .int x2)] := hl
  rw [f_X4_putLaw] at hf
  refine lv_aload_n C.x C.b dX4_putLaw_0 rfl (lv_at hl 0 rfl) ?_
  obtain ⟨q1, h_q1, hf⟩ := bd_e hf
  refine r_callV (As := []) (rest := []) C hR hS t_r0 rfl mk_X4_start cl_X4_35 (k_X4_start t_r0 h_q1) ⟨⟨Nat.le_of_ble_eq_true rfl, Nat.le_of_ble_eq_true rfl⟩, ⟨rfl, rfl⟩, Nat.le_of_ble_eq_true rfl, Nat.le_of_ble_eq_true rfl⟩ rfl hl.1 rfl (Nat.le_of_ble_eq_true rfl) dX4_putLaw_1 (fun H locs hR hS hE1 z_q1 => ?_)
  have hE := hE.tr hE1
  have t_r0 := hE1.at t_r0 (by decide)
  refine lv_aload_n C.x C.b dX4_putLaw_4 rfl (lv_at hl 0 rfl) ?_
  refine lv_iload_n C.x C.b dX4_putLaw_5 rfl (lv_at hl 1 rfl) ?_
  obtain ⟨q2, h_q2, hf⟩ := bd_e hf
  refine r_callV (As := [.int x1]) (rest := []) C hR hS t_r0 rfl mk_X4_addNumber cl_X4_25 (k_X4_addNumber t_r0 h_q2) ⟨⟨Nat.le_of_ble_eq_true rfl, Nat.le_of_ble_eq_true rfl⟩, ⟨rfl, rfl⟩, Nat.le_of_ble_eq_true rfl, Nat.le_of_ble_eq_true rfl⟩ rfl hl.1 rfl (Nat.le_of_ble_eq_true rfl) dX4_putLaw_6 (fun H locs hR hS hE1 z_q2 => ?_)
  have hE := hE.tr hE1
  have t_r0 := hE1.at t_r0 (by decide)
  refine lv_aload_n C.x C.b dX4_putLaw_9 rfl (lv_at hl 0 rfl) ?_
  refine lv_iload_n C.x C.b dX4_putLaw_10 rfl (lv_at hl 2 rfl) ?_
  obtain ⟨q3, h_q3, hf⟩ := bd_e hf
  refine r_callV (As := [.int x2]) (rest := []) C hR hS t_r0 rfl mk_X4_addNumber cl_X4_25 (k_X4_addNumber t_r0 h_q3) ⟨⟨Nat.le_of_ble_eq_true rfl, Nat.le_of_ble_eq_true rfl⟩, ⟨rfl, rfl⟩, Nat.le_of_ble_eq_true rfl, Nat.le_of_ble_eq_true rfl⟩ rfl hl.1 rfl (Nat.le_of_ble_eq_true rfl) dX4_putLaw_11 (fun H locs hR hS hE1 z_q3 => ?_)
  have hE := hE.tr hE1
  have t_r0 := hE1.at t_r0 (by decide)
  refine lv_aload_n C.x C.b dX4_putLaw_14 rfl (lv_at hl 0 rfl) ?_
  refine lv_bipush (v := (111 : Int32)) C.x C.b dX4_putLaw_15 (by decide) ?_
  obtain ⟨q4, h_q4, hf⟩ := bd_e hf
  refine r_callV (As := [.int (111 : Int32)]) (rest := []) C hR hS t_r0 rfl mk_X4_addSign cl_X4_38 (k_X4_addSign t_r0 h_q4) ⟨⟨Nat.le_of_ble_eq_true rfl, Nat.le_of_ble_eq_true rfl⟩, ⟨rfl, rfl⟩, Nat.le_of_ble_eq_true rfl, Nat.le_of_ble_eq_true rfl⟩ rfl hl.1 rfl (Nat.le_of_ble_eq_true rfl) dX4_putLaw_17 (fun H locs hR hS hE1 z_q4 => ?_)
  have hE := hE.tr hE1
  have t_r0 := hE1.at t_r0 (by decide)
  refine lv_aload_n C.x C.b dX4_putLaw_20 rfl (lv_at hl 0 rfl) ?_
  refine lv_bipush (v := (42 : Int32)) C.x C.b dX4_putLaw_21 (by decide) ?_
  obtain ⟨q5, h_q5, hf⟩ := bd_e hf
  refine r_callV (As := [.int (42 : Int32)]) (rest := []) C hR hS t_r0 rfl mk_X4_addSign cl_X4_38 (k_X4_addSign t_r0 h_q5) ⟨⟨Nat.le_of_ble_eq_true rfl, Nat.le_of_ble_eq_true rfl⟩, ⟨rfl, rfl⟩, Nat.le_of_ble_eq_true rfl, Nat.le_of_ble_eq_true rfl⟩ rfl hl.1 rfl (Nat.le_of_ble_eq_true rfl) dX4_putLaw_23 (fun H locs hR hS hE1 z_q5 => ?_)
  have hE := hE.tr hE1
  have t_r0 := hE1.at t_r0 (by decide)
  refine lv_aload_n C.x C.b dX4_putLaw_26 rfl (lv_at hl 0 rfl) ?_
  refine lv_bipush (v := (43 : Int32)) C.x C.b dX4_putLaw_27 (by decide) ?_
  obtain ⟨q6, h_q6, hf⟩ := bd_e hf
  refine r_callV (As := [.int (43 : Int32)]) (rest := []) C hR hS t_r0 rfl mk_X4_addSign cl_X4_38 (k_X4_addSign t_r0 h_q6) ⟨⟨Nat.le_of_ble_eq_true rfl, Nat.le_of_ble_eq_true rfl⟩, ⟨rfl, rfl⟩, Nat.le_of_ble_eq_true rfl, Nat.le_of_ble_eq_true rfl⟩ rfl hl.1 rfl (Nat.le_of_ble_eq_true rfl) dX4_putLaw_29 (fun H locs hR hS hE1 z_q6 => ?_)
  have hE := hE.tr hE1
  have t_r0 := hE1.at t_r0 (by decide)
  have hf := so_e hf
  subst hf
  exact r_vret C hr hlk hR hE hS dX4_putLaw_32

def rm_X4_isComparison : Room := { frames := 0, cells := 0, slots := 0, locals := 0 }
def P_X4_isComparison_18 (G : Gt) (l : Launch) (p : Program) (e : Env) (s : State) (m : MethodId) (args : Array Value) (below : List Frame) (meth : Method) (c : Code) (h : Hp) (out : Int32) (x0 : Int32) (k : Option Int32) : Prop := ∀ (H : Heap) (locs : List Loc) (ls : Array Slot), k = some out → Rel G h H → va_S (AA G.2.2) s.heap H locs → lv_has ls 1 [(0, .int x0)] → W p l e rm_X4_isComparison s m args below meth c H locs 0 0 (MQ below (Qm G h h (some (.int out)) 1) args s 0 0 (AA G.2.2)) (F0 m 18 ls [])
set_option maxRecDepth 100000 in
set_option maxHeartbeats 4000000 in
theorem w_X4_isComparison_18 {G : Gt} {l : Launch} {p : Program} {e : Env} {s : State} {m : MethodId} {args : Array Value} {below : List Frame} {meth : Method} {c : Code} {h : Hp} {out : Int32} {x0 : Int32}  (C : Cx G p m c cX4_isComparison 1 s args RX4) (hr : meth.sig.returnType = some .boolean) (hlk : meth.locks = false)  : P_X4_isComparison_18 G l p e s m args below meth c h out x0 (f_X4_isComparison_18 h x0) := by
  intro H locs ls  hf hR hS  hl
  rw [f_X4_isComparison_18] at hf
  refine lv_iconst (v := (1 : Int32)) C.x C.b dX4_isComparison_18 (by decide) ?_
  refine lv_goto (tgt := 23) C.x C.b dX4_isComparison_19 (by decide) ?_
  have hf := so_e hf
  subst hf
  exact r_zret C hr hlk hR Ext.rf hS z_1 dX4_isComparison_23
set_option maxRecDepth 100000 in
set_option maxHeartbeats 4000000 in
theorem k_X4_isComparison {G : Gt} {l : Launch} {h : Hp} {x0 : Int32} {out : Int32}   (hf : f_X4_isComparison h x0 = some out) : Mt G l yX4_isComparison cX4_isComparison 1 (some .boolean) rm_X4_isComparison [.int x0] h (some (.int out)) h 1 0 0 := by
  refine r_met (by decide +kernel) (Nat.le_of_ble_eq_true rfl) ?_
  intro p e s m args below meth c ls C hr hlk hnm hR hS hl
  have hl : lv_has ls 1 [(0, .int x0)] := hl
  rw [f_X4_isComparison] at hf
  refine lv_iload_n C.x C.b dX4_isComparison_0 rfl (lv_at hl 0 rfl) ?_
  refine lv_bipush (v := (60 : Int32)) C.x C.b dX4_isComparison_1 (by decide) ?_
  refine lv_icmp_eq (tgt := 18) C.x C.b dX4_isComparison_3 (by decide) (fun c1 => ?_) (fun c1 => ?_)
  · have hf := it_t hf c1
    exact w_X4_isComparison_18 C hr hlk _ _ _ hf hR hS (lv_sub hl [0] rfl)
  · have hf := it_f hf c1
    refine lv_iload_n C.x C.b dX4_isComparison_6 rfl (lv_at hl 0 rfl) ?_
    refine lv_bipush (v := (62 : Int32)) C.x C.b dX4_isComparison_7 (by decide) ?_
    refine lv_icmp_eq (tgt := 18) C.x C.b dX4_isComparison_9 (by decide) (fun c2 => ?_) (fun c2 => ?_)
    · have hf := it_t hf c2
      exact w_X4_isComparison_18 C hr hlk _ _ _ hf hR hS (lv_sub hl [0] rfl)
    · have hf := it_f hf c2
      refine lv_iload_n C.x C.b dX4_isComparison_12 rfl (lv_at hl 0 rfl) ?_
      refine lv_bipush (v := (61 : Int32)) C.x C.b dX4_isComparison_13 (by decide) ?_
      refine lv_icmp_ne (tgt := 22) C.x C.b dX4_isComparison_15 (by decide) (fun c3 => ?_) (fun c3 => ?_)
      · have hf := it_f hf c3
        refine lv_iconst (v := (0 : Int32)) C.x C.b dX4_isComparison_22 (by decide) ?_
        have hf := so_e hf
        subst hf
        exact r_zret C hr hlk hR Ext.rf hS z_0 dX4_isComparison_23
      · have hf := it_t hf c3
        exact w_X4_isComparison_18 C hr hlk _ _ _ hf hR hS (lv_sub hl [0] rfl)

def rm_X5_next : Room := { frames := 1, cells := 0, slots := 0, locals := 21 }
set_option maxRecDepth 100000 in
set_option maxHeartbeats 4000000 in
theorem k_X5_next {G : Gt} {l : Launch} {h : Hp} {r0 : Nat} {out : Int32} (t_r0 : hpT h r0 = (1, 5))  (hf : f_X5_next h r0 = some out) : Mt G l yX5_next cX5_next 1 (some .int) rm_X5_next [.ref (G.2.2 + r0)] h (some (.int out)) h 0 0 0 := by
  refine r_met (by decide +kernel) (Nat.le_of_ble_eq_true rfl) ?_
  intro p e s m args below meth c ls C hr hlk hnm hR hS hl
  have hl : lv_has ls 1 [(0, .ref (G.2.2 + r0))] := hl
  rw [f_X5_next] at hf
  refine lv_aload_n C.x C.b dX5_next_0 rfl (lv_at hl 0 rfl) ?_
  refine r_geti C hR t_r0 fl_X5_19 rfl dX5_next_1 ?_
  refine lv_aload_n C.x C.b dX5_next_4 rfl (lv_at hl 0 rfl) ?_
  refine r_geti C hR t_r0 fl_X5_34 rfl dX5_next_5 ?_
  refine lv_icmp_ge (tgt := 32) C.x C.b dX5_next_8 (by decide) (fun c1 => ?_) (fun c1 => ?_)
  · have hf := it_t hf c1
    refine lv_iconst (v := (-1 : Int32)) C.x C.b dX5_next_32 (by decide) ?_
    have hf := so_e hf
    subst hf
    exact r_iret C hr hlk hR Ext.rf hS dX5_next_33
  · have hf := it_f hf c1
    refine lv_aload_n C.x C.b dX5_next_11 rfl (lv_at hl 0 rfl) ?_
    by_cases c2 : hpR h r0 0 = 0
    · refine r_getn C hR t_r0 fl_X5_9 (by decide) c2 dX5_next_12 ?_
      refine lv_ifnullN (tgt := 32) C.x C.b dX5_next_15 (by decide) ?_
      have hf := it_t hf c2
      refine lv_iconst (v := (-1 : Int32)) C.x C.b dX5_next_32 (by decide) ?_
      have hf := so_e hf
      subst hf
      exact r_iret C hr hlk hR Ext.rf hS dX5_next_33
    · refine r_getr C hR t_r0 fl_X5_9 (by decide) c2 dX5_next_12 (fun tc2 => ?_)
      refine lv_ifnull C.x C.b dX5_next_15 ?_
      have hf := it_f hf c2
      refine lv_aload_n C.x C.b dX5_next_18 rfl (lv_at hl 0 rfl) ?_
      obtain ⟨g3, hf⟩ := gd_e hf
      refine r_getr C hR t_r0 fl_X5_9 (by decide) (nz_e g3) dX5_next_19 (fun tq4 => ?_)
      have tg3 := okO tq4 rfl
      refine lv_aload_n C.x C.b dX5_next_22 rfl (lv_at hl 0 rfl) ?_
      refine r_geti C hR t_r0 fl_X5_19 rfl dX5_next_23 ?_
      obtain ⟨q5, h_q5, hf⟩ := bd_e hf
      refine r_callV (As := [.int (hpI h r0 2)]) (rest := []) C hR hS tg3 rfl mk_X6_get cl_X5_49 (k_X6_get tg3 h_q5) ⟨⟨Nat.le_of_ble_eq_true rfl, Nat.le_of_ble_eq_true rfl⟩, ⟨rfl, rfl⟩, Nat.le_of_ble_eq_true rfl, Nat.le_of_ble_eq_true rfl⟩ rfl hl.1 rfl (Nat.le_of_ble_eq_true rfl) dX5_next_26 (fun H locs hR hS hE1 z_q5 => ?_)
      refine lv_goto (tgt := 33) C.x C.b dX5_next_29 (by decide) ?_
      have hf := so_e hf
      subst hf
      exact r_iret C hr hlk hR Ext.rf hS dX5_next_33

def rm_X5_number : Room := { frames := 2, cells := 0, slots := 0, locals := 41 }
def P_X5_number_56 (G : Gt) (l : Launch) (p : Program) (e : Env) (s : State) (m : MethodId) (args : Array Value) (below : List Frame) (meth : Method) (c : Code) (h0 : Hp) (out : Hp) (r0 : Nat) (k : Hp → Int32 → Option Hp) : Prop := ∀ (H : Heap) (locs : List Loc) (ls : Array Slot) (h : Hp) (x1 : Int32), k h x1 = some out → Ext h0 h → Rel G h H → va_S (AA G.2.2) s.heap H locs → hpT h r0 = (1, 5) → lv_has ls 3 [(0, .ref (G.2.2 + r0)), (1, .int x1)] → W p l e rm_X5_number s m args below meth c H locs 0 0 (MQ below (Qm G h0 out (none) 0) args s 0 0 (AA G.2.2)) (F0 m 56 ls [])
def P_X5_number_4 (G : Gt) (l : Launch) (p : Program) (e : Env) (s : State) (m : MethodId) (args : Array Value) (below : List Frame) (meth : Method) (c : Code) (h0 : Hp) (out : Hp) (r0 : Nat) (k : Hp → Int32 → Int32 → Option Hp) : Prop := ∀ (H : Heap) (locs : List Loc) (ls : Array Slot) (h : Hp) (x1 : Int32) (x2 : Int32), k h x1 x2 = some out → Ext h0 h → Rel G h H → va_S (AA G.2.2) s.heap H locs → hpT h r0 = (1, 5) → lv_has ls 3 [(0, .ref (G.2.2 + r0)), (1, .int x1), (2, .int x2)] → W p l e rm_X5_number s m args below meth c H locs 0 0 (MQ below (Qm G h0 out (none) 0) args s 0 0 (AA G.2.2)) (F0 m 4 ls [])
set_option maxRecDepth 100000 in
set_option maxHeartbeats 4000000 in
theorem w_X5_number_56 {G : Gt} {l : Launch} {p : Program} {e : Env} {s : State} {m : MethodId} {args : Array Value} {below : List Frame} {meth : Method} {c : Code} {h0 : Hp} {out : Hp} {r0 : Nat}  (C : Cx G p m c cX5_number 3 s args RX5) (hr : meth.sig.returnType = none) (hlk : meth.locks = false)  : P_X5_number_56 G l p e s m args below meth c h0 out r0 (f_X5_number_56 r0) := by
  intro H locs ls h x1 hf hE hR hS t_r0 hl
  rw [f_X5_number_56] at hf
  refine lv_aload_n C.x C.b dX5_number_56 rfl (lv_at hl 0 rfl) ?_
  by_cases c10 : hpR h r0 1 = 0
  · refine r_getn C hR t_r0 fl_X5_15 (by decide) c10 dX5_number_57 ?_
    refine lv_ifnullN (tgt := 71) C.x C.b dX5_number_60 (by decide) ?_
    have hf := it_t hf c10
    have hf := so_e hf
    subst hf
    exact r_vret C hr hlk hR hE hS dX5_number_71
  · refine r_getr C hR t_r0 fl_X5_15 (by decide) c10 dX5_number_57 (fun tc10 => ?_)
    refine lv_ifnull C.x C.b dX5_number_60 ?_
    have hf := it_f hf c10
    refine lv_aload_n C.x C.b dX5_number_63 rfl (lv_at hl 0 rfl) ?_
    obtain ⟨g11, hf⟩ := gd_e hf
    refine r_getr C hR t_r0 fl_X5_15 (by decide) (nz_e g11) dX5_number_64 (fun tq12 => ?_)
    have tg11 := okO tq12 rfl
    refine lv_iload_n C.x C.b dX5_number_67 rfl (lv_at hl 1 rfl) ?_
    obtain ⟨q13, h_q13, hf⟩ := bd_e hf
    refine r_callV (As := [.int x1]) (rest := []) C hR hS tg11 rfl mk_X4_addNumber cl_X5_85 (k_X4_addNumber tg11 h_q13) ⟨⟨Nat.le_of_ble_eq_true rfl, Nat.le_of_ble_eq_true rfl⟩, ⟨rfl, rfl⟩, Nat.le_of_ble_eq_true rfl, Nat.le_of_ble_eq_true rfl⟩ rfl hl.1 rfl (Nat.le_of_ble_eq_true rfl) dX5_number_68 (fun H locs hR hS hE1 z_q13 => ?_)
    have hE := hE.tr hE1
    have t_r0 := hE1.at t_r0 (by decide)
    have hf := so_e hf
    subst hf
    exact r_vret C hr hlk hR hE hS dX5_number_71
set_option maxRecDepth 100000 in
set_option maxHeartbeats 4000000 in
theorem w_X5_number_4 {G : Gt} {l : Launch} {p : Program} {e : Env} {s : State} {m : MethodId} {args : Array Value} {below : List Frame} {meth : Method} {c : Code} {h0 : Hp} {out : Hp} {r0 : Nat}  (C : Cx G p m c cX5_number 3 s args RX5) (hr : meth.sig.returnType = none) (hlk : meth.locks = false)  (n : Nat) : P_X5_number_4 G l p e s m args below meth c h0 out r0 (f_X5_number_4 r0 n) := by
  induction n with
  | zero => intro H locs ls h x1 x2 hf hE hR hS t_r0 hl; cases hf
  | succ n hk4 =>
    intro H locs ls h x1 x2 hf hE hR hS t_r0 hl
    rw [f_X5_number_4] at hf
    obtain ⟨k4, e_k4⟩ : ∃ y, y = f_X5_number_4 r0 n := ⟨_, rfl⟩
    have hf := lt_e hf e_k4
    rw [← e_k4] at hk4
    refine lv_iload_n C.x C.b dX5_number_4 rfl (lv_at hl 2 rfl) ?_
    refine lv_iconst (v := (3 : Int32)) C.x C.b dX5_number_5 (by decide) ?_
    refine lv_icmp_ge (tgt := 56) C.x C.b dX5_number_6 (by decide) (fun c1 => ?_) (fun c1 => ?_)
    · have hf := it_t hf c1
      exact w_X5_number_56 C hr hlk _ _ _ _ _ hf hE hR hS t_r0 (lv_sub hl [0, 1] rfl)
    · have hf := it_f hf c1
      refine lv_aload_n C.x C.b dX5_number_9 rfl (lv_at hl 0 rfl) ?_
      obtain ⟨q2, h_q2, hf⟩ := bd_e hf
      refine r_callV (As := []) (rest := []) C hR hS t_r0 rfl mk_X5_next cl_X5_60 (k_X5_next t_r0 h_q2) ⟨⟨Nat.le_of_ble_eq_true rfl, Nat.le_of_ble_eq_true rfl⟩, ⟨rfl, rfl⟩, Nat.le_of_ble_eq_true rfl, Nat.le_of_ble_eq_true rfl⟩ rfl hl.1 rfl (Nat.le_of_ble_eq_true rfl) dX5_number_10 (fun H locs hR hS hE1 z_q2 => ?_)
      refine lv_bipush (v := (48 : Int32)) C.x C.b dX5_number_13 (by decide) ?_
      refine lv_icmp_lt (tgt := 56) C.x C.b dX5_number_15 (by decide) (fun c3 => ?_) (fun c3 => ?_)
      · have hf := it_t hf c3
        exact w_X5_number_56 C hr hlk _ _ _ _ _ hf hE hR hS t_r0 (lv_sub hl [0, 1] rfl)
      · have hf := it_f hf c3
        refine lv_aload_n C.x C.b dX5_number_18 rfl (lv_at hl 0 rfl) ?_
        obtain ⟨q4, h_q4, hf⟩ := bd_e hf
        refine r_callV (As := []) (rest := []) C hR hS t_r0 rfl mk_X5_next cl_X5_60 (k_X5_next t_r0 h_q4) ⟨⟨Nat.le_of_ble_eq_true rfl, Nat.le_of_ble_eq_true rfl⟩, ⟨rfl, rfl⟩, Nat.le_of_ble_eq_true rfl, Nat.le_of_ble_eq_true rfl⟩ rfl hl.1 rfl (Nat.le_of_ble_eq_true rfl) dX5_number_19 (fun H locs hR hS hE1 z_q4 => ?_)
        refine lv_bipush (v := (57 : Int32)) C.x C.b dX5_number_22 (by decide) ?_
        refine lv_icmp_gt (tgt := 56) C.x C.b dX5_number_24 (by decide) (fun c5 => ?_) (fun c5 => ?_)
        · have hf := it_t hf c5
          exact w_X5_number_56 C hr hlk _ _ _ _ _ hf hE hR hS t_r0 (lv_sub hl [0, 1] rfl)
        · have hf := it_f hf c5
          refine lv_iload_n C.x C.b dX5_number_27 rfl (lv_at hl 1 rfl) ?_
          refine lv_bipush (v := (10 : Int32)) C.x C.b dX5_number_28 (by decide) ?_
          refine lv_imul C.x C.b dX5_number_30 ?_
          refine lv_aload_n C.x C.b dX5_number_31 rfl (lv_at hl 0 rfl) ?_
          obtain ⟨q6, h_q6, hf⟩ := bd_e hf
          refine r_callV (As := []) (rest := [.int (x1 * (10 : Int32))]) C hR hS t_r0 rfl mk_X5_next cl_X5_60 (k_X5_next t_r0 h_q6) ⟨⟨Nat.le_of_ble_eq_true rfl, Nat.le_of_ble_eq_true rfl⟩, ⟨rfl, rfl⟩, Nat.le_of_ble_eq_true rfl, Nat.le_of_ble_eq_true rfl⟩ rfl hl.1 rfl (Nat.le_of_ble_eq_true rfl) dX5_number_32 (fun H locs hR hS hE1 z_q6 => ?_)
          refine lv_iadd C.x C.b dX5_number_35 ?_
          refine lv_bipush (v := (48 : Int32)) C.x C.b dX5_number_36 (by decide) ?_
          refine lv_isub C.x C.b dX5_number_38 ?_
          refine lv_topi (fun v7 e_v7 => ?_)
          have hf := lt_e hf e_v7
          refine lv_istore_n (lv' := [(1, .int v7), (0, .ref (G.2.2 + r0)), (2, .int x2)]) C.x C.b dX5_number_39 rfl hl (by decide) rfl (fun ls hl => ?_)
          refine lv_aload_n C.x C.b dX5_number_40 rfl (lv_at hl 1 rfl) ?_
          refine lv_dup C.x C.b dX5_number_41 rfl ?_
          refine r_geti C hR t_r0 fl_X5_19 rfl dX5_number_42 ?_
          refine lv_iconst (v := (1 : Int32)) C.x C.b dX5_number_45 (by decide) ?_
          refine lv_iadd C.x C.b dX5_number_46 ?_
          refine r_puti C hR hS t_r0 fl_X5_19 fp_X5_5_2 rfl dX5_number_47 (fun H locs hR hS => ?_)
          obtain ⟨h8, e_h8⟩ : ∃ y, y = upI h r0 2 ((hpI h r0 2) + (1 : Int32)) := ⟨_, rfl⟩
          rw [← e_h8] at hR
          have hf := lt_e hf e_h8
          have hE := eI e_h8 hE
          have t_r0 := tI e_h8 t_r0
          obtain ⟨v9, e_v9⟩ : ∃ y : Int32, y = x2 + (1 : Int32) := ⟨_, rfl⟩
          have hf := lt_e hf e_v9
          refine lv_iinc (v := v9) (lv' := [(2, .int v9), (1, .int v7), (0, .ref (G.2.2 + r0))]) C.x C.b dX5_number_50 hl (k := 2) rfl (by rw [e_v9]; rfl) (by decide) rfl (fun ls hl => ?_)
          refine lv_goto (tgt := 4) C.x C.b dX5_number_53 (by decide) ?_
          exact hk4 _ _ _ _ _ _ hf hE hR hS t_r0 (lv_sub hl [2, 1, 0] rfl)
set_option maxRecDepth 100000 in
set_option maxHeartbeats 4000000 in
theorem k_X5_number {G : Gt} {l : Launch} {h : Hp} {r0 : Nat} {out : Hp} (t_r0 : hpT h r0 = (1, 5))  (hf : f_X5_number h r0 = some out) : Mt G l yX5_number cX5_number 3 (none) rm_X5_number [.ref (G.2.2 + r0)] h (none) out 0 0 0 := by
  refine r_met (by decide +kernel) (Nat.le_of_ble_eq_true rfl) ?_
  intro p e s m args below meth c ls C hr hlk hnm hR hS hl
  have hE : Ext h h := Ext.rf
  have hl : lv_has ls 3 [(0, .ref (G.2.2 + r0))] := hl
  rw [f_X5_number] at hf
  refine lv_iconst (v := (0 : Int32)) C.x C.b dX5_number_0 (by decide) ?_
  refine lv_istore_n (lv' := [(1, .int (0 : Int32)), (0, .ref (G.2.2 + r0))]) C.x C.b dX5_number_1 rfl hl (by decide) rfl (fun ls hl => ?_)
  refine lv_iconst (v := (0 : Int32)) C.x C.b dX5_number_2 (by decide) ?_
  refine lv_istore_n (lv' := [(2, .int (0 : Int32)), (1, .int (0 : Int32)), (0, .ref (G.2.2 + r0))]) C.x C.b dX5_number_3 rfl hl (by decide) rfl (fun ls hl => ?_)
  exact w_X5_number_4 C hr hlk FU _ _ _ _ _ _ hf hE hR hS t_r0 (lv_sub hl [2, 1, 0] rfl)

def rm_X5_isLetter : Room := { frames := 0, cells := 0, slots := 0, locals := 0 }
set_option maxRecDepth 100000 in
set_option maxHeartbeats 4000000 in
theorem k_X5_isLetter {G : Gt} {l : Launch} {h : Hp} {x0 : Int32} {out : Int32}   (hf : f_X5_isLetter h x0 = some out) : Mt G l yX5_isLetter cX5_isLetter 1 (some .boolean) rm_X5_isLetter [.int x0] h (some (.int out)) h 1 0 0 := by
  refine r_met (by decide +kernel) (Nat.le_of_ble_eq_true rfl) ?_
  intro p e s m args below meth c ls C hr hlk hnm hR hS hl
  have hl : lv_has ls 1 [(0, .int x0)] := hl
  rw [f_X5_isLetter] at hf
  refine lv_iload_n C.x C.b dX5_isLetter_0 rfl (lv_at hl 0 rfl) ?_
  by_cases c1_0 : x0 = (97 : Int32)
  · have hf := it_t hf c1_0
    refine lv_tableIn (tgt := 108) C.x C.b dX5_isLetter_1 (by rw [c1_0]; decide) (by rw [c1_0]; decide) (by rw [c1_0]; rfl) (by decide) ?_
    refine lv_iconst (v := (1 : Int32)) C.x C.b dX5_isLetter_108 (by decide) ?_
    have hf := so_e hf
    subst hf
    exact r_zret C hr hlk hR Ext.rf hS z_1 dX5_isLetter_109
  have hf := it_f hf c1_0
  by_cases c1_1 : x0 = (98 : Int32)
  · have hf := it_t hf c1_1
    refine lv_tableIn (tgt := 110) C.x C.b dX5_isLetter_1 (by rw [c1_1]; decide) (by rw [c1_1]; decide) (by rw [c1_1]; rfl) (by decide) ?_
    refine lv_iconst (v := (0 : Int32)) C.x C.b dX5_isLetter_110 (by decide) ?_
    have hf := so_e hf
    subst hf
    exact r_zret C hr hlk hR Ext.rf hS z_0 dX5_isLetter_111
  have hf := it_f hf c1_1
  by_cases c1_2 : x0 = (99 : Int32)
  · have hf := it_t hf c1_2
    refine lv_tableIn (tgt := 108) C.x C.b dX5_isLetter_1 (by rw [c1_2]; decide) (by rw [c1_2]; decide) (by rw [c1_2]; rfl) (by decide) ?_
    refine lv_iconst (v := (1 : Int32)) C.x C.b dX5_isLetter_108 (by decide) ?_
    have hf := so_e hf
    subst hf
    exact r_zret C hr hlk hR Ext.rf hS z_1 dX5_isLetter_109
  have hf := it_f hf c1_2
  by_cases c1_3 : x0 = (100 : Int32)
  · have hf := it_t hf c1_3
    refine lv_tableIn (tgt := 110) C.x C.b dX5_isLetter_1 (by rw [c1_3]; decide) (by rw [c1_3]; decide) (by rw [c1_3]; rfl) (by decide) ?_
    refine lv_iconst (v := (0 : Int32)) C.x C.b dX5_isLetter_110 (by decide) ?_
    have hf := so_e hf
    subst hf
    exact r_zret C hr hlk hR Ext.rf hS z_0 dX5_isLetter_111
  have hf := it_f hf c1_3
  by_cases c1_4 : x0 = (101 : Int32)
  · have hf := it_t hf c1_4
    refine lv_tableIn (tgt := 110) C.x C.b dX5_isLetter_1 (by rw [c1_4]; decide) (by rw [c1_4]; decide) (by rw [c1_4]; rfl) (by decide) ?_
    refine lv_iconst (v := (0 : Int32)) C.x C.b dX5_isLetter_110 (by decide) ?_
    have hf := so_e hf
    subst hf
    exact r_zret C hr hlk hR Ext.rf hS z_0 dX5_isLetter_111
  have hf := it_f hf c1_4
  by_cases c1_5 : x0 = (102 : Int32)
  · have hf := it_t hf c1_5
    refine lv_tableIn (tgt := 110) C.x C.b dX5_isLetter_1 (by rw [c1_5]; decide) (by rw [c1_5]; decide) (by rw [c1_5]; rfl) (by decide) ?_
    refine lv_iconst (v := (0 : Int32)) C.x C.b dX5_isLetter_110 (by decide) ?_
    have hf := so_e hf
    subst hf
    exact r_zret C hr hlk hR Ext.rf hS z_0 dX5_isLetter_111
  have hf := it_f hf c1_5
  by_cases c1_6 : x0 = (103 : Int32)
  · have hf := it_t hf c1_6
    refine lv_tableIn (tgt := 110) C.x C.b dX5_isLetter_1 (by rw [c1_6]; decide) (by rw [c1_6]; decide) (by rw [c1_6]; rfl) (by decide) ?_
    refine lv_iconst (v := (0 : Int32)) C.x C.b dX5_isLetter_110 (by decide) ?_
    have hf := so_e hf
    subst hf
    exact r_zret C hr hlk hR Ext.rf hS z_0 dX5_isLetter_111
  have hf := it_f hf c1_6
  by_cases c1_7 : x0 = (104 : Int32)
  · have hf := it_t hf c1_7
    refine lv_tableIn (tgt := 108) C.x C.b dX5_isLetter_1 (by rw [c1_7]; decide) (by rw [c1_7]; decide) (by rw [c1_7]; rfl) (by decide) ?_
    refine lv_iconst (v := (1 : Int32)) C.x C.b dX5_isLetter_108 (by decide) ?_
    have hf := so_e hf
    subst hf
    exact r_zret C hr hlk hR Ext.rf hS z_1 dX5_isLetter_109
  have hf := it_f hf c1_7
  by_cases c1_8 : x0 = (105 : Int32)
  · have hf := it_t hf c1_8
    refine lv_tableIn (tgt := 110) C.x C.b dX5_isLetter_1 (by rw [c1_8]; decide) (by rw [c1_8]; decide) (by rw [c1_8]; rfl) (by decide) ?_
    refine lv_iconst (v := (0 : Int32)) C.x C.b dX5_isLetter_110 (by decide) ?_
    have hf := so_e hf
    subst hf
    exact r_zret C hr hlk hR Ext.rf hS z_0 dX5_isLetter_111
  have hf := it_f hf c1_8
  by_cases c1_9 : x0 = (106 : Int32)
  · have hf := it_t hf c1_9
    refine lv_tableIn (tgt := 110) C.x C.b dX5_isLetter_1 (by rw [c1_9]; decide) (by rw [c1_9]; decide) (by rw [c1_9]; rfl) (by decide) ?_
    refine lv_iconst (v := (0 : Int32)) C.x C.b dX5_isLetter_110 (by decide) ?_
    have hf := so_e hf
    subst hf
    exact r_zret C hr hlk hR Ext.rf hS z_0 dX5_isLetter_111
  have hf := it_f hf c1_9
  by_cases c1_10 : x0 = (107 : Int32)
  · have hf := it_t hf c1_10
    refine lv_tableIn (tgt := 110) C.x C.b dX5_isLetter_1 (by rw [c1_10]; decide) (by rw [c1_10]; decide) (by rw [c1_10]; rfl) (by decide) ?_
    refine lv_iconst (v := (0 : Int32)) C.x C.b dX5_isLetter_110 (by decide) ?_
    have hf := so_e hf
    subst hf
    exact r_zret C hr hlk hR Ext.rf hS z_0 dX5_isLetter_111
  have hf := it_f hf c1_10
  by_cases c1_11 : x0 = (108 : Int32)
  · have hf := it_t hf c1_11
    refine lv_tableIn (tgt := 110) C.x C.b dX5_isLetter_1 (by rw [c1_11]; decide) (by rw [c1_11]; decide) (by rw [c1_11]; rfl) (by decide) ?_
    refine lv_iconst (v := (0 : Int32)) C.x C.b dX5_isLetter_110 (by decide) ?_
    have hf := so_e hf
    subst hf
    exact r_zret C hr hlk hR Ext.rf hS z_0 dX5_isLetter_111
  have hf := it_f hf c1_11
  by_cases c1_12 : x0 = (109 : Int32)
  · have hf := it_t hf c1_12
    refine lv_tableIn (tgt := 110) C.x C.b dX5_isLetter_1 (by rw [c1_12]; decide) (by rw [c1_12]; decide) (by rw [c1_12]; rfl) (by decide) ?_
    refine lv_iconst (v := (0 : Int32)) C.x C.b dX5_isLetter_110 (by decide) ?_
    have hf := so_e hf
    subst hf
    exact r_zret C hr hlk hR Ext.rf hS z_0 dX5_isLetter_111
  have hf := it_f hf c1_12
  by_cases c1_13 : x0 = (110 : Int32)
  · have hf := it_t hf c1_13
    refine lv_tableIn (tgt := 108) C.x C.b dX5_isLetter_1 (by rw [c1_13]; decide) (by rw [c1_13]; decide) (by rw [c1_13]; rfl) (by decide) ?_
    refine lv_iconst (v := (1 : Int32)) C.x C.b dX5_isLetter_108 (by decide) ?_
    have hf := so_e hf
    subst hf
    exact r_zret C hr hlk hR Ext.rf hS z_1 dX5_isLetter_109
  have hf := it_f hf c1_13
  by_cases c1_14 : x0 = (111 : Int32)
  · have hf := it_t hf c1_14
    refine lv_tableIn (tgt := 108) C.x C.b dX5_isLetter_1 (by rw [c1_14]; decide) (by rw [c1_14]; decide) (by rw [c1_14]; rfl) (by decide) ?_
    refine lv_iconst (v := (1 : Int32)) C.x C.b dX5_isLetter_108 (by decide) ?_
    have hf := so_e hf
    subst hf
    exact r_zret C hr hlk hR Ext.rf hS z_1 dX5_isLetter_109
  have hf := it_f hf c1_14
  by_cases c1_15 : x0 = (112 : Int32)
  · have hf := it_t hf c1_15
    refine lv_tableIn (tgt := 110) C.x C.b dX5_isLetter_1 (by rw [c1_15]; decide) (by rw [c1_15]; decide) (by rw [c1_15]; rfl) (by decide) ?_
    refine lv_iconst (v := (0 : Int32)) C.x C.b dX5_isLetter_110 (by decide) ?_
    have hf := so_e hf
    subst hf
    exact r_zret C hr hlk hR Ext.rf hS z_0 dX5_isLetter_111
  have hf := it_f hf c1_15
  by_cases c1_16 : x0 = (113 : Int32)
  · have hf := it_t hf c1_16
    refine lv_tableIn (tgt := 110) C.x C.b dX5_isLetter_1 (by rw [c1_16]; decide) (by rw [c1_16]; decide) (by rw [c1_16]; rfl) (by decide) ?_
    refine lv_iconst (v := (0 : Int32)) C.x C.b dX5_isLetter_110 (by decide) ?_
    have hf := so_e hf
    subst hf
    exact r_zret C hr hlk hR Ext.rf hS z_0 dX5_isLetter_111
  have hf := it_f hf c1_16
  by_cases c1_17 : x0 = (114 : Int32)
  · have hf := it_t hf c1_17
    refine lv_tableIn (tgt := 108) C.x C.b dX5_isLetter_1 (by rw [c1_17]; decide) (by rw [c1_17]; decide) (by rw [c1_17]; rfl) (by decide) ?_
    refine lv_iconst (v := (1 : Int32)) C.x C.b dX5_isLetter_108 (by decide) ?_
    have hf := so_e hf
    subst hf
    exact r_zret C hr hlk hR Ext.rf hS z_1 dX5_isLetter_109
  have hf := it_f hf c1_17
  by_cases c1_18 : x0 = (115 : Int32)
  · have hf := it_t hf c1_18
    refine lv_tableIn (tgt := 108) C.x C.b dX5_isLetter_1 (by rw [c1_18]; decide) (by rw [c1_18]; decide) (by rw [c1_18]; rfl) (by decide) ?_
    refine lv_iconst (v := (1 : Int32)) C.x C.b dX5_isLetter_108 (by decide) ?_
    have hf := so_e hf
    subst hf
    exact r_zret C hr hlk hR Ext.rf hS z_1 dX5_isLetter_109
  have hf := it_f hf c1_18
  by_cases c1_19 : x0 = (116 : Int32)
  · have hf := it_t hf c1_19
    refine lv_tableIn (tgt := 110) C.x C.b dX5_isLetter_1 (by rw [c1_19]; decide) (by rw [c1_19]; decide) (by rw [c1_19]; rfl) (by decide) ?_
    refine lv_iconst (v := (0 : Int32)) C.x C.b dX5_isLetter_110 (by decide) ?_
    have hf := so_e hf
    subst hf
    exact r_zret C hr hlk hR Ext.rf hS z_0 dX5_isLetter_111
  have hf := it_f hf c1_19
  by_cases c1_20 : x0 = (117 : Int32)
  · have hf := it_t hf c1_20
    refine lv_tableIn (tgt := 110) C.x C.b dX5_isLetter_1 (by rw [c1_20]; decide) (by rw [c1_20]; decide) (by rw [c1_20]; rfl) (by decide) ?_
    refine lv_iconst (v := (0 : Int32)) C.x C.b dX5_isLetter_110 (by decide) ?_
    have hf := so_e hf
    subst hf
    exact r_zret C hr hlk hR Ext.rf hS z_0 dX5_isLetter_111
  have hf := it_f hf c1_20
  by_cases c1_21 : x0 = (118 : Int32)
  · have hf := it_t hf c1_21
    refine lv_tableIn (tgt := 110) C.x C.b dX5_isLetter_1 (by rw [c1_21]; decide) (by rw [c1_21]; decide) (by rw [c1_21]; rfl) (by decide) ?_
    refine lv_iconst (v := (0 : Int32)) C.x C.b dX5_isLetter_110 (by decide) ?_
    have hf := so_e hf
    subst hf
    exact r_zret C hr hlk hR Ext.rf hS z_0 dX5_isLetter_111
  have hf := it_f hf c1_21
  by_cases c1_22 : x0 = (119 : Int32)
  · have hf := it_t hf c1_22
    refine lv_tableIn (tgt := 108) C.x C.b dX5_isLetter_1 (by rw [c1_22]; decide) (by rw [c1_22]; decide) (by rw [c1_22]; rfl) (by decide) ?_
    refine lv_iconst (v := (1 : Int32)) C.x C.b dX5_isLetter_108 (by decide) ?_
    have hf := so_e hf
    subst hf
    exact r_zret C hr hlk hR Ext.rf hS z_1 dX5_isLetter_109
  have hf := it_f hf c1_22
  refine lv_tableOut (tgt := 110) C.x C.b dX5_isLetter_1 (tb_out 23 (by decide) (fun j hj => match j, hj with | 0, _ => fun q => c1_0 (q.trans (by decide)) | 1, _ => fun q => c1_1 (q.trans (by decide)) | 2, _ => fun q => c1_2 (q.trans (by decide)) | 3, _ => fun q => c1_3 (q.trans (by decide)) | 4, _ => fun q => c1_4 (q.trans (by decide)) | 5, _ => fun q => c1_5 (q.trans (by decide)) | 6, _ => fun q => c1_6 (q.trans (by decide)) | 7, _ => fun q => c1_7 (q.trans (by decide)) | 8, _ => fun q => c1_8 (q.trans (by decide)) | 9, _ => fun q => c1_9 (q.trans (by decide)) | 10, _ => fun q => c1_10 (q.trans (by decide)) | 11, _ => fun q => c1_11 (q.trans (by decide)) | 12, _ => fun q => c1_12 (q.trans (by decide)) | 13, _ => fun q => c1_13 (q.trans (by decide)) | 14, _ => fun q => c1_14 (q.trans (by decide)) | 15, _ => fun q => c1_15 (q.trans (by decide)) | 16, _ => fun q => c1_16 (q.trans (by decide)) | 17, _ => fun q => c1_17 (q.trans (by decide)) | 18, _ => fun q => c1_18 (q.trans (by decide)) | 19, _ => fun q => c1_19 (q.trans (by decide)) | 20, _ => fun q => c1_20 (q.trans (by decide)) | 21, _ => fun q => c1_21 (q.trans (by decide)) | 22, _ => fun q => c1_22 (q.trans (by decide)) | n + 23, hn => absurd hn (by omega))) (by decide) ?_
  refine lv_iconst (v := (0 : Int32)) C.x C.b dX5_isLetter_110 (by decide) ?_
  have hf := so_e hf
  subst hf
  exact r_zret C hr hlk hR Ext.rf hS z_0 dX5_isLetter_111

def rm_X5_write : Room := { frames := 2, cells := 0, slots := 0, locals := 42 }
set_option maxRecDepth 100000 in
set_option maxHeartbeats 4000000 in
theorem k_X5_write {G : Gt} {l : Launch} {h : Hp} {r0 : Nat} {x1 : Int32} {out : Hp} (t_r0 : hpT h r0 = (1, 5))  (hf : f_X5_write h r0 x1 = some out) : Mt G l yX5_write cX5_write 2 (none) rm_X5_write [.ref (G.2.2 + r0), .int x1] h (none) out 0 0 0 := by
  refine r_met (by decide +kernel) (Nat.le_of_ble_eq_true rfl) ?_
  intro p e s m args below meth c ls C hr hlk hnm hR hS hl
  have hE : Ext h h := Ext.rf
  have hl : lv_has ls 2 [(0, .ref (G.2.2 + r0)), (1, .int x1)] := hl
  rw [f_X5_write] at hf
  refine lv_aload_n C.x C.b dX5_write_0 rfl (lv_at hl 0 rfl) ?_
  by_cases c1 : hpR h r0 1 = 0
  · refine r_getn C hR t_r0 fl_X5_15 (by decide) c1 dX5_write_1 ?_
    refine lv_ifnullN (tgt := 15) C.x C.b dX5_write_4 (by decide) ?_
    have hf := it_t hf c1
    have hf := so_e hf
    subst hf
    exact r_vret C hr hlk hR hE hS dX5_write_15
  · refine r_getr C hR t_r0 fl_X5_15 (by decide) c1 dX5_write_1 (fun tc1 => ?_)
    refine lv_ifnull C.x C.b dX5_write_4 ?_
    have hf := it_f hf c1
    refine lv_aload_n C.x C.b dX5_write_7 rfl (lv_at hl 0 rfl) ?_
    obtain ⟨g2, hf⟩ := gd_e hf
    refine r_getr C hR t_r0 fl_X5_15 (by decide) (nz_e g2) dX5_write_8 (fun tq3 => ?_)
    have tg2 := okO tq3 rfl
    refine lv_iload_n C.x C.b dX5_write_11 rfl (lv_at hl 1 rfl) ?_
    obtain ⟨q4, h_q4, hf⟩ := bd_e hf
    refine r_callV (As := [.int x1]) (rest := []) C hR hS tg2 rfl mk_X4_addSign cl_X5_53 (k_X4_addSign tg2 h_q4) ⟨⟨Nat.le_of_ble_eq_true rfl, Nat.le_of_ble_eq_true rfl⟩, ⟨rfl, rfl⟩, Nat.le_of_ble_eq_true rfl, Nat.le_of_ble_eq_true rfl⟩ rfl hl.1 rfl (Nat.le_of_ble_eq_true rfl) dX5_write_12 (fun H locs hR hS hE1 z_q4 => ?_)
    have hE := hE.tr hE1
    have t_r0 := hE1.at t_r0 (by decide)
    have hf := so_e hf
    subst hf
    exact r_vret C hr hlk hR hE hS dX5_write_15

def rm_X6_add : Room := { frames := 0, cells := 0, slots := 0, locals := 0 }
set_option maxRecDepth 100000 in
set_option maxHeartbeats 4000000 in
theorem k_X6_add {G : Gt} {l : Launch} {h : Hp} {r0 : Nat} {x1 : Int32} {out : Hp} (t_r0 : hpT h r0 = (1, 6))  (hf : f_X6_add h r0 x1 = some out) : Mt G l yX6_add cX6_add 2 (none) rm_X6_add [.ref (G.2.2 + r0), .int x1] h (none) out 0 0 0 := by
  refine r_met (by decide +kernel) (Nat.le_of_ble_eq_true rfl) ?_
  intro p e s m args below meth c ls C hr hlk hnm hR hS hl
  have hE : Ext h h := Ext.rf
  have hl : lv_has ls 2 [(0, .ref (G.2.2 + r0)), (1, .int x1)] := hl
  rw [f_X6_add] at hf
  refine lv_aload_n C.x C.b dX6_add_0 rfl (lv_at hl 0 rfl) ?_
  refine r_geti C hR t_r0 fl_X6_15 rfl dX6_add_1 ?_
  refine lv_if_lt (tgt := 39) C.x C.b dX6_add_4 (by decide) (fun c1 => ?_) (fun c1 => ?_)
  · have hf := it_t hf c1
    have hf := so_e hf
    subst hf
    exact r_vret C hr hlk hR hE hS dX6_add_39
  · have hf := it_f hf c1
    refine lv_aload_n C.x C.b dX6_add_7 rfl (lv_at hl 0 rfl) ?_
    refine r_geti C hR t_r0 fl_X6_15 rfl dX6_add_8 ?_
    refine lv_aload_n C.x C.b dX6_add_11 rfl (lv_at hl 0 rfl) ?_
    obtain ⟨g2, hf⟩ := gd_e hf
    refine r_getr C hR t_r0 fl_X6_9 (by decide) (nz_e g2) dX6_add_12 (fun tq3 => ?_)
    have tg2 := okA tq3 rfl
    refine r_alen C hR (Or.inl tg2) dX6_add_15 ?_
    refine lv_icmp_ge (tgt := 39) C.x C.b dX6_add_16 (by decide) (fun c4 => ?_) (fun c4 => ?_)
    · have hf := it_t hf c4
      have hf := so_e hf
      subst hf
      exact r_vret C hr hlk hR hE hS dX6_add_39
    · have hf := it_f hf c4
      refine lv_aload_n C.x C.b dX6_add_19 rfl (lv_at hl 0 rfl) ?_
      refine r_getr C hR t_r0 fl_X6_9 (by decide) (nz_e g2) dX6_add_20 (fun tq5 => ?_)
      refine lv_aload_n C.x C.b dX6_add_23 rfl (lv_at hl 0 rfl) ?_
      refine r_geti C hR t_r0 fl_X6_15 rfl dX6_add_24 ?_
      refine lv_iload_n C.x C.b dX6_add_27 rfl (lv_at hl 1 rfl) ?_
      obtain ⟨g6, hf⟩ := gd_e hf
      refine r_iast C hR hS tg2 g6 dX6_add_28 (fun H locs hR hS => ?_)
      obtain ⟨h7, e_h7⟩ : ∃ y, y = upI h (hpR h r0 0) (ix (hpI h r0 1)) x1 := ⟨_, rfl⟩
      rw [← e_h7] at hR
      have hf := lt_e hf e_h7
      have hE := eI e_h7 hE
      have t_r0 := tI e_h7 t_r0
      refine lv_aload_n C.x C.b dX6_add_29 rfl (lv_at hl 0 rfl) ?_
      refine lv_dup C.x C.b dX6_add_30 rfl ?_
      refine r_geti C hR t_r0 fl_X6_15 rfl dX6_add_31 ?_
      refine lv_iconst (v := (1 : Int32)) C.x C.b dX6_add_34 (by decide) ?_
      refine lv_iadd C.x C.b dX6_add_35 ?_
      refine r_puti C hR hS t_r0 fl_X6_15 fp_X6_6_1 rfl dX6_add_36 (fun H locs hR hS => ?_)
      obtain ⟨h8, e_h8⟩ : ∃ y, y = upI h7 r0 1 ((hpI h7 r0 1) + (1 : Int32)) := ⟨_, rfl⟩
      rw [← e_h8] at hR
      have hf := lt_e hf e_h8
      have hE := eI e_h8 hE
      have t_r0 := tI e_h8 t_r0
      have hf := so_e hf
      subst hf
      exact r_vret C hr hlk hR hE hS dX6_add_39

def rm_X7_start : Room := { frames := 0, cells := 0, slots := 0, locals := 0 }
set_option maxRecDepth 100000 in
set_option maxHeartbeats 4000000 in
theorem k_X7_start {G : Gt} {l : Launch} {h : Hp} {r0 : Nat} {out : Hp} (t_r0 : hpT h r0 = (1, 7))  (hf : f_X7_start h r0 = some out) : Mt G l yX7_start cX7_start 1 (none) rm_X7_start [.ref (G.2.2 + r0)] h (none) out 0 0 0 := by
  refine r_met (by decide +kernel) (Nat.le_of_ble_eq_true rfl) ?_
  intro p e s m args below meth c ls C hr hlk hnm hR hS hl
  have hE : Ext h h := Ext.rf
  have hl : lv_has ls 1 [(0, .ref (G.2.2 + r0))] := hl
  rw [f_X7_start] at hf
  refine lv_aload_n C.x C.b dX7_start_0 rfl (lv_at hl 0 rfl) ?_
  refine lv_iconst (v := (0 : Int32)) C.x C.b dX7_start_1 (by decide) ?_
  refine r_puti C hR hS t_r0 fl_X7_13 fp_X7_7_1 rfl dX7_start_2 (fun H locs hR hS => ?_)
  obtain ⟨h1, e_h1⟩ : ∃ y, y = upI h r0 1 (0 : Int32) := ⟨_, rfl⟩
  rw [← e_h1] at hR
  have hf := lt_e hf e_h1
  have hE := eI e_h1 hE
  have t_r0 := tI e_h1 t_r0
  have hf := so_e hf
  subst hf
  exact r_vret C hr hlk hR hE hS dX7_start_5

