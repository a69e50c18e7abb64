def rm_X10_does : Room := { frames := 7, cells := 0, slots := 0, locals := 171 }
def P_X10_does_171 (G : Gt) (l : Launch) (p : Program) (e : Env) (s : State) (m : MethodId) (args : Array Value) (below : List Frame) (meth : Method) (c : Code) (h0 : Hp) (out : (Int32 × Hp)) (r0 : Nat) (x1 : Int32) (k : Hp → Int32 → Int32 → Int32 → Option (Int32 × Hp)) : Prop := ∀ (H : Heap) (locs : List Loc) (ls : Array Slot) (h : Hp) (s0 : Int32) (x2 : Int32) (x3 : Int32), k h s0 x2 x3 = some out → Ext h0 h → Rel G h H → va_S (AA G.2.2) s.heap H locs → hpT h r0 = (1, 10) → narrow .boolean (.int s0) = .int s0 → lv_has ls 5 [(0, .ref (G.2.2 + r0)), (1, .int x1), (2, .int x2), (3, .int x3)] → W p l e rm_X10_does s m args below meth c H locs 0 0 (MQ below (Qm G h0 out.2 (some (.int out.1)) 1) args s 0 0 (AA G.2.2)) (F0 m 171 ls [.int s0])
def P_X10_does_170 (G : Gt) (l : Launch) (p : Program) (e : Env) (s : State) (m : MethodId) (args : Array Value) (below : List Frame) (meth : Method) (c : Code) (h0 : Hp) (out : (Int32 × Hp)) (r0 : Nat) (x1 : Int32) (k : Hp → Int32 → Int32 → Option (Int32 × Hp)) : Prop := ∀ (H : Heap) (locs : List Loc) (ls : Array Slot) (h : Hp) (x2 : Int32) (x3 : Int32), k h x2 x3 = some out → Ext h0 h → Rel G h H → va_S (AA G.2.2) s.heap H locs → hpT h r0 = (1, 10) → lv_has ls 5 [(0, .ref (G.2.2 + r0)), (1, .int x1), (2, .int x2), (3, .int x3)] → W p l e rm_X10_does s m args below meth c H locs 0 0 (MQ below (Qm G h0 out.2 (some (.int out.1)) 1) args s 0 0 (AA G.2.2)) (F0 m 170 ls [])
def P_X10_does_51 (G : Gt) (l : Launch) (p : Program) (e : Env) (s : State) (m : MethodId) (args : Array Value) (below : List Frame) (meth : Method) (c : Code) (h0 : Hp) (out : (Int32 × Hp)) (r0 : Nat) (x1 : Int32) (k : Hp → Int32 → Int32 → Option (Int32 × Hp)) : Prop := ∀ (H : Heap) (locs : List Loc) (ls : Array Slot) (h : Hp) (x3 : Int32) (x4 : Int32), k h x3 x4 = some out → Ext h0 h → Rel G h H → va_S (AA G.2.2) s.heap H locs → hpT h r0 = (1, 10) → lv_has ls 5 [(0, .ref (G.2.2 + r0)), (1, .int x1), (3, .int x3), (4, .int x4)] → W p l e rm_X10_does s m args below meth c H locs 0 0 (MQ below (Qm G h0 out.2 (some (.int out.1)) 1) args s 0 0 (AA G.2.2)) (F0 m 51 ls [])
set_option maxRecDepth 100000 in
set_option maxHeartbeats 4000000 in
theorem w_X10_does_171 {G : Gt} {l : Launch} {p : Program} {e : Env} {s : State} {m : MethodId} {args : Array Value} {below : List Frame} {meth : Method} {c : Code}  {h0 : Hp} {out : (Int32 × Hp)} {r0 : Nat} {x1 : Int32}  (C : Cx G p m c cX10_does 5 s args RX10) (hr : meth.sig.returnType = some .boolean) (hlk : meth.locks = false)   : P_X10_does_171 G l p e s m args below meth c h0 out r0 x1 (f_X10_does_171 r0 x1) := by
  intro H locs ls h s0 x2 x3 hf hE hR hS t_r0 z_s0 hl
  rw [f_X10_does_171] at hf
  refine lv_istore (lv' := [(4, .int s0), (0, .ref (G.2.2 + r0)), (1, .int x1), (2, .int x2), (3, .int x3)]) C.x C.b dX10_does_171 hl (by decide) rfl (fun ls hl => ?_)
  refine lv_iload C.x C.b dX10_does_173 (lv_at hl 0 rfl) ?_
  refine lv_if_eq (tgt := 240) C.x C.b dX10_does_175 (by decide) (fun c29 => ?_) (fun c29 => ?_)
  · have hf := it_t hf c29
    refine lv_iconst (v := (0 : Int32)) C.x C.b dX10_does_240 (by decide) ?_
    have hf := so_e hf
    subst hf
    exact r_zret C hr hlk hR hE hS z_0 dX10_does_241
  · have hf := it_f hf c29
    refine lv_aload_n C.x C.b dX10_does_178 rfl (lv_at hl 1 rfl) ?_
    refine lv_aload_n C.x C.b dX10_does_179 rfl (lv_at hl 1 rfl) ?_
    obtain ⟨g30, hf⟩ := gd_e hf
    refine r_getr C hR t_r0 fl_X10_20 (by decide) (nz_e g30) dX10_does_180 (fun tq31 => ?_)
    have tg30 := okA tq31 rfl
    refine lv_aload_n C.x C.b dX10_does_183 rfl (lv_at hl 1 rfl) ?_
    refine r_geti C hR t_r0 fl_X10_17 rfl dX10_does_184 ?_
    refine lv_iload_n C.x C.b dX10_does_187 rfl (lv_at hl 4 rfl) ?_
    refine lv_imul C.x C.b dX10_does_188 ?_
    refine lv_aload_n C.x C.b dX10_does_189 rfl (lv_at hl 1 rfl) ?_
    obtain ⟨g32, hf⟩ := gd_e hf
    refine r_getr C hR t_r0 fl_X10_57 (by decide) (nz_e g32) dX10_does_190 (fun tq33 => ?_)
    have tg32 := okA tq33 rfl
    refine lv_iload_n C.x C.b dX10_does_193 rfl (lv_at hl 3 rfl) ?_
    refine lv_iconst (v := (1 : Int32)) C.x C.b dX10_does_194 (by decide) ?_
    refine lv_iadd C.x C.b dX10_does_195 ?_
    obtain ⟨g34, hf⟩ := gd_e hf
    refine r_iald C hR tg32 g34 dX10_does_196 ?_
    refine lv_iadd C.x C.b dX10_does_197 ?_
    refine lv_aload_n C.x C.b dX10_does_198 rfl (lv_at hl 1 rfl) ?_
    refine r_getr C hR t_r0 fl_X10_57 (by decide) (nz_e g32) dX10_does_199 (fun tq35 => ?_)
    refine lv_iload_n C.x C.b dX10_does_202 rfl (lv_at hl 3 rfl) ?_
    refine lv_iconst (v := (2 : Int32)) C.x C.b dX10_does_203 (by decide) ?_
    refine lv_iadd C.x C.b dX10_does_204 ?_
    obtain ⟨g36, hf⟩ := gd_e hf
    refine r_iald C hR tg32 g36 dX10_does_205 ?_
    refine lv_aload_n C.x C.b dX10_does_206 rfl (lv_at hl 1 rfl) ?_
    refine r_getr C hR t_r0 fl_X10_57 (by decide) (nz_e g32) dX10_does_207 (fun tq37 => ?_)
    refine lv_iload_n C.x C.b dX10_does_210 rfl (lv_at hl 3 rfl) ?_
    refine lv_iconst (v := (3 : Int32)) C.x C.b dX10_does_211 (by decide) ?_
    refine lv_iadd C.x C.b dX10_does_212 ?_
    obtain ⟨g38, hf⟩ := gd_e hf
    refine r_iald C hR tg32 g38 dX10_does_213 ?_
    refine lv_aload_n C.x C.b dX10_does_214 rfl (lv_at hl 1 rfl) ?_
    refine r_getr C hR t_r0 fl_X10_57 (by decide) (nz_e g32) dX10_does_215 (fun tq39 => ?_)
    refine lv_iload_n C.x C.b dX10_does_218 rfl (lv_at hl 3 rfl) ?_
    refine lv_iconst (v := (4 : Int32)) C.x C.b dX10_does_219 (by decide) ?_
    refine lv_iadd C.x C.b dX10_does_220 ?_
    obtain ⟨g40, hf⟩ := gd_e hf
    refine r_iald C hR tg32 g40 dX10_does_221 ?_
    refine lv_aload_n C.x C.b dX10_does_222 rfl (lv_at hl 1 rfl) ?_
    refine r_getr C hR t_r0 fl_X10_57 (by decide) (nz_e g32) dX10_does_223 (fun tq41 => ?_)
    refine lv_iload_n C.x C.b dX10_does_226 rfl (lv_at hl 3 rfl) ?_
    refine lv_iconst (v := (5 : Int32)) C.x C.b dX10_does_227 (by decide) ?_
    refine lv_iadd C.x C.b dX10_does_228 ?_
    obtain ⟨g42, hf⟩ := gd_e hf
    refine r_iald C hR tg32 g42 dX10_does_229 ?_
    obtain ⟨q43, h_q43, hf⟩ := bd_e hf
    refine r_callV (As := [.ref (G.2.2 + (hpR h r0 6)), .int (((hpI h r0 4) * x3) + (hpI h (hpR h r0 27) (ix (x2 + (1 : Int32))))), .int (hpI h (hpR h r0 27) (ix (x2 + (2 : Int32)))), .int (hpI h (hpR h r0 27) (ix (x2 + (3 : Int32)))), .int (hpI h (hpR h r0 27) (ix (x2 + (4 : Int32)))), .int (hpI h (hpR h r0 27) (ix (x2 + (5 : Int32))))]) (rest := []) C hR hS t_r0 rfl mk_X10_pitches cl_X10_343 (k_X10_pitches t_r0 tg30 h_q43) ⟨⟨Nat.le_of_ble_eq_true rfl, Nat.le_of_ble_eq_true rfl⟩, ⟨rfl, rfl⟩, Nat.le_of_ble_eq_true rfl, Nat.le_of_ble_eq_true rfl⟩ rfl hl.1 rfl (Nat.le_of_ble_eq_true rfl) dX10_does_230 (fun H locs hR hS hE1 z_q43 => ?_)
    have hE := hE.tr hE1
    have t_r0 := hE1.at t_r0 (by decide)
    refine lv_if_lt (tgt := 240) C.x C.b dX10_does_233 (by decide) (fun c44 => ?_) (fun c44 => ?_)
    · have hf := it_t hf c44
      refine lv_iconst (v := (0 : Int32)) C.x C.b dX10_does_240 (by decide) ?_
      have hf := so_e hf
      subst hf
      exact r_zret C hr hlk hR hE hS z_0 dX10_does_241
    · have hf := it_f hf c44
      refine lv_iconst (v := (1 : Int32)) C.x C.b dX10_does_236 (by decide) ?_
      refine lv_goto (tgt := 241) C.x C.b dX10_does_237 (by decide) ?_
      have hf := so_e hf
      subst hf
      exact r_zret C hr hlk hR hE hS z_1 dX10_does_241
set_option maxRecDepth 100000 in
set_option maxHeartbeats 4000000 in
theorem w_X10_does_170 {G : Gt} {l : Launch} {p : Program} {e : Env} {s : State} {m : MethodId} {args : Array Value} {below : List Frame} {meth : Method} {c : Code}  {h0 : Hp} {out : (Int32 × Hp)} {r0 : Nat} {x1 : Int32}  (C : Cx G p m c cX10_does 5 s args RX10) (hr : meth.sig.returnType = some .boolean) (hlk : meth.locks = false)   : P_X10_does_170 G l p e s m args below meth c h0 out r0 x1 (f_X10_does_170 r0 x1) := by
  intro H locs ls h x2 x3 hf hE hR hS t_r0 hl
  rw [f_X10_does_170] at hf
  refine lv_iconst (v := (0 : Int32)) C.x C.b dX10_does_170 (by decide) ?_
  exact w_X10_does_171 C hr hlk _ _ _ _ _ _ _ hf hE hR hS t_r0 z_0 (lv_sub hl [0, 1, 2, 3] rfl)
set_option maxRecDepth 100000 in
set_option maxHeartbeats 4000000 in
theorem w_X10_does_51 {G : Gt} {l : Launch} {p : Program} {e : Env} {s : State} {m : MethodId} {args : Array Value} {below : List Frame} {meth : Method} {c : Code}  {h0 : Hp} {out : (Int32 × Hp)} {r0 : Nat} {x1 : Int32}  (C : Cx G p m c cX10_does 5 s args RX10) (hr : meth.sig.returnType = some .boolean) (hlk : meth.locks = false)   (n : Nat) : P_X10_does_51 G l p e s m args below meth c h0 out r0 x1 (f_X10_does_51 r0 x1 n) := by
  induction n with
  | zero => intro H locs ls h x3 x4 hf hE hR hS t_r0 hl; cases hf
  | succ n hk51 =>
    intro H locs ls h x3 x4 hf hE hR hS t_r0 hl
    rw [f_X10_does_51] at hf
    obtain ⟨k51, e_k51⟩ : ∃ y, y = f_X10_does_51 r0 x1 n := ⟨_, rfl⟩
    have hf := lt_e hf e_k51
    rw [← e_k51] at hk51
    refine lv_iload C.x C.b dX10_does_51 (lv_at hl 3 rfl) ?_
    refine lv_iload_n C.x C.b dX10_does_53 rfl (lv_at hl 2 rfl) ?_
    refine lv_icmp_ge (tgt := 71) C.x C.b dX10_does_54 (by decide) (fun c45 => ?_) (fun c45 => ?_)
    · have hf := it_t hf c45
      refine lv_iconst (v := (1 : Int32)) C.x C.b dX10_does_71 (by decide) ?_
      have hf := so_e hf
      subst hf
      exact r_zret C hr hlk hR hE hS z_1 dX10_does_72
    · have hf := it_f hf c45
      refine lv_aload_n C.x C.b dX10_does_57 rfl (lv_at hl 0 rfl) ?_
      refine lv_aload_n C.x C.b dX10_does_58 rfl (lv_at hl 0 rfl) ?_
      obtain ⟨g46, hf⟩ := gd_e hf
      refine r_getr C hR t_r0 fl_X10_20 (by decide) (nz_e g46) dX10_does_59 (fun tq47 => ?_)
      have tg46 := okA tq47 rfl
      obtain ⟨q48, h_q48, hf⟩ := bd_e hf
      refine r_callV (As := [.ref (G.2.2 + (hpR h r0 6))]) (rest := []) C hR hS t_r0 rfl mk_X10_yearGoes cl_X10_318 (k_X10_yearGoes t_r0 tg46 h_q48) ⟨⟨Nat.le_of_ble_eq_true rfl, Nat.le_of_ble_eq_true rfl⟩, ⟨rfl, rfl⟩, Nat.le_of_ble_eq_true rfl, Nat.le_of_ble_eq_true rfl⟩ rfl hl.1 rfl (Nat.le_of_ble_eq_true rfl) dX10_does_62 (fun H locs hR hS hE1 z_q48 => ?_)
      have hE := hE.tr hE1
      have t_r0 := hE1.at t_r0 (by decide)
      obtain ⟨v49, e_v49⟩ : ∃ y : Int32, y = x4 + (1 : Int32) := ⟨_, rfl⟩
      have hf := lt_e hf e_v49
      refine lv_iinc (v := v49) (lv' := [(4, .int v49), (0, .ref (G.2.2 + r0)), (1, .int x1), (3, .int x3)]) C.x C.b dX10_does_65 hl (k := 3) rfl (by rw [e_v49]; rfl) (by decide) rfl (fun ls hl => ?_)
      refine lv_goto (tgt := 51) C.x C.b dX10_does_68 (by decide) ?_
      exact hk51 _ _ _ _ _ _ hf hE hR hS t_r0 (lv_sub hl [1, 2, 3, 0] rfl)
set_option maxRecDepth 100000 in
set_option maxHeartbeats 4000000 in
theorem k_X10_does {G : Gt} {l : Launch}  {h : Hp} {r0 : Nat} {x1 : Int32} {out : (Int32 × Hp)} (t_r0 : hpT h r0 = (1, 10))  (hf : f_X10_does  h r0 x1 = some out) : Mt G l yX10_does cX10_does 5 (some .boolean) rm_X10_does [.ref (G.2.2 + r0), .int x1] h (some (.int out.1)) out.2 1 0 0 := by
  refine r_met (by decide +kernel) (Nat.le_of_ble_eq_true rfl) ?_
  intro p e s m args below meth c ls C hr hlk hnm hR hS hl
  have hE : Ext h h := Ext.rf
  have hl : lv_has ls 5 [(0, .ref (G.2.2 + r0)), (1, .int x1)] := hl
  rw [f_X10_does] at hf
  refine lv_bipush (v := (6 : Int32)) C.x C.b dX10_does_0 (by decide) ?_
  refine lv_iload_n C.x C.b dX10_does_2 rfl (lv_at hl 1 rfl) ?_
  refine lv_imul C.x C.b dX10_does_3 ?_
  refine lv_topi (fun v1 e_v1 => ?_)
  have hf := lt_e hf e_v1
  refine lv_istore_n (lv' := [(2, .int v1), (0, .ref (G.2.2 + r0)), (1, .int x1)]) C.x C.b dX10_does_4 rfl hl (by decide) rfl (fun ls hl => ?_)
  refine lv_aload_n C.x C.b dX10_does_5 rfl (lv_at hl 1 rfl) ?_
  obtain ⟨g2, hf⟩ := gd_e hf
  refine r_getr C hR t_r0 fl_X10_57 (by decide) (nz_e g2) dX10_does_6 (fun tq3 => ?_)
  have tg2 := okA tq3 rfl
  refine lv_iload_n C.x C.b dX10_does_9 rfl (lv_at hl 0 rfl) ?_
  obtain ⟨g4, hf⟩ := gd_e hf
  refine r_iald C hR tg2 g4 dX10_does_10 ?_
  refine lv_topi (fun v5 e_v5 => ?_)
  have hf := lt_e hf e_v5
  refine lv_istore_n (lv' := [(3, .int v5), (2, .int v1), (0, .ref (G.2.2 + r0)), (1, .int x1)]) C.x C.b dX10_does_11 rfl hl (by decide) rfl (fun ls hl => ?_)
  refine lv_aload_n C.x C.b dX10_does_12 rfl (lv_at hl 2 rfl) ?_
  obtain ⟨g6, hf⟩ := gd_e hf
  refine r_getr C hR t_r0 fl_X10_54 (by decide) (nz_e g6) dX10_does_13 (fun tq7 => ?_)
  have tg6 := okA tq7 rfl
  refine lv_iload_n C.x C.b dX10_does_16 rfl (lv_at hl 3 rfl) ?_
  obtain ⟨g8, hf⟩ := gd_e hf
  refine r_iald C hR tg6 g8 dX10_does_17 ?_
  refine lv_topi (fun v9 e_v9 => ?_)
  have hf := lt_e hf e_v9
  by_cases c28_0 : v9 = (0 : Int32)
  · have hf := it_t hf c28_0
    refine lv_tableIn (tgt := 48) C.x C.b dX10_does_18 (by rw [c28_0]; decide) (by rw [c28_0]; decide) (by rw [c28_0]; rfl) (by decide) ?_
    refine lv_iconst (v := (0 : Int32)) C.x C.b dX10_does_48 (by decide) ?_
    refine lv_istore (lv' := [(4, .int (0 : Int32)), (3, .int v5), (2, .int v1), (0, .ref (G.2.2 + r0)), (1, .int x1)]) C.x C.b dX10_does_49 hl (by decide) rfl (fun ls hl => ?_)
    exact w_X10_does_51 C hr hlk FU _ _ _ _ _ _ hf hE hR hS t_r0 (lv_sub hl [3, 4, 1, 0] rfl)
  have hf := it_f hf c28_0
  by_cases c28_1 : v9 = (1 : Int32)
  · have hf := it_t hf c28_1
    refine lv_tableIn (tgt := 73) C.x C.b dX10_does_18 (by rw [c28_1]; decide) (by rw [c28_1]; decide) (by rw [c28_1]; rfl) (by decide) ?_
    refine lv_aload_n C.x C.b dX10_does_73 rfl (lv_at hl 2 rfl) ?_
    refine lv_aload_n C.x C.b dX10_does_74 rfl (lv_at hl 2 rfl) ?_
    obtain ⟨g10, hf⟩ := gd_e hf
    refine r_getr C hR t_r0 fl_X10_20 (by decide) (nz_e g10) dX10_does_75 (fun tq11 => ?_)
    have tg10 := okA tq11 rfl
    refine lv_iload_n C.x C.b dX10_does_78 rfl (lv_at hl 0 rfl) ?_
    refine lv_aload_n C.x C.b dX10_does_79 rfl (lv_at hl 2 rfl) ?_
    refine r_getr C hR t_r0 fl_X10_57 (by decide) (nz_e g2) dX10_does_80 (fun tq12 => ?_)
    refine lv_iload_n C.x C.b dX10_does_83 rfl (lv_at hl 1 rfl) ?_
    refine lv_iconst (v := (1 : Int32)) C.x C.b dX10_does_84 (by decide) ?_
    refine lv_iadd C.x C.b dX10_does_85 ?_
    obtain ⟨g13, hf⟩ := gd_e hf
    refine r_iald C hR tg2 g13 dX10_does_86 ?_
    obtain ⟨q14, h_q14, hf⟩ := bd_e hf
    refine r_callV (As := [.ref (G.2.2 + (hpR h r0 6)), .int v5, .int (hpI h (hpR h r0 27) (ix (v1 + (1 : Int32))))]) (rest := []) C hR hS t_r0 rfl mk_X10_movesOne cl_X10_356 (k_X10_movesOne t_r0 tg10 h_q14) ⟨⟨Nat.le_of_ble_eq_true rfl, Nat.le_of_ble_eq_true rfl⟩, ⟨rfl, rfl⟩, Nat.le_of_ble_eq_true rfl, Nat.le_of_ble_eq_true rfl⟩ rfl hl.1 rfl (Nat.le_of_ble_eq_true rfl) dX10_does_87 (fun H locs hR hS hE1 z_q14 => ?_)
    have hE := hE.tr hE1
    have t_r0 := hE1.at t_r0 (by decide)
    refine lv_if_lt (tgt := 97) C.x C.b dX10_does_90 (by decide) (fun c15 => ?_) (fun c15 => ?_)
    · have hf := it_t hf c15
      refine lv_iconst (v := (0 : Int32)) C.x C.b dX10_does_97 (by decide) ?_
      have hf := so_e hf
      subst hf
      exact r_zret C hr hlk hR hE hS z_0 dX10_does_98
    · have hf := it_f hf c15
      refine lv_iconst (v := (1 : Int32)) C.x C.b dX10_does_93 (by decide) ?_
      refine lv_goto (tgt := 98) C.x C.b dX10_does_94 (by decide) ?_
      have hf := so_e hf
      subst hf
      exact r_zret C hr hlk hR hE hS z_1 dX10_does_98
  have hf := it_f hf c28_1
  by_cases c28_2 : v9 = (2 : Int32)
  · have hf := it_t hf c28_2
    refine lv_tableIn (tgt := 99) C.x C.b dX10_does_18 (by rw [c28_2]; decide) (by rw [c28_2]; decide) (by rw [c28_2]; rfl) (by decide) ?_
    refine lv_aload_n C.x C.b dX10_does_99 rfl (lv_at hl 2 rfl) ?_
    refine lv_iload_n C.x C.b dX10_does_100 rfl (lv_at hl 0 rfl) ?_
    refine lv_aload_n C.x C.b dX10_does_101 rfl (lv_at hl 2 rfl) ?_
    refine r_getr C hR t_r0 fl_X10_57 (by decide) (nz_e g2) dX10_does_102 (fun tq16 => ?_)
    refine lv_iload_n C.x C.b dX10_does_105 rfl (lv_at hl 1 rfl) ?_
    refine lv_iconst (v := (1 : Int32)) C.x C.b dX10_does_106 (by decide) ?_
    refine lv_iadd C.x C.b dX10_does_107 ?_
    obtain ⟨g17, hf⟩ := gd_e hf
    refine r_iald C hR tg2 g17 dX10_does_108 ?_
    obtain ⟨q18, h_q18, hf⟩ := bd_e hf
    refine r_callV (As := [.int v5, .int (hpI h (hpR h r0 27) (ix (v1 + (1 : Int32))))]) (rest := []) C hR hS t_r0 rfl mk_X10_treadsOn cl_X10_350 (k_X10_treadsOn t_r0 h_q18) ⟨⟨Nat.le_of_ble_eq_true rfl, Nat.le_of_ble_eq_true rfl⟩, ⟨rfl, rfl⟩, Nat.le_of_ble_eq_true rfl, Nat.le_of_ble_eq_true rfl⟩ rfl hl.1 rfl (Nat.le_of_ble_eq_true rfl) dX10_does_109 (fun H locs hR hS hE1 z_q18 => ?_)
    have hE := hE.tr hE1
    have t_r0 := hE1.at t_r0 (by decide)
    refine lv_if_lt (tgt := 119) C.x C.b dX10_does_112 (by decide) (fun c19 => ?_) (fun c19 => ?_)
    · have hf := it_t hf c19
      refine lv_iconst (v := (0 : Int32)) C.x C.b dX10_does_119 (by decide) ?_
      have hf := so_e hf
      subst hf
      exact r_zret C hr hlk hR hE hS z_0 dX10_does_120
    · have hf := it_f hf c19
      refine lv_iconst (v := (1 : Int32)) C.x C.b dX10_does_115 (by decide) ?_
      refine lv_goto (tgt := 120) C.x C.b dX10_does_116 (by decide) ?_
      have hf := so_e hf
      subst hf
      exact r_zret C hr hlk hR hE hS z_1 dX10_does_120
  have hf := it_f hf c28_2
  by_cases c28_3 : v9 = (3 : Int32)
  · have hf := it_t hf c28_3
    refine lv_tableIn (tgt := 121) C.x C.b dX10_does_18 (by rw [c28_3]; decide) (by rw [c28_3]; decide) (by rw [c28_3]; rfl) (by decide) ?_
    refine lv_aload_n C.x C.b dX10_does_121 rfl (lv_at hl 2 rfl) ?_
    refine lv_iload_n C.x C.b dX10_does_122 rfl (lv_at hl 0 rfl) ?_
    refine lv_aload_n C.x C.b dX10_does_123 rfl (lv_at hl 2 rfl) ?_
    refine r_getr C hR t_r0 fl_X10_57 (by decide) (nz_e g2) dX10_does_124 (fun tq20 => ?_)
    refine lv_iload_n C.x C.b dX10_does_127 rfl (lv_at hl 1 rfl) ?_
    refine lv_iconst (v := (1 : Int32)) C.x C.b dX10_does_128 (by decide) ?_
    refine lv_iadd C.x C.b dX10_does_129 ?_
    obtain ⟨g21, hf⟩ := gd_e hf
    refine r_iald C hR tg2 g21 dX10_does_130 ?_
    obtain ⟨q22, h_q22, hf⟩ := bd_e hf
    refine r_callV (As := [.int v5, .int (hpI h (hpR h r0 27) (ix (v1 + (1 : Int32))))]) (rest := []) C hR hS t_r0 rfl mk_X10_singsTo cl_X10_353 (k_X10_singsTo t_r0 h_q22) ⟨⟨Nat.le_of_ble_eq_true rfl, Nat.le_of_ble_eq_true rfl⟩, ⟨rfl, rfl⟩, Nat.le_of_ble_eq_true rfl, Nat.le_of_ble_eq_true rfl⟩ rfl hl.1 rfl (Nat.le_of_ble_eq_true rfl) dX10_does_131 (fun H locs hR hS hE1 z_q22 => ?_)
    have hE := hE.tr hE1
    have t_r0 := hE1.at t_r0 (by decide)
    refine lv_if_lt (tgt := 141) C.x C.b dX10_does_134 (by decide) (fun c23 => ?_) (fun c23 => ?_)
    · have hf := it_t hf c23
      refine lv_iconst (v := (0 : Int32)) C.x C.b dX10_does_141 (by decide) ?_
      have hf := so_e hf
      subst hf
      exact r_zret C hr hlk hR hE hS z_0 dX10_does_142
    · have hf := it_f hf c23
      refine lv_iconst (v := (1 : Int32)) C.x C.b dX10_does_137 (by decide) ?_
      refine lv_goto (tgt := 142) C.x C.b dX10_does_138 (by decide) ?_
      have hf := so_e hf
      subst hf
      exact r_zret C hr hlk hR hE hS z_1 dX10_does_142
  have hf := it_f hf c28_3
  refine lv_tableOut (tgt := 143) C.x C.b dX10_does_18 (tb_out 4 (by decide) (fun j hj => match j, hj with | 0, _ => fun q => c28_0 (q.trans (by decide)) | 1, _ => fun q => c28_1 (q.trans (by decide)) | 2, _ => fun q => c28_2 (q.trans (by decide)) | 3, _ => fun q => c28_3 (q.trans (by decide)) | n + 4, hn => absurd hn (by omega))) (by decide) ?_
  refine lv_iload_n C.x C.b dX10_does_143 rfl (lv_at hl 0 rfl) ?_
  refine lv_aload_n C.x C.b dX10_does_144 rfl (lv_at hl 2 rfl) ?_
  refine r_geti C hR t_r0 fl_X10_13 rfl dX10_does_145 ?_
  refine lv_icmp_ge (tgt := 170) C.x C.b dX10_does_148 (by decide) (fun c24 => ?_) (fun c24 => ?_)
  · have hf := it_t hf c24
    exact w_X10_does_170 C hr hlk _ _ _ _ _ _ hf hE hR hS t_r0 (lv_sub hl [2, 3, 1, 0] rfl)
  · have hf := it_f hf c24
    refine lv_aload_n C.x C.b dX10_does_151 rfl (lv_at hl 2 rfl) ?_
    refine r_getr C hR t_r0 fl_X10_57 (by decide) (nz_e g2) dX10_does_152 (fun tq25 => ?_)
    refine lv_iload_n C.x C.b dX10_does_155 rfl (lv_at hl 1 rfl) ?_
    refine lv_iconst (v := (1 : Int32)) C.x C.b dX10_does_156 (by decide) ?_
    refine lv_iadd C.x C.b dX10_does_157 ?_
    obtain ⟨g26, hf⟩ := gd_e hf
    refine r_iald C hR tg2 g26 dX10_does_158 ?_
    refine lv_aload_n C.x C.b dX10_does_159 rfl (lv_at hl 2 rfl) ?_
    refine r_geti C hR t_r0 fl_X10_17 rfl dX10_does_160 ?_
    refine lv_icmp_ge (tgt := 170) C.x C.b dX10_does_163 (by decide) (fun c27 => ?_) (fun c27 => ?_)
    · have hf := it_t hf c27
      exact w_X10_does_170 C hr hlk _ _ _ _ _ _ hf hE hR hS t_r0 (lv_sub hl [2, 3, 1, 0] rfl)
    · have hf := it_f hf c27
      refine lv_iconst (v := (1 : Int32)) C.x C.b dX10_does_166 (by decide) ?_
      refine lv_goto (tgt := 171) C.x C.b dX10_does_167 (by decide) ?_
      exact w_X10_does_171 C hr hlk _ _ _ _ _ _ _ hf hE hR hS t_r0 z_1 (lv_sub hl [2, 3, 1, 0] rfl)

def rm_X10_story : Room := { frames := 8, cells := 0, slots := 0, locals := 195 }
def P_X10_story_108 (G : Gt) (l : Launch) (p : Program) (e : Env) (s : State) (m : MethodId) (args : Array Value) (below : List Frame) (meth : Method) (c : Code) (h0 : Hp) (out : (Int32 × Hp)) (r0 : Nat) (k : Hp → Nat → Int32 → Int32 → Option (Int32 × Hp)) : Prop := ∀ (H : Heap) (locs : List Loc) (ls : Array Slot) (h : Hp) (s0 : Nat) (s1 : Int32) (x4 : Int32), k h s0 s1 x4 = some out → Ext h0 h → Rel G h H → va_S (AA G.2.2) s.heap H locs → hpT h r0 = (1, 10) → hpT h s0 = (1, 10) → narrow .boolean (.int s1) = .int s1 → lv_has ls 5 [(0, .ref (G.2.2 + r0)), (4, .int x4)] → W p l e rm_X10_story s m args below meth c H locs 0 0 (MQ below (Qm G h0 out.2 (some (.int out.1)) 0) args s 0 0 (AA G.2.2)) (F0 m 108 ls [.int s1, .ref (G.2.2 + s0)])
def P_X10_story_88 (G : Gt) (l : Launch) (p : Program) (e : Env) (s : State) (m : MethodId) (args : Array Value) (below : List Frame) (meth : Method) (c : Code) (h0 : Hp) (out : (Int32 × Hp)) (r0 : Nat) (k : Hp → Int32 → Option (Int32 × Hp)) : Prop := ∀ (H : Heap) (locs : List Loc) (ls : Array Slot) (h : Hp) (x4 : Int32), k h x4 = some out → Ext h0 h → Rel G h H → va_S (AA G.2.2) s.heap H locs → hpT h r0 = (1, 10) → lv_has ls 5 [(0, .ref (G.2.2 + r0)), (4, .int x4)] → W p l e rm_X10_story s m args below meth c H locs 0 0 (MQ below (Qm G h0 out.2 (some (.int out.1)) 0) args s 0 0 (AA G.2.2)) (F0 m 88 ls [])
def P_X10_story_64 (G : Gt) (l : Launch) (p : Program) (e : Env) (s : State) (m : MethodId) (args : Array Value) (below : List Frame) (meth : Method) (c : Code) (h0 : Hp) (out : (Int32 × Hp)) (r0 : Nat) (k : Hp → Int32 → Option (Int32 × Hp)) : Prop := ∀ (H : Heap) (locs : List Loc) (ls : Array Slot) (h : Hp) (x4 : Int32), k h x4 = some out → Ext h0 h → Rel G h H → va_S (AA G.2.2) s.heap H locs → hpT h r0 = (1, 10) → lv_has ls 5 [(0, .ref (G.2.2 + r0)), (4, .int x4)] → W p l e rm_X10_story s m args below meth c H locs 0 0 (MQ below (Qm G h0 out.2 (some (.int out.1)) 0) args s 0 0 (AA G.2.2)) (F0 m 64 ls [])
def P_X10_story_42 (G : Gt) (l : Launch) (p : Program) (e : Env) (s : State) (m : MethodId) (args : Array Value) (below : List Frame) (meth : Method) (c : Code) (h0 : Hp) (out : (Int32 × Hp)) (r0 : Nat) (k : Hp → Int32 → Int32 → Option (Int32 × Hp)) : Prop := ∀ (H : Heap) (locs : List Loc) (ls : Array Slot) (h : Hp) (x1 : Int32) (x2 : Int32), k h x1 x2 = some out → Ext h0 h → Rel G h H → va_S (AA G.2.2) s.heap H locs → hpT h r0 = (1, 10) → narrow .boolean (.int x2) = .int x2 → lv_has ls 5 [(0, .ref (G.2.2 + r0)), (1, .int x1), (2, .int x2)] → W p l e rm_X10_story s m args below meth c H locs 0 0 (MQ below (Qm G h0 out.2 (some (.int out.1)) 0) args s 0 0 (AA G.2.2)) (F0 m 42 ls [])
def P_X10_story_19 (G : Gt) (l : Launch) (p : Program) (e : Env) (s : State) (m : MethodId) (args : Array Value) (below : List Frame) (meth : Method) (c : Code) (h0 : Hp) (out : (Int32 × Hp)) (r0 : Nat) (k : Hp → Int32 → Int32 → Option (Int32 × Hp)) : Prop := ∀ (H : Heap) (locs : List Loc) (ls : Array Slot) (h : Hp) (x1 : Int32) (x2 : Int32), k h x1 x2 = some out → Ext h0 h → Rel G h H → va_S (AA G.2.2) s.heap H locs → hpT h r0 = (1, 10) → narrow .boolean (.int x2) = .int x2 → lv_has ls 5 [(0, .ref (G.2.2 + r0)), (1, .int x1), (2, .int x2)] → W p l e rm_X10_story s m args below meth c H locs 0 0 (MQ below (Qm G h0 out.2 (some (.int out.1)) 0) args s 0 0 (AA G.2.2)) (F0 m 19 ls [])
set_option maxRecDepth 100000 in
set_option maxHeartbeats 4000000 in
theorem w_X10_story_108 {G : Gt} {l : Launch} {p : Program} {e : Env} {s : State} {m : MethodId} {args : Array Value} {below : List Frame} {meth : Method} {c : Code}  {h0 : Hp} {out : (Int32 × Hp)} {r0 : Nat}  (C : Cx G p m c cX10_story 5 s args RX10) (hr : meth.sig.returnType = some .int) (hlk : meth.locks = false)   : P_X10_story_108 G l p e s m args below meth c h0 out r0 (f_X10_story_108 r0) := by
  intro H locs ls h s0 s1 x4 hf hE hR hS t_r0 t_s0 z_s1 hl
  rw [f_X10_story_108] at hf
  obtain ⟨q16, h_q16, hf⟩ := bd_e hf
  refine r_callS (As := [.int s1]) (rest := [.ref (G.2.2 + s0)]) C hR hS mk_X10_flag cl_X10_163 (k_X10_flag h_q16) ⟨⟨Nat.le_of_ble_eq_true rfl, Nat.le_of_ble_eq_true rfl⟩, ⟨rfl, rfl⟩, Nat.le_of_ble_eq_true rfl, Nat.le_of_ble_eq_true rfl⟩ rfl hl.1 rfl (Nat.le_of_ble_eq_true rfl) dX10_story_108 (fun H locs hR hS hE1 z_q16 => ?_)
  refine lv_i2l C.x C.b dX10_story_111 rfl ?_
  obtain ⟨q17, h_q17, hf⟩ := bd_e hf
  refine r_callV (As := [.long (q16.toInt64)]) (rest := []) C hR hS t_s0 rfl mk_X10_enters cl_X10_339 (k_X10_enters t_s0 h_q17) ⟨⟨Nat.le_of_ble_eq_true rfl, Nat.le_of_ble_eq_true rfl⟩, ⟨rfl, rfl⟩, Nat.le_of_ble_eq_true rfl, Nat.le_of_ble_eq_true rfl⟩ rfl hl.1 rfl (Nat.le_of_ble_eq_true rfl) dX10_story_112 (fun H locs hR hS hE1 z_q17 => ?_)
  have hE := hE.tr hE1
  have t_r0 := hE1.at t_r0 (by decide)
  refine lv_aload_n C.x C.b dX10_story_115 rfl (lv_at hl 0 rfl) ?_
  refine lv_aload_n C.x C.b dX10_story_116 rfl (lv_at hl 0 rfl) ?_
  obtain ⟨g18, hf⟩ := gd_e hf
  refine r_getr C hR t_r0 fl_X10_20 (by decide) (nz_e g18) dX10_story_117 (fun tq19 => ?_)
  have tg18 := okA tq19 rfl
  refine lv_bipush (v := (49 : Int32)) C.x C.b dX10_story_120 (by decide) ?_
  obtain ⟨g20, hf⟩ := gd_e hf
  refine r_iald C hR tg18 g20 dX10_story_122 ?_
  refine lv_i2l C.x C.b dX10_story_123 rfl ?_
  obtain ⟨q21, h_q21, hf⟩ := bd_e hf
  refine r_callV (As := [.long ((hpI q17 (hpR q17 r0 6) (ix (49 : Int32))).toInt64)]) (rest := []) C hR hS t_r0 rfl mk_X10_enters cl_X10_339 (k_X10_enters t_r0 h_q21) ⟨⟨Nat.le_of_ble_eq_true rfl, Nat.le_of_ble_eq_true rfl⟩, ⟨rfl, rfl⟩, Nat.le_of_ble_eq_true rfl, Nat.le_of_ble_eq_true rfl⟩ rfl hl.1 rfl (Nat.le_of_ble_eq_true rfl) dX10_story_124 (fun H locs hR hS hE1 z_q21 => ?_)
  have hE := hE.tr hE1
  have t_r0 := hE1.at t_r0 (by decide)
  refine lv_iload C.x C.b dX10_story_127 (lv_at hl 1 rfl) ?_
  refine lv_if_le (tgt := 141) C.x C.b dX10_story_129 (by decide) (fun c22 => ?_) (fun c22 => ?_)
  · have hf := it_t hf c22
    refine lv_iconst (v := (0 : Int32)) C.x C.b dX10_story_141 (by decide) ?_
    have hf := so_e hf
    subst hf
    exact r_iret C hr hlk hR hE hS dX10_story_142
  · have hf := it_f hf c22
    refine lv_aload_n C.x C.b dX10_story_132 rfl (lv_at hl 0 rfl) ?_
    refine lv_iload C.x C.b dX10_story_133 (lv_at hl 1 rfl) ?_
    obtain ⟨q23, h_q23, hf⟩ := bd_e hf
    refine r_callV (As := [.int x4]) (rest := []) C hR hS t_r0 rfl mk_X10_adds cl_X10_308 (k_X10_adds t_r0 h_q23) ⟨⟨Nat.le_of_ble_eq_true rfl, Nat.le_of_ble_eq_true rfl⟩, ⟨rfl, rfl⟩, Nat.le_of_ble_eq_true rfl, Nat.le_of_ble_eq_true rfl⟩ rfl hl.1 rfl (Nat.le_of_ble_eq_true rfl) dX10_story_135 (fun H locs hR hS hE1 z_q23 => ?_)
    have hE := hE.tr hE1
    have t_r0 := hE1.at t_r0 (by decide)
    refine lv_goto (tgt := 142) C.x C.b dX10_story_138 (by decide) ?_
    have hf := so_e hf
    subst hf
    exact r_iret C hr hlk hR hE hS dX10_story_142
set_option maxRecDepth 100000 in
set_option maxHeartbeats 4000000 in
theorem w_X10_story_88 {G : Gt} {l : Launch} {p : Program} {e : Env} {s : State} {m : MethodId} {args : Array Value} {below : List Frame} {meth : Method} {c : Code}  {h0 : Hp} {out : (Int32 × Hp)} {r0 : Nat}  (C : Cx G p m c cX10_story 5 s args RX10) (hr : meth.sig.returnType = some .int) (hlk : meth.locks = false)   : P_X10_story_88 G l p e s m args below meth c h0 out r0 (f_X10_story_88 r0) := by
  intro H locs ls h x4 hf hE hR hS t_r0 hl
  rw [f_X10_story_88] at hf
  refine lv_aload_n C.x C.b dX10_story_88 rfl (lv_at hl 0 rfl) ?_
  refine lv_iconst (v := (0 : Int32)) C.x C.b dX10_story_89 (by decide) ?_
  refine r_puti C hR hS t_r0 fl_X10_110 fp_X10_10_1 rfl dX10_story_90 (fun H locs hR hS => ?_)
  obtain ⟨h14, e_h14⟩ : ∃ y, y = upI h r0 1 (0 : Int32) := ⟨_, rfl⟩
  rw [← e_h14] at hR
  have hf := lt_e hf e_h14
  have hE := eI e_h14 hE
  have t_r0 := tI e_h14 t_r0
  refine lv_aload_n C.x C.b dX10_story_93 rfl (lv_at hl 0 rfl) ?_
  refine lv_iload C.x C.b dX10_story_94 (lv_at hl 1 rfl) ?_
  refine lv_aload_n C.x C.b dX10_story_96 rfl (lv_at hl 0 rfl) ?_
  refine r_geti C hR t_r0 fl_X10_360 rfl dX10_story_97 ?_
  refine lv_icmp_ge (tgt := 107) C.x C.b dX10_story_100 (by decide) (fun c15 => ?_) (fun c15 => ?_)
  · simp only [if_pos c15] at hf
    refine lv_iconst (v := (0 : Int32)) C.x C.b dX10_story_107 (by decide) ?_
    exact w_X10_story_108 C hr hlk _ _ _ _ _ _ _ hf hE hR hS t_r0 t_r0 z_0 (lv_sub hl [0, 1] rfl)
  · simp only [if_neg c15] at hf
    refine lv_iconst (v := (1 : Int32)) C.x C.b dX10_story_103 (by decide) ?_
    refine lv_goto (tgt := 108) C.x C.b dX10_story_104 (by decide) ?_
    exact w_X10_story_108 C hr hlk _ _ _ _ _ _ _ hf hE hR hS t_r0 t_r0 z_1 (lv_sub hl [0, 1] rfl)
set_option maxRecDepth 100000 in
set_option maxHeartbeats 4000000 in
theorem w_X10_story_64 {G : Gt} {l : Launch} {p : Program} {e : Env} {s : State} {m : MethodId} {args : Array Value} {below : List Frame} {meth : Method} {c : Code}  {h0 : Hp} {out : (Int32 × Hp)} {r0 : Nat}  (C : Cx G p m c cX10_story 5 s args RX10) (hr : meth.sig.returnType = some .int) (hlk : meth.locks = false)   (n : Nat) : P_X10_story_64 G l p e s m args below meth c h0 out r0 (f_X10_story_64 r0 n) := by
  induction n with
  | zero => intro H locs ls h x4 hf hE hR hS t_r0 hl; cases hf
  | succ n hk64 =>
    intro H locs ls h x4 hf hE hR hS t_r0 hl
    rw [f_X10_story_64] at hf
    obtain ⟨k64, e_k64⟩ : ∃ y, y = f_X10_story_64 r0 n := ⟨_, rfl⟩
    have hf := lt_e hf e_k64
    rw [← e_k64] at hk64
    refine lv_iload C.x C.b dX10_story_64 (lv_at hl 1 rfl) ?_
    refine lv_aload_n C.x C.b dX10_story_66 rfl (lv_at hl 0 rfl) ?_
    refine r_geti C hR t_r0 fl_X10_360 rfl dX10_story_67 ?_
    refine lv_icmp_ge (tgt := 88) C.x C.b dX10_story_70 (by decide) (fun c10 => ?_) (fun c10 => ?_)
    · have hf := it_t hf c10
      exact w_X10_story_88 C hr hlk _ _ _ _ _ hf hE hR hS t_r0 (lv_sub hl [0, 1] rfl)
    · have hf := it_f hf c10
      refine lv_aload_n C.x C.b dX10_story_73 rfl (lv_at hl 0 rfl) ?_
      refine lv_iload C.x C.b dX10_story_74 (lv_at hl 1 rfl) ?_
      obtain ⟨q11, h_q11, hf⟩ := bd_e hf
      refine r_callV (As := [.int x4]) (rest := []) C hR hS t_r0 rfl mk_X10_does cl_X10_368 (k_X10_does t_r0 h_q11) ⟨⟨Nat.le_of_ble_eq_true rfl, Nat.le_of_ble_eq_true rfl⟩, ⟨rfl, rfl⟩, Nat.le_of_ble_eq_true rfl, Nat.le_of_ble_eq_true rfl⟩ rfl hl.1 rfl (Nat.le_of_ble_eq_true rfl) dX10_story_76 (fun H locs hR hS hE1 z_q11 => ?_)
      have hE := hE.tr hE1
      have t_r0 := hE1.at t_r0 (by decide)
      have z_q11 := z_q11 _ rfl
      refine lv_if_eq (tgt := 88) C.x C.b dX10_story_79 (by decide) (fun c12 => ?_) (fun c12 => ?_)
      · have hf := it_t hf c12
        exact w_X10_story_88 C hr hlk _ _ _ _ _ hf hE hR hS t_r0 (lv_sub hl [0, 1] rfl)
      · have hf := it_f hf c12
        obtain ⟨v13, e_v13⟩ : ∃ y : Int32, y = x4 + (1 : Int32) := ⟨_, rfl⟩
        have hf := lt_e hf e_v13
        refine lv_iinc (v := v13) (lv' := [(4, .int v13), (0, .ref (G.2.2 + r0))]) C.x C.b dX10_story_82 hl (k := 1) rfl (by rw [e_v13]; rfl) (by decide) rfl (fun ls hl => ?_)
        refine lv_goto (tgt := 64) C.x C.b dX10_story_85 (by decide) ?_
        exact hk64 _ _ _ _ _ hf hE hR hS t_r0 (lv_sub hl [1, 0] rfl)
set_option maxRecDepth 100000 in
set_option maxHeartbeats 4000000 in
theorem w_X10_story_42 {G : Gt} {l : Launch} {p : Program} {e : Env} {s : State} {m : MethodId} {args : Array Value} {below : List Frame} {meth : Method} {c : Code}  {h0 : Hp} {out : (Int32 × Hp)} {r0 : Nat}  (C : Cx G p m c cX10_story 5 s args RX10) (hr : meth.sig.returnType = some .int) (hlk : meth.locks = false)   : P_X10_story_42 G l p e s m args below meth c h0 out r0 (f_X10_story_42 r0) := by
  intro H locs ls h x1 x2 hf hE hR hS t_r0 z_x2 hl
  rw [f_X10_story_42] at hf
  refine lv_aload_n C.x C.b dX10_story_42 rfl (lv_at hl 0 rfl) ?_
  refine lv_iload_n C.x C.b dX10_story_43 rfl (lv_at hl 1 rfl) ?_
  refine lv_bipush (v := (60 : Int32)) C.x C.b dX10_story_44 (by decide) ?_
  refine lv_iload_n C.x C.b dX10_story_46 rfl (lv_at hl 2 rfl) ?_
  obtain ⟨q7, h_q7, hf⟩ := bd_e hf
  refine r_callV (As := [.int x1, .int (60 : Int32), .int x2]) (rest := []) C hR hS t_r0 rfl mk_X10_faultOf cl_X10_210 (k_X10_faultOf t_r0 h_q7) ⟨⟨Nat.le_of_ble_eq_true rfl, Nat.le_of_ble_eq_true rfl⟩, ⟨rfl, rfl⟩, Nat.le_of_ble_eq_true rfl, Nat.le_of_ble_eq_true rfl⟩ rfl hl.1 rfl (Nat.le_of_ble_eq_true rfl) dX10_story_47 (fun H locs hR hS hE1 z_q7 => ?_)
  refine lv_istore_n (lv' := [(3, .int q7), (0, .ref (G.2.2 + r0)), (1, .int x1), (2, .int x2)]) C.x C.b dX10_story_50 rfl hl (by decide) rfl (fun ls hl => ?_)
  refine lv_iload_n C.x C.b dX10_story_51 rfl (lv_at hl 0 rfl) ?_
  refine lv_if_ge (tgt := 57) C.x C.b dX10_story_52 (by decide) (fun c8 => ?_) (fun c8 => ?_)
  · have hf := it_t hf c8
    refine lv_aload_n C.x C.b dX10_story_57 rfl (lv_at hl 1 rfl) ?_
    obtain ⟨q9, h_q9, hf⟩ := bd_e hf
    refine r_callV (As := []) (rest := []) C hR hS t_r0 rfl mk_X10_putsBy cl_X10_333 (k_X10_putsBy t_r0 h_q9) ⟨⟨Nat.le_of_ble_eq_true rfl, Nat.le_of_ble_eq_true rfl⟩, ⟨rfl, rfl⟩, Nat.le_of_ble_eq_true rfl, Nat.le_of_ble_eq_true rfl⟩ rfl hl.1 rfl (Nat.le_of_ble_eq_true rfl) dX10_story_58 (fun H locs hR hS hE1 z_q9 => ?_)
    have hE := hE.tr hE1
    have t_r0 := hE1.at t_r0 (by decide)
    refine lv_iconst (v := (0 : Int32)) C.x C.b dX10_story_61 (by decide) ?_
    refine lv_istore (lv' := [(4, .int (0 : Int32)), (3, .int q7), (0, .ref (G.2.2 + r0)), (1, .int x1), (2, .int x2)]) C.x C.b dX10_story_62 hl (by decide) rfl (fun ls hl => ?_)
    exact w_X10_story_64 C hr hlk FU _ _ _ _ _ hf hE hR hS t_r0 (lv_sub hl [2, 0] rfl)
  · have hf := it_f hf c8
    refine lv_iload_n C.x C.b dX10_story_55 rfl (lv_at hl 0 rfl) ?_
    have hf := so_e hf
    subst hf
    exact r_iret C hr hlk hR hE hS dX10_story_56
set_option maxRecDepth 100000 in
set_option maxHeartbeats 4000000 in
theorem w_X10_story_19 {G : Gt} {l : Launch} {p : Program} {e : Env} {s : State} {m : MethodId} {args : Array Value} {below : List Frame} {meth : Method} {c : Code}  {h0 : Hp} {out : (Int32 × Hp)} {r0 : Nat}  (C : Cx G p m c cX10_story 5 s args RX10) (hr : meth.sig.returnType = some .int) (hlk : meth.locks = false)   (n : Nat) : P_X10_story_19 G l p e s m args below meth c h0 out r0 (f_X10_story_19 r0 n) := by
  induction n with
  | zero => intro H locs ls h x1 x2 hf hE hR hS t_r0 z_x2 hl; cases hf
  | succ n hk19 =>
    intro H locs ls h x1 x2 hf hE hR hS t_r0 z_x2 hl
    rw [f_X10_story_19] at hf
    obtain ⟨k19, e_k19⟩ : ∃ y, y = f_X10_story_19 r0 n := ⟨_, rfl⟩
    have hf := lt_e hf e_k19
    rw [← e_k19] at hk19
    refine lv_iload_n C.x C.b dX10_story_19 rfl (lv_at hl 2 rfl) ?_
    refine lv_if_eq (tgt := 42) C.x C.b dX10_story_20 (by decide) (fun c4 => ?_) (fun c4 => ?_)
    · have hf := it_t hf c4
      exact w_X10_story_42 C hr hlk _ _ _ _ _ _ hf hE hR hS t_r0 z_x2 (lv_sub hl [0, 1, 2] rfl)
    · have hf := it_f hf c4
      refine lv_aload_n C.x C.b dX10_story_23 rfl (lv_at hl 0 rfl) ?_
      refine r_geti C hR t_r0 fl_X10_148 rfl dX10_story_24 ?_
      refine lv_aload_n C.x C.b dX10_story_27 rfl (lv_at hl 0 rfl) ?_
      refine r_geti C hR t_r0 fl_X10_160 rfl dX10_story_28 ?_
      refine lv_icmp_ge (tgt := 42) C.x C.b dX10_story_31 (by decide) (fun c5 => ?_) (fun c5 => ?_)
      · have hf := it_t hf c5
        exact w_X10_story_42 C hr hlk _ _ _ _ _ _ hf hE hR hS t_r0 z_x2 (lv_sub hl [0, 1, 2] rfl)
      · have hf := it_f hf c5
        refine lv_aload_n C.x C.b dX10_story_34 rfl (lv_at hl 0 rfl) ?_
        obtain ⟨q6, h_q6, hf⟩ := bd_e hf
        refine r_callV (As := []) (rest := []) C hR hS t_r0 rfl mk_X10_readsAct cl_X10_365 (k_X10_readsAct t_r0 h_q6) ⟨⟨Nat.le_of_ble_eq_true rfl, Nat.le_of_ble_eq_true rfl⟩, ⟨rfl, rfl⟩, Nat.le_of_ble_eq_true rfl, Nat.le_of_ble_eq_true rfl⟩ rfl hl.1 rfl (Nat.le_of_ble_eq_true rfl) dX10_story_35 (fun H locs hR hS hE1 z_q6 => ?_)
        have hE := hE.tr hE1
        have t_r0 := hE1.at t_r0 (by decide)
        have z_q6 := z_q6 _ rfl
        refine lv_istore_n (lv' := [(2, .int q6.1), (0, .ref (G.2.2 + r0)), (1, .int x1)]) C.x C.b dX10_story_38 rfl hl (by decide) rfl (fun ls hl => ?_)
        refine lv_goto (tgt := 19) C.x C.b dX10_story_39 (by decide) ?_
        exact hk19 _ _ _ _ _ _ hf hE hR hS t_r0 z_q6 (lv_sub hl [1, 2, 0] rfl)
set_option maxRecDepth 100000 in
set_option maxHeartbeats 4000000 in
theorem k_X10_story {G : Gt} {l : Launch}  {h : Hp} {r0 : Nat} {out : (Int32 × Hp)} (t_r0 : hpT h r0 = (1, 10))  (hf : f_X10_story  h r0 = some out) : Mt G l yX10_story cX10_story 5 (some .int) rm_X10_story [.ref (G.2.2 + r0)] h (some (.int out.1)) out.2 0 0 0 := by
  refine r_met (by decide +kernel) (Nat.le_of_ble_eq_true rfl) ?_
  intro p e s m args below meth c ls C hr hlk hnm hR hS hl
  have hE : Ext h h := Ext.rf
  have hl : lv_has ls 5 [(0, .ref (G.2.2 + r0))] := hl
  rw [f_X10_story] at hf
  refine lv_aload_n C.x C.b dX10_story_0 rfl (lv_at hl 0 rfl) ?_
  refine lv_iconst (v := (0 : Int32)) C.x C.b dX10_story_1 (by decide) ?_
  refine r_puti C hR hS t_r0 fl_X10_103 fp_X10_10_0 rfl dX10_story_2 (fun H locs hR hS => ?_)
  obtain ⟨h1, e_h1⟩ : ∃ y, y = upI h r0 0 (0 : Int32) := ⟨_, rfl⟩
  rw [← e_h1] at hR
  have hf := lt_e hf e_h1
  have hE := eI e_h1 hE
  have t_r0 := tI e_h1 t_r0
  refine lv_aload_n C.x C.b dX10_story_5 rfl (lv_at hl 0 rfl) ?_
  refine lv_bipush (v := (60 : Int32)) C.x C.b dX10_story_6 (by decide) ?_
  obtain ⟨q2, h_q2, hf⟩ := bd_e hf
  refine r_callV (As := [.int (60 : Int32)]) (rest := []) C hR hS t_r0 rfl mk_X10_begins cl_X10_184 (k_X10_begins t_r0 h_q2) ⟨⟨Nat.le_of_ble_eq_true rfl, Nat.le_of_ble_eq_true rfl⟩, ⟨rfl, rfl⟩, Nat.le_of_ble_eq_true rfl, Nat.le_of_ble_eq_true rfl⟩ rfl hl.1 rfl (Nat.le_of_ble_eq_true rfl) dX10_story_8 (fun H locs hR hS hE1 z_q2 => ?_)
  have hE := hE.tr hE1
  have t_r0 := hE1.at t_r0 (by decide)
  refine lv_istore_n (lv' := [(1, .int q2.1), (0, .ref (G.2.2 + r0))]) C.x C.b dX10_story_11 rfl hl (by decide) rfl (fun ls hl => ?_)
  refine lv_aload_n C.x C.b dX10_story_12 rfl (lv_at hl 1 rfl) ?_
  refine lv_iconst (v := (0 : Int32)) C.x C.b dX10_story_13 (by decide) ?_
  refine r_puti C hR hS t_r0 fl_X10_360 fp_X10_10_28 rfl dX10_story_14 (fun H locs hR hS => ?_)
  obtain ⟨h3, e_h3⟩ : ∃ y, y = upI q2.2 r0 28 (0 : Int32) := ⟨_, rfl⟩
  rw [← e_h3] at hR
  have hf := lt_e hf e_h3
  have hE := eI e_h3 hE
  have t_r0 := tI e_h3 t_r0
  refine lv_iconst (v := (1 : Int32)) C.x C.b dX10_story_17 (by decide) ?_
  refine lv_istore_n (lv' := [(2, .int (1 : Int32)), (1, .int q2.1), (0, .ref (G.2.2 + r0))]) C.x C.b dX10_story_18 rfl hl (by decide) rfl (fun ls hl => ?_)
  exact w_X10_story_19 C hr hlk FU _ _ _ _ _ _ hf hE hR hS t_r0 z_1 (lv_sub hl [2, 1, 0] rfl)

def rm_X10_copies : Room := { frames := 0, cells := 0, slots := 0, locals := 0 }
def P_X10_copies_2 (G : Gt) (l : Launch) (p : Program) (e : Env) (s : State) (m : MethodId) (args : Array Value) (below : List Frame) (meth : Method) (c : Code) (h0 : Hp) (out : Hp) (r0 : Nat) (k : Hp → Int32 → Option Hp) : Prop := ∀ (H : Heap) (locs : List Loc) (ls : Array Slot) (h : Hp) (x1 : Int32), k h x1 = some out → Ext h0 h → Rel G h H → va_S (AA G.2.2) s.heap H locs → hpT h r0 = (1, 10) → lv_has ls 2 [(0, .ref (G.2.2 + r0)), (1, .int x1)] → W p l e rm_X10_copies s m args below meth c H locs 0 0 (MQ below (Qm G h0 out (none) 0) args s 0 0 (AA G.2.2)) (F0 m 2 ls [])
set_option maxRecDepth 100000 in
set_option maxHeartbeats 4000000 in
theorem w_X10_copies_2 {G : Gt} {l : Launch} {p : Program} {e : Env} {s : State} {m : MethodId} {args : Array Value} {below : List Frame} {meth : Method} {c : Code}  {h0 : Hp} {out : Hp} {r0 : Nat}  (C : Cx G p m c cX10_copies 2 s args RX10) (hr : meth.sig.returnType = none) (hlk : meth.locks = false)   (n : Nat) : P_X10_copies_2 G l p e s m args below meth c h0 out r0 (f_X10_copies_2 r0 n) := by
  induction n with
  | zero => intro H locs ls h x1 hf hE hR hS t_r0 hl; cases hf
  | succ n hk2 =>
    intro H locs ls h x1 hf hE hR hS t_r0 hl
    rw [f_X10_copies_2] at hf
    obtain ⟨k2, e_k2⟩ : ∃ y, y = f_X10_copies_2 r0 n := ⟨_, rfl⟩
    have hf := lt_e hf e_k2
    rw [← e_k2] at hk2
    refine lv_iload_n C.x C.b dX10_copies_2 rfl (lv_at hl 1 rfl) ?_
    refine lv_bipush (v := (51 : Int32)) C.x C.b dX10_copies_3 (by decide) ?_
    refine lv_icmp_ge (tgt := 26) C.x C.b dX10_copies_5 (by decide) (fun c1 => ?_) (fun c1 => ?_)
    · have hf := it_t hf c1
      have hf := so_e hf
      subst hf
      exact r_vret C hr hlk hR hE hS dX10_copies_26
    · have hf := it_f hf c1
      refine lv_aload_n C.x C.b dX10_copies_8 rfl (lv_at hl 0 rfl) ?_
      obtain ⟨g2, hf⟩ := gd_e hf
      refine r_getr C hR t_r0 fl_X10_24 (by decide) (nz_e g2) dX10_copies_9 (fun tq3 => ?_)
      have tg2 := okA tq3 rfl
      refine lv_iload_n C.x C.b dX10_copies_12 rfl (lv_at hl 1 rfl) ?_
      refine lv_aload_n C.x C.b dX10_copies_13 rfl (lv_at hl 0 rfl) ?_
      obtain ⟨g4, hf⟩ := gd_e hf
      refine r_getr C hR t_r0 fl_X10_20 (by decide) (nz_e g4) dX10_copies_14 (fun tq5 => ?_)
      have tg4 := okA tq5 rfl
      refine lv_iload_n C.x C.b dX10_copies_17 rfl (lv_at hl 1 rfl) ?_
      obtain ⟨g6, hf⟩ := gd_e hf
      refine r_iald C hR tg4 g6 dX10_copies_18 ?_
      obtain ⟨g7, hf⟩ := gd_e hf
      refine r_iast C hR hS tg2 g7 dX10_copies_19 (fun H locs hR hS => ?_)
      obtain ⟨h8, e_h8⟩ : ∃ y, y = upI h (hpR h r0 7) (ix x1) (hpI h (hpR h r0 6) (ix x1)) := ⟨_, rfl⟩
      rw [← e_h8] at hR
      have hf := lt_e hf e_h8
      have hE := eI e_h8 hE
      have t_r0 := tI e_h8 t_r0
      obtain ⟨v9, e_v9⟩ : ∃ y : Int32, y = x1 + (1 : Int32) := ⟨_, rfl⟩
      have hf := lt_e hf e_v9
      refine lv_iinc (v := v9) (lv' := [(1, .int v9), (0, .ref (G.2.2 + r0))]) C.x C.b dX10_copies_20 hl (k := 1) rfl (by rw [e_v9]; rfl) (by decide) rfl (fun ls hl => ?_)
      refine lv_goto (tgt := 2) C.x C.b dX10_copies_23 (by decide) ?_
      exact hk2 _ _ _ _ _ hf hE hR hS t_r0 (lv_sub hl [1, 0] rfl)
set_option maxRecDepth 100000 in
set_option maxHeartbeats 4000000 in
theorem k_X10_copies {G : Gt} {l : Launch}  {h : Hp} {r0 : Nat} {out : Hp} (t_r0 : hpT h r0 = (1, 10))  (hf : f_X10_copies  h r0 = some out) : Mt G l yX10_copies cX10_copies 2 (none) rm_X10_copies [.ref (G.2.2 + r0)] h (none) out 0 0 0 := by
  refine r_met (by decide +kernel) (Nat.le_of_ble_eq_true rfl) ?_
  intro p e s m args below meth c ls C hr hlk hnm hR hS hl
  have hE : Ext h h := Ext.rf
  have hl : lv_has ls 2 [(0, .ref (G.2.2 + r0))] := hl
  rw [f_X10_copies] at hf
  refine lv_iconst (v := (0 : Int32)) C.x C.b dX10_copies_0 (by decide) ?_
  refine lv_istore_n (lv' := [(1, .int (0 : Int32)), (0, .ref (G.2.2 + r0))]) C.x C.b dX10_copies_1 rfl hl (by decide) rfl (fun ls hl => ?_)
  exact w_X10_copies_2 C hr hlk FU _ _ _ _ _ hf hE hR hS t_r0 (lv_sub hl [1, 0] rfl)

def rm_X10_slept : Room := { frames := 5, cells := 0, slots := 0, locals := 124 }
def P_X10_slept_62 (G : Gt) (l : Launch) (p : Program) (e : Env) (s : State) (m : MethodId) (args : Array Value) (below : List Frame) (meth : Method) (c : Code) (h0 : Hp) (out : (Int64 × Hp)) (r0 : Nat) (k : Hp → Int32 → Int64 → Int32 → Int32 → Int32 → Option (Int64 × Hp)) : Prop := ∀ (H : Heap) (locs : List Loc) (ls : Array Slot) (h : Hp) (s0 : Int32) (y1 : Int64) (x4 : Int32) (x5 : Int32) (x6 : Int32), k h s0 y1 x4 x5 x6 = some out → Ext h0 h → Rel G h H → va_S (AA G.2.2) s.heap H locs → hpT h r0 = (1, 10) → lv_has ls 7 [(0, .ref (G.2.2 + r0)), (1, .long y1), (4, .int x4), (5, .int x5), (6, .int x6)] → W p l e rm_X10_slept s m args below meth c H locs 0 0 (MQ below (Qm G h0 out.2 (some (.long out.1)) 0) args s 0 0 (AA G.2.2)) (F0 m 62 ls [.int s0])
def P_X10_slept_25 (G : Gt) (l : Launch) (p : Program) (e : Env) (s : State) (m : MethodId) (args : Array Value) (below : List Frame) (meth : Method) (c : Code) (h0 : Hp) (out : (Int64 × Hp)) (r0 : Nat) (k : Hp → Int64 → Int32 → Int32 → Int32 → Option (Int64 × Hp)) : Prop := ∀ (H : Heap) (locs : List Loc) (ls : Array Slot) (h : Hp) (y1 : Int64) (x3 : Int32) (x4 : Int32) (x5 : Int32), k h y1 x3 x4 x5 = some out → Ext h0 h → Rel G h H → va_S (AA G.2.2) s.heap H locs → hpT h r0 = (1, 10) → lv_has ls 7 [(0, .ref (G.2.2 + r0)), (1, .long y1), (3, .int x3), (4, .int x4), (5, .int x5)] → W p l e rm_X10_slept s m args below meth c H locs 0 0 (MQ below (Qm G h0 out.2 (some (.long out.1)) 0) args s 0 0 (AA G.2.2)) (F0 m 25 ls [])
set_option maxRecDepth 100000 in
set_option maxHeartbeats 4000000 in
theorem w_X10_slept_62 {G : Gt} {l : Launch} {p : Program} {e : Env} {s : State} {m : MethodId} {args : Array Value} {below : List Frame} {meth : Method} {c : Code}  {h0 : Hp} {out : (Int64 × Hp)} {r0 : Nat} {k25 : Hp → Int64 → Int32 → Int32 → Int32 → Option (Int64 × Hp)} (C : Cx G p m c cX10_slept 7 s args RX10) (hr : meth.sig.returnType = some .long) (hlk : meth.locks = false)  (hk25 : P_X10_slept_25 G l p e s m args below meth c h0 out r0 k25) : P_X10_slept_62 G l p e s m args below meth c h0 out r0 (f_X10_slept_62 r0 k25) := by
  intro H locs ls h s0 y1 x4 x5 x6 hf hE hR hS t_r0 hl
  rw [f_X10_slept_62] at hf
  refine lv_istore_n (lv' := [(3, .int s0), (0, .ref (G.2.2 + r0)), (1, .long y1), (4, .int x4), (5, .int x5), (6, .int x6)]) C.x C.b dX10_slept_62 rfl hl (by decide) rfl (fun ls hl => ?_)
  refine lv_iload C.x C.b dX10_slept_63 (lv_at hl 3 rfl) ?_
  refine lv_iload C.x C.b dX10_slept_65 (lv_at hl 5 rfl) ?_
  refine va_mmax C.x C.b (C.ml.trans hl.1.symm) C.ow (C.ts _ lk_X10_272) (C.ts _ lk_Mmax_s) (C.ts _ lk_Math) (C.ts _ lk_Mmax_c) (Nat.le_of_ble_eq_true rfl) (Nat.le_of_ble_eq_true rfl) (Nat.le_of_ble_eq_true rfl) (Nat.le_of_ble_eq_true rfl) dX10_slept_67 ?_
  refine lv_topi (fun v17 e_v17 => ?_)
  have hf := lt_e hf e_v17
  refine lv_istore (lv' := [(4, .int v17), (3, .int s0), (0, .ref (G.2.2 + r0)), (1, .long y1), (5, .int x5), (6, .int x6)]) C.x C.b dX10_slept_70 hl (by decide) rfl (fun ls hl => ?_)
  obtain ⟨v18, e_v18⟩ : ∃ y : Int32, y = x5 + (1 : Int32) := ⟨_, rfl⟩
  have hf := lt_e hf e_v18
  refine lv_iinc (v := v18) (lv' := [(5, .int v18), (4, .int v17), (3, .int s0), (0, .ref (G.2.2 + r0)), (1, .long y1), (6, .int x6)]) C.x C.b dX10_slept_72 hl (k := 4) rfl (by rw [e_v18]; rfl) (by decide) rfl (fun ls hl => ?_)
  refine lv_goto (tgt := 25) C.x C.b dX10_slept_75 (by decide) ?_
  exact hk25 _ _ _ _ _ _ _ _ hf hE hR hS t_r0 (lv_sub hl [3, 4, 2, 1, 0] rfl)
set_option maxRecDepth 100000 in
set_option maxHeartbeats 4000000 in
theorem w_X10_slept_25 {G : Gt} {l : Launch} {p : Program} {e : Env} {s : State} {m : MethodId} {args : Array Value} {below : List Frame} {meth : Method} {c : Code}  {h0 : Hp} {out : (Int64 × Hp)} {r0 : Nat}  (C : Cx G p m c cX10_slept 7 s args RX10) (hr : meth.sig.returnType = some .long) (hlk : meth.locks = false)   (n : Nat) : P_X10_slept_25 G l p e s m args below meth c h0 out r0 (f_X10_slept_25 r0 n) := by
  induction n with
  | zero => intro H locs ls h y1 x3 x4 x5 hf hE hR hS t_r0 hl; cases hf
  | succ n hk25 =>
    intro H locs ls h y1 x3 x4 x5 hf hE hR hS t_r0 hl
    rw [f_X10_slept_25] at hf
    obtain ⟨k25, e_k25⟩ : ∃ y, y = f_X10_slept_25 r0 n := ⟨_, rfl⟩
    have hf := lt_e hf e_k25
    rw [← e_k25] at hk25
    refine lv_iload C.x C.b dX10_slept_25 (lv_at hl 4 rfl) ?_
    refine lv_aload_n C.x C.b dX10_slept_27 rfl (lv_at hl 0 rfl) ?_
    obtain ⟨q5, h_q5, hf⟩ := bd_e hf
    refine r_callV (As := []) (rest := [.int x5]) C hR hS t_r0 rfl mk_X10_cells cl_X10_113 (k_X10_cells t_r0 h_q5) ⟨⟨Nat.le_of_ble_eq_true rfl, Nat.le_of_ble_eq_true rfl⟩, ⟨rfl, rfl⟩, Nat.le_of_ble_eq_true rfl, Nat.le_of_ble_eq_true rfl⟩ rfl hl.1 rfl (Nat.le_of_ble_eq_true rfl) dX10_slept_28 (fun H locs hR hS hE1 z_q5 => ?_)
    refine lv_icmp_ge (tgt := 78) C.x C.b dX10_slept_31 (by decide) (fun c6 => ?_) (fun c6 => ?_)
    · have hf := it_t hf c6
      refine lv_aload_n C.x C.b dX10_slept_78 rfl (lv_at hl 0 rfl) ?_
      refine lv_iconst (v := (0 : Int32)) C.x C.b dX10_slept_79 (by decide) ?_
      refine r_puti C hR hS t_r0 fl_X10_110 fp_X10_10_1 rfl dX10_slept_80 (fun H locs hR hS => ?_)
      obtain ⟨h7, e_h7⟩ : ∃ y, y = upI h r0 1 (0 : Int32) := ⟨_, rfl⟩
      rw [← e_h7] at hR
      have hf := lt_e hf e_h7
      have hE := eI e_h7 hE
      have t_r0 := tI e_h7 t_r0
      refine lv_aload_n C.x C.b dX10_slept_83 rfl (lv_at hl 0 rfl) ?_
      refine lv_lload_n C.x C.b dX10_slept_84 rfl (lv_at hl 1 rfl) ?_
      obtain ⟨q8, h_q8, hf⟩ := bd_e hf
      refine r_callS (As := [.long y1]) (rest := [.ref (G.2.2 + r0)]) C hR hS mk_J13_bitCount_95d88 cl_X10_371 (k_J13_bitCount_95d88 h_q8) ⟨⟨Nat.le_of_ble_eq_true rfl, Nat.le_of_ble_eq_true rfl⟩, ⟨rfl, rfl⟩, Nat.le_of_ble_eq_true rfl, Nat.le_of_ble_eq_true rfl⟩ rfl hl.1 rfl (Nat.le_of_ble_eq_true rfl) dX10_slept_85 (fun H locs hR hS hE1 z_q8 => ?_)
      refine lv_i2l C.x C.b dX10_slept_88 rfl ?_
      obtain ⟨q9, h_q9, hf⟩ := bd_e hf
      refine r_callV (As := [.long (q8.toInt64)]) (rest := []) C hR hS t_r0 rfl mk_X10_enters cl_X10_339 (k_X10_enters t_r0 h_q9) ⟨⟨Nat.le_of_ble_eq_true rfl, Nat.le_of_ble_eq_true rfl⟩, ⟨rfl, rfl⟩, Nat.le_of_ble_eq_true rfl, Nat.le_of_ble_eq_true rfl⟩ rfl hl.1 rfl (Nat.le_of_ble_eq_true rfl) dX10_slept_89 (fun H locs hR hS hE1 z_q9 => ?_)
      have hE := hE.tr hE1
      have t_r0 := hE1.at t_r0 (by decide)
      refine lv_aload_n C.x C.b dX10_slept_92 rfl (lv_at hl 0 rfl) ?_
      refine lv_iload C.x C.b dX10_slept_93 (lv_at hl 3 rfl) ?_
      refine lv_i2l C.x C.b dX10_slept_95 rfl ?_
      obtain ⟨q10, h_q10, hf⟩ := bd_e hf
      refine r_callV (As := [.long (x4.toInt64)]) (rest := []) C hR hS t_r0 rfl mk_X10_enters cl_X10_339 (k_X10_enters t_r0 h_q10) ⟨⟨Nat.le_of_ble_eq_true rfl, Nat.le_of_ble_eq_true rfl⟩, ⟨rfl, rfl⟩, Nat.le_of_ble_eq_true rfl, Nat.le_of_ble_eq_true rfl⟩ rfl hl.1 rfl (Nat.le_of_ble_eq_true rfl) dX10_slept_96 (fun H locs hR hS hE1 z_q10 => ?_)
      have hE := hE.tr hE1
      have t_r0 := hE1.at t_r0 (by decide)
      refine lv_aload_n C.x C.b dX10_slept_99 rfl (lv_at hl 0 rfl) ?_
      refine lv_iload_n C.x C.b dX10_slept_100 rfl (lv_at hl 2 rfl) ?_
      refine lv_i2l C.x C.b dX10_slept_101 rfl ?_
      obtain ⟨q11, h_q11, hf⟩ := bd_e hf
      refine r_callV (As := [.long (x3.toInt64)]) (rest := []) C hR hS t_r0 rfl mk_X10_enters cl_X10_339 (k_X10_enters t_r0 h_q11) ⟨⟨Nat.le_of_ble_eq_true rfl, Nat.le_of_ble_eq_true rfl⟩, ⟨rfl, rfl⟩, Nat.le_of_ble_eq_true rfl, Nat.le_of_ble_eq_true rfl⟩ rfl hl.1 rfl (Nat.le_of_ble_eq_true rfl) dX10_slept_102 (fun H locs hR hS hE1 z_q11 => ?_)
      have hE := hE.tr hE1
      have t_r0 := hE1.at t_r0 (by decide)
      refine lv_lload_n C.x C.b dX10_slept_105 rfl (lv_at hl 1 rfl) ?_
      have hf := so_e hf
      subst hf
      exact r_lret C hr hlk hR hE hS dX10_slept_106
    · have hf := it_f hf c6
      refine lv_aload_n C.x C.b dX10_slept_34 rfl (lv_at hl 0 rfl) ?_
      refine lv_aload_n C.x C.b dX10_slept_35 rfl (lv_at hl 0 rfl) ?_
      obtain ⟨g12, hf⟩ := gd_e hf
      refine r_getr C hR t_r0 fl_X10_20 (by decide) (nz_e g12) dX10_slept_36 (fun tq13 => ?_)
      have tg12 := okA tq13 rfl
      refine lv_iload C.x C.b dX10_slept_39 (lv_at hl 4 rfl) ?_
      obtain ⟨q14, h_q14, hf⟩ := bd_e hf
      refine r_callV (As := [.ref (G.2.2 + (hpR h r0 6)), .int x5]) (rest := []) C hR hS t_r0 rfl mk_X10_campsOver cl_X10_294 (k_X10_campsOver t_r0 tg12 h_q14) ⟨⟨Nat.le_of_ble_eq_true rfl, Nat.le_of_ble_eq_true rfl⟩, ⟨rfl, rfl⟩, Nat.le_of_ble_eq_true rfl, Nat.le_of_ble_eq_true rfl⟩ rfl hl.1 rfl (Nat.le_of_ble_eq_true rfl) dX10_slept_41 (fun H locs hR hS hE1 z_q14 => ?_)
      obtain ⟨q15, h_q15, hf⟩ := bd_e hf
      refine r_callS (As := [.int q14]) (rest := []) C hR hS mk_J6_bitCount_0f7a4 cl_X10_264 (k_J6_bitCount_0f7a4 h_q15) ⟨⟨Nat.le_of_ble_eq_true rfl, Nat.le_of_ble_eq_true rfl⟩, ⟨rfl, rfl⟩, Nat.le_of_ble_eq_true rfl, Nat.le_of_ble_eq_true rfl⟩ rfl hl.1 rfl (Nat.le_of_ble_eq_true rfl) dX10_slept_44 (fun H locs hR hS hE1 z_q15 => ?_)
      refine lv_istore (lv' := [(6, .int q15), (0, .ref (G.2.2 + r0)), (1, .long y1), (3, .int x3), (4, .int x4), (5, .int x5)]) C.x C.b dX10_slept_47 hl (by decide) rfl (fun ls hl => ?_)
      refine lv_iload C.x C.b dX10_slept_49 (lv_at hl 0 rfl) ?_
      refine lv_iload C.x C.b dX10_slept_51 (lv_at hl 4 rfl) ?_
      refine lv_icmp_le (tgt := 61) C.x C.b dX10_slept_53 (by decide) (fun c16 => ?_) (fun c16 => ?_)
      · simp only [if_pos c16] at hf
        refine lv_iload_n C.x C.b dX10_slept_61 rfl (lv_at hl 3 rfl) ?_
        exact w_X10_slept_62 C hr hlk hk25 _ _ _ _ _ _ _ _ _ hf hE hR hS t_r0 (lv_sub hl [1, 2, 4, 5, 0] rfl)
      · simp only [if_neg c16] at hf
        refine lv_iload C.x C.b dX10_slept_56 (lv_at hl 5 rfl) ?_
        refine lv_goto (tgt := 62) C.x C.b dX10_slept_58 (by decide) ?_
        exact w_X10_slept_62 C hr hlk hk25 _ _ _ _ _ _ _ _ _ hf hE hR hS t_r0 (lv_sub hl [1, 2, 4, 5, 0] rfl)
set_option maxRecDepth 100000 in
set_option maxHeartbeats 4000000 in
theorem k_X10_slept {G : Gt} {l : Launch}  {h : Hp} {r0 : Nat} {out : (Int64 × Hp)} (t_r0 : hpT h r0 = (1, 10))  (hf : f_X10_slept  h r0 = some out) : Mt G l yX10_slept cX10_slept 7 (some .long) rm_X10_slept [.ref (G.2.2 + r0)] h (some (.long out.1)) out.2 0 0 0 := by
  refine r_met (by decide +kernel) (Nat.le_of_ble_eq_true rfl) ?_
  intro p e s m args below meth c ls C hr hlk hnm hR hS hl
  have hE : Ext h h := Ext.rf
  have hl : lv_has ls 7 [(0, .ref (G.2.2 + r0))] := hl
  rw [f_X10_slept] at hf
  refine lv_aload_n C.x C.b dX10_slept_0 rfl (lv_at hl 0 rfl) ?_
  refine lv_iconst (v := (0 : Int32)) C.x C.b dX10_slept_1 (by decide) ?_
  refine r_puti C hR hS t_r0 fl_X10_103 fp_X10_10_0 rfl dX10_slept_2 (fun H locs hR hS => ?_)
  obtain ⟨h1, e_h1⟩ : ∃ y, y = upI h r0 0 (0 : Int32) := ⟨_, rfl⟩
  rw [← e_h1] at hR
  have hf := lt_e hf e_h1
  have hE := eI e_h1 hE
  have t_r0 := tI e_h1 t_r0
  refine lv_aload_n C.x C.b dX10_slept_5 rfl (lv_at hl 0 rfl) ?_
  refine lv_aload_n C.x C.b dX10_slept_6 rfl (lv_at hl 0 rfl) ?_
  obtain ⟨g2, hf⟩ := gd_e hf
  refine r_getr C hR t_r0 fl_X10_20 (by decide) (nz_e g2) dX10_slept_7 (fun tq3 => ?_)
  have tg2 := okA tq3 rfl
  refine lv_sipush (v := (255 : Int32)) C.x C.b dX10_slept_10 (by decide) ?_
  obtain ⟨q4, h_q4, hf⟩ := bd_e hf
  refine r_callV (As := [.ref (G.2.2 + (hpR h1 r0 6)), .int (255 : Int32)]) (rest := []) C hR hS t_r0 rfl mk_X10_sleptBy cl_X10_328 (k_X10_sleptBy t_r0 tg2 h_q4) ⟨⟨Nat.le_of_ble_eq_true rfl, Nat.le_of_ble_eq_true rfl⟩, ⟨rfl, rfl⟩, Nat.le_of_ble_eq_true rfl, Nat.le_of_ble_eq_true rfl⟩ rfl hl.1 rfl (Nat.le_of_ble_eq_true rfl) dX10_slept_13 (fun H locs hR hS hE1 z_q4 => ?_)
  refine lv_lstore_n (lv' := [(1, .long q4), (0, .ref (G.2.2 + r0))]) C.x C.b dX10_slept_16 rfl hl (by decide) rfl (fun ls hl => ?_)
  refine lv_iconst (v := (-1 : Int32)) C.x C.b dX10_slept_17 (by decide) ?_
  refine lv_istore_n (lv' := [(3, .int (-1 : Int32)), (1, .long q4), (0, .ref (G.2.2 + r0))]) C.x C.b dX10_slept_18 rfl hl (by decide) rfl (fun ls hl => ?_)
  refine lv_iconst (v := (0 : Int32)) C.x C.b dX10_slept_19 (by decide) ?_
  refine lv_istore (lv' := [(4, .int (0 : Int32)), (3, .int (-1 : Int32)), (1, .long q4), (0, .ref (G.2.2 + r0))]) C.x C.b dX10_slept_20 hl (by decide) rfl (fun ls hl => ?_)
  refine lv_iconst (v := (0 : Int32)) C.x C.b dX10_slept_22 (by decide) ?_
  refine lv_istore (lv' := [(5, .int (0 : Int32)), (4, .int (0 : Int32)), (3, .int (-1 : Int32)), (1, .long q4), (0, .ref (G.2.2 + r0))]) C.x C.b dX10_slept_23 hl (by decide) rfl (fun ls hl => ?_)
  exact w_X10_slept_25 C hr hlk FU _ _ _ _ _ _ _ _ hf hE hR hS t_r0 (lv_sub hl [4, 3, 2, 1, 0] rfl)

def rm_J6_numberOfTrailingZeros_0f7a4 : Room := { frames := 0, cells := 0, slots := 0, locals := 0 }
def P_J6_numberOfTrailingZeros_0f7a4_74 (G : Gt) (l : Launch) (p : Program) (e : Env) (s : State) (m : MethodId) (args : Array Value) (below : List Frame) (meth : Method) (c : Code) (h : Hp) (out : Int32)  (k : Int32 → Int32 → Option Int32) : Prop := ∀ (H : Heap) (locs : List Loc) (ls : Array Slot) (x0 : Int32) (x1 : Int32), k x0 x1 = some out → Rel G h H → va_S (AA G.2.2) s.heap H locs → lv_has ls 2 [(0, .int x0), (1, .int x1)] → W p l e rm_J6_numberOfTrailingZeros_0f7a4 s m args below meth c H locs 0 0 (MQ below (Qm G h h (some (.int out)) 0) args s 0 0 (AA G.2.2)) (F0 m 74 ls [])
def P_J6_numberOfTrailingZeros_0f7a4_62 (G : Gt) (l : Launch) (p : Program) (e : Env) (s : State) (m : MethodId) (args : Array Value) (below : List Frame) (meth : Method) (c : Code) (h : Hp) (out : Int32)  (k : Int32 → Int32 → Option Int32) : Prop := ∀ (H : Heap) (locs : List Loc) (ls : Array Slot) (x0 : Int32) (x1 : Int32), k x0 x1 = some out → Rel G h H → va_S (AA G.2.2) s.heap H locs → lv_has ls 2 [(0, .int x0), (1, .int x1)] → W p l e rm_J6_numberOfTrailingZeros_0f7a4 s m args below meth c H locs 0 0 (MQ below (Qm G h h (some (.int out)) 0) args s 0 0 (AA G.2.2)) (F0 m 62 ls [])
def P_J6_numberOfTrailingZeros_0f7a4_49 (G : Gt) (l : Launch) (p : Program) (e : Env) (s : State) (m : MethodId) (args : Array Value) (below : List Frame) (meth : Method) (c : Code) (h : Hp) (out : Int32)  (k : Int32 → Int32 → Option Int32) : Prop := ∀ (H : Heap) (locs : List Loc) (ls : Array Slot) (x0 : Int32) (x1 : Int32), k x0 x1 = some out → Rel G h H → va_S (AA G.2.2) s.heap H locs → lv_has ls 2 [(0, .int x0), (1, .int x1)] → W p l e rm_J6_numberOfTrailingZeros_0f7a4 s m args below meth c H locs 0 0 (MQ below (Qm G h h (some (.int out)) 0) args s 0 0 (AA G.2.2)) (F0 m 49 ls [])
def P_J6_numberOfTrailingZeros_0f7a4_34 (G : Gt) (l : Launch) (p : Program) (e : Env) (s : State) (m : MethodId) (args : Array Value) (below : List Frame) (meth : Method) (c : Code) (h : Hp) (out : Int32)  (k : Int32 → Int32 → Option Int32) : Prop := ∀ (H : Heap) (locs : List Loc) (ls : Array Slot) (x0 : Int32) (x1 : Int32), k x0 x1 = some out → Rel G h H → va_S (AA G.2.2) s.heap H locs → lv_has ls 2 [(0, .int x0), (1, .int x1)] → W p l e rm_J6_numberOfTrailingZeros_0f7a4 s m args below meth c H locs 0 0 (MQ below (Qm G h h (some (.int out)) 0) args s 0 0 (AA G.2.2)) (F0 m 34 ls [])
set_option maxRecDepth 100000 in
set_option maxHeartbeats 4000000 in
theorem w_J6_numberOfTrailingZeros_0f7a4_74 {G : Gt} {l : Launch} {p : Program} {e : Env} {s : State} {m : MethodId} {args : Array Value} {below : List Frame} {meth : Method} {c : Code}  {h : Hp} {out : Int32}   (C : Cx G p m c cJ6_numberOfTrailingZeros_0f7a4 2 s args RJ6) (hr : meth.sig.returnType = some .int) (hlk : meth.locks = false)   : P_J6_numberOfTrailingZeros_0f7a4_74 G l p e s m args below meth c h out  (f_J6_numberOfTrailingZeros_0f7a4_74 h) := by
  intro H locs ls x0 x1 hf hR hS  hl
  rw [f_J6_numberOfTrailingZeros_0f7a4_74] at hf
  refine lv_iload_n C.x C.b dJ6_numberOfTrailingZeros_0f7a4_74 rfl (lv_at hl 1 rfl) ?_
  refine lv_iload_n C.x C.b dJ6_numberOfTrailingZeros_0f7a4_75 rfl (lv_at hl 0 rfl) ?_
  refine lv_iconst (v := (1 : Int32)) C.x C.b dJ6_numberOfTrailingZeros_0f7a4_76 (by decide) ?_
  refine lv_iushr C.x C.b dJ6_numberOfTrailingZeros_0f7a4_77 rfl ?_
  refine lv_topi (fun v15 e_v15 => ?_)
  have hf := lt_e hf e_v15
  refine lv_iadd C.x C.b dJ6_numberOfTrailingZeros_0f7a4_78 ?_
  have hf := so_e hf
  subst hf
  exact r_iret C hr hlk hR Ext.rf hS dJ6_numberOfTrailingZeros_0f7a4_79
set_option maxRecDepth 100000 in
set_option maxHeartbeats 4000000 in
theorem w_J6_numberOfTrailingZeros_0f7a4_62 {G : Gt} {l : Launch} {p : Program} {e : Env} {s : State} {m : MethodId} {args : Array Value} {below : List Frame} {meth : Method} {c : Code}  {h : Hp} {out : Int32}   (C : Cx G p m c cJ6_numberOfTrailingZeros_0f7a4 2 s args RJ6) (hr : meth.sig.returnType = some .int) (hlk : meth.locks = false)   : P_J6_numberOfTrailingZeros_0f7a4_62 G l p e s m args below meth c h out  (f_J6_numberOfTrailingZeros_0f7a4_62 h) := by
  intro H locs ls x0 x1 hf hR hS  hl
  rw [f_J6_numberOfTrailingZeros_0f7a4_62] at hf
  refine lv_iload_n C.x C.b dJ6_numberOfTrailingZeros_0f7a4_62 rfl (lv_at hl 0 rfl) ?_
  refine lv_iconst (v := (4 : Int32)) C.x C.b dJ6_numberOfTrailingZeros_0f7a4_63 (by decide) ?_
  refine lv_icmp_le (tgt := 74) C.x C.b dJ6_numberOfTrailingZeros_0f7a4_64 (by decide) (fun c12 => ?_) (fun c12 => ?_)
  · have hf := it_t hf c12
    exact w_J6_numberOfTrailingZeros_0f7a4_74 C hr hlk _ _ _ _ _ hf hR hS (lv_sub hl [0, 1] rfl)
  · have hf := it_f hf c12
    obtain ⟨v13, e_v13⟩ : ∃ y : Int32, y = x1 + (2 : Int32) := ⟨_, rfl⟩
    have hf := lt_e hf e_v13
    refine lv_iinc (v := v13) (lv' := [(1, .int v13), (0, .int x0)]) C.x C.b dJ6_numberOfTrailingZeros_0f7a4_67 hl (k := 1) rfl (by rw [e_v13]; rfl) (by decide) rfl (fun ls hl => ?_)
    refine lv_iload_n C.x C.b dJ6_numberOfTrailingZeros_0f7a4_70 rfl (lv_at hl 1 rfl) ?_
    refine lv_iconst (v := (2 : Int32)) C.x C.b dJ6_numberOfTrailingZeros_0f7a4_71 (by decide) ?_
    refine lv_iushr C.x C.b dJ6_numberOfTrailingZeros_0f7a4_72 rfl ?_
    refine lv_topi (fun v14 e_v14 => ?_)
    have hf := lt_e hf e_v14
    refine lv_istore_n (lv' := [(0, .int v14), (1, .int v13)]) C.x C.b dJ6_numberOfTrailingZeros_0f7a4_73 rfl hl (by decide) rfl (fun ls hl => ?_)
    exact w_J6_numberOfTrailingZeros_0f7a4_74 C hr hlk _ _ _ _ _ hf hR hS (lv_sub hl [0, 1] rfl)
set_option maxRecDepth 100000 in
set_option maxHeartbeats 4000000 in
theorem w_J6_numberOfTrailingZeros_0f7a4_49 {G : Gt} {l : Launch} {p : Program} {e : Env} {s : State} {m : MethodId} {args : Array Value} {below : List Frame} {meth : Method} {c : Code}  {h : Hp} {out : Int32}   (C : Cx G p m c cJ6_numberOfTrailingZeros_0f7a4 2 s args RJ6) (hr : meth.sig.returnType = some .int) (hlk : meth.locks = false)   : P_J6_numberOfTrailingZeros_0f7a4_49 G l p e s m args below meth c h out  (f_J6_numberOfTrailingZeros_0f7a4_49 h) := by
  intro H locs ls x0 x1 hf hR hS  hl
  rw [f_J6_numberOfTrailingZeros_0f7a4_49] at hf
  refine lv_iload_n C.x C.b dJ6_numberOfTrailingZeros_0f7a4_49 rfl (lv_at hl 0 rfl) ?_
  refine lv_bipush (v := (16 : Int32)) C.x C.b dJ6_numberOfTrailingZeros_0f7a4_50 (by decide) ?_
  refine lv_icmp_le (tgt := 62) C.x C.b dJ6_numberOfTrailingZeros_0f7a4_52 (by decide) (fun c9 => ?_) (fun c9 => ?_)
  · have hf := it_t hf c9
    exact w_J6_numberOfTrailingZeros_0f7a4_62 C hr hlk _ _ _ _ _ hf hR hS (lv_sub hl [0, 1] rfl)
  · have hf := it_f hf c9
    obtain ⟨v10, e_v10⟩ : ∃ y : Int32, y = x1 + (4 : Int32) := ⟨_, rfl⟩
    have hf := lt_e hf e_v10
    refine lv_iinc (v := v10) (lv' := [(1, .int v10), (0, .int x0)]) C.x C.b dJ6_numberOfTrailingZeros_0f7a4_55 hl (k := 1) rfl (by rw [e_v10]; rfl) (by decide) rfl (fun ls hl => ?_)
    refine lv_iload_n C.x C.b dJ6_numberOfTrailingZeros_0f7a4_58 rfl (lv_at hl 1 rfl) ?_
    refine lv_iconst (v := (4 : Int32)) C.x C.b dJ6_numberOfTrailingZeros_0f7a4_59 (by decide) ?_
    refine lv_iushr C.x C.b dJ6_numberOfTrailingZeros_0f7a4_60 rfl ?_
    refine lv_topi (fun v11 e_v11 => ?_)
    have hf := lt_e hf e_v11
    refine lv_istore_n (lv' := [(0, .int v11), (1, .int v10)]) C.x C.b dJ6_numberOfTrailingZeros_0f7a4_61 rfl hl (by decide) rfl (fun ls hl => ?_)
    exact w_J6_numberOfTrailingZeros_0f7a4_62 C hr hlk _ _ _ _ _ hf hR hS (lv_sub hl [0, 1] rfl)
set_option maxRecDepth 100000 in
set_option maxHeartbeats 4000000 in
theorem w_J6_numberOfTrailingZeros_0f7a4_34 {G : Gt} {l : Launch} {p : Program} {e : Env} {s : State} {m : MethodId} {args : Array Value} {below : List Frame} {meth : Method} {c : Code}  {h : Hp} {out : Int32}   (C : Cx G p m c cJ6_numberOfTrailingZeros_0f7a4 2 s args RJ6) (hr : meth.sig.returnType = some .int) (hlk : meth.locks = false)   : P_J6_numberOfTrailingZeros_0f7a4_34 G l p e s m args below meth c h out  (f_J6_numberOfTrailingZeros_0f7a4_34 h) := by
  intro H locs ls x0 x1 hf hR hS  hl
  rw [f_J6_numberOfTrailingZeros_0f7a4_34] at hf
  refine lv_iload_n C.x C.b dJ6_numberOfTrailingZeros_0f7a4_34 rfl (lv_at hl 0 rfl) ?_
  refine lv_sipush (v := (256 : Int32)) C.x C.b dJ6_numberOfTrailingZeros_0f7a4_35 (by decide) ?_
  refine lv_icmp_le (tgt := 49) C.x C.b dJ6_numberOfTrailingZeros_0f7a4_38 (by decide) (fun c6 => ?_) (fun c6 => ?_)
  · have hf := it_t hf c6
    exact w_J6_numberOfTrailingZeros_0f7a4_49 C hr hlk _ _ _ _ _ hf hR hS (lv_sub hl [0, 1] rfl)
  · have hf := it_f hf c6
    obtain ⟨v7, e_v7⟩ : ∃ y : Int32, y = x1 + (8 : Int32) := ⟨_, rfl⟩
    have hf := lt_e hf e_v7
    refine lv_iinc (v := v7) (lv' := [(1, .int v7), (0, .int x0)]) C.x C.b dJ6_numberOfTrailingZeros_0f7a4_41 hl (k := 1) rfl (by rw [e_v7]; rfl) (by decide) rfl (fun ls hl => ?_)
    refine lv_iload_n C.x C.b dJ6_numberOfTrailingZeros_0f7a4_44 rfl (lv_at hl 1 rfl) ?_
    refine lv_bipush (v := (8 : Int32)) C.x C.b dJ6_numberOfTrailingZeros_0f7a4_45 (by decide) ?_
    refine lv_iushr C.x C.b dJ6_numberOfTrailingZeros_0f7a4_47 rfl ?_
    refine lv_topi (fun v8 e_v8 => ?_)
    have hf := lt_e hf e_v8
    refine lv_istore_n (lv' := [(0, .int v8), (1, .int v7)]) C.x C.b dJ6_numberOfTrailingZeros_0f7a4_48 rfl hl (by decide) rfl (fun ls hl => ?_)
    exact w_J6_numberOfTrailingZeros_0f7a4_49 C hr hlk _ _ _ _ _ hf hR hS (lv_sub hl [0, 1] rfl)
set_option maxRecDepth 100000 in
set_option maxHeartbeats 4000000 in
theorem k_J6_numberOfTrailingZeros_0f7a4 {G : Gt} {l : Launch}  {h : Hp} {x0 : Int32} {out : Int32}   (hf : f_J6_numberOfTrailingZeros_0f7a4  h x0 = some out) : Mt G l yJ6_numberOfTrailingZeros_0f7a4 cJ6_numberOfTrailingZeros_0f7a4 2 (some .int) rm_J6_numberOfTrailingZeros_0f7a4 [.int x0] h (some (.int out)) h 0 0 0 := by
  refine r_met (by decide +kernel) (Nat.le_of_ble_eq_true rfl) ?_
  intro p e s m args below meth c ls C hr hlk hnm hR hS hl
  have hl : lv_has ls 2 [(0, .int x0)] := hl
  rw [f_J6_numberOfTrailingZeros_0f7a4] at hf
  refine lv_iload_n C.x C.b dJ6_numberOfTrailingZeros_0f7a4_0 rfl (lv_at hl 0 rfl) ?_
  refine lv_iconst (v := (-1 : Int32)) C.x C.b dJ6_numberOfTrailingZeros_0f7a4_1 (by decide) ?_
  refine lv_ixor C.x C.b dJ6_numberOfTrailingZeros_0f7a4_2 ?_
  refine lv_iload_n C.x C.b dJ6_numberOfTrailingZeros_0f7a4_3 rfl (lv_at hl 0 rfl) ?_
  refine lv_iconst (v := (1 : Int32)) C.x C.b dJ6_numberOfTrailingZeros_0f7a4_4 (by decide) ?_
  refine lv_isub C.x C.b dJ6_numberOfTrailingZeros_0f7a4_5 ?_
  refine lv_iand C.x C.b dJ6_numberOfTrailingZeros_0f7a4_6 ?_
  refine lv_topi (fun v1 e_v1 => ?_)
  have hf := lt_e hf e_v1
  refine lv_istore_n (lv' := [(0, .int v1)]) C.x C.b dJ6_numberOfTrailingZeros_0f7a4_7 rfl hl (by decide) rfl (fun ls hl => ?_)
  refine lv_iload_n C.x C.b dJ6_numberOfTrailingZeros_0f7a4_8 rfl (lv_at hl 0 rfl) ?_
  refine lv_if_gt (tgt := 17) C.x C.b dJ6_numberOfTrailingZeros_0f7a4_9 (by decide) (fun c2 => ?_) (fun c2 => ?_)
  · have hf := it_t hf c2
    refine lv_iconst (v := (1 : Int32)) C.x C.b dJ6_numberOfTrailingZeros_0f7a4_17 (by decide) ?_
    refine lv_istore_n (lv' := [(1, .int (1 : Int32)), (0, .int v1)]) C.x C.b dJ6_numberOfTrailingZeros_0f7a4_18 rfl hl (by decide) rfl (fun ls hl => ?_)
    refine lv_iload_n C.x C.b dJ6_numberOfTrailingZeros_0f7a4_19 rfl (lv_at hl 1 rfl) ?_
    refine lv_ldcw C.x C.b C.ow (C.ts _ lk_J6_264) dJ6_numberOfTrailingZeros_0f7a4_20 ?_
    refine lv_icmp_le (tgt := 34) C.x C.b dJ6_numberOfTrailingZeros_0f7a4_23 (by decide) (fun c3 => ?_) (fun c3 => ?_)
    · have hf := it_t hf c3
      exact w_J6_numberOfTrailingZeros_0f7a4_34 C hr hlk _ _ _ _ _ hf hR hS (lv_sub hl [1, 0] rfl)
    · have hf := it_f hf c3
      obtain ⟨v4, e_v4⟩ : ∃ y : Int32, y = (1 : Int32) + (16 : Int32) := ⟨_, rfl⟩
      have hf := lt_e hf e_v4
      refine lv_iinc (v := v4) (lv' := [(1, .int v4), (0, .int v1)]) C.x C.b dJ6_numberOfTrailingZeros_0f7a4_26 hl (k := 0) rfl (by rw [e_v4]; rfl) (by decide) rfl (fun ls hl => ?_)
      refine lv_iload_n C.x C.b dJ6_numberOfTrailingZeros_0f7a4_29 rfl (lv_at hl 1 rfl) ?_
      refine lv_bipush (v := (16 : Int32)) C.x C.b dJ6_numberOfTrailingZeros_0f7a4_30 (by decide) ?_
      refine lv_iushr C.x C.b dJ6_numberOfTrailingZeros_0f7a4_32 rfl ?_
      refine lv_topi (fun v5 e_v5 => ?_)
      have hf := lt_e hf e_v5
      refine lv_istore_n (lv' := [(0, .int v5), (1, .int v4)]) C.x C.b dJ6_numberOfTrailingZeros_0f7a4_33 rfl hl (by decide) rfl (fun ls hl => ?_)
      exact w_J6_numberOfTrailingZeros_0f7a4_34 C hr hlk _ _ _ _ _ hf hR hS (lv_sub hl [0, 1] rfl)
  · have hf := it_f hf c2
    refine lv_iload_n C.x C.b dJ6_numberOfTrailingZeros_0f7a4_12 rfl (lv_at hl 0 rfl) ?_
    refine lv_bipush (v := (32 : Int32)) C.x C.b dJ6_numberOfTrailingZeros_0f7a4_13 (by decide) ?_
    refine lv_iand C.x C.b dJ6_numberOfTrailingZeros_0f7a4_15 ?_
    have hf := so_e hf
    subst hf
    exact r_iret C hr hlk hR Ext.rf hS dJ6_numberOfTrailingZeros_0f7a4_16

def rm_X10_crosses : Room := { frames := 5, cells := 0, slots := 0, locals := 124 }
def P_X10_crosses_80 (G : Gt) (l : Launch) (p : Program) (e : Env) (s : State) (m : MethodId) (args : Array Value) (below : List Frame) (meth : Method) (c : Code) (h0 : Hp) (out : (Int32 × Hp)) (r0 : Nat) (k : Hp → Int32 → Int32 → Int32 → Int32 → Int32 → Option (Int32 × Hp)) : Prop := ∀ (H : Heap) (locs : List Loc) (ls : Array Slot) (h : Hp) (s0 : Int32) (x1 : Int32) (x2 : Int32) (x4 : Int32) (x5 : Int32), k h s0 x1 x2 x4 x5 = some out → Ext h0 h → Rel G h H → va_S (AA G.2.2) s.heap H locs → hpT h r0 = (1, 10) → lv_has ls 6 [(0, .ref (G.2.2 + r0)), (1, .int x1), (2, .int x2), (4, .int x4), (5, .int x5)] → W p l e rm_X10_crosses s m args below meth c H locs 0 0 (MQ below (Qm G h0 out.2 (some (.int out.1)) 0) args s 0 0 (AA G.2.2)) (F0 m 80 ls [.int s0])
def P_X10_crosses_79 (G : Gt) (l : Launch) (p : Program) (e : Env) (s : State) (m : MethodId) (args : Array Value) (below : List Frame) (meth : Method) (c : Code) (h0 : Hp) (out : (Int32 × Hp)) (r0 : Nat) (k : Hp → Int32 → Int32 → Int32 → Int32 → Int32 → Option (Int32 × Hp)) : Prop := ∀ (H : Heap) (locs : List Loc) (ls : Array Slot) (h : Hp) (x1 : Int32) (x2 : Int32) (x3 : Int32) (x4 : Int32) (x5 : Int32), k h x1 x2 x3 x4 x5 = some out → Ext h0 h → Rel G h H → va_S (AA G.2.2) s.heap H locs → hpT h r0 = (1, 10) → lv_has ls 6 [(0, .ref (G.2.2 + r0)), (1, .int x1), (2, .int x2), (3, .int x3), (4, .int x4), (5, .int x5)] → W p l e rm_X10_crosses s m args below meth c H locs 0 0 (MQ below (Qm G h0 out.2 (some (.int out.1)) 0) args s 0 0 (AA G.2.2)) (F0 m 79 ls [])
def P_X10_crosses_59 (G : Gt) (l : Launch) (p : Program) (e : Env) (s : State) (m : MethodId) (args : Array Value) (below : List Frame) (meth : Method) (c : Code) (h0 : Hp) (out : (Int32 × Hp)) (r0 : Nat) (k : Hp → Int32 → Int32 → Int32 → Int32 → Int32 → Option (Int32 × Hp)) : Prop := ∀ (H : Heap) (locs : List Loc) (ls : Array Slot) (h : Hp) (s0 : Int32) (x1 : Int32) (x3 : Int32) (x4 : Int32) (x5 : Int32), k h s0 x1 x3 x4 x5 = some out → Ext h0 h → Rel G h H → va_S (AA G.2.2) s.heap H locs → hpT h r0 = (1, 10) → lv_has ls 6 [(0, .ref (G.2.2 + r0)), (1, .int x1), (3, .int x3), (4, .int x4), (5, .int x5)] → W p l e rm_X10_crosses s m args below meth c H locs 0 0 (MQ below (Qm G h0 out.2 (some (.int out.1)) 0) args s 0 0 (AA G.2.2)) (F0 m 59 ls [.int s0])
def P_X10_crosses_58 (G : Gt) (l : Launch) (p : Program) (e : Env) (s : State) (m : MethodId) (args : Array Value) (below : List Frame) (meth : Method) (c : Code) (h0 : Hp) (out : (Int32 × Hp)) (r0 : Nat) (k : Hp → Int32 → Int32 → Int32 → Int32 → Int32 → Option (Int32 × Hp)) : Prop := ∀ (H : Heap) (locs : List Loc) (ls : Array Slot) (h : Hp) (x1 : Int32) (x2 : Int32) (x3 : Int32) (x4 : Int32) (x5 : Int32), k h x1 x2 x3 x4 x5 = some out → Ext h0 h → Rel G h H → va_S (AA G.2.2) s.heap H locs → hpT h r0 = (1, 10) → lv_has ls 6 [(0, .ref (G.2.2 + r0)), (1, .int x1), (2, .int x2), (3, .int x3), (4, .int x4), (5, .int x5)] → W p l e rm_X10_crosses s m args below meth c H locs 0 0 (MQ below (Qm G h0 out.2 (some (.int out.1)) 0) args s 0 0 (AA G.2.2)) (F0 m 58 ls [])
def P_X10_crosses_134 (G : Gt) (l : Launch) (p : Program) (e : Env) (s : State) (m : MethodId) (args : Array Value) (below : List Frame) (meth : Method) (c : Code) (h0 : Hp) (out : (Int32 × Hp)) (r0 : Nat) (k : Hp → Int32 → Int32 → Int32 → Int32 → Int32 → Int32 → Option (Int32 × Hp)) : Prop := ∀ (H : Heap) (locs : List Loc) (ls : Array Slot) (h : Hp) (s0 : Int32) (s1 : Int32) (x1 : Int32) (x2 : Int32) (x3 : Int32) (x5 : Int32), k h s0 s1 x1 x2 x3 x5 = some out → Ext h0 h → Rel G h H → va_S (AA G.2.2) s.heap H locs → hpT h r0 = (1, 10) → narrow .boolean (.int s1) = .int s1 → lv_has ls 6 [(0, .ref (G.2.2 + r0)), (1, .int x1), (2, .int x2), (3, .int x3), (5, .int x5)] → W p l e rm_X10_crosses s m args below meth c H locs 0 0 (MQ below (Qm G h0 out.2 (some (.int out.1)) 0) args s 0 0 (AA G.2.2)) (F0 m 134 ls [.int s1, .int s0])
def P_X10_crosses_101 (G : Gt) (l : Launch) (p : Program) (e : Env) (s : State) (m : MethodId) (args : Array Value) (below : List Frame) (meth : Method) (c : Code) (h0 : Hp) (out : (Int32 × Hp)) (r0 : Nat) (k : Hp → Int32 → Int32 → Int32 → Int32 → Int32 → Option (Int32 × Hp)) : Prop := ∀ (H : Heap) (locs : List Loc) (ls : Array Slot) (h : Hp) (x1 : Int32) (x2 : Int32) (x3 : Int32) (x4 : Int32) (x5 : Int32), k h x1 x2 x3 x4 x5 = some out → Ext h0 h → Rel G h H → va_S (AA G.2.2) s.heap H locs → hpT h r0 = (1, 10) → lv_has ls 6 [(0, .ref (G.2.2 + r0)), (1, .int x1), (2, .int x2), (3, .int x3), (4, .int x4), (5, .int x5)] → W p l e rm_X10_crosses s m args below meth c H locs 0 0 (MQ below (Qm G h0 out.2 (some (.int out.1)) 0) args s 0 0 (AA G.2.2)) (F0 m 101 ls [])
def P_X10_crosses_14 (G : Gt) (l : Launch) (p : Program) (e : Env) (s : State) (m : MethodId) (args : Array Value) (below : List Frame) (meth : Method) (c : Code) (h0 : Hp) (out : (Int32 × Hp)) (r0 : Nat) (k : Hp → Int32 → Int32 → Int32 → Int32 → Option (Int32 × Hp)) : Prop := ∀ (H : Heap) (locs : List Loc) (ls : Array Slot) (h : Hp) (x1 : Int32) (x2 : Int32) (x3 : Int32) (x4 : Int32), k h x1 x2 x3 x4 = some out → Ext h0 h → Rel G h H → va_S (AA G.2.2) s.heap H locs → hpT h r0 = (1, 10) → lv_has ls 6 [(0, .ref (G.2.2 + r0)), (1, .int x1), (2, .int x2), (3, .int x3), (4, .int x4)] → W p l e rm_X10_crosses s m args below meth c H locs 0 0 (MQ below (Qm G h0 out.2 (some (.int out.1)) 0) args s 0 0 (AA G.2.2)) (F0 m 14 ls [])
set_option maxRecDepth 100000 in
set_option maxHeartbeats 4000000 in
theorem w_X10_crosses_80 {G : Gt} {l : Launch} {p : Program} {e : Env} {s : State} {m : MethodId} {args : Array Value} {below : List Frame} {meth : Method} {c : Code}  {h0 : Hp} {out : (Int32 × Hp)} {r0 : Nat} {k14 : Hp → Int32 → Int32 → Int32 → Int32 → Option (Int32 × Hp)} (C : Cx G p m c cX10_crosses 6 s args RX10) (hr : meth.sig.returnType = some .int) (hlk : meth.locks = false)  (hk14 : P_X10_crosses_14 G l p e s m args below meth c h0 out r0 k14) : P_X10_crosses_80 G l p e s m args below meth c h0 out r0 (f_X10_crosses_80 r0 k14) := by
  intro H locs ls h s0 x1 x2 x4 x5 hf hE hR hS t_r0 hl
  rw [f_X10_crosses_80] at hf
  refine lv_istore_n (lv' := [(3, .int s0), (0, .ref (G.2.2 + r0)), (1, .int x1), (2, .int x2), (4, .int x4), (5, .int x5)]) C.x C.b dX10_crosses_80 rfl hl (by decide) rfl (fun ls hl => ?_)
  refine lv_iload_n C.x C.b dX10_crosses_81 rfl (lv_at hl 2 rfl) ?_
  refine lv_iload C.x C.b dX10_crosses_82 (lv_at hl 5 rfl) ?_
  obtain ⟨q15, h_q15, hf⟩ := bd_e hf
  refine r_callS (As := [.int x5]) (rest := [.int x1]) C hR hS mk_J6_bitCount_0f7a4 cl_X10_264 (k_J6_bitCount_0f7a4 h_q15) ⟨⟨Nat.le_of_ble_eq_true rfl, Nat.le_of_ble_eq_true rfl⟩, ⟨rfl, rfl⟩, Nat.le_of_ble_eq_true rfl, Nat.le_of_ble_eq_true rfl⟩ rfl hl.1 rfl (Nat.le_of_ble_eq_true rfl) dX10_crosses_84 (fun H locs hR hS hE1 z_q15 => ?_)
  refine lv_iadd C.x C.b dX10_crosses_87 ?_
  refine lv_topi (fun v16 e_v16 => ?_)
  have hf := lt_e hf e_v16
  refine lv_istore_n (lv' := [(1, .int v16), (3, .int s0), (0, .ref (G.2.2 + r0)), (2, .int x2), (4, .int x4), (5, .int x5)]) C.x C.b dX10_crosses_88 rfl hl (by decide) rfl (fun ls hl => ?_)
  obtain ⟨v17, e_v17⟩ : ∃ y : Int32, y = x4 + (1 : Int32) := ⟨_, rfl⟩
  have hf := lt_e hf e_v17
  refine lv_iinc (v := v17) (lv' := [(4, .int v17), (1, .int v16), (3, .int s0), (0, .ref (G.2.2 + r0)), (2, .int x2), (5, .int x5)]) C.x C.b dX10_crosses_89 hl (k := 4) rfl (by rw [e_v17]; rfl) (by decide) rfl (fun ls hl => ?_)
  refine lv_goto (tgt := 14) C.x C.b dX10_crosses_92 (by decide) ?_
  exact hk14 _ _ _ _ _ _ _ _ hf hE hR hS t_r0 (lv_sub hl [3, 1, 4, 2, 0] rfl)
set_option maxRecDepth 100000 in
set_option maxHeartbeats 4000000 in
theorem w_X10_crosses_79 {G : Gt} {l : Launch} {p : Program} {e : Env} {s : State} {m : MethodId} {args : Array Value} {below : List Frame} {meth : Method} {c : Code}  {h0 : Hp} {out : (Int32 × Hp)} {r0 : Nat} {k14 : Hp → Int32 → Int32 → Int32 → Int32 → Option (Int32 × Hp)} (C : Cx G p m c cX10_crosses 6 s args RX10) (hr : meth.sig.returnType = some .int) (hlk : meth.locks = false)  (hk14 : P_X10_crosses_14 G l p e s m args below meth c h0 out r0 k14) : P_X10_crosses_79 G l p e s m args below meth c h0 out r0 (f_X10_crosses_79 r0 k14) := by
  intro H locs ls h x1 x2 x3 x4 x5 hf hE hR hS t_r0 hl
  rw [f_X10_crosses_79] at hf
  refine lv_iload_n C.x C.b dX10_crosses_79 rfl (lv_at hl 3 rfl) ?_
  exact w_X10_crosses_80 C hr hlk hk14 _ _ _ _ _ _ _ _ _ hf hE hR hS t_r0 (lv_sub hl [0, 1, 2, 4, 5] rfl)
set_option maxRecDepth 100000 in
set_option maxHeartbeats 4000000 in
theorem w_X10_crosses_59 {G : Gt} {l : Launch} {p : Program} {e : Env} {s : State} {m : MethodId} {args : Array Value} {below : List Frame} {meth : Method} {c : Code}  {h0 : Hp} {out : (Int32 × Hp)} {r0 : Nat} {k14 : Hp → Int32 → Int32 → Int32 → Int32 → Option (Int32 × Hp)} (C : Cx G p m c cX10_crosses 6 s args RX10) (hr : meth.sig.returnType = some .int) (hlk : meth.locks = false)  (hk14 : P_X10_crosses_14 G l p e s m args below meth c h0 out r0 k14) : P_X10_crosses_59 G l p e s m args below meth c h0 out r0 (f_X10_crosses_59 r0 k14) := by
  intro H locs ls h s0 x1 x3 x4 x5 hf hE hR hS t_r0 hl
  rw [f_X10_crosses_59] at hf
  refine lv_istore_n (lv' := [(2, .int s0), (0, .ref (G.2.2 + r0)), (1, .int x1), (3, .int x3), (4, .int x4), (5, .int x5)]) C.x C.b dX10_crosses_59 rfl hl (by decide) rfl (fun ls hl => ?_)
  refine lv_iload_n C.x C.b dX10_crosses_60 rfl (lv_at hl 0 rfl) ?_
  refine lv_iload C.x C.b dX10_crosses_61 (lv_at hl 4 rfl) ?_
  refine lv_icmp_ne (tgt := 79) C.x C.b dX10_crosses_63 (by decide) (fun c12 => ?_) (fun c12 => ?_)
  · have hf := it_f hf c12
    exact w_X10_crosses_79 C hr hlk hk14 _ _ _ _ _ _ _ _ _ hf hE hR hS t_r0 (lv_sub hl [1, 2, 0, 3, 4, 5] rfl)
  · have hf := it_t hf c12
    refine lv_iload C.x C.b dX10_crosses_66 (lv_at hl 5 rfl) ?_
    refine lv_if_eq (tgt := 79) C.x C.b dX10_crosses_68 (by decide) (fun c13 => ?_) (fun c13 => ?_)
    · have hf := it_t hf c13
      exact w_X10_crosses_79 C hr hlk hk14 _ _ _ _ _ _ _ _ _ hf hE hR hS t_r0 (lv_sub hl [1, 2, 0, 3, 4, 5] rfl)
    · have hf := it_f hf c13
      refine lv_iload C.x C.b dX10_crosses_71 (lv_at hl 5 rfl) ?_
      obtain ⟨q14, h_q14, hf⟩ := bd_e hf
      refine r_callS (As := [.int x5]) (rest := []) C hR hS mk_J6_numberOfTrailingZeros_0f7a4 cl_X10_376 (k_J6_numberOfTrailingZeros_0f7a4 h_q14) ⟨⟨Nat.le_of_ble_eq_true rfl, Nat.le_of_ble_eq_true rfl⟩, ⟨rfl, rfl⟩, Nat.le_of_ble_eq_true rfl, Nat.le_of_ble_eq_true rfl⟩ rfl hl.1 rfl (Nat.le_of_ble_eq_true rfl) dX10_crosses_73 (fun H locs hR hS hE1 z_q14 => ?_)
      refine lv_goto (tgt := 80) C.x C.b dX10_crosses_76 (by decide) ?_
      exact w_X10_crosses_80 C hr hlk hk14 _ _ _ _ _ _ _ _ _ hf hE hR hS t_r0 (lv_sub hl [1, 2, 0, 4, 5] rfl)
set_option maxRecDepth 100000 in
set_option maxHeartbeats 4000000 in
theorem w_X10_crosses_58 {G : Gt} {l : Launch} {p : Program} {e : Env} {s : State} {m : MethodId} {args : Array Value} {below : List Frame} {meth : Method} {c : Code}  {h0 : Hp} {out : (Int32 × Hp)} {r0 : Nat} {k14 : Hp → Int32 → Int32 → Int32 → Int32 → Option (Int32 × Hp)} (C : Cx G p m c cX10_crosses 6 s args RX10) (hr : meth.sig.returnType = some .int) (hlk : meth.locks = false)  (hk14 : P_X10_crosses_14 G l p e s m args below meth c h0 out r0 k14) : P_X10_crosses_58 G l p e s m args below meth c h0 out r0 (f_X10_crosses_58 r0 k14) := by
  intro H locs ls h x1 x2 x3 x4 x5 hf hE hR hS t_r0 hl
  rw [f_X10_crosses_58] at hf
  refine lv_iload_n C.x C.b dX10_crosses_58 rfl (lv_at hl 2 rfl) ?_
  exact w_X10_crosses_59 C hr hlk hk14 _ _ _ _ _ _ _ _ _ hf hE hR hS t_r0 (lv_sub hl [0, 1, 3, 4, 5] rfl)
set_option maxRecDepth 100000 in
set_option maxHeartbeats 4000000 in
theorem w_X10_crosses_134 {G : Gt} {l : Launch} {p : Program} {e : Env} {s : State} {m : MethodId} {args : Array Value} {below : List Frame} {meth : Method} {c : Code}  {h0 : Hp} {out : (Int32 × Hp)} {r0 : Nat} {k101 : Hp → Int32 → Int32 → Int32 → Int32 → Int32 → Option (Int32 × Hp)} (C : Cx G p m c cX10_crosses 6 s args RX10) (hr : meth.sig.returnType = some .int) (hlk : meth.locks = false)  (hk101 : P_X10_crosses_101 G l p e s m args below meth c h0 out r0 k101) : P_X10_crosses_134 G l p e s m args below meth c h0 out r0 (f_X10_crosses_134 r0 k101) := by
  intro H locs ls h s0 s1 x1 x2 x3 x5 hf hE hR hS t_r0 z_s1 hl
  rw [f_X10_crosses_134] at hf
  obtain ⟨q30, h_q30, hf⟩ := bd_e hf
  refine r_callS (As := [.int s1]) (rest := [.int s0]) C hR hS mk_X10_flag cl_X10_163 (k_X10_flag h_q30) ⟨⟨Nat.le_of_ble_eq_true rfl, Nat.le_of_ble_eq_true rfl⟩, ⟨rfl, rfl⟩, Nat.le_of_ble_eq_true rfl, Nat.le_of_ble_eq_true rfl⟩ rfl hl.1 rfl (Nat.le_of_ble_eq_true rfl) dX10_crosses_134 (fun H locs hR hS hE1 z_q30 => ?_)
  refine lv_iadd C.x C.b dX10_crosses_137 ?_
  refine lv_topi (fun v31 e_v31 => ?_)
  have hf := lt_e hf e_v31
  refine lv_istore (lv' := [(4, .int v31), (0, .ref (G.2.2 + r0)), (1, .int x1), (2, .int x2), (3, .int x3), (5, .int x5)]) C.x C.b dX10_crosses_138 hl (by decide) rfl (fun ls hl => ?_)
  obtain ⟨v32, e_v32⟩ : ∃ y : Int32, y = x5 + (1 : Int32) := ⟨_, rfl⟩
  have hf := lt_e hf e_v32
  refine lv_iinc (v := v32) (lv' := [(5, .int v32), (4, .int v31), (0, .ref (G.2.2 + r0)), (1, .int x1), (2, .int x2), (3, .int x3)]) C.x C.b dX10_crosses_140 hl (k := 5) rfl (by rw [e_v32]; rfl) (by decide) rfl (fun ls hl => ?_)
  refine lv_goto (tgt := 101) C.x C.b dX10_crosses_143 (by decide) ?_
  exact hk101 _ _ _ _ _ _ _ _ _ hf hE hR hS t_r0 (lv_sub hl [2, 3, 4, 5, 1, 0] rfl)
set_option maxRecDepth 100000 in
set_option maxHeartbeats 4000000 in
theorem w_X10_crosses_101 {G : Gt} {l : Launch} {p : Program} {e : Env} {s : State} {m : MethodId} {args : Array Value} {below : List Frame} {meth : Method} {c : Code}  {h0 : Hp} {out : (Int32 × Hp)} {r0 : Nat}  (C : Cx G p m c cX10_crosses 6 s args RX10) (hr : meth.sig.returnType = some .int) (hlk : meth.locks = false)   (n : Nat) : P_X10_crosses_101 G l p e s m args below meth c h0 out r0 (f_X10_crosses_101 r0 n) := by
  induction n with
  | zero => intro H locs ls h x1 x2 x3 x4 x5 hf hE hR hS t_r0 hl; cases hf
  | succ n hk101 =>
    intro H locs ls h x1 x2 x3 x4 x5 hf hE hR hS t_r0 hl
    rw [f_X10_crosses_101] at hf
    obtain ⟨k101, e_k101⟩ : ∃ y, y = f_X10_crosses_101 r0 n := ⟨_, rfl⟩
    have hf := lt_e hf e_k101
    rw [← e_k101] at hk101
    refine lv_iload C.x C.b dX10_crosses_101 (lv_at hl 5 rfl) ?_
    refine lv_aload_n C.x C.b dX10_crosses_103 rfl (lv_at hl 0 rfl) ?_
    obtain ⟨q18, h_q18, hf⟩ := bd_e hf
    refine r_callV (As := []) (rest := [.int x5]) C hR hS t_r0 rfl mk_X10_cells cl_X10_113 (k_X10_cells t_r0 h_q18) ⟨⟨Nat.le_of_ble_eq_true rfl, Nat.le_of_ble_eq_true rfl⟩, ⟨rfl, rfl⟩, Nat.le_of_ble_eq_true rfl, Nat.le_of_ble_eq_true rfl⟩ rfl hl.1 rfl (Nat.le_of_ble_eq_true rfl) dX10_crosses_104 (fun H locs hR hS hE1 z_q18 => ?_)
    refine lv_icmp_ge (tgt := 146) C.x C.b dX10_crosses_107 (by decide) (fun c19 => ?_) (fun c19 => ?_)
    · have hf := it_t hf c19
      refine lv_aload_n C.x C.b dX10_crosses_146 rfl (lv_at hl 0 rfl) ?_
      refine lv_iconst (v := (0 : Int32)) C.x C.b dX10_crosses_147 (by decide) ?_
      refine r_puti C hR hS t_r0 fl_X10_110 fp_X10_10_1 rfl dX10_crosses_148 (fun H locs hR hS => ?_)
      obtain ⟨h20, e_h20⟩ : ∃ y, y = upI h r0 1 (0 : Int32) := ⟨_, rfl⟩
      rw [← e_h20] at hR
      have hf := lt_e hf e_h20
      have hE := eI e_h20 hE
      have t_r0 := tI e_h20 t_r0
      refine lv_aload_n C.x C.b dX10_crosses_151 rfl (lv_at hl 0 rfl) ?_
      refine lv_iload C.x C.b dX10_crosses_152 (lv_at hl 4 rfl) ?_
      refine lv_i2l C.x C.b dX10_crosses_154 rfl ?_
      obtain ⟨q21, h_q21, hf⟩ := bd_e hf
      refine r_callV (As := [.long (x4.toInt64)]) (rest := []) C hR hS t_r0 rfl mk_X10_enters cl_X10_339 (k_X10_enters t_r0 h_q21) ⟨⟨Nat.le_of_ble_eq_true rfl, Nat.le_of_ble_eq_true rfl⟩, ⟨rfl, rfl⟩, Nat.le_of_ble_eq_true rfl, Nat.le_of_ble_eq_true rfl⟩ rfl hl.1 rfl (Nat.le_of_ble_eq_true rfl) dX10_crosses_155 (fun H locs hR hS hE1 z_q21 => ?_)
      have hE := hE.tr hE1
      have t_r0 := hE1.at t_r0 (by decide)
      refine lv_iload_n C.x C.b dX10_crosses_158 rfl (lv_at hl 1 rfl) ?_
      refine lv_if_le (tgt := 174) C.x C.b dX10_crosses_159 (by decide) (fun c22 => ?_) (fun c22 => ?_)
      · have hf := it_t hf c22
        refine lv_iload_n C.x C.b dX10_crosses_174 rfl (lv_at hl 1 rfl) ?_
        have hf := so_e hf
        subst hf
        exact r_iret C hr hlk hR hE hS dX10_crosses_175
      · have hf := it_f hf c22
        refine lv_aload_n C.x C.b dX10_crosses_162 rfl (lv_at hl 0 rfl) ?_
        refine lv_iload_n C.x C.b dX10_crosses_163 rfl (lv_at hl 2 rfl) ?_
        refine lv_i2l C.x C.b dX10_crosses_164 rfl ?_
        obtain ⟨q23, h_q23, hf⟩ := bd_e hf
        refine r_callV (As := [.long (x2.toInt64)]) (rest := []) C hR hS t_r0 rfl mk_X10_enters cl_X10_339 (k_X10_enters t_r0 h_q23) ⟨⟨Nat.le_of_ble_eq_true rfl, Nat.le_of_ble_eq_true rfl⟩, ⟨rfl, rfl⟩, Nat.le_of_ble_eq_true rfl, Nat.le_of_ble_eq_true rfl⟩ rfl hl.1 rfl (Nat.le_of_ble_eq_true rfl) dX10_crosses_165 (fun H locs hR hS hE1 z_q23 => ?_)
        have hE := hE.tr hE1
        have t_r0 := hE1.at t_r0 (by decide)
        refine lv_aload_n C.x C.b dX10_crosses_168 rfl (lv_at hl 0 rfl) ?_
        refine lv_iload_n C.x C.b dX10_crosses_169 rfl (lv_at hl 3 rfl) ?_
        refine lv_i2l C.x C.b dX10_crosses_170 rfl ?_
        obtain ⟨q24, h_q24, hf⟩ := bd_e hf
        refine r_callV (As := [.long (x3.toInt64)]) (rest := []) C hR hS t_r0 rfl mk_X10_enters cl_X10_339 (k_X10_enters t_r0 h_q24) ⟨⟨Nat.le_of_ble_eq_true rfl, Nat.le_of_ble_eq_true rfl⟩, ⟨rfl, rfl⟩, Nat.le_of_ble_eq_true rfl, Nat.le_of_ble_eq_true rfl⟩ rfl hl.1 rfl (Nat.le_of_ble_eq_true rfl) dX10_crosses_171 (fun H locs hR hS hE1 z_q24 => ?_)
        have hE := hE.tr hE1
        have t_r0 := hE1.at t_r0 (by decide)
        refine lv_iload_n C.x C.b dX10_crosses_174 rfl (lv_at hl 1 rfl) ?_
        have hf := so_e hf
        subst hf
        exact r_iret C hr hlk hR hE hS dX10_crosses_175
    · have hf := it_f hf c19
      refine lv_iload C.x C.b dX10_crosses_110 (lv_at hl 4 rfl) ?_
      refine lv_aload_n C.x C.b dX10_crosses_112 rfl (lv_at hl 0 rfl) ?_
      refine lv_aload_n C.x C.b dX10_crosses_113 rfl (lv_at hl 0 rfl) ?_
      obtain ⟨g25, hf⟩ := gd_e hf
      refine r_getr C hR t_r0 fl_X10_20 (by decide) (nz_e g25) dX10_crosses_114 (fun tq26 => ?_)
      have tg25 := okA tq26 rfl
      refine lv_iload C.x C.b dX10_crosses_117 (lv_at hl 5 rfl) ?_
      obtain ⟨q27, h_q27, hf⟩ := bd_e hf
      refine r_callV (As := [.ref (G.2.2 + (hpR h r0 6)), .int x5]) (rest := [.int x4]) C hR hS t_r0 rfl mk_X10_campsOver cl_X10_294 (k_X10_campsOver t_r0 tg25 h_q27) ⟨⟨Nat.le_of_ble_eq_true rfl, Nat.le_of_ble_eq_true rfl⟩, ⟨rfl, rfl⟩, Nat.le_of_ble_eq_true rfl, Nat.le_of_ble_eq_true rfl⟩ rfl hl.1 rfl (Nat.le_of_ble_eq_true rfl) dX10_crosses_119 (fun H locs hR hS hE1 z_q27 => ?_)
      obtain ⟨q28, h_q28, hf⟩ := bd_e hf
      refine r_callS (As := [.int q27]) (rest := [.int x4]) C hR hS mk_J6_bitCount_0f7a4 cl_X10_264 (k_J6_bitCount_0f7a4 h_q28) ⟨⟨Nat.le_of_ble_eq_true rfl, Nat.le_of_ble_eq_true rfl⟩, ⟨rfl, rfl⟩, Nat.le_of_ble_eq_true rfl, Nat.le_of_ble_eq_true rfl⟩ rfl hl.1 rfl (Nat.le_of_ble_eq_true rfl) dX10_crosses_122 (fun H locs hR hS hE1 z_q28 => ?_)
      refine lv_iconst (v := (1 : Int32)) C.x C.b dX10_crosses_125 (by decide) ?_
      refine lv_icmp_le (tgt := 133) C.x C.b dX10_crosses_126 (by decide) (fun c29 => ?_) (fun c29 => ?_)
      · simp only [if_pos c29] at hf
        refine lv_iconst (v := (0 : Int32)) C.x C.b dX10_crosses_133 (by decide) ?_
        exact w_X10_crosses_134 C hr hlk hk101 _ _ _ _ _ _ _ _ _ _ hf hE hR hS t_r0 z_0 (lv_sub hl [0, 1, 2, 3, 5] rfl)
      · simp only [if_neg c29] at hf
        refine lv_iconst (v := (1 : Int32)) C.x C.b dX10_crosses_129 (by decide) ?_
        refine lv_goto (tgt := 134) C.x C.b dX10_crosses_130 (by decide) ?_
        exact w_X10_crosses_134 C hr hlk hk101 _ _ _ _ _ _ _ _ _ _ hf hE hR hS t_r0 z_1 (lv_sub hl [0, 1, 2, 3, 5] rfl)
set_option maxRecDepth 100000 in
set_option maxHeartbeats 4000000 in
theorem w_X10_crosses_14 {G : Gt} {l : Launch} {p : Program} {e : Env} {s : State} {m : MethodId} {args : Array Value} {below : List Frame} {meth : Method} {c : Code}  {h0 : Hp} {out : (Int32 × Hp)} {r0 : Nat}  (C : Cx G p m c cX10_crosses 6 s args RX10) (hr : meth.sig.returnType = some .int) (hlk : meth.locks = false)   (n : Nat) : P_X10_crosses_14 G l p e s m args below meth c h0 out r0 (f_X10_crosses_14 r0 n) := by
  induction n with
  | zero => intro H locs ls h x1 x2 x3 x4 hf hE hR hS t_r0 hl; cases hf
  | succ n hk14 =>
    intro H locs ls h x1 x2 x3 x4 hf hE hR hS t_r0 hl
    rw [f_X10_crosses_14] at hf
    obtain ⟨k14, e_k14⟩ : ∃ y, y = f_X10_crosses_14 r0 n := ⟨_, rfl⟩
    have hf := lt_e hf e_k14
    rw [← e_k14] at hk14
    refine lv_iload C.x C.b dX10_crosses_14 (lv_at hl 4 rfl) ?_
    refine lv_aload_n C.x C.b dX10_crosses_16 rfl (lv_at hl 0 rfl) ?_
    obtain ⟨g2, hf⟩ := gd_e hf
    refine r_getr C hR t_r0 fl_X10_20 (by decide) (nz_e g2) dX10_crosses_17 (fun tq3 => ?_)
    have tg2 := okA tq3 rfl
    refine lv_bipush (v := (48 : Int32)) C.x C.b dX10_crosses_20 (by decide) ?_
    obtain ⟨g4, hf⟩ := gd_e hf
    refine r_iald C hR tg2 g4 dX10_crosses_22 ?_
    refine lv_icmp_ge (tgt := 95) C.x C.b dX10_crosses_23 (by decide) (fun c5 => ?_) (fun c5 => ?_)
    · have hf := it_t hf c5
      refine lv_iconst (v := (0 : Int32)) C.x C.b dX10_crosses_95 (by decide) ?_
      refine lv_istore (lv' := [(4, .int (0 : Int32)), (0, .ref (G.2.2 + r0)), (1, .int x1), (2, .int x2), (3, .int x3)]) C.x C.b dX10_crosses_96 hl (by decide) rfl (fun ls hl => ?_)
      refine lv_iconst (v := (0 : Int32)) C.x C.b dX10_crosses_98 (by decide) ?_
      refine lv_istore (lv' := [(5, .int (0 : Int32)), (4, .int (0 : Int32)), (0, .ref (G.2.2 + r0)), (1, .int x1), (2, .int x2), (3, .int x3)]) C.x C.b dX10_crosses_99 hl (by decide) rfl (fun ls hl => ?_)
      exact w_X10_crosses_101 C hr hlk FU _ _ _ _ _ _ _ _ _ hf hE hR hS t_r0 (lv_sub hl [2, 3, 4, 5, 1, 0] rfl)
    · have hf := it_f hf c5
      refine lv_aload_n C.x C.b dX10_crosses_26 rfl (lv_at hl 0 rfl) ?_
      refine lv_aload_n C.x C.b dX10_crosses_27 rfl (lv_at hl 0 rfl) ?_
      refine r_getr C hR t_r0 fl_X10_20 (by decide) (nz_e g2) dX10_crosses_28 (fun tq6 => ?_)
      refine lv_iload C.x C.b dX10_crosses_31 (lv_at hl 4 rfl) ?_
      obtain ⟨q7, h_q7, hf⟩ := bd_e hf
      refine r_callV (As := [.ref (G.2.2 + (hpR h r0 6)), .int x4]) (rest := []) C hR hS t_r0 rfl mk_X10_crossing cl_X10_260 (k_X10_crossing t_r0 tg2 h_q7) ⟨⟨Nat.le_of_ble_eq_true rfl, Nat.le_of_ble_eq_true rfl⟩, ⟨rfl, rfl⟩, Nat.le_of_ble_eq_true rfl, Nat.le_of_ble_eq_true rfl⟩ rfl hl.1 rfl (Nat.le_of_ble_eq_true rfl) dX10_crosses_33 (fun H locs hR hS hE1 z_q7 => ?_)
      refine lv_iload C.x C.b dX10_crosses_36 (lv_at hl 4 rfl) ?_
      refine lv_ishr C.x C.b dX10_crosses_38 ?_
      refine lv_topi (fun v8 e_v8 => ?_)
      have hf := lt_e hf e_v8
      refine lv_iload C.x C.b dX10_crosses_39 (lv_at hl 4 rfl) ?_
      refine lv_ishl C.x C.b dX10_crosses_41 ?_
      refine lv_topi (fun v9 e_v9 => ?_)
      have hf := lt_e hf e_v9
      refine lv_istore (lv' := [(5, .int v9), (0, .ref (G.2.2 + r0)), (1, .int x1), (2, .int x2), (3, .int x3), (4, .int x4)]) C.x C.b dX10_crosses_42 hl (by decide) rfl (fun ls hl => ?_)
      refine lv_iload_n C.x C.b dX10_crosses_44 rfl (lv_at hl 3 rfl) ?_
      refine lv_if_ge (tgt := 58) C.x C.b dX10_crosses_45 (by decide) (fun c10 => ?_) (fun c10 => ?_)
      · have hf := it_t hf c10
        exact w_X10_crosses_58 C hr hlk hk14 _ _ _ _ _ _ _ _ _ hf hE hR hS t_r0 (lv_sub hl [1, 2, 3, 4, 5, 0] rfl)
      · have hf := it_f hf c10
        refine lv_iload C.x C.b dX10_crosses_48 (lv_at hl 0 rfl) ?_
        refine lv_if_eq (tgt := 58) C.x C.b dX10_crosses_50 (by decide) (fun c11 => ?_) (fun c11 => ?_)
        · have hf := it_t hf c11
          exact w_X10_crosses_58 C hr hlk hk14 _ _ _ _ _ _ _ _ _ hf hE hR hS t_r0 (lv_sub hl [1, 2, 3, 4, 5, 0] rfl)
        · have hf := it_f hf c11
          refine lv_iload C.x C.b dX10_crosses_53 (lv_at hl 5 rfl) ?_
          refine lv_goto (tgt := 59) C.x C.b dX10_crosses_55 (by decide) ?_
          exact w_X10_crosses_59 C hr hlk hk14 _ _ _ _ _ _ _ _ _ hf hE hR hS t_r0 (lv_sub hl [1, 2, 4, 5, 0] rfl)
set_option maxRecDepth 100000 in
set_option maxHeartbeats 4000000 in
theorem k_X10_crosses {G : Gt} {l : Launch}  {h : Hp} {r0 : Nat} {out : (Int32 × Hp)} (t_r0 : hpT h r0 = (1, 10))  (hf : f_X10_crosses  h r0 = some out) : Mt G l yX10_crosses cX10_crosses 6 (some .int) rm_X10_crosses [.ref (G.2.2 + r0)] h (some (.int out.1)) out.2 0 0 0 := by
  refine r_met (by decide +kernel) (Nat.le_of_ble_eq_true rfl) ?_
  intro p e s m args below meth c ls C hr hlk hnm hR hS hl
  have hE : Ext h h := Ext.rf
  have hl : lv_has ls 6 [(0, .ref (G.2.2 + r0))] := hl
  rw [f_X10_crosses] at hf
  refine lv_aload_n C.x C.b dX10_crosses_0 rfl (lv_at hl 0 rfl) ?_
  refine lv_iconst (v := (0 : Int32)) C.x C.b dX10_crosses_1 (by decide) ?_
  refine r_puti C hR hS t_r0 fl_X10_103 fp_X10_10_0 rfl dX10_crosses_2 (fun H locs hR hS => ?_)
  obtain ⟨h1, e_h1⟩ : ∃ y, y = upI h r0 0 (0 : Int32) := ⟨_, rfl⟩
  rw [← e_h1] at hR
  have hf := lt_e hf e_h1
  have hE := eI e_h1 hE
  have t_r0 := tI e_h1 t_r0
  refine lv_iconst (v := (0 : Int32)) C.x C.b dX10_crosses_5 (by decide) ?_
  refine lv_istore_n (lv' := [(1, .int (0 : Int32)), (0, .ref (G.2.2 + r0))]) C.x C.b dX10_crosses_6 rfl hl (by decide) rfl (fun ls hl => ?_)
  refine lv_iconst (v := (-1 : Int32)) C.x C.b dX10_crosses_7 (by decide) ?_
  refine lv_istore_n (lv' := [(2, .int (-1 : Int32)), (1, .int (0 : Int32)), (0, .ref (G.2.2 + r0))]) C.x C.b dX10_crosses_8 rfl hl (by decide) rfl (fun ls hl => ?_)
  refine lv_iconst (v := (-1 : Int32)) C.x C.b dX10_crosses_9 (by decide) ?_
  refine lv_istore_n (lv' := [(3, .int (-1 : Int32)), (2, .int (-1 : Int32)), (1, .int (0 : Int32)), (0, .ref (G.2.2 + r0))]) C.x C.b dX10_crosses_10 rfl hl (by decide) rfl (fun ls hl => ?_)
  refine lv_iconst (v := (0 : Int32)) C.x C.b dX10_crosses_11 (by decide) ?_
  refine lv_istore (lv' := [(4, .int (0 : Int32)), (3, .int (-1 : Int32)), (2, .int (-1 : Int32)), (1, .int (0 : Int32)), (0, .ref (G.2.2 + r0))]) C.x C.b dX10_crosses_12 hl (by decide) rfl (fun ls hl => ?_)
  exact w_X10_crosses_14 C hr hlk FU _ _ _ _ _ _ _ _ hf hE hR hS t_r0 (lv_sub hl [4, 3, 2, 1, 0] rfl)

def rm_X10_heap : Room := { frames := 5, cells := 0, slots := 0, locals := 124 }
def P_X10_heap_85 (G : Gt) (l : Launch) (p : Program) (e : Env) (s : State) (m : MethodId) (args : Array Value) (below : List Frame) (meth : Method) (c : Code) (h0 : Hp) (out : (Int32 × Hp)) (r0 : Nat) (x1 : Int32) (k : Hp → Int32 → Int32 → Int32 → Int32 → Int32 → Option (Int32 × Hp)) : Prop := ∀ (H : Heap) (locs : List Loc) (ls : Array Slot) (h : Hp) (s0 : Int32) (s1 : Int32) (x2 : Int32) (x3 : Int32) (x5 : Int32), k h s0 s1 x2 x3 x5 = some out → Ext h0 h → Rel G h H → va_S (AA G.2.2) s.heap H locs → hpT h r0 = (1, 10) → lv_has ls 6 [(0, .ref (G.2.2 + r0)), (1, .int x1), (2, .int x2), (3, .int x3), (5, .int x5)] → W p l e rm_X10_heap s m args below meth c H locs 0 0 (MQ below (Qm G h0 out.2 (some (.int out.1)) 0) args s 0 0 (AA G.2.2)) (F0 m 85 ls [.int s1, .int s0])
def P_X10_heap_47 (G : Gt) (l : Launch) (p : Program) (e : Env) (s : State) (m : MethodId) (args : Array Value) (below : List Frame) (meth : Method) (c : Code) (h0 : Hp) (out : (Int32 × Hp)) (r0 : Nat) (x1 : Int32) (k : Hp → Int32 → Int32 → Int32 → Int32 → Option (Int32 × Hp)) : Prop := ∀ (H : Heap) (locs : List Loc) (ls : Array Slot) (h : Hp) (x2 : Int32) (x3 : Int32) (x4 : Int32) (x5 : Int32), k h x2 x3 x4 x5 = some out → Ext h0 h → Rel G h H → va_S (AA G.2.2) s.heap H locs → hpT h r0 = (1, 10) → lv_has ls 6 [(0, .ref (G.2.2 + r0)), (1, .int x1), (2, .int x2), (3, .int x3), (4, .int x4), (5, .int x5)] → W p l e rm_X10_heap s m args below meth c H locs 0 0 (MQ below (Qm G h0 out.2 (some (.int out.1)) 0) args s 0 0 (AA G.2.2)) (F0 m 47 ls [])
def P_X10_heap_35 (G : Gt) (l : Launch) (p : Program) (e : Env) (s : State) (m : MethodId) (args : Array Value) (below : List Frame) (meth : Method) (c : Code) (h0 : Hp) (out : (Int32 × Hp)) (r0 : Nat) (x1 : Int32) (k : Hp → Int32 → Int32 → Option (Int32 × Hp)) : Prop := ∀ (H : Heap) (locs : List Loc) (ls : Array Slot) (h : Hp) (x2 : Int32) (x3 : Int32), k h x2 x3 = some out → Ext h0 h → Rel G h H → va_S (AA G.2.2) s.heap H locs → hpT h r0 = (1, 10) → lv_has ls 6 [(0, .ref (G.2.2 + r0)), (1, .int x1), (2, .int x2), (3, .int x3)] → W p l e rm_X10_heap s m args below meth c H locs 0 0 (MQ below (Qm G h0 out.2 (some (.int out.1)) 0) args s 0 0 (AA G.2.2)) (F0 m 35 ls [])
set_option maxRecDepth 100000 in
set_option maxHeartbeats 4000000 in
theorem w_X10_heap_85 {G : Gt} {l : Launch} {p : Program} {e : Env} {s : State} {m : MethodId} {args : Array Value} {below : List Frame} {meth : Method} {c : Code}  {h0 : Hp} {out : (Int32 × Hp)} {r0 : Nat} {x1 : Int32} {k35 : Hp → Int32 → Int32 → Option (Int32 × Hp)} {k47 : Hp → Int32 → Int32 → Int32 → Int32 → Option (Int32 × Hp)} (C : Cx G p m c cX10_heap 6 s args RX10) (hr : meth.sig.returnType = some .int) (hlk : meth.locks = false)  (hk35 : P_X10_heap_35 G l p e s m args below meth c h0 out r0 x1 k35) (hk47 : P_X10_heap_47 G l p e s m args below meth c h0 out r0 x1 k47) : P_X10_heap_85 G l p e s m args below meth c h0 out r0 x1 (f_X10_heap_85 r0 x1 k35 k47) := by
  intro H locs ls h s0 s1 x2 x3 x5 hf hE hR hS t_r0 hl
  rw [f_X10_heap_85] at hf
  refine lv_ior C.x C.b dX10_heap_85 ?_
  refine lv_topi (fun v26 e_v26 => ?_)
  have hf := lt_e hf e_v26
  refine lv_istore (lv' := [(4, .int v26), (0, .ref (G.2.2 + r0)), (1, .int x1), (2, .int x2), (3, .int x3), (5, .int x5)]) C.x C.b dX10_heap_86 hl (by decide) rfl (fun ls hl => ?_)
  obtain ⟨v27, e_v27⟩ : ∃ y : Int32, y = x5 + (1 : Int32) := ⟨_, rfl⟩
  have hf := lt_e hf e_v27
  refine lv_iinc (v := v27) (lv' := [(5, .int v27), (4, .int v26), (0, .ref (G.2.2 + r0)), (1, .int x1), (2, .int x2), (3, .int x3)]) C.x C.b dX10_heap_88 hl (k := 5) rfl (by rw [e_v27]; rfl) (by decide) rfl (fun ls hl => ?_)
  refine lv_goto (tgt := 47) C.x C.b dX10_heap_91 (by decide) ?_
  exact hk47 _ _ _ _ _ _ _ _ hf hE hR hS t_r0 (lv_sub hl [2, 3, 4, 5, 1, 0] rfl)
set_option maxRecDepth 100000 in
set_option maxHeartbeats 4000000 in
theorem w_X10_heap_47 {G : Gt} {l : Launch} {p : Program} {e : Env} {s : State} {m : MethodId} {args : Array Value} {below : List Frame} {meth : Method} {c : Code}  {h0 : Hp} {out : (Int32 × Hp)} {r0 : Nat} {x1 : Int32} {k35 : Hp → Int32 → Int32 → Option (Int32 × Hp)} (C : Cx G p m c cX10_heap 6 s args RX10) (hr : meth.sig.returnType = some .int) (hlk : meth.locks = false)  (hk35 : P_X10_heap_35 G l p e s m args below meth c h0 out r0 x1 k35) (n : Nat) : P_X10_heap_47 G l p e s m args below meth c h0 out r0 x1 (f_X10_heap_47 r0 x1 k35 n) := by
  induction n with
  | zero => intro H locs ls h x2 x3 x4 x5 hf hE hR hS t_r0 hl; cases hf
  | succ n hk47 =>
    intro H locs ls h x2 x3 x4 x5 hf hE hR hS t_r0 hl
    rw [f_X10_heap_47] at hf
    obtain ⟨k47, e_k47⟩ : ∃ y, y = f_X10_heap_47 r0 x1 k35 n := ⟨_, rfl⟩
    have hf := lt_e hf e_k47
    rw [← e_k47] at hk47
    refine lv_iload C.x C.b dX10_heap_47 (lv_at hl 5 rfl) ?_
    refine lv_aload_n C.x C.b dX10_heap_49 rfl (lv_at hl 0 rfl) ?_
    obtain ⟨g17, hf⟩ := gd_e hf
    refine r_getr C hR t_r0 fl_X10_20 (by decide) (nz_e g17) dX10_heap_50 (fun tq18 => ?_)
    have tg17 := okA tq18 rfl
    refine lv_bipush (v := (48 : Int32)) C.x C.b dX10_heap_53 (by decide) ?_
    obtain ⟨g19, hf⟩ := gd_e hf
    refine r_iald C hR tg17 g19 dX10_heap_55 ?_
    refine lv_icmp_ge (tgt := 94) C.x C.b dX10_heap_56 (by decide) (fun c20 => ?_) (fun c20 => ?_)
    · have hf := it_t hf c20
      refine lv_iload C.x C.b dX10_heap_94 (lv_at hl 4 rfl) ?_
      refine lv_istore_n (lv' := [(2, .int x4), (0, .ref (G.2.2 + r0)), (1, .int x1), (3, .int x3), (4, .int x4), (5, .int x5)]) C.x C.b dX10_heap_96 rfl hl (by decide) rfl (fun ls hl => ?_)
      obtain ⟨v21, e_v21⟩ : ∃ y : Int32, y = x3 + (1 : Int32) := ⟨_, rfl⟩
      have hf := lt_e hf e_v21
      refine lv_iinc (v := v21) (lv' := [(3, .int v21), (2, .int x4), (0, .ref (G.2.2 + r0)), (1, .int x1), (4, .int x4), (5, .int x5)]) C.x C.b dX10_heap_97 hl (k := 3) rfl (by rw [e_v21]; rfl) (by decide) rfl (fun ls hl => ?_)
      refine lv_goto (tgt := 35) C.x C.b dX10_heap_100 (by decide) ?_
      exact hk35 _ _ _ _ _ _ hf hE hR hS t_r0 (lv_sub hl [2, 3, 1, 0] rfl)
    · have hf := it_f hf c20
      refine lv_iload C.x C.b dX10_heap_59 (lv_at hl 4 rfl) ?_
      refine lv_iload_n C.x C.b dX10_heap_61 rfl (lv_at hl 2 rfl) ?_
      refine lv_i2l C.x C.b dX10_heap_62 rfl ?_
      refine lv_iload C.x C.b dX10_heap_63 (lv_at hl 5 rfl) ?_
      obtain ⟨q22, h_q22, hf⟩ := bd_e hf
      refine r_callS (As := [.long (x2.toInt64), .int x5]) (rest := [.int x4]) C hR hS mk_X10_has cl_X10_137 (k_X10_has h_q22) ⟨⟨Nat.le_of_ble_eq_true rfl, Nat.le_of_ble_eq_true rfl⟩, ⟨rfl, rfl⟩, Nat.le_of_ble_eq_true rfl, Nat.le_of_ble_eq_true rfl⟩ rfl hl.1 rfl (Nat.le_of_ble_eq_true rfl) dX10_heap_65 (fun H locs hR hS hE1 z_q22 => ?_)
      have z_q22 := z_q22 _ rfl
      refine lv_if_eq (tgt := 84) C.x C.b dX10_heap_68 (by decide) (fun c23 => ?_) (fun c23 => ?_)
      · have hf := it_t hf c23
        refine lv_iconst (v := (0 : Int32)) C.x C.b dX10_heap_84 (by decide) ?_
        exact w_X10_heap_85 C hr hlk hk35 hk47 _ _ _ _ _ _ _ _ _ hf hE hR hS t_r0 (lv_sub hl [0, 1, 2, 3, 5] rfl)
      · have hf := it_f hf c23
        refine lv_aload_n C.x C.b dX10_heap_71 rfl (lv_at hl 0 rfl) ?_
        refine lv_aload_n C.x C.b dX10_heap_72 rfl (lv_at hl 0 rfl) ?_
        refine r_getr C hR t_r0 fl_X10_20 (by decide) (nz_e g17) dX10_heap_73 (fun tq24 => ?_)
        refine lv_iload C.x C.b dX10_heap_76 (lv_at hl 5 rfl) ?_
        obtain ⟨q25, h_q25, hf⟩ := bd_e hf
        refine r_callV (As := [.ref (G.2.2 + (hpR h r0 6)), .int x5]) (rest := [.int x4]) C hR hS t_r0 rfl mk_X10_crossing cl_X10_260 (k_X10_crossing t_r0 tg17 h_q25) ⟨⟨Nat.le_of_ble_eq_true rfl, Nat.le_of_ble_eq_true rfl⟩, ⟨rfl, rfl⟩, Nat.le_of_ble_eq_true rfl, Nat.le_of_ble_eq_true rfl⟩ rfl hl.1 rfl (Nat.le_of_ble_eq_true rfl) dX10_heap_78 (fun H locs hR hS hE1 z_q25 => ?_)
        refine lv_goto (tgt := 85) C.x C.b dX10_heap_81 (by decide) ?_
        exact w_X10_heap_85 C hr hlk hk35 hk47 _ _ _ _ _ _ _ _ _ hf hE hR hS t_r0 (lv_sub hl [0, 1, 2, 3, 5] rfl)
set_option maxRecDepth 100000 in
set_option maxHeartbeats 4000000 in
theorem w_X10_heap_35 {G : Gt} {l : Launch} {p : Program} {e : Env} {s : State} {m : MethodId} {args : Array Value} {below : List Frame} {meth : Method} {c : Code}  {h0 : Hp} {out : (Int32 × Hp)} {r0 : Nat} {x1 : Int32}  (C : Cx G p m c cX10_heap 6 s args RX10) (hr : meth.sig.returnType = some .int) (hlk : meth.locks = false)   (n : Nat) : P_X10_heap_35 G l p e s m args below meth c h0 out r0 x1 (f_X10_heap_35 r0 x1 n) := by
  induction n with
  | zero => intro H locs ls h x2 x3 hf hE hR hS t_r0 hl; cases hf
  | succ n hk35 =>
    intro H locs ls h x2 x3 hf hE hR hS t_r0 hl
    rw [f_X10_heap_35] at hf
    obtain ⟨k35, e_k35⟩ : ∃ y, y = f_X10_heap_35 r0 x1 n := ⟨_, rfl⟩
    have hf := lt_e hf e_k35
    rw [← e_k35] at hk35
    refine lv_iload_n C.x C.b dX10_heap_35 rfl (lv_at hl 3 rfl) ?_
    refine lv_bipush (v := (8 : Int32)) C.x C.b dX10_heap_36 (by decide) ?_
    refine lv_icmp_ge (tgt := 103) C.x C.b dX10_heap_38 (by decide) (fun c9 => ?_) (fun c9 => ?_)
    · have hf := it_t hf c9
      refine lv_aload_n C.x C.b dX10_heap_103 rfl (lv_at hl 0 rfl) ?_
      refine lv_iconst (v := (0 : Int32)) C.x C.b dX10_heap_104 (by decide) ?_
      refine r_puti C hR hS t_r0 fl_X10_110 fp_X10_10_1 rfl dX10_heap_105 (fun H locs hR hS => ?_)
      obtain ⟨h10, e_h10⟩ : ∃ y, y = upI h r0 1 (0 : Int32) := ⟨_, rfl⟩
      rw [← e_h10] at hR
      have hf := lt_e hf e_h10
      have hE := eI e_h10 hE
      have t_r0 := tI e_h10 t_r0
      refine lv_aload_n C.x C.b dX10_heap_108 rfl (lv_at hl 0 rfl) ?_
      refine lv_iload_n C.x C.b dX10_heap_109 rfl (lv_at hl 2 rfl) ?_
      obtain ⟨q11, h_q11, hf⟩ := bd_e hf
      refine r_callS (As := [.int x2]) (rest := [.ref (G.2.2 + r0)]) C hR hS mk_J6_bitCount_0f7a4 cl_X10_264 (k_J6_bitCount_0f7a4 h_q11) ⟨⟨Nat.le_of_ble_eq_true rfl, Nat.le_of_ble_eq_true rfl⟩, ⟨rfl, rfl⟩, Nat.le_of_ble_eq_true rfl, Nat.le_of_ble_eq_true rfl⟩ rfl hl.1 rfl (Nat.le_of_ble_eq_true rfl) dX10_heap_110 (fun H locs hR hS hE1 z_q11 => ?_)
      refine lv_i2l C.x C.b dX10_heap_113 rfl ?_
      obtain ⟨q12, h_q12, hf⟩ := bd_e hf
      refine r_callV (As := [.long (q11.toInt64)]) (rest := []) C hR hS t_r0 rfl mk_X10_enters cl_X10_339 (k_X10_enters t_r0 h_q12) ⟨⟨Nat.le_of_ble_eq_true rfl, Nat.le_of_ble_eq_true rfl⟩, ⟨rfl, rfl⟩, Nat.le_of_ble_eq_true rfl, Nat.le_of_ble_eq_true rfl⟩ rfl hl.1 rfl (Nat.le_of_ble_eq_true rfl) dX10_heap_114 (fun H locs hR hS hE1 z_q12 => ?_)
      have hE := hE.tr hE1
      have t_r0 := hE1.at t_r0 (by decide)
      refine lv_aload_n C.x C.b dX10_heap_117 rfl (lv_at hl 0 rfl) ?_
      refine lv_aload_n C.x C.b dX10_heap_118 rfl (lv_at hl 0 rfl) ?_
      refine lv_aload_n C.x C.b dX10_heap_119 rfl (lv_at hl 0 rfl) ?_
      obtain ⟨g13, hf⟩ := gd_e hf
      refine r_getr C hR t_r0 fl_X10_20 (by decide) (nz_e g13) dX10_heap_120 (fun tq14 => ?_)
      have tg13 := okA tq14 rfl
      refine lv_iload_n C.x C.b dX10_heap_123 rfl (lv_at hl 2 rfl) ?_
      obtain ⟨q15, h_q15, hf⟩ := bd_e hf
      refine r_callV (As := [.ref (G.2.2 + (hpR q12 r0 6)), .int x2]) (rest := [.ref (G.2.2 + r0)]) C hR hS t_r0 rfl mk_X10_sleptBy cl_X10_328 (k_X10_sleptBy t_r0 tg13 h_q15) ⟨⟨Nat.le_of_ble_eq_true rfl, Nat.le_of_ble_eq_true rfl⟩, ⟨rfl, rfl⟩, Nat.le_of_ble_eq_true rfl, Nat.le_of_ble_eq_true rfl⟩ rfl hl.1 rfl (Nat.le_of_ble_eq_true rfl) dX10_heap_124 (fun H locs hR hS hE1 z_q15 => ?_)
      obtain ⟨q16, h_q16, hf⟩ := bd_e hf
      refine r_callV (As := [.long q15]) (rest := []) C hR hS t_r0 rfl mk_X10_enters cl_X10_339 (k_X10_enters t_r0 h_q16) ⟨⟨Nat.le_of_ble_eq_true rfl, Nat.le_of_ble_eq_true rfl⟩, ⟨rfl, rfl⟩, Nat.le_of_ble_eq_true rfl, Nat.le_of_ble_eq_true rfl⟩ rfl hl.1 rfl (Nat.le_of_ble_eq_true rfl) dX10_heap_127 (fun H locs hR hS hE1 z_q16 => ?_)
      have hE := hE.tr hE1
      have t_r0 := hE1.at t_r0 (by decide)
      refine lv_iload_n C.x C.b dX10_heap_130 rfl (lv_at hl 2 rfl) ?_
      have hf := so_e hf
      subst hf
      exact r_iret C hr hlk hR hE hS dX10_heap_131
    · have hf := it_f hf c9
      refine lv_iload_n C.x C.b dX10_heap_41 rfl (lv_at hl 2 rfl) ?_
      refine lv_istore (lv' := [(4, .int x2), (0, .ref (G.2.2 + r0)), (1, .int x1), (2, .int x2), (3, .int x3)]) C.x C.b dX10_heap_42 hl (by decide) rfl (fun ls hl => ?_)
      refine lv_iconst (v := (0 : Int32)) C.x C.b dX10_heap_44 (by decide) ?_
      refine lv_istore (lv' := [(5, .int (0 : Int32)), (4, .int x2), (0, .ref (G.2.2 + r0)), (1, .int x1), (2, .int x2), (3, .int x3)]) C.x C.b dX10_heap_45 hl (by decide) rfl (fun ls hl => ?_)
      exact w_X10_heap_47 C hr hlk hk35 FU _ _ _ _ _ _ _ _ hf hE hR hS t_r0 (lv_sub hl [2, 3, 4, 5, 1, 0] rfl)
set_option maxRecDepth 100000 in
set_option maxHeartbeats 4000000 in
theorem k_X10_heap {G : Gt} {l : Launch}  {h : Hp} {r0 : Nat} {x1 : Int32} {out : (Int32 × Hp)} (t_r0 : hpT h r0 = (1, 10))  (hf : f_X10_heap  h r0 x1 = some out) : Mt G l yX10_heap cX10_heap 6 (some .int) rm_X10_heap [.ref (G.2.2 + r0), .int x1] h (some (.int out.1)) out.2 0 0 0 := by
  refine r_met (by decide +kernel) (Nat.le_of_ble_eq_true rfl) ?_
  intro p e s m args below meth c ls C hr hlk hnm hR hS hl
  have hE : Ext h h := Ext.rf
  have hl : lv_has ls 6 [(0, .ref (G.2.2 + r0)), (1, .int x1)] := hl
  rw [f_X10_heap] at hf
  refine lv_aload_n C.x C.b dX10_heap_0 rfl (lv_at hl 0 rfl) ?_
  refine lv_iconst (v := (0 : Int32)) C.x C.b dX10_heap_1 (by decide) ?_
  refine r_puti C hR hS t_r0 fl_X10_103 fp_X10_10_0 rfl dX10_heap_2 (fun H locs hR hS => ?_)
  obtain ⟨h1, e_h1⟩ : ∃ y, y = upI h r0 0 (0 : Int32) := ⟨_, rfl⟩
  rw [← e_h1] at hR
  have hf := lt_e hf e_h1
  have hE := eI e_h1 hE
  have t_r0 := tI e_h1 t_r0
  refine lv_aload_n C.x C.b dX10_heap_5 rfl (lv_at hl 0 rfl) ?_
  refine lv_iload_n C.x C.b dX10_heap_6 rfl (lv_at hl 1 rfl) ?_
  obtain ⟨q2, h_q2, hf⟩ := bd_e hf
  refine r_callV (As := [.int x1]) (rest := []) C hR hS t_r0 rfl mk_X10_isCamp cl_X10_278 (k_X10_isCamp t_r0 h_q2) ⟨⟨Nat.le_of_ble_eq_true rfl, Nat.le_of_ble_eq_true rfl⟩, ⟨rfl, rfl⟩, Nat.le_of_ble_eq_true rfl, Nat.le_of_ble_eq_true rfl⟩ rfl hl.1 rfl (Nat.le_of_ble_eq_true rfl) dX10_heap_7 (fun H locs hR hS hE1 z_q2 => ?_)
  have z_q2 := z_q2 _ rfl
  refine lv_if_ne (tgt := 15) C.x C.b dX10_heap_10 (by decide) (fun c3 => ?_) (fun c3 => ?_)
  · have hf := it_f hf c3
    refine lv_aload_n C.x C.b dX10_heap_15 rfl (lv_at hl 0 rfl) ?_
    obtain ⟨g4, hf⟩ := gd_e hf
    refine r_getr C hR t_r0 fl_X10_20 (by decide) (nz_e g4) dX10_heap_16 (fun tq5 => ?_)
    have tg4 := okA tq5 rfl
    refine lv_iload_n C.x C.b dX10_heap_19 rfl (lv_at hl 1 rfl) ?_
    obtain ⟨q6, h_q6, hf⟩ := bd_e hf
    refine r_callS (As := [.ref (G.2.2 + (hpR h1 r0 6)), .int x1]) (rest := []) C hR hS mk_X10_isOn cl_X10_129 (k_X10_isOn tg4 h_q6) ⟨⟨Nat.le_of_ble_eq_true rfl, Nat.le_of_ble_eq_true rfl⟩, ⟨rfl, rfl⟩, Nat.le_of_ble_eq_true rfl, Nat.le_of_ble_eq_true rfl⟩ rfl hl.1 rfl (Nat.le_of_ble_eq_true rfl) dX10_heap_20 (fun H locs hR hS hE1 z_q6 => ?_)
    have z_q6 := z_q6 _ rfl
    refine lv_if_ne (tgt := 29) C.x C.b dX10_heap_23 (by decide) (fun c7 => ?_) (fun c7 => ?_)
    · have hf := it_f hf c7
      refine lv_iconst (v := (1 : Int32)) C.x C.b dX10_heap_29 (by decide) ?_
      refine lv_iload_n C.x C.b dX10_heap_30 rfl (lv_at hl 1 rfl) ?_
      refine lv_ishl C.x C.b dX10_heap_31 ?_
      refine lv_topi (fun v8 e_v8 => ?_)
      have hf := lt_e hf e_v8
      refine lv_istore_n (lv' := [(2, .int v8), (0, .ref (G.2.2 + r0)), (1, .int x1)]) C.x C.b dX10_heap_32 rfl hl (by decide) rfl (fun ls hl => ?_)
      refine lv_iconst (v := (0 : Int32)) C.x C.b dX10_heap_33 (by decide) ?_
      refine lv_istore_n (lv' := [(3, .int (0 : Int32)), (2, .int v8), (0, .ref (G.2.2 + r0)), (1, .int x1)]) C.x C.b dX10_heap_34 rfl hl (by decide) rfl (fun ls hl => ?_)
      exact w_X10_heap_35 C hr hlk FU _ _ _ _ _ _ hf hE hR hS t_r0 (lv_sub hl [2, 3, 1, 0] rfl)
    · have hf := it_t hf c7
      refine lv_bipush (v := (-2 : Int32)) C.x C.b dX10_heap_26 (by decide) ?_
      have hf := so_e hf
      subst hf
      exact r_iret C hr hlk hR hE hS dX10_heap_28
  · have hf := it_t hf c3
    refine lv_iconst (v := (-1 : Int32)) C.x C.b dX10_heap_13 (by decide) ?_
    have hf := so_e hf
    subst hf
    exact r_iret C hr hlk hR hE hS dX10_heap_14

def rm_X10_gone : Room := { frames := 7, cells := 0, slots := 0, locals := 171 }
def P_X10_gone_21 (G : Gt) (l : Launch) (p : Program) (e : Env) (s : State) (m : MethodId) (args : Array Value) (below : List Frame) (meth : Method) (c : Code) (h0 : Hp) (out : (Int32 × Hp)) (r0 : Nat) (x1 : Int32) (k : Hp → Int32 → Option (Int32 × Hp)) : Prop := ∀ (H : Heap) (locs : List Loc) (ls : Array Slot) (h : Hp) (x2 : Int32), k h x2 = some out → Ext h0 h → Rel G h H → va_S (AA G.2.2) s.heap H locs → hpT h r0 = (1, 10) → lv_has ls 3 [(0, .ref (G.2.2 + r0)), (1, .int x1), (2, .int x2)] → W p l e rm_X10_gone s m args below meth c H locs 0 0 (MQ below (Qm G h0 out.2 (some (.int out.1)) 0) args s 0 0 (AA G.2.2)) (F0 m 21 ls [])
set_option maxRecDepth 100000 in
set_option maxHeartbeats 4000000 in
theorem w_X10_gone_21 {G : Gt} {l : Launch} {p : Program} {e : Env} {s : State} {m : MethodId} {args : Array Value} {below : List Frame} {meth : Method} {c : Code}  {h0 : Hp} {out : (Int32 × Hp)} {r0 : Nat} {x1 : Int32}  (C : Cx G p m c cX10_gone 3 s args RX10) (hr : meth.sig.returnType = some .int) (hlk : meth.locks = false)   (n : Nat) : P_X10_gone_21 G l p e s m args below meth c h0 out r0 x1 (f_X10_gone_21 r0 x1 n) := by
  induction n with
  | zero => intro H locs ls h x2 hf hE hR hS t_r0 hl; cases hf
  | succ n hk21 =>
    intro H locs ls h x2 hf hE hR hS t_r0 hl
    rw [f_X10_gone_21] at hf
    obtain ⟨k21, e_k21⟩ : ∃ y, y = f_X10_gone_21 r0 x1 n := ⟨_, rfl⟩
    have hf := lt_e hf e_k21
    rw [← e_k21] at hk21
    refine lv_iload_n C.x C.b dX10_gone_21 rfl (lv_at hl 2 rfl) ?_
    refine lv_bipush (v := (99 : Int32)) C.x C.b dX10_gone_22 (by decide) ?_
    refine lv_icmp_gt (tgt := 70) C.x C.b dX10_gone_24 (by decide) (fun c5 => ?_) (fun c5 => ?_)
    · have hf := it_t hf c5
      refine lv_bipush (v := (-2 : Int32)) C.x C.b dX10_gone_70 (by decide) ?_
      have hf := so_e hf
      subst hf
      exact r_iret C hr hlk hR hE hS dX10_gone_72
    · have hf := it_f hf c5
      refine lv_aload_n C.x C.b dX10_gone_27 rfl (lv_at hl 0 rfl) ?_
      obtain ⟨g6, hf⟩ := gd_e hf
      refine r_getr C hR t_r0 fl_X10_24 (by decide) (nz_e g6) dX10_gone_28 (fun tq7 => ?_)
      have tg6 := okA tq7 rfl
      refine lv_iload_n C.x C.b dX10_gone_31 rfl (lv_at hl 1 rfl) ?_
      obtain ⟨q8, h_q8, hf⟩ := bd_e hf
      refine r_callS (As := [.ref (G.2.2 + (hpR h r0 7)), .int x1]) (rest := []) C hR hS mk_X10_isOn cl_X10_129 (k_X10_isOn tg6 h_q8) ⟨⟨Nat.le_of_ble_eq_true rfl, Nat.le_of_ble_eq_true rfl⟩, ⟨rfl, rfl⟩, Nat.le_of_ble_eq_true rfl, Nat.le_of_ble_eq_true rfl⟩ rfl hl.1 rfl (Nat.le_of_ble_eq_true rfl) dX10_gone_32 (fun H locs hR hS hE1 z_q8 => ?_)
      have z_q8 := z_q8 _ rfl
      refine lv_if_ne (tgt := 56) C.x C.b dX10_gone_35 (by decide) (fun c9 => ?_) (fun c9 => ?_)
      · have hf := it_f hf c9
        refine lv_aload_n C.x C.b dX10_gone_56 rfl (lv_at hl 0 rfl) ?_
        refine lv_aload_n C.x C.b dX10_gone_57 rfl (lv_at hl 0 rfl) ?_
        refine r_getr C hR t_r0 fl_X10_24 (by decide) (nz_e g6) dX10_gone_58 (fun tq10 => ?_)
        obtain ⟨q11, h_q11, hf⟩ := bd_e hf
        refine r_callV (As := [.ref (G.2.2 + (hpR h r0 7))]) (rest := []) C hR hS t_r0 rfl mk_X10_yearGoes cl_X10_318 (k_X10_yearGoes t_r0 tg6 h_q11) ⟨⟨Nat.le_of_ble_eq_true rfl, Nat.le_of_ble_eq_true rfl⟩, ⟨rfl, rfl⟩, Nat.le_of_ble_eq_true rfl, Nat.le_of_ble_eq_true rfl⟩ rfl hl.1 rfl (Nat.le_of_ble_eq_true rfl) dX10_gone_61 (fun H locs hR hS hE1 z_q11 => ?_)
        have hE := hE.tr hE1
        have t_r0 := hE1.at t_r0 (by decide)
        obtain ⟨v12, e_v12⟩ : ∃ y : Int32, y = x2 + (1 : Int32) := ⟨_, rfl⟩
        have hf := lt_e hf e_v12
        refine lv_iinc (v := v12) (lv' := [(2, .int v12), (0, .ref (G.2.2 + r0)), (1, .int x1)]) C.x C.b dX10_gone_64 hl (k := 2) rfl (by rw [e_v12]; rfl) (by decide) rfl (fun ls hl => ?_)
        refine lv_goto (tgt := 21) C.x C.b dX10_gone_67 (by decide) ?_
        exact hk21 _ _ _ _ _ hf hE hR hS t_r0 (lv_sub hl [1, 2, 0] rfl)
      · have hf := it_t hf c9
        refine lv_aload_n C.x C.b dX10_gone_38 rfl (lv_at hl 0 rfl) ?_
        refine lv_iconst (v := (0 : Int32)) C.x C.b dX10_gone_39 (by decide) ?_
        refine r_puti C hR hS t_r0 fl_X10_110 fp_X10_10_1 rfl dX10_gone_40 (fun H locs hR hS => ?_)
        obtain ⟨h13, e_h13⟩ : ∃ y, y = upI h r0 1 (0 : Int32) := ⟨_, rfl⟩
        rw [← e_h13] at hR
        have hf := lt_e hf e_h13
        have hE := eI e_h13 hE
        have t_r0 := tI e_h13 t_r0
        refine lv_aload_n C.x C.b dX10_gone_43 rfl (lv_at hl 0 rfl) ?_
        refine lv_aload_n C.x C.b dX10_gone_44 rfl (lv_at hl 0 rfl) ?_
        obtain ⟨g14, hf⟩ := gd_e hf
        refine r_getr C hR t_r0 fl_X10_24 (by decide) (nz_e g14) dX10_gone_45 (fun tq15 => ?_)
        have tg14 := okA tq15 rfl
        refine lv_iload_n C.x C.b dX10_gone_48 rfl (lv_at hl 1 rfl) ?_
        obtain ⟨g16, hf⟩ := gd_e hf
        refine r_iald C hR tg14 g16 dX10_gone_49 ?_
        refine lv_i2l C.x C.b dX10_gone_50 rfl ?_
        obtain ⟨q17, h_q17, hf⟩ := bd_e hf
        refine r_callV (As := [.long ((hpI h13 (hpR h13 r0 7) (ix x1)).toInt64)]) (rest := []) C hR hS t_r0 rfl mk_X10_enters cl_X10_339 (k_X10_enters t_r0 h_q17) ⟨⟨Nat.le_of_ble_eq_true rfl, Nat.le_of_ble_eq_true rfl⟩, ⟨rfl, rfl⟩, Nat.le_of_ble_eq_true rfl, Nat.le_of_ble_eq_true rfl⟩ rfl hl.1 rfl (Nat.le_of_ble_eq_true rfl) dX10_gone_51 (fun H locs hR hS hE1 z_q17 => ?_)
        have hE := hE.tr hE1
        have t_r0 := hE1.at t_r0 (by decide)
        refine lv_iload_n C.x C.b dX10_gone_54 rfl (lv_at hl 2 rfl) ?_
        have hf := so_e hf
        subst hf
        exact r_iret C hr hlk hR hE hS dX10_gone_55
set_option maxRecDepth 100000 in
set_option maxHeartbeats 4000000 in
theorem k_X10_gone {G : Gt} {l : Launch}  {h : Hp} {r0 : Nat} {x1 : Int32} {out : (Int32 × Hp)} (t_r0 : hpT h r0 = (1, 10))  (hf : f_X10_gone  h r0 x1 = some out) : Mt G l yX10_gone cX10_gone 3 (some .int) rm_X10_gone [.ref (G.2.2 + r0), .int x1] h (some (.int out.1)) out.2 0 0 0 := by
  refine r_met (by decide +kernel) (Nat.le_of_ble_eq_true rfl) ?_
  intro p e s m args below meth c ls C hr hlk hnm hR hS hl
  have hE : Ext h h := Ext.rf
  have hl : lv_has ls 3 [(0, .ref (G.2.2 + r0)), (1, .int x1)] := hl
  rw [f_X10_gone] at hf
  refine lv_aload_n C.x C.b dX10_gone_0 rfl (lv_at hl 0 rfl) ?_
  refine lv_iconst (v := (0 : Int32)) C.x C.b dX10_gone_1 (by decide) ?_
  refine r_puti C hR hS t_r0 fl_X10_103 fp_X10_10_0 rfl dX10_gone_2 (fun H locs hR hS => ?_)
  obtain ⟨h1, e_h1⟩ : ∃ y, y = upI h r0 0 (0 : Int32) := ⟨_, rfl⟩
  rw [← e_h1] at hR
  have hf := lt_e hf e_h1
  have hE := eI e_h1 hE
  have t_r0 := tI e_h1 t_r0
  refine lv_aload_n C.x C.b dX10_gone_5 rfl (lv_at hl 0 rfl) ?_
  refine lv_iload_n C.x C.b dX10_gone_6 rfl (lv_at hl 1 rfl) ?_
  obtain ⟨q2, h_q2, hf⟩ := bd_e hf
  refine r_callV (As := [.int x1]) (rest := []) C hR hS t_r0 rfl mk_X10_isCamp cl_X10_278 (k_X10_isCamp t_r0 h_q2) ⟨⟨Nat.le_of_ble_eq_true rfl, Nat.le_of_ble_eq_true rfl⟩, ⟨rfl, rfl⟩, Nat.le_of_ble_eq_true rfl, Nat.le_of_ble_eq_true rfl⟩ rfl hl.1 rfl (Nat.le_of_ble_eq_true rfl) dX10_gone_7 (fun H locs hR hS hE1 z_q2 => ?_)
  have z_q2 := z_q2 _ rfl
  refine lv_if_ne (tgt := 15) C.x C.b dX10_gone_10 (by decide) (fun c3 => ?_) (fun c3 => ?_)
  · have hf := it_f hf c3
    refine lv_aload_n C.x C.b dX10_gone_15 rfl (lv_at hl 0 rfl) ?_
    obtain ⟨q4, h_q4, hf⟩ := bd_e hf
    refine r_callV (As := []) (rest := []) C hR hS t_r0 rfl mk_X10_copies cl_X10_379 (k_X10_copies t_r0 h_q4) ⟨⟨Nat.le_of_ble_eq_true rfl, Nat.le_of_ble_eq_true rfl⟩, ⟨rfl, rfl⟩, Nat.le_of_ble_eq_true rfl, Nat.le_of_ble_eq_true rfl⟩ rfl hl.1 rfl (Nat.le_of_ble_eq_true rfl) dX10_gone_16 (fun H locs hR hS hE1 z_q4 => ?_)
    have hE := hE.tr hE1
    have t_r0 := hE1.at t_r0 (by decide)
    refine lv_iconst (v := (0 : Int32)) C.x C.b dX10_gone_19 (by decide) ?_
    refine lv_istore_n (lv' := [(2, .int (0 : Int32)), (0, .ref (G.2.2 + r0)), (1, .int x1)]) C.x C.b dX10_gone_20 rfl hl (by decide) rfl (fun ls hl => ?_)
    exact w_X10_gone_21 C hr hlk FU _ _ _ _ _ hf hE hR hS t_r0 (lv_sub hl [1, 2, 0] rfl)
  · have hf := it_t hf c3
    refine lv_iconst (v := (-1 : Int32)) C.x C.b dX10_gone_13 (by decide) ?_
    have hf := so_e hf
    subst hf
    exact r_iret C hr hlk hR hE hS dX10_gone_14

def rm_X10_lies : Room := { frames := 8, cells := 0, slots := 0, locals := 194 }
set_option maxRecDepth 100000 in
set_option maxHeartbeats 4000000 in
theorem k_X10_lies {G : Gt} {l : Launch}  {h : Hp} {r0 : Nat} {x1 : Int32} {x2 : Int32} {out : (Int32 × Hp)} (t_r0 : hpT h r0 = (1, 10))  (hf : f_X10_lies  h r0 x1 x2 = some out) : Mt G l yX10_lies cX10_lies 3 (some .int) rm_X10_lies [.ref (G.2.2 + r0), .int x1, .int x2] h (some (.int out.1)) out.2 0 0 0 := by
  refine r_met (by decide +kernel) (Nat.le_of_ble_eq_true rfl) ?_
  intro p e s m args below meth c ls C hr hlk hnm hR hS hl
  have hE : Ext h h := Ext.rf
  have hl : lv_has ls 3 [(0, .ref (G.2.2 + r0)), (1, .int x1), (2, .int x2)] := hl
  rw [f_X10_lies] at hf
  refine lv_aload_n C.x C.b dX10_lies_0 rfl (lv_at hl 0 rfl) ?_
  refine lv_iconst (v := (0 : Int32)) C.x C.b dX10_lies_1 (by decide) ?_
  refine r_puti C hR hS t_r0 fl_X10_103 fp_X10_10_0 rfl dX10_lies_2 (fun H locs hR hS => ?_)
  obtain ⟨h1, e_h1⟩ : ∃ y, y = upI h r0 0 (0 : Int32) := ⟨_, rfl⟩
  rw [← e_h1] at hR
  have hf := lt_e hf e_h1
  have hE := eI e_h1 hE
  have t_r0 := tI e_h1 t_r0
  refine lv_aload_n C.x C.b dX10_lies_5 rfl (lv_at hl 0 rfl) ?_
  refine lv_iload_n C.x C.b dX10_lies_6 rfl (lv_at hl 1 rfl) ?_
  obtain ⟨q2, h_q2, hf⟩ := bd_e hf
  refine r_callV (As := [.int x1]) (rest := []) C hR hS t_r0 rfl mk_X10_isCamp cl_X10_278 (k_X10_isCamp t_r0 h_q2) ⟨⟨Nat.le_of_ble_eq_true rfl, Nat.le_of_ble_eq_true rfl⟩, ⟨rfl, rfl⟩, Nat.le_of_ble_eq_true rfl, Nat.le_of_ble_eq_true rfl⟩ rfl hl.1 rfl (Nat.le_of_ble_eq_true rfl) dX10_lies_7 (fun H locs hR hS hE1 z_q2 => ?_)
  have z_q2 := z_q2 _ rfl
  refine lv_if_eq (tgt := 25) C.x C.b dX10_lies_10 (by decide) (fun c3 => ?_) (fun c3 => ?_)
  · have hf := it_t hf c3
    refine lv_iconst (v := (-1 : Int32)) C.x C.b dX10_lies_25 (by decide) ?_
    have hf := so_e hf
    subst hf
    exact r_iret C hr hlk hR hE hS dX10_lies_26
  · have hf := it_f hf c3
    refine lv_iload_n C.x C.b dX10_lies_13 rfl (lv_at hl 2 rfl) ?_
    refine lv_i2l C.x C.b dX10_lies_14 rfl ?_
    refine lv_lconst (v := (0 : Int64)) C.x C.b dX10_lies_15 (by decide) ?_
    refine lv_ldc2 C.x C.b C.ow (C.ts _ lk_X10_382) dX10_lies_16 ?_
    obtain ⟨q4, h_q4, hf⟩ := bd_e hf
    refine r_callS (As := [.long (x2.toInt64), .long (0 : Int64), .long (99 : Int64)]) (rest := []) C hR hS mk_X10_in cl_X10_117 (k_X10_in h_q4) ⟨⟨Nat.le_of_ble_eq_true rfl, Nat.le_of_ble_eq_true rfl⟩, ⟨rfl, rfl⟩, Nat.le_of_ble_eq_true rfl, Nat.le_of_ble_eq_true rfl⟩ rfl hl.1 rfl (Nat.le_of_ble_eq_true rfl) dX10_lies_19 (fun H locs hR hS hE1 z_q4 => ?_)
    have z_q4 := z_q4 _ rfl
    refine lv_if_ne (tgt := 27) C.x C.b dX10_lies_22 (by decide) (fun c5 => ?_) (fun c5 => ?_)
    · have hf := it_f hf c5
      refine lv_aload_n C.x C.b dX10_lies_27 rfl (lv_at hl 0 rfl) ?_
      obtain ⟨q6, h_q6, hf⟩ := bd_e hf
      refine r_callV (As := []) (rest := []) C hR hS t_r0 rfl mk_X10_copies cl_X10_379 (k_X10_copies t_r0 h_q6) ⟨⟨Nat.le_of_ble_eq_true rfl, Nat.le_of_ble_eq_true rfl⟩, ⟨rfl, rfl⟩, Nat.le_of_ble_eq_true rfl, Nat.le_of_ble_eq_true rfl⟩ rfl hl.1 rfl (Nat.le_of_ble_eq_true rfl) dX10_lies_28 (fun H locs hR hS hE1 z_q6 => ?_)
      have hE := hE.tr hE1
      have t_r0 := hE1.at t_r0 (by decide)
      refine lv_aload_n C.x C.b dX10_lies_31 rfl (lv_at hl 0 rfl) ?_
      refine lv_aload_n C.x C.b dX10_lies_32 rfl (lv_at hl 0 rfl) ?_
      obtain ⟨g7, hf⟩ := gd_e hf
      refine r_getr C hR t_r0 fl_X10_24 (by decide) (nz_e g7) dX10_lies_33 (fun tq8 => ?_)
      have tg7 := okA tq8 rfl
      refine lv_iload_n C.x C.b dX10_lies_36 rfl (lv_at hl 2 rfl) ?_
      obtain ⟨q9, h_q9, hf⟩ := bd_e hf
      refine r_callV (As := [.ref (G.2.2 + (hpR q6 r0 7)), .int x2]) (rest := []) C hR hS t_r0 rfl mk_X10_goesOn cl_X10_336 (k_X10_goesOn t_r0 tg7 h_q9) ⟨⟨Nat.le_of_ble_eq_true rfl, Nat.le_of_ble_eq_true rfl⟩, ⟨rfl, rfl⟩, Nat.le_of_ble_eq_true rfl, Nat.le_of_ble_eq_true rfl⟩ rfl hl.1 rfl (Nat.le_of_ble_eq_true rfl) dX10_lies_37 (fun H locs hR hS hE1 z_q9 => ?_)
      have hE := hE.tr hE1
      have t_r0 := hE1.at t_r0 (by decide)
      refine lv_aload_n C.x C.b dX10_lies_40 rfl (lv_at hl 0 rfl) ?_
      refine lv_iconst (v := (0 : Int32)) C.x C.b dX10_lies_41 (by decide) ?_
      refine r_puti C hR hS t_r0 fl_X10_110 fp_X10_10_1 rfl dX10_lies_42 (fun H locs hR hS => ?_)
      obtain ⟨h10, e_h10⟩ : ∃ y, y = upI q9 r0 1 (0 : Int32) := ⟨_, rfl⟩
      rw [← e_h10] at hR
      have hf := lt_e hf e_h10
      have hE := eI e_h10 hE
      have t_r0 := tI e_h10 t_r0
      refine lv_aload_n C.x C.b dX10_lies_45 rfl (lv_at hl 0 rfl) ?_
      refine lv_aload_n C.x C.b dX10_lies_46 rfl (lv_at hl 0 rfl) ?_
      obtain ⟨g11, hf⟩ := gd_e hf
      refine r_getr C hR t_r0 fl_X10_24 (by decide) (nz_e g11) dX10_lies_47 (fun tq12 => ?_)
      have tg11 := okA tq12 rfl
      refine lv_bipush (v := (24 : Int32)) C.x C.b dX10_lies_50 (by decide) ?_
      refine lv_iload_n C.x C.b dX10_lies_52 rfl (lv_at hl 1 rfl) ?_
      refine lv_iadd C.x C.b dX10_lies_53 ?_
      obtain ⟨g13, hf⟩ := gd_e hf
      refine r_iald C hR tg11 g13 dX10_lies_54 ?_
      refine lv_i2l C.x C.b dX10_lies_55 rfl ?_
      obtain ⟨q14, h_q14, hf⟩ := bd_e hf
      refine r_callV (As := [.long ((hpI h10 (hpR h10 r0 7) (ix ((24 : Int32) + x1))).toInt64)]) (rest := []) C hR hS t_r0 rfl mk_X10_enters cl_X10_339 (k_X10_enters t_r0 h_q14) ⟨⟨Nat.le_of_ble_eq_true rfl, Nat.le_of_ble_eq_true rfl⟩, ⟨rfl, rfl⟩, Nat.le_of_ble_eq_true rfl, Nat.le_of_ble_eq_true rfl⟩ rfl hl.1 rfl (Nat.le_of_ble_eq_true rfl) dX10_lies_56 (fun H locs hR hS hE1 z_q14 => ?_)
      have hE := hE.tr hE1
      have t_r0 := hE1.at t_r0 (by decide)
      refine lv_aload_n C.x C.b dX10_lies_59 rfl (lv_at hl 0 rfl) ?_
      refine lv_aload_n C.x C.b dX10_lies_60 rfl (lv_at hl 0 rfl) ?_
      obtain ⟨g15, hf⟩ := gd_e hf
      refine r_getr C hR t_r0 fl_X10_24 (by decide) (nz_e g15) dX10_lies_61 (fun tq16 => ?_)
      have tg15 := okA tq16 rfl
      obtain ⟨q17, h_q17, hf⟩ := bd_e hf
      refine r_callS (As := [.ref (G.2.2 + (hpR q14 r0 7))]) (rest := [.ref (G.2.2 + r0)]) C hR hS mk_X10_on cl_X10_311 (k_X10_on tg15 h_q17) ⟨⟨Nat.le_of_ble_eq_true rfl, Nat.le_of_ble_eq_true rfl⟩, ⟨rfl, rfl⟩, Nat.le_of_ble_eq_true rfl, Nat.le_of_ble_eq_true rfl⟩ rfl hl.1 rfl (Nat.le_of_ble_eq_true rfl) dX10_lies_64 (fun H locs hR hS hE1 z_q17 => ?_)
      refine lv_i2l C.x C.b dX10_lies_67 rfl ?_
      obtain ⟨q18, h_q18, hf⟩ := bd_e hf
      refine r_callV (As := [.long (q17.toInt64)]) (rest := []) C hR hS t_r0 rfl mk_X10_enters cl_X10_339 (k_X10_enters t_r0 h_q18) ⟨⟨Nat.le_of_ble_eq_true rfl, Nat.le_of_ble_eq_true rfl⟩, ⟨rfl, rfl⟩, Nat.le_of_ble_eq_true rfl, Nat.le_of_ble_eq_true rfl⟩ rfl hl.1 rfl (Nat.le_of_ble_eq_true rfl) dX10_lies_68 (fun H locs hR hS hE1 z_q18 => ?_)
      have hE := hE.tr hE1
      have t_r0 := hE1.at t_r0 (by decide)
      refine lv_aload_n C.x C.b dX10_lies_71 rfl (lv_at hl 0 rfl) ?_
      obtain ⟨g19, hf⟩ := gd_e hf
      refine r_getr C hR t_r0 fl_X10_24 (by decide) (nz_e g19) dX10_lies_72 (fun tq20 => ?_)
      have tg19 := okA tq20 rfl
      refine lv_iload_n C.x C.b dX10_lies_75 rfl (lv_at hl 1 rfl) ?_
      obtain ⟨g21, hf⟩ := gd_e hf
      refine r_iald C hR tg19 g21 dX10_lies_76 ?_
      have hf := so_e hf
      subst hf
      exact r_iret C hr hlk hR hE hS dX10_lies_77
    · have hf := it_t hf c5
      refine lv_iconst (v := (-1 : Int32)) C.x C.b dX10_lies_25 (by decide) ?_
      have hf := so_e hf
      subst hf
      exact r_iret C hr hlk hR hE hS dX10_lies_26

