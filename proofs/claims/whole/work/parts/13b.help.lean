/-! the law's helpers: they catch what camp, cell, row throw -/
def Qe (G : Gt) (h : Hp) (Ph : Option Value → Hp → Prop) : Array Value → State → Outcome → State → Prop := fun a st oc t => ∃ v h1, Ph v h1 ∧ Qm G h h1 v 0 a st oc t
def wqW (y : MethodName) (cc : ByteArray) (n : Nat) (r : Option FieldType) (hh : List (Nat × Nat × Nat × Nat)) : List Cond := Cond.codeWith y cc n r hh :: gt
/-- what a helper leaves: 0 and the answer in the row, or 1 and perhaps a cell more -/
def Phl (r3 : Nat) (o : Option Int64 × Hp) : Option Value → Hp → Prop := fun v h1 => (∃ w, o.1 = some w ∧ v = some (.int 0) ∧ h1 = upL o.2 r3 0 w) ∨ (o.1 = none ∧ v = some (.int 1) ∧ ∃ N, hpN o.2 ≤ N ∧ h1 = hpSz o.2 N)
theorem hlk_1 : Cond.classLink RL 13 NSE ∈ lw_tbl := by decide +kernel
theorem hlk_2 : Cond.castable NSE NSE ∈ xBd := by decide +kernel
theorem hlk_c7 : CV RL 7 yX9_camp := ⟨gtq (show Cond.methodLink RL 7 yX9_camp ∈ lw_tbl by decide +kernel) rfl, gtq (show Cond.instanceMethod yX9_camp ∈ lw_tbl by decide +kernel) rfl, gtq (show Cond.selects yX9_camp.cls yX9_camp yX9_camp ∈ lw_tbl by decide +kernel) rfl⟩
theorem hlk_c15 : CV RL 15 yX9_cell := ⟨gtq (show Cond.methodLink RL 15 yX9_cell ∈ lw_tbl by decide +kernel) rfl, gtq (show Cond.instanceMethod yX9_cell ∈ lw_tbl by decide +kernel) rfl, gtq (show Cond.selects yX9_cell.cls yX9_cell yX9_cell ∈ lw_tbl by decide +kernel) rfl⟩
theorem hlk_c18 : CV RL 18 yX9_row := ⟨gtq (show Cond.methodLink RL 18 yX9_row ∈ lw_tbl by decide +kernel) rfl, gtq (show Cond.instanceMethod yX9_row ∈ lw_tbl by decide +kernel) rfl, gtq (show Cond.selects yX9_row.cls yX9_row yX9_row ∈ lw_tbl by decide +kernel) rfl⟩
theorem mk_X9_camp : MK yX9_camp cX9_camp 3 (some .int) 2 := ⟨gtq (show Cond.code yX9_camp cX9_camp 3 (some .int) ∈ lw_tbl by decide +kernel) rfl, gtq (show Cond.initialized yX9_camp.cls ∈ lw_tbl by decide +kernel) rfl, by decide +kernel, by decide +kernel, by decide +kernel⟩
theorem mk_X9_cell : MK yX9_cell cX9_cell 3 (some .int) 2 := ⟨gtq (show Cond.code yX9_cell cX9_cell 3 (some .int) ∈ lw_tbl by decide +kernel) rfl, gtq (show Cond.initialized yX9_cell.cls ∈ lw_tbl by decide +kernel) rfl, by decide +kernel, by decide +kernel, by decide +kernel⟩
theorem mk_X9_row : MK yX9_row cX9_row 2 (some .long) 1 := ⟨gtq (show Cond.code yX9_row cX9_row 2 (some .long) ∈ lw_tbl by decide +kernel) rfl, gtq (show Cond.initialized yX9_row.cls ∈ lw_tbl by decide +kernel) rfl, by decide +kernel, by decide +kernel, by decide +kernel⟩
section HELP
variable {p : Program} {l : Launch} {e : Env} {R : Room} {s : State} {m : MethodId} {args : Array Value} {below : List Frame} {meth : Method} {c : Code} {H : Heap} {locs : List Loc} {cells slots : Nat} {Q : State → Prop}
variable {cc bytes : ByteArray} {pc nL maxL mc ms n idx : Nat} {ls : Array Slot} {rest st0 As : List Value} {G : Gt} {h h1 : Hp} {own : String} {y : MethodName} {ret : Option FieldType} {rm : Room} {v : Option Value} {a : Array Value}
theorem r_callX (C : Cx G p m c cc nL s args own) (hR : Rel G h H) (hS : va_S (AA G.2.2) s.heap H locs) {b ci : Nat} (ht : hpT h b = (1, ci)) {T : u_T} {N : Nat} (hc : vwCl[ci]? = some (y.cls, T, N)) (hm : MK y bytes maxL ret n) (cw : CV own idx y) (hM : Mx G l y bytes maxL ret rm (.ref (G.2.2 + b) :: As) h v h1 mc ms) (hf : fitR rm R maxL cells slots mc ms) (hn : As.length = n) (hls : ls.size = nL) (hst : st0 = As.reverse ++ .ref (G.2.2 + b) :: rest) (hcat : (rest.map fun v => v.category).sum ≤ 8) (hd : decode cc pc = .ok (.invokevirtual idx, 3))
    (kx : ∀ (q9 : Addr) (ce : Cell) (H1 : Heap) (locs1 : List Loc) (M : Nat), v = none → hpN h1 ≤ M → Rel G (hpSz h1 M) H1 → va_S (AA G.2.2) s.heap H1 locs1 → Ext h h1 → H1[q9]? = some ce → ce.vm = .none → s.vm.findClass NSE = some ce.cls → vx_W p l e R s m args below meth c H1 locs1 (cells + mc) (slots + ms) Q (F0 m pc ls rest) q9)
    (kk : ∀ (x : Value) (H1 : Heap) (locs1 : List Loc), v = some x → Rel G h1 H1 → va_S (AA G.2.2) s.heap H1 locs1 → Ext h h1 → W p l e R s m args below meth c H1 locs1 (cells + mc) (slots + ms) Q (F0 m (pc + 3) ls (x :: rest))) : W p l e R s m args below meth c H locs cells slots Q (F0 m pc ls st0) := by
  have hr := vx_runV (locs := locs) (meth := meth) (below := below) (e := e) (g := F0 m pc ls st0) C.1 hM ⟨callB_g C hm (C.ts _ cw.1) hf.2.1.1 hf.2.1.2 hf.1, C.ts _ cw.2.1, C.ts _ cw.2.2⟩ ⟨Pq.blind, hR.recv C.2.1 ht hc, fun U hU hW => Pq.at C hS hR hU hW⟩ rfl hn hls hst (lv_room hcat) hd hf.2.2
  intro T hT X
  rcases hr T hT X with ⟨v', st₀, t, T', L, h0, X', hL, e1, e2, ⟨x, hv, hq⟩, st⟩ | ⟨q, st₀, t, T', L, E, ce, h0, X', hL, e1, e2, ⟨hv, hE, hEx, ⟨M, hM1, hM2⟩, hF⟩, hce, hcv, hcl, st⟩
  · obtain ⟨hv2, hRl, hKK, hEx, hzb, hz, hk⟩ := hq
    cases hv2
    obtain ⟨k1, k2, k3⟩ := vx_keep (A1 := AA G.2.2) h0 e1 hS (fun q _ z => z) (fun q z => z) hL ⟨hz, hk⟩
    obtain ⟨t2, a1, b1⟩ := kk x T'.heap (locs ++ L) hv (by rw [e1]; exact hRl) k3 hEx T' rfl X'
    exact ⟨t2, st t2 a1, b1⟩
  · subst hE
    obtain ⟨k1, k2, k3⟩ := vx_keep (A1 := AA G.2.2) h0 e1 hS (fun q _ z => z) (fun q z => z) hL hF
    obtain ⟨t2, a1, b1⟩ := kx q ce T'.heap (locs ++ L) M hv hM1 (by rw [e1]; exact hM2) k3 hEx (by rw [e1]; exact hce) hcv hcl T' rfl X'
    exact ⟨t2, st.trans a1, b1⟩
theorem r_metW {hh : List (Nat × Nat × Nat × Nat)} {Ph : Option Value → Hp → Prop} (hy : plainName y.cls = true) (hlen : (lg_sl As).length ≤ nL)
    (body : ∀ (p : Program) (e : Env) (s : State) (m : MethodId) (args : Array Value) (below : List Frame) (meth : Method) (c : Code) (ls : Array Slot), Cx G p m c cc nL s args y.cls → meth.sig.returnType = ret → meth.locks = false → c.exceptionTable.toList = tableOf hh → Rel G h s.heap → va_S (AA G.2.2) s.heap s.heap [] → lv_has ls nL (lv_args 0 As) →
      W p l e rm s m args below meth c s.heap [] 0 0 (MQ below (Qe G h Ph) args s mc ms (AA G.2.2)) (F0 m 0 ls [])) : Met l y (wqW y cc nL ret hh) rm (Pq G h As) (Qe G h Ph) mc ms (AA G.2.2) := by
  refine va_MetW (cc := cc) (maxL := nL) (ret := ret) (hh := hh) hy rfl ?_
  intro p e s m args below meth c s₁ B hml hv
  obtain ⟨rfl, hR, hK⟩ := hv
  have hts := atoms_spec (ws := wqW y cc nL ret hh) B.pre
  have hown : s.vm.findClass y.cls = some m.cls := findClass_of_methodNamed B.named
  have htb := vx_table (x := y) B (hts _ List.mem_cons_self)
  have hl := lv_entry As (n := nL) hlen
  rw [lg_entry_eq]
  generalize (lg_sl As ++ List.replicate (nL - (lg_sl As).length) Slot.unset).toArray = ls at hl ⊢
  have hsz : G.2.2 < s.heap.size := by
    obtain ⟨ws, -, -, -, hz, -⟩ := hR
    rw [hz]; omega
  exact body p e s m _ below meth c ls ⟨⟨B.exec, B.bytes, hml, hown, fun w hw => hts w (List.mem_cons_of_mem _ hw)⟩, hK, hsz⟩ B.returns B.notSynchronized htb hR va_S.rf hl
/-- the catching row of a helper -/
theorem r_catch {st en hd9 : Nat} (C : Cx G p m c cc nL s args RL) (htb : c.exceptionTable.toList = tableOf [(st, en, hd9, 13)]) (hcov : covers ⟨st, en, hd9, 13⟩ pc = true) {q : Addr} {ce : Cell} (hcell : H[q]? = some ce) (hv : ce.vm = .none) (hcl : s.vm.findClass NSE = some ce.cls) (kk : W p l e R s m args below meth c H locs cells slots Q (F0 m hd9 ls [.ref q])) : vx_W p l e R s m args below meth c H locs cells slots Q (F0 m pc ls rest) q :=
  cg_catch (own := RL) (nm := NSE) (x := ⟨st, en, hd9, 13⟩) (suf := []) C.ow htb hcov (show (13 : Nat) ≠ 0 by decide) (C.ts _ (gtq hlk_1 rfl)) (C.2.1.nw hlk_2) hcell hv hcl kk
end HELP
def rm_L_camp : Room := { frames := 12, cells := 1, slots := 6, locals := 300 }
theorem k_L_camp {G : Gt} {l : Launch} (xk : XK G) (hl0 : l.stackTraces = false) {h : Hp} {r0 r3 : Nat} {x1 x2 : Int32} {out : Option Int32 × Hp} (t0 : hpT h r0 = (1, 9)) (t3 : hpT h r3 = (3, 1)) (hf : f_X9_camp h r0 x1 x2 = some out) : Met l yL_camp (wqW yL_camp cL_camp 5 (some .int) [(0, 10, 13, 13)]) rm_L_camp (Pq G h [.ref (G.2.2 + r0), .int x1, .int x2, .ref (G.2.2 + r3)]) (Qe G h (Phl r3 (out.1.map Int32.toInt64, out.2))) 1 6 (AA G.2.2) := by
  refine r_metW (by decide +kernel) (Nat.le_of_ble_eq_true rfl) ?_
  intro p e s m args below meth c ls C hr hlk htb hR hS hl
  have hl : lv_has ls 5 [(0, .ref (G.2.2 + r0)), (1, .int x1), (2, .int x2), (3, .ref (G.2.2 + r3))] := hl
  refine lv_aload_n C.x C.b dL_camp_0 rfl (lv_at hl 3 rfl) ?_
  refine lv_iconst (v := (0 : Int32)) C.x C.b dL_camp_1 (by decide) ?_
  refine lv_aload_n C.x C.b dL_camp_2 rfl (lv_at hl 0 rfl) ?_
  refine lv_iload_n C.x C.b dL_camp_3 rfl (lv_at hl 1 rfl) ?_
  refine lv_iload_n C.x C.b dL_camp_4 rfl (lv_at hl 2 rfl) ?_
  refine r_callX (As := [.int x1, .int x2]) (rest := [.int 0, .ref (G.2.2 + r3)]) C hR hS t0 rfl mk_X9_camp hlk_c7 (k_X9_camp xk hl0 t0 hf) ⟨⟨Nat.le_of_ble_eq_true rfl, Nat.le_of_ble_eq_true rfl⟩, ⟨rfl, rfl⟩, Nat.le_of_ble_eq_true rfl, Nat.le_of_ble_eq_true rfl⟩ rfl hl.1 rfl (Nat.le_of_ble_eq_true rfl) dL_camp_5 (fun q9 ce H1 locs1 M hv hM hR hS hE hce hcv hcl => ?_) (fun x H1 locs1 hv hR hS hE => ?_)
  · refine r_catch C htb (by decide) hce hcv hcl ?_
    refine lv_astore (lv' := [(4, .ref q9), (0, .ref (G.2.2 + r0)), (1, .int x1), (2, .int x2), (3, .ref (G.2.2 + r3))]) C.x C.b dL_camp_13 hl (by decide) rfl (fun ls hl => ?_)
    refine lv_iconst (v := (1 : Int32)) C.x C.b dL_camp_15 (by decide) ?_
    refine W.mq (fun o t z => ⟨_, _, Or.inr ⟨?_, rfl, M, hM, rfl⟩, z⟩) (r_iret (h1 := hpSz out.2 M) C hr hlk hR (fun x hx => hE x hx) hS dL_camp_16)
    cases ho : out.1 with
    | none => rfl
    | some w => rw [ho] at hv; cases hv
  · cases ho : out.1 with
    | none => rw [ho] at hv; cases hv
    | some w =>
      rw [ho] at hv
      have hv : x = .int w := (Option.some.inj hv).symm
      subst hv
      refine lv_i2l C.x C.b dL_camp_8 rfl ?_
      have t3 := hE.at t3 (by decide)
      refine r_last C hR hS (by rw [t3]) (by rw [t3]; decide) dL_camp_9 (fun H2 locs2 hR hS => ?_)
      refine lv_goto (tgt := 17) C.x C.b dL_camp_10 (by decide) ?_
      refine lv_iconst (v := (0 : Int32)) C.x C.b dL_camp_17 (by decide) ?_
      exact W.mq (fun o t z => ⟨_, _, Or.inl ⟨w.toInt64, rfl, rfl, rfl⟩, z⟩) (r_iret (h1 := upL out.2 r3 (ix 0) w.toInt64) C hr hlk hR (fun x hx => hE x hx) hS dL_camp_18)
def rm_L_cell : Room := { frames := 12, cells := 1, slots := 6, locals := 300 }
theorem k_L_cell {G : Gt} {l : Launch} (xk : XK G) (hl0 : l.stackTraces = false) {h : Hp} {r0 r3 : Nat} {x1 x2 : Int32} {out : Option Int32 × Hp} (t0 : hpT h r0 = (1, 9)) (t3 : hpT h r3 = (3, 1)) (hf : f_X9_cell h r0 x1 x2 = some out) : Met l yL_cell (wqW yL_cell cL_cell 5 (some .int) [(0, 10, 13, 13)]) rm_L_cell (Pq G h [.ref (G.2.2 + r0), .int x1, .int x2, .ref (G.2.2 + r3)]) (Qe G h (Phl r3 (out.1.map Int32.toInt64, out.2))) 1 6 (AA G.2.2) := by
  refine r_metW (by decide +kernel) (Nat.le_of_ble_eq_true rfl) ?_
  intro p e s m args below meth c ls C hr hlk htb hR hS hl
  have hl : lv_has ls 5 [(0, .ref (G.2.2 + r0)), (1, .int x1), (2, .int x2), (3, .ref (G.2.2 + r3))] := hl
  refine lv_aload_n C.x C.b dL_cell_0 rfl (lv_at hl 3 rfl) ?_
  refine lv_iconst (v := (0 : Int32)) C.x C.b dL_cell_1 (by decide) ?_
  refine lv_aload_n C.x C.b dL_cell_2 rfl (lv_at hl 0 rfl) ?_
  refine lv_iload_n C.x C.b dL_cell_3 rfl (lv_at hl 1 rfl) ?_
  refine lv_iload_n C.x C.b dL_cell_4 rfl (lv_at hl 2 rfl) ?_
  refine r_callX (As := [.int x1, .int x2]) (rest := [.int 0, .ref (G.2.2 + r3)]) C hR hS t0 rfl mk_X9_cell hlk_c15 (k_X9_cell xk hl0 t0 hf) ⟨⟨Nat.le_of_ble_eq_true rfl, Nat.le_of_ble_eq_true rfl⟩, ⟨rfl, rfl⟩, Nat.le_of_ble_eq_true rfl, Nat.le_of_ble_eq_true rfl⟩ rfl hl.1 rfl (Nat.le_of_ble_eq_true rfl) dL_cell_5 (fun q9 ce H1 locs1 M hv hM hR hS hE hce hcv hcl => ?_) (fun x H1 locs1 hv hR hS hE => ?_)
  · refine r_catch C htb (by decide) hce hcv hcl ?_
    refine lv_astore (lv' := [(4, .ref q9), (0, .ref (G.2.2 + r0)), (1, .int x1), (2, .int x2), (3, .ref (G.2.2 + r3))]) C.x C.b dL_cell_13 hl (by decide) rfl (fun ls hl => ?_)
    refine lv_iconst (v := (1 : Int32)) C.x C.b dL_cell_15 (by decide) ?_
    refine W.mq (fun o t z => ⟨_, _, Or.inr ⟨?_, rfl, M, hM, rfl⟩, z⟩) (r_iret (h1 := hpSz out.2 M) C hr hlk hR (fun x hx => hE x hx) hS dL_cell_16)
    cases ho : out.1 with
    | none => rfl
    | some w => rw [ho] at hv; cases hv
  · cases ho : out.1 with
    | none => rw [ho] at hv; cases hv
    | some w =>
      rw [ho] at hv
      have hv : x = .int w := (Option.some.inj hv).symm
      subst hv
      refine lv_i2l C.x C.b dL_cell_8 rfl ?_
      have t3 := hE.at t3 (by decide)
      refine r_last C hR hS (by rw [t3]) (by rw [t3]; decide) dL_cell_9 (fun H2 locs2 hR hS => ?_)
      refine lv_goto (tgt := 17) C.x C.b dL_cell_10 (by decide) ?_
      refine lv_iconst (v := (0 : Int32)) C.x C.b dL_cell_17 (by decide) ?_
      exact W.mq (fun o t z => ⟨_, _, Or.inl ⟨w.toInt64, rfl, rfl, rfl⟩, z⟩) (r_iret (h1 := upL out.2 r3 (ix 0) w.toInt64) C hr hlk hR (fun x hx => hE x hx) hS dL_cell_18)
def rm_L_row : Room := { frames := 12, cells := 1, slots := 6, locals := 300 }
theorem k_L_row {G : Gt} {l : Launch} (xk : XK G) (hl0 : l.stackTraces = false) {h : Hp} {r0 r3 : Nat} {x1 : Int32} {out : Option Int64 × Hp} (t0 : hpT h r0 = (1, 9)) (t3 : hpT h r3 = (3, 1)) (hf : f_X9_row h r0 x1 = some out) : Met l yL_row (wqW yL_row cL_row 4 (some .int) [(0, 8, 11, 13)]) rm_L_row (Pq G h [.ref (G.2.2 + r0), .int x1, .ref (G.2.2 + r3)]) (Qe G h (Phl r3 out)) 1 6 (AA G.2.2) := by
  refine r_metW (by decide +kernel) (Nat.le_of_ble_eq_true rfl) ?_
  intro p e s m args below meth c ls C hr hlk htb hR hS hl
  have hl : lv_has ls 4 [(0, .ref (G.2.2 + r0)), (1, .int x1), (2, .ref (G.2.2 + r3))] := hl
  refine lv_aload_n C.x C.b dL_row_0 rfl (lv_at hl 2 rfl) ?_
  refine lv_iconst (v := (0 : Int32)) C.x C.b dL_row_1 (by decide) ?_
  refine lv_aload_n C.x C.b dL_row_2 rfl (lv_at hl 0 rfl) ?_
  refine lv_iload_n C.x C.b dL_row_3 rfl (lv_at hl 1 rfl) ?_
  refine r_callX (As := [.int x1]) (rest := [.int 0, .ref (G.2.2 + r3)]) C hR hS t0 rfl mk_X9_row hlk_c18 (k_X9_row xk hl0 t0 hf) ⟨⟨Nat.le_of_ble_eq_true rfl, Nat.le_of_ble_eq_true rfl⟩, ⟨rfl, rfl⟩, Nat.le_of_ble_eq_true rfl, Nat.le_of_ble_eq_true rfl⟩ rfl hl.1 rfl (Nat.le_of_ble_eq_true rfl) dL_row_4 (fun q9 ce H1 locs1 M hv hM hR hS hE hce hcv hcl => ?_) (fun x H1 locs1 hv hR hS hE => ?_)
  · refine r_catch C htb (by decide) hce hcv hcl ?_
    refine lv_astore_n (lv' := [(3, .ref q9), (0, .ref (G.2.2 + r0)), (1, .int x1), (2, .ref (G.2.2 + r3))]) C.x C.b dL_row_11 rfl hl (by decide) rfl (fun ls hl => ?_)
    refine lv_iconst (v := (1 : Int32)) C.x C.b dL_row_12 (by decide) ?_
    refine W.mq (fun o t z => ⟨_, _, Or.inr ⟨?_, rfl, M, hM, rfl⟩, z⟩) (r_iret (h1 := hpSz out.2 M) C hr hlk hR (fun x hx => hE x hx) hS dL_row_13)
    cases ho : out.1 with
    | none => rfl
    | some w => rw [ho] at hv; cases hv
  · cases ho : out.1 with
    | none => rw [ho] at hv; cases hv
    | some w =>
      rw [ho] at hv
      have hv : x = .long w := (Option.some.inj hv).symm
      subst hv
      have t3 := hE.at t3 (by decide)
      refine r_last C hR hS (by rw [t3]) (by rw [t3]; decide) dL_row_7 (fun H2 locs2 hR hS => ?_)
      refine lv_goto (tgt := 14) C.x C.b dL_row_8 (by decide) ?_
      refine lv_iconst (v := (0 : Int32)) C.x C.b dL_row_14 (by decide) ?_
      exact W.mq (fun o t z => ⟨_, _, Or.inl ⟨w, ho, rfl, rfl⟩, z⟩) (r_iret (h1 := upL out.2 r3 (ix 0) w) C hr hlk hR (fun x hx => hE x hx) hS dL_row_15)
