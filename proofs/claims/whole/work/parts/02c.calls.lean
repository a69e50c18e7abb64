def zb (v : Option Value) : Prop := ∀ x : Int32, v = some (.int x) → narrow .boolean (.int x) = .int x
/-- what is known of an answer: 1: a truth value; 2: a row of ints -/
def zc (G : Gt) (h1 : Hp) (v : Option Value) (bz : Nat) : Prop := match bz with
  | 1 => zb v
  | 2 => ∀ x : Nat, v = some (.ref (G.2.2 + x)) → (hpT h1 x).1 = 2
  | _ => True
def Qm (G : Gt) (h h1 : Hp) (v : Option Value) (bz : Nat) : Array Value → State → Outcome → State → Prop := fun _ st oc t => oc = .returned v ∧ Rel G h1 t.heap ∧ KK G t ∧ Ext h h1 ∧ zc G h1 v bz ∧ va_F (AA G.2.2) st t
def wq (y : MethodName) (cc : ByteArray) (n : Nat) (r : Option FieldType) : List Cond := Cond.code y cc n r :: gt
def Pq (G : Gt) (h : Hp) (As : List Value) : Array Value → State → Prop := va_Pc As (fun U => Rel G h U.heap ∧ KK G U)
def Mt (G : Gt) (l : Launch) (y : MethodName) (cc : ByteArray) (nL : Nat) (ret : Option FieldType) (rm : Room) (As : List Value) (h : Hp) (v : Option Value) (h1 : Hp) (bz : Nat) (mc ms : Nat) : Prop := Met l y (wq y cc nL ret) rm (Pq G h As) (Qm G h h1 v bz) mc ms (AA G.2.2)
theorem Pq.blind {G : Gt} {h : Hp} {As : List Value} : FrameBlind (Pq G h As) := fun a U g mk q => ⟨q.1, q.2.1, q.2.2.calling⟩
theorem Cx.kk {G : Gt} {p : Program} {m : MethodId} {c : Code} {cc : ByteArray} {nL : Nat} {s U : State} {args : Array Value} {own : String} {H : Heap} {locs : List Loc} (C : Cx G p m c cc nL s args own) (hS : va_S (AA G.2.2) s.heap H locs) (hU : U.heap = H) (hW : s.WarmedH U.vm) : KK G U := C.2.1.warm hW (fun q hq => by
  rw [hU]
  exact hS.2.1 q (Nat.lt_of_le_of_lt hq C.2.2) (Nat.not_lt.mpr hq))
theorem Pq.at {G : Gt} {h : Hp} {As : List Value} {p : Program} {m : MethodId} {c : Code} {cc : ByteArray} {nL : Nat} {s U : State} {args : Array Value} {own : String} {H : Heap} {locs : List Loc} (C : Cx G p m c cc nL s args own) (hS : va_S (AA G.2.2) s.heap H locs) (hR : Rel G h H) (hU : U.heap = H) (hW : s.WarmedH U.vm) : Pq G h As As.toArray U := ⟨rfl, by rw [hU]; exact hR, C.kk hS hU hW⟩
theorem gt_good {w : Cond} (h : w ∈ gt) : (w.onTables && w.keeps) = true ∨ ∃ ty, w = .arrayClass ty := good_of_word (List.mem_filter.mp h).2
theorem gtG {ws : List Cond} (h : ∀ w ∈ ws, w ∈ gt) : GoodIn gt ws := fun w hw => ⟨h w hw, gt_good (h w hw)⟩
/-- a word by its place in the tables -/
theorem gtm {w : Cond} (i : Nat) (h : lw_tbl[i]? = some w) (hg : goodWord w = true) : w ∈ gt := List.mem_filter.mpr ⟨List.mem_of_getElem? h, hg⟩
def pdn (y : MethodName) (n : Nat) : Prop := y.cls ≠ "java/lang/invoke/MethodHandle" ∧ y.cls ≠ "java/lang/invoke/VarHandle" ∧ (parseMethodDescriptor y.desc).map (fun d => d.parameters.length) = some n
/-- a method's own words: its code, its class; how many it takes -/
def MK (y : MethodName) (cc : ByteArray) (nL : Nat) (ret : Option FieldType) (n : Nat) : Prop := Cond.code y cc nL ret ∈ gt ∧ Cond.initialized y.cls ∈ gt ∧ pdn y n
theorem wq_in {y : MethodName} {cc : ByteArray} {nL n : Nat} {ret : Option FieldType} (hm : MK y cc nL ret n) : GoodIn gt (wq y cc nL ret) := gtG (fun w hw => (List.mem_cons.mp hw).elim (fun e => e ▸ hm.1) id)
section CALLS
variable {p : Program} {l : Launch} {e : Env} {R : Room} {s : State} {m : MethodId} {args : Array Value} {below : List Frame} {meth : Method} {c : Code} {H : Heap} {locs : List Loc} {cells slots : Nat} {Q : State → Prop}
variable {cc bytes : ByteArray} {pc nL maxL mc ms n idx : Nat} {ls : Array Slot} {rest st0 As : List Value} {G : Gt} {h h1 : Hp} {own host : String} {y : MethodName} {ret : Option FieldType} {rm : Room} {v : Option Value} {bz : Nat} {a : Array Value}
theorem r_run (hr : va_Run p l e R s m args below meth c H locs cells slots mc ms (F0 m pc ls st0) rest (Qm G h h1 v bz a) (AA G.2.2)) (hS : va_S (AA G.2.2) s.heap H locs)
    (kk : ∀ (H1 : Heap) (locs1 : List Loc), Rel G h1 H1 → va_S (AA G.2.2) s.heap H1 locs1 → Ext h h1 → zc G h1 v bz → W p l e R s m args below meth c H1 locs1 (cells + mc) (slots + ms) Q (F0 m (pc + 3) ls (v.toList ++ rest))) : W p l e R s m args below meth c H locs cells slots Q (F0 m pc ls st0) := by
  intro T hT X
  obtain ⟨v', st₀, t, T', L, h0, X', hL, e1, e2, ⟨hv, hRl, hKK, hE, hzb, hz, hk⟩, st⟩ := hr T hT X
  cases hv
  rw [h0] at hz hk
  obtain ⟨t2, a1, b1⟩ := kk T'.heap (locs ++ L) (by rw [e1]; exact hRl)
    ⟨Nat.le_trans hS.1 (by rw [e1]; exact hz), fun q h1 h2 => by rw [e1, hk q (Nat.lt_of_lt_of_le h1 hS.1) h2]; exact hS.2.1 q h1 h2, fun q hq => by
      rcases List.mem_append.mp hq with h | h
      · exact hS.2.2 q h
      · exact hL q h⟩ hE hzb T' rfl X'
  exact ⟨t2, st t2 a1, b1⟩
theorem Rel.recv (hR : Rel G h H) (hK : KK G s) {b ci : Nat} (ht : hpT h b = (1, ci)) {CN : String} {T : u_T} {N : Nat} (hc : vwCl[ci]? = some (CN, T, N)) : ∃ cell : Cell, H[G.2.2 + b]? = some cell ∧ cell.vm.isStatics = false ∧ s.vm.findClass CN = some cell.cls := by
  obtain ⟨ws, hP, hD, hM, -⟩ := hR
  obtain ⟨k0, hk0⟩ := List.getElem?_of_mem (hM b (by rw [ht]; exact Nat.zero_lt_one))
  rw [cellOf_obj ht] at hk0
  exact va_recv hK.1 hP hc hk0
def CV (own : String) (idx : Nat) (y : MethodName) : Prop := Cond.methodLink own idx y ∈ gt ∧ Cond.instanceMethod y ∈ gt ∧ Cond.selects y.cls y y ∈ gt
def CS (own : String) (idx : Nat) (y : MethodName) : Prop := Cond.methodLink own idx y ∈ gt ∧ Cond.static y ∈ gt
def CI (own : String) (idx : Nat) (y : MethodName) : Prop := Cond.methodLink own idx y ∈ gt ∧ Cond.instanceMethod y ∈ gt ∧ y.name = "<init>"
def NV (own : String) (idx : Nat) (y : MethodName) (host : String) : Prop := Cond.methodLinkNest own idx y host ∈ nestW ∧ Cond.instanceMethod y ∈ gt ∧ Cond.selects y.cls y y ∈ gt
def NS (own : String) (idx : Nat) (y : MethodName) (host : String) : Prop := Cond.methodLinkNest own idx y host ∈ nestW ∧ Cond.static y ∈ gt
def NI (own : String) (idx : Nat) (y : MethodName) (host : String) : Prop := Cond.methodLinkNest own idx y host ∈ nestW ∧ Cond.instanceMethod y ∈ gt ∧ y.name = "<init>"
def fitR (rm R : Room) (maxL cells slots mc ms : Nat) : Prop := (rm.frames + 1 ≤ R.frames ∧ 8 + (maxL + 11) + rm.locals ≤ R.locals) ∧ (rm.cells = mc ∧ rm.slots = ms) ∧ cells + mc ≤ R.cells ∧ slots + ms ≤ R.slots
theorem callB_g (C : Cx G p m c cc nL s args own) (hm : MK y bytes maxL ret n) (hl : (Cond.methodLink own idx y).before args s = true) (hrc : rm.cells = mc) (hrs : rm.slots = ms) (hR : rm.frames + 1 ≤ R.frames ∧ 8 + (maxL + 11) + rm.locals ≤ R.locals) : CallB R s args own idx y bytes maxL ret (wq y bytes maxL ret) rm mc ms n :=
  callB_of n C.ts (wq_in hm) rfl hrc hrs (C.ts _ hm.2.1) hl hm.2.2 hR
theorem r_callV (C : Cx G p m c cc nL s args own) (hR : Rel G h H) (hS : va_S (AA G.2.2) s.heap H locs) {b ci : Nat} (ht : hpT h b = (1, ci)) {T : u_T} {N : Nat} (hc : vwCl[ci]? = some (y.cls, T, N)) (hm : MK y bytes maxL ret n) (cw : CV own idx y) (hM : Mt G l y bytes maxL ret rm (.ref (G.2.2 + b) :: As) h v h1 bz mc ms) (hf : fitR rm R maxL cells slots mc ms) (hn : As.length = n) (hls : ls.size = nL) (hst : st0 = As.reverse ++ .ref (G.2.2 + b) :: rest) (hcat : (rest.map fun v => v.category).sum ≤ 8) (hd : decode cc pc = .ok (.invokevirtual idx, 3))
    (kk : ∀ (H1 : Heap) (locs1 : List Loc), Rel G h1 H1 → va_S (AA G.2.2) s.heap H1 locs1 → Ext h h1 → zc G h1 v bz → W p l e R s m args below meth c H1 locs1 (cells + mc) (slots + ms) Q (F0 m (pc + 3) ls (v.toList ++ rest))) : W p l e R s m args below meth c H locs cells slots Q (F0 m pc ls st0) :=
  r_run (va_runV C.1 hM ⟨callB_g C hm (C.ts _ cw.1) hf.2.1.1 hf.2.1.2 hf.1, C.ts _ cw.2.1, C.ts _ cw.2.2⟩ ⟨Pq.blind, hR.recv C.2.1 ht hc, fun U hU hW => Pq.at C hS hR hU hW⟩ rfl hn hls hst (lv_room hcat) hd hf.2.2) hS kk
theorem r_callVN (C : Cx G p m c cc nL s args own) (hR : Rel G h H) (hS : va_S (AA G.2.2) s.heap H locs) {b ci : Nat} (ht : hpT h b = (1, ci)) {T : u_T} {N : Nat} (hc : vwCl[ci]? = some (y.cls, T, N)) (hm : MK y bytes maxL ret n) (cw : NV own idx y host) (hM : Mt G l y bytes maxL ret rm (.ref (G.2.2 + b) :: As) h v h1 bz mc ms) (hf : fitR rm R maxL cells slots mc ms) (hn : As.length = n) (hls : ls.size = nL) (hst : st0 = As.reverse ++ .ref (G.2.2 + b) :: rest) (hcat : (rest.map fun v => v.category).sum ≤ 8) (hd : decode cc pc = .ok (.invokevirtual idx, 3))
    (kk : ∀ (H1 : Heap) (locs1 : List Loc), Rel G h1 H1 → va_S (AA G.2.2) s.heap H1 locs1 → Ext h h1 → zc G h1 v bz → W p l e R s m args below meth c H1 locs1 (cells + mc) (slots + ms) Q (F0 m (pc + 3) ls (v.toList ++ rest))) : W p l e R s m args below meth c H locs cells slots Q (F0 m pc ls st0) :=
  r_run (va_runVN C.1 hM ⟨va_cnB n C.ts (wq_in hm) rfl hf.2.1.1 hf.2.1.2 (C.2.1.2.1 _ cw.1) (C.ts _ hm.2.1) hm.2.2 hf.1, C.ts _ cw.2.1, C.ts _ cw.2.2⟩ ⟨Pq.blind, hR.recv C.2.1 ht hc, fun U hU hW => Pq.at C hS hR hU hW⟩ rfl hn hls hst (lv_room hcat) hd hf.2.2) hS kk
theorem r_callS (C : Cx G p m c cc nL s args own) (hR : Rel G h H) (hS : va_S (AA G.2.2) s.heap H locs) (hm : MK y bytes maxL ret n) (cw : CS own idx y) (hM : Mt G l y bytes maxL ret rm As h v h1 bz mc ms) (hf : fitR rm R maxL cells slots mc ms) (hn : As.length = n) (hls : ls.size = nL) (hst : st0 = As.reverse ++ rest) (hcat : (rest.map fun v => v.category).sum ≤ 8) (hd : decode cc pc = .ok (.invokestatic idx, 3))
    (kk : ∀ (H1 : Heap) (locs1 : List Loc), Rel G h1 H1 → va_S (AA G.2.2) s.heap H1 locs1 → Ext h h1 → zc G h1 v bz → W p l e R s m args below meth c H1 locs1 (cells + mc) (slots + ms) Q (F0 m (pc + 3) ls (v.toList ++ rest))) : W p l e R s m args below meth c H locs cells slots Q (F0 m pc ls st0) :=
  r_run (va_runS C.1 hM ⟨callB_g C hm (C.ts _ cw.1) hf.2.1.1 hf.2.1.2 hf.1, C.ts _ cw.2⟩ ⟨Pq.blind, fun U hU hW => Pq.at C hS hR hU hW⟩ rfl hn hls hst (lv_room hcat) hd hf.2.2) hS kk
theorem r_callSN (C : Cx G p m c cc nL s args own) (hR : Rel G h H) (hS : va_S (AA G.2.2) s.heap H locs) (hm : MK y bytes maxL ret n) (cw : NS own idx y host) (hM : Mt G l y bytes maxL ret rm As h v h1 bz mc ms) (hf : fitR rm R maxL cells slots mc ms) (hn : As.length = n) (hls : ls.size = nL) (hst : st0 = As.reverse ++ rest) (hcat : (rest.map fun v => v.category).sum ≤ 8) (hd : decode cc pc = .ok (.invokestatic idx, 3))
    (kk : ∀ (H1 : Heap) (locs1 : List Loc), Rel G h1 H1 → va_S (AA G.2.2) s.heap H1 locs1 → Ext h h1 → zc G h1 v bz → W p l e R s m args below meth c H1 locs1 (cells + mc) (slots + ms) Q (F0 m (pc + 3) ls (v.toList ++ rest))) : W p l e R s m args below meth c H locs cells slots Q (F0 m pc ls st0) :=
  r_run (va_runSN C.1 hM ⟨va_cnB n C.ts (wq_in hm) rfl hf.2.1.1 hf.2.1.2 (C.2.1.2.1 _ cw.1) (C.ts _ hm.2.1) hm.2.2 hf.1, C.ts _ cw.2, trivial⟩ ⟨Pq.blind, fun U hU hW => Pq.at C hS hR hU hW⟩ rfl hn hls hst (lv_room hcat) hd hf.2.2) hS kk
theorem r_callI (C : Cx G p m c cc nL s args own) (hR : Rel G h H) (hS : va_S (AA G.2.2) s.heap H locs) {b : Nat} (hm : MK y bytes maxL none n) (cw : CI own idx y) (hM : Mt G l y bytes maxL none rm (.ref (G.2.2 + b) :: As) h v h1 bz mc ms) (hf : fitR rm R maxL cells slots mc ms) (hn : As.length = n) (hls : ls.size = nL) (hst : st0 = As.reverse ++ .ref (G.2.2 + b) :: rest) (hcat : (rest.map fun v => v.category).sum ≤ 8) (hd : decode cc pc = .ok (.invokespecial idx, 3))
    (kk : ∀ (H1 : Heap) (locs1 : List Loc), Rel G h1 H1 → va_S (AA G.2.2) s.heap H1 locs1 → Ext h h1 → zc G h1 v bz → W p l e R s m args below meth c H1 locs1 (cells + mc) (slots + ms) Q (F0 m (pc + 3) ls (v.toList ++ rest))) : W p l e R s m args below meth c H locs cells slots Q (F0 m pc ls st0) :=
  r_run (va_runI C.1 hM ⟨callB_g C hm (C.ts _ cw.1) hf.2.1.1 hf.2.1.2 hf.1, cw.2.2, C.ts _ cw.2.1⟩ ⟨Pq.blind, fun U hU hW => Pq.at C hS hR hU hW⟩ rfl hn hls hst (lv_room hcat) hd hf.2.2) hS kk
theorem r_callIN (C : Cx G p m c cc nL s args own) (hR : Rel G h H) (hS : va_S (AA G.2.2) s.heap H locs) {b : Nat} (hm : MK y bytes maxL none n) (cw : NI own idx y host) (hM : Mt G l y bytes maxL none rm (.ref (G.2.2 + b) :: As) h v h1 bz mc ms) (hf : fitR rm R maxL cells slots mc ms) (hn : As.length = n) (hls : ls.size = nL) (hst : st0 = As.reverse ++ .ref (G.2.2 + b) :: rest) (hcat : (rest.map fun v => v.category).sum ≤ 8) (hd : decode cc pc = .ok (.invokespecial idx, 3))
    (kk : ∀ (H1 : Heap) (locs1 : List Loc), Rel G h1 H1 → va_S (AA G.2.2) s.heap H1 locs1 → Ext h h1 → zc G h1 v bz → W p l e R s m args below meth c H1 locs1 (cells + mc) (slots + ms) Q (F0 m (pc + 3) ls (v.toList ++ rest))) : W p l e R s m args below meth c H locs cells slots Q (F0 m pc ls st0) :=
  r_run (va_runIN C.1 hM ⟨va_cnB n C.ts (wq_in hm) rfl hf.2.1.1 hf.2.1.2 (C.2.1.2.1 _ cw.1) (C.ts _ hm.2.1) hm.2.2 hf.1, cw.2.2, C.ts _ cw.2.1⟩ ⟨Pq.blind, fun U hU hW => Pq.at C hS hR hU hW⟩ rfl hn hls hst (lv_room hcat) hd hf.2.2) hS kk
theorem r_iret {x : Int32} (C : Cx G p m c cc nL s args own) (hr : meth.sig.returnType = some .int) (hlk : meth.locks = false) (hR : Rel G h1 H) (hE : Ext h h1) (hS : va_S (AA G.2.2) s.heap H locs) (hd : decode cc pc = .ok (.ireturn, 1)) : W p l e R s m args below meth c H locs cells slots (MQ below (Qm G h h1 (some (.int x)) 0) args s cells slots (AA G.2.2)) (F0 m pc ls [.int x]) :=
  W.iret C.x C.b hr (fun t ht hW => ⟨rfl, by rw [ht]; exact hR, C.kk hS ht hW, hE, trivial, hS.F ht⟩) hS.2.2 hd (hlocks := hlk)
theorem r_zret {x : Int32} (C : Cx G p m c cc nL s args own) (hr : meth.sig.returnType = some .boolean) (hlk : meth.locks = false) (hR : Rel G h1 H) (hE : Ext h h1) (hS : va_S (AA G.2.2) s.heap H locs) (hn : narrow .boolean (.int x) = .int x) (hd : decode cc pc = .ok (.ireturn, 1)) : W p l e R s m args below meth c H locs cells slots (MQ below (Qm G h h1 (some (.int x)) 1) args s cells slots (AA G.2.2)) (F0 m pc ls [.int x]) :=
  W.zret C.x C.b hr hn (fun t ht hW => ⟨rfl, by rw [ht]; exact hR, C.kk hS ht hW, hE, (fun y hy => by cases hy; exact hn), hS.F ht⟩) hS.2.2 hd (hlocks := hlk)
theorem r_lret {x : Int64} (C : Cx G p m c cc nL s args own) (hr : meth.sig.returnType = some .long) (hlk : meth.locks = false) (hR : Rel G h1 H) (hE : Ext h h1) (hS : va_S (AA G.2.2) s.heap H locs) (hd : decode cc pc = .ok (.lreturn, 1)) : W p l e R s m args below meth c H locs cells slots (MQ below (Qm G h h1 (some (.long x)) 0) args s cells slots (AA G.2.2)) (F0 m pc ls [.long x]) :=
  W.lret C.x C.b hr (fun t ht hW => ⟨rfl, by rw [ht]; exact hR, C.kk hS ht hW, hE, trivial, hS.F ht⟩) hS.2.2 hd (hlocks := hlk)
theorem r_vret (C : Cx G p m c cc nL s args own) (hr : meth.sig.returnType = none) (hlk : meth.locks = false) (hR : Rel G h1 H) (hE : Ext h h1) (hS : va_S (AA G.2.2) s.heap H locs) (hd : decode cc pc = .ok (.return_, 1)) : W p l e R s m args below meth c H locs cells slots (MQ below (Qm G h h1 none 0) args s cells slots (AA G.2.2)) (F0 m pc ls []) :=
  W.vret C.x C.b hr (fun t ht hW => ⟨rfl, by rw [ht]; exact hR, C.kk hS ht hW, hE, trivial, hS.F ht⟩) hS.2.2 hd (hlocks := hlk)
theorem r_aret {x : Nat} {t0 : FieldType} (C : Cx G p m c cc nL s args own) (hr : meth.sig.returnType = some (.array t0)) (hlk : meth.locks = false) (hR : Rel G h1 H) (hE : Ext h h1) (hS : va_S (AA G.2.2) s.heap H locs) (ht2 : (hpT h1 x).1 = 2) (hd : decode cc pc = .ok (.areturn, 1)) : W p l e R s m args below meth c H locs cells slots (MQ below (Qm G h h1 (some (.ref (G.2.2 + x))) 2) args s cells slots (AA G.2.2)) (F0 m pc ls [.ref (G.2.2 + x)]) :=
  W.aret C.x C.b hr (Or.inr ⟨_, rfl⟩) (Or.inr ⟨_, rfl⟩) (fun t ht hW => ⟨rfl, by rw [ht]; exact hR, C.kk hS ht hW, hE, (fun y hy => by
    have e1 : G.2.2 + x = G.2.2 + y := Value.ref.inj (Option.some.inj hy)
    have e2 : y = x := by omega
    subst e2
    exact ht2), hS.F ht⟩) hS.2.2 hd (hlocks := hlk)
theorem r_met (hy : plainName y.cls = true) (hlen : (lg_sl As).length ≤ nL)
    (body : ∀ (p : Program) (e : Env) (s : State) (m : MethodId) (args : Array Value) (below : List Frame) (meth : Method) (c : Code) (ls : Array Slot), Cx G p m c cc nL s args y.cls → meth.sig.returnType = ret → meth.locks = false → meth.name = y.name → Rel G h s.heap → va_S (AA G.2.2) s.heap s.heap [] → lv_has ls nL (lv_args 0 As) →
      W p l e rm s m args below meth c s.heap [] 0 0 (MQ below (Qm G h h1 v bz) args s mc ms (AA G.2.2)) (F0 m 0 ls [])) : Mt G l y cc nL ret rm As h v h1 bz mc ms := by
  refine Met.ofW (cc := cc) (maxL := nL) (ret := ret) hy rfl ?_
  intro p e s m args below meth c s₁ B hml hv
  obtain ⟨rfl, hR, hK⟩ := hv
  have hts := atoms_spec (ws := wq y cc nL ret) B.pre
  have hown : s.vm.findClass y.cls = some m.cls := findClass_of_methodNamed B.named
  have hin : meth.name = y.name := (name_of_methodNamed B.named B.method).1
  have hl := lv_entry As (n := nL) hlen
  rw [lg_entry_eq]
  generalize (lg_sl As ++ List.replicate (nL - (lg_sl As).length) Slot.unset).toArray = ls at hl ⊢
  have hsz : G.2.2 < s.heap.size := by
    obtain ⟨ws, -, -, -, hz, -⟩ := hR
    rw [hz]; omega
  exact body p e s m _ below meth c ls ⟨⟨B.exec, B.bytes, hml, hown, fun w hw => hts w (List.mem_cons_of_mem _ hw)⟩, hK, hsz⟩ B.returns B.notSynchronized hin hR va_S.rf hl
end CALLS
