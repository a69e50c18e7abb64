/-! exceptions: contracts of methods that answer or throw -/
def NSE : String := "java/util/NoSuchElementException"
def xNm : List String := ["java/lang/RuntimeException", "java/lang/Exception"]
def xBd : List Cond := [.castable NSE NSE, .declares ⟨"java/lang/RuntimeException", "<init>", "()V"⟩, .declares ⟨"java/lang/Exception", "<init>", "()V"⟩, .declares ⟨"java/lang/Throwable", "<init>", "()V"⟩]
theorem xat_good : ∀ w ∈ (vx_at0 RX9 160 NSE xNm).filter goodWord, w ∈ lw_tbl := by decide +kernel
theorem xat_bad : ∀ w ∈ (vx_at0 RX9 160 NSE xNm).filter (fun w => !goodWord w), w ∈ xBd := by decide +kernel
theorem xat_ot : ∀ w ∈ Cond.classLink RX9 158 NSE :: Cond.initialized NSE :: vx_at0 RX9 160 NSE xNm, vx_ot w = true := by decide +kernel
theorem xbd_in : ∀ w ∈ xBd, w ∈ lw_tbl := by decide +kernel
theorem xlk_1 : Cond.classLink RX9 158 NSE ∈ lw_tbl := by decide +kernel
theorem xlk_2 : Cond.initialized NSE ∈ lw_tbl := by decide +kernel
/-- the two statics of Throwable, at the law's entry -/
def XK (G : Gt) : Prop := vx_Zq Bundle.tN "UNASSIGNED_STACK" Bundle.steD (AA G.2.2) (s0G G) (s0G G).heap ∧ vx_Zq Bundle.tN "SUPPRESSED_SENTINEL" Bundle.listD (AA G.2.2) (s0G G) (s0G G).heap
def hpSz (h : Hp) (N : Nat) : Hp := (h.1, h.2.1, h.2.2.1, h.2.2.2.1, N)
theorem Rel.grow {G : Gt} {h : Hp} {H H1 : Heap} (hR : Rel G h H) (hz : H.size ≤ H1.size) (hk : ∀ q : Nat, q < H.size → H1[q]? = H[q]?) : ∃ N, hpN h ≤ N ∧ Rel G (hpSz h N) H1 := by
  obtain ⟨ws, r1, r2, r3, r4, r5, r6⟩ := hR
  refine ⟨H1.size - G.2.2 - 1, by omega, ws, r1.kept (fun k q hq => hk q.1 (vx_lt r1 hq)), r2, fun i hi => r3 i hi, ?_, fun i hi => ?_, r6⟩
  · show H1.size = G.2.2 + (H1.size - G.2.2 - 1) + 1
    omega
  · have := r5 i hi
    exact ⟨this.1, by show i ≤ H1.size - G.2.2 - 1; omega⟩
def Qx (G : Gt) (h : Hp) (v : Option Value) (h1 : Hp) : Array Value → State → Outcome → State → Prop := fun a st oc t => ∃ x, v = some x ∧ Qm G h h1 (some x) 0 a st oc t
def Xx (G : Gt) (h : Hp) (v : Option Value) (h1 : Hp) : String → State → State → Prop := fun E st t => v = none ∧ E = NSE ∧ Ext h h1 ∧ (∃ N, hpN h1 ≤ N ∧ Rel G (hpSz h1 N) t.heap) ∧ va_F (AA G.2.2) st t
def Mx (G : Gt) (l : Launch) (y : MethodName) (cc : ByteArray) (nL : Nat) (ret : Option FieldType) (rm : Room) (As : List Value) (h : Hp) (v : Option Value) (h1 : Hp) (mc ms : Nat) : Prop := vx_Met l y (wq y cc nL ret) rm (Pq G h As) (Qx G h v h1) (Xx G h v h1) mc ms (AA G.2.2)
section THR
variable {p : Program} {l : Launch} {e : Env} {R : Room} {s : State} {m : MethodId} {args : Array Value} {below : List Frame} {meth : Method} {c : Code} {H : Heap} {locs : List Loc} {cells slots : Nat}
variable {cc : ByteArray} {pc nL mc ms : Nat} {ls : Array Slot} {As : List Value} {G : Gt} {h h1 : Hp} {own : String} {y : MethodName} {ret : Option FieldType} {rm : Room} {v : Option Value}
theorem W.mq {Qc Qd : Array Value → State → Outcome → State → Prop} {free : Addr → Prop} {g : JFrame} (hq : ∀ o t, Qc args s o t → Qd args s o t) (k : W p l e R s m args below meth c H locs cells slots (MQ below Qc args s mc ms free) g) : W p l e R s m args below meth c H locs cells slots (MQ below Qd args s mc ms free) g := by
  intro T hT X
  obtain ⟨t, a1, o, b1, b2, b3, b4⟩ := k T hT X
  exact ⟨t, a1, o, b1, b2, hq o t b3, b4⟩
theorem r_iretX {x : Int32} (C : Cx G p m c cc nL s args own) (hr : meth.sig.returnType = some .int) (hlk : meth.locks = false) (hR : Rel G h1 H) (hE : Ext h h1) (hS : va_S (AA G.2.2) s.heap H locs) (hd : decode cc pc = .ok (.ireturn, 1)) : W p l e R s m args below meth c H locs cells slots (vx_MQ below (Qx G h (some (.int x)) h1) (Xx G h (some (.int x)) h1) args s cells slots (AA G.2.2)) (F0 m pc ls [.int x]) :=
  vx_ret (W.mq (fun o t z => ⟨_, rfl, z⟩) (r_iret C hr hlk hR hE hS hd))
theorem r_lretX {x : Int64} (C : Cx G p m c cc nL s args own) (hr : meth.sig.returnType = some .long) (hlk : meth.locks = false) (hR : Rel G h1 H) (hE : Ext h h1) (hS : va_S (AA G.2.2) s.heap H locs) (hd : decode cc pc = .ok (.lreturn, 1)) : W p l e R s m args below meth c H locs cells slots (vx_MQ below (Qx G h (some (.long x)) h1) (Xx G h (some (.long x)) h1) args s cells slots (AA G.2.2)) (F0 m pc ls [.long x]) :=
  vx_ret (W.mq (fun o t z => ⟨_, rfl, z⟩) (r_lret C hr hlk hR hE hS hd))
theorem r_metX (hy : plainName y.cls = true) (hlen : (lg_sl As).length ≤ nL)
    (body : ∀ (p : Program) (e : Env) (s : State) (m : MethodId) (args : Array Value) (below : List Frame) (meth : Method) (c : Code) (ls : Array Slot), Cx G p m c cc nL s args y.cls → meth.sig.returnType = ret → meth.locks = false → (∀ x ∈ c.exceptionTable.toList, False) → Rel G h s.heap → va_S (AA G.2.2) s.heap s.heap [] → lv_has ls nL (lv_args 0 As) →
      W p l e rm s m args below meth c s.heap [] 0 0 (vx_MQ below (Qx G h v h1) (Xx G h v h1) args s mc ms (AA G.2.2)) (F0 m 0 ls [])) : Mx G l y cc nL ret rm As h v h1 mc ms := by
  refine vx_ofW (cc := cc) (maxL := nL) (ret := ret) hy rfl ?_
  intro p e s m args below meth c s₁ B hml hxt hv
  obtain ⟨rfl, hR, hK⟩ := hv
  have hts := atoms_spec (ws := wq y cc nL ret) B.pre
  have hown : s.vm.findClass y.cls = some m.cls := findClass_of_methodNamed B.named
  have hl := lv_entry As (n := nL) hlen
  rw [lg_entry_eq]
  generalize (lg_sl As ++ List.replicate (nL - (lg_sl As).length) Slot.unset).toArray = ls at hl ⊢
  have hsz : G.2.2 < s.heap.size := by
    obtain ⟨ws, -, -, -, hz, -⟩ := hR
    rw [hz]; omega
  exact body p e s m _ below meth c ls ⟨⟨B.exec, B.bytes, hml, hown, fun w hw => hts w (List.mem_cons_of_mem _ hw)⟩, hK, hsz⟩ B.returns B.notSynchronized hxt hR va_S.rf hl
theorem KK.nw {U : State} (K : KK G U) {w : Cond} (hw : w ∈ xBd) : w.before args U = true := by
  obtain ⟨A, hA⟩ := K.2.2.2.2.1 w (xbd_in w hw)
  have hW := K.2.2.1
  simp only [xBd, List.mem_cons, List.not_mem_nil, or_false] at hw
  rcases hw with rfl | rfl | rfl | rfl
  · exact va_Nw.use rfl (va_Nw.warmC hW (va_Nw.of rfl hA))
  · exact va_Nw.use rfl (va_Nw.warmD hW (va_Nw.of rfl hA))
  · exact va_Nw.use rfl (va_Nw.warmD hW (va_Nw.of rfl hA))
  · exact va_Nw.use rfl (va_Nw.warmD hW (va_Nw.of rfl hA))
theorem KK.zq {U : State} (K : KK G U) {C n d : String} (h : vx_Zq C n d (AA G.2.2) (s0G G) (s0G G).heap) : vx_Zq C n d (AA G.2.2) U U.heap := by
  refine vx_Zq.kept (H := (s0G G).heap) (vx_Zq.moved K.2.2.1.alike h) (fun a _ ha => ?_)
  exact K.2.2.2.1 a (by unfold AA at ha; omega)
theorem r_thr (hl0 : l.stackTraces = false) (xk : XK G) (C : Cx G p m c cc nL s args RX9) (hlk : meth.locks = false) (hxt : ∀ x ∈ c.exceptionTable.toList, False) (hR : Rel G h1 H) (hE : Ext h h1) (hS : va_S (AA G.2.2) s.heap H locs) (hls : ls.size = nL)
    (d0 : decode cc pc = .ok (.new 158, 3)) (d3 : decode cc (pc + 3) = .ok (.dup, 1)) (d4 : decode cc (pc + 4) = .ok (.invokespecial 160, 3)) (d7 : decode cc (pc + 7) = .ok (.athrow, 1)) (q1 : 5 < R.frames) (q2 : 81 ≤ R.locals) (q3 : cells + 1 ≤ R.cells) (q4 : slots + 6 ≤ R.slots) :
    W p l e R s m args below meth c H locs cells slots (vx_MQ below (Qx G h none h1) (Xx G h none h1) args s (cells + 1) (slots + 6) (AA G.2.2)) (F0 m pc ls []) := by
  have hat : ∀ w ∈ vx_at0 RX9 160 NSE xNm, w.before args s = true := vx_hat (B := xBd) (fun w hw => C.ts w (gtq (xat_good w hw) (List.mem_filter.mp hw).2)) xat_bad (fun w hw => C.2.1.nw hw)
  exact vx_throw0 C.x C.b hl0 (own := RX9) (cls := NSE) (names := xNm) (ik := 158) (ic := 160) (A := AA G.2.2) C.ow (by decide +kernel) (by decide +kernel) (C.ts _ (gtq xlk_1 rfl)) (C.ts _ (gtq xlk_2 rfl)) hat xat_ot (C.2.1.zq xk.1) (C.2.1.zq xk.2) hS (hls.trans C.ml.symm) d0 d3 d4 d7 (fun x hx => (hxt x hx).elim) q1 q2 q3 q4 hlk
    (fun t _ hz hk => ⟨rfl, rfl, hE, hR.grow hz hk, Nat.le_trans hS.1 hz, fun q a1 a2 => by rw [hk q (Nat.lt_of_lt_of_le a1 hS.1)]; exact hS.2.1 q a1 a2⟩) hS.2.2 (Nat.le_refl _) (Nat.le_refl _)
end THR
