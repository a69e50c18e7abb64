/-! a throw that the first row of a method's own table takes: from the machine's own step, over the short library -/
section CATCH
variable {p : Program} {l : Launch} {e : Env} {R : Room} {s : State} {m : MethodId} {args : Array Value} {below : List Frame} {meth : Method} {c : Code} {H : Heap} {locs : List Loc} {cells slots : Nat} {Q : State → Prop}
/-- the search ends at that row; what it leaves is the row's class, noted -/
theorem cg_find {S : State} {f : JFrame} {q : Addr} {x : ExceptionTableEntry} {suf : List ExceptionTableEntry} {k : ClassId} {ce : Cell} (hm : S.vm.method? f.method = some meth) (hc : meth.code = some c) (htb : c.exceptionTable.toList = x :: suf)
    (hx : covers x f.pc = true) (h0 : x.catchType ≠ 0) (hl : S.vm.ClassLinks e.platform f.method.cls x.catchType k) (hce : S.heap[q]? = some ce) (hv : ce.vm = .none)
    (h1 : ∃ z, S.vm.classes[ce.cls]? = some z) (has : S.vm.assignable ce.cls k = true) (Y : Handler → Pre) (E : CtlPost) (d : Bool) (acts : List Action) :
    wp (findHandler f q) Y E e d acts S ↔ Y (.found x.handlerPc) d acts (S.setVm (S.vm.noted f.method.cls x.catchType (.cls k))) := by
  rw [Jvm.W.findHandler_eq hm hc, htb]
  obtain ⟨dk, cf, nm, kt, hd, -, -, -, -, hkt, -, -⟩ := hl.here
  obtain ⟨ha, ht⟩ := (resolveClass_links e.toSetting hl).op (op := VmOp.resolveClass f.method.cls x.catchType) rfl
  have hal : S.vm.Alike (S.vm.noted f.method.cls x.catchType (.cls k)) := (Vm.Alike.refl S.vm).noted _ _ _
  obtain ⟨z1, hz1⟩ := h1
  obtain ⟨y1, hy1, -⟩ := hal.2.2 _ _ hz1
  obtain ⟨y2, hy2, -⟩ := hal.2.2 _ _ hkt
  have hfit : (S.vm.noted f.method.cls x.catchType (.cls k)).assignable ce.cls k = true := by rw [hal.assignable]; exact has
  simp only [covers] at hx
  simp [findHandler.go, hx, h0, ha, ht, hce, hv, hy1, hy2, hfit, VmOp.dirties, VmOp.acts]
/-- one step of the machine: the frame stands at the row's handler -/
theorem cg_step {S : State} {f : JFrame} {q : Addr} {r : List Frame} {pc : Nat} {V : Vm} (hf : ∀ (Y : Handler → Pre) (E : CtlPost) (d : Bool) (acts : List Action), wp (findHandler f q) Y E e d acts S ↔ Y (.found pc) d acts (S.setVm V)) :
    (stepThrowing e S q (.java f :: r)).1 = (S.setVm V).setFrames (.java { f with pc := pc, stack := [.ref q] } :: r) := by
  simp only [stepThrowing, searchFrame, vmDo]
  generalize hr : Sem.go _ e false [] S = res
  obtain ⟨as, rfl, -⟩ := Sem.eq_ok_of hr (a := Handler.found pc) (s' := S.setVm V) (acts' := []) (by simp [hf])
  rfl
/-- caught by the first row of this method's table -/
theorem cg_catch {own nm E : String} {ce : Cell} {q : Addr} {x : ExceptionTableEntry} {suf : List ExceptionTableEntry} {pc : Nat} {ls : Array Slot} {rest : List Value} (hown : s.vm.findClass own = some m.cls) (htb : c.exceptionTable.toList = x :: suf) (hx : covers x pc = true) (h0 : x.catchType ≠ 0)
    (hlink : (Cond.classLink own x.catchType nm).before args s = true) (hcast : (Cond.castable E nm).before args s = true) (hcell : H[q]? = some ce) (hv : ce.vm = .none) (hcl : s.vm.findClass E = some ce.cls)
    (kk : W p l e R s m args below meth c H locs cells slots Q (F0 m x.handlerPc ls [.ref q])) : vx_W p l e R s m args below meth c H locs cells slots Q (F0 m pc ls rest) q := by
  intro T hT X
  obtain ⟨c3, k, hc3, hk, has⟩ := Cond.castable_spec hcast
  cases Option.some.inj (hc3.symm.trans hcl)
  obtain ⟨k', hk', hli⟩ := Cond.classLink_spec hown hlink e.platform (by rw [X.admits.platform])
  cases Option.some.inj (hk.symm.trans hk')
  obtain ⟨dk, cf, n9, kt, hd, -, -, -, -, hkt, -, hop⟩ := hli.here
  have hW : s.WarmedH (T.vm.noted m.cls x.catchType (.cls k)) := X.warmed.noted hd hop (State.rightAt_cls hli)
  obtain ⟨z0, hz0, -⟩ := Vm.findClass_spec hcl
  obtain ⟨z1, hz1, -⟩ := X.warmed.alike.2.2 _ _ hz0
  obtain ⟨g0, hfr⟩ := X.frames_eq
  obtain ⟨t, a1, b1⟩ := kk (T.setVm (T.vm.noted m.cls x.catchType (.cls k))) hT (X.noted hW)
  refine ⟨t, ?_, b1⟩
  have hA : At T (F0 m pc ls rest).method c below := X.here
  obtain ⟨hgo, hw⟩ := hA.throwing q
  refine Steps.head hgo hw ?_
  have hst := cg_step (e := e) (S := (T.setTop (F0 m pc ls rest)).pushFrame (.throwing q)) (f := F0 m pc ls rest) (q := q) (r := T.frames.tail) (pc := x.handlerPc) (V := T.vm.noted m.cls x.catchType (.cls k))
    (cg_find (meth := meth) (c := c) (x := x) (suf := suf) (k := k) (ce := ce) X.method' X.code htb hx h0 (X.warmed.classLinks hli) (show T.heap[q]? = some ce by rw [hT]; exact hcell) hv ⟨z1, hz1⟩ (show T.vm.assignable ce.cls k = true by rw [X.warmed.alike.assignable]; exact has))
  rw [stepThread_throwing (frames_entered X.here.top _), hst, State.pushFrame, First.setVm_setFrames, State.setTop_of_frames _ hfr, First.setVm_setFrames, hfr]
  rw [State.setTop_of_frames (s := T.setVm (T.vm.noted m.cls x.catchType (.cls k))) _ hfr] at a1
  exact a1
end CATCH
