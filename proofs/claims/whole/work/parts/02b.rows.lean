theorem cellOf_obj {G : Gt} {h : Hp} {i ci : Nat} (ht : hpT h i = (1, ci)) : cellOf G h i = .inr (ci, flds G h i ci) := by
  rw [cellOf, ht]
  rfl
theorem kind2 {h : Hp} {i k : Nat} (ht : (hpT h i).1 = k) : hpT h i = (k, (hpT h i).2) := by rw [← ht]
theorem cellOf_ints {G : Gt} {h : Hp} {i : Nat} (ht : (hpT h i).1 = 2) : cellOf G h i = .inl (G.2.1.1, (hpT h i).2, .inl (hpI h i)) := by
  rw [cellOf, kind2 ht]
  rfl
theorem cellOf_longs {G : Gt} {h : Hp} {i : Nat} (ht : (hpT h i).1 = 3) : cellOf G h i = .inl (G.2.1.2.1, (hpT h i).2, .inr (.inl (hpL h i))) := by
  rw [cellOf, kind2 ht]
  rfl
theorem cellOf_bools {G : Gt} {h : Hp} {i : Nat} (ht : (hpT h i).1 = 4) : cellOf G h i = .inl (G.2.1.2.2.1, (hpT h i).2, .inl (hpI h i)) := by
  rw [cellOf, kind2 ht]
  rfl
theorem cellOf_refs {G : Gt} {h : Hp} {i : Nat} (ht : (hpT h i).1 = 5) : cellOf G h i = .inl (G.2.1.2.2.2.1, (hpT h i).2, .inr (.inr (.inr (.inr (fun j => ro G.2.2 (hpR h i j)))))) := by
  rw [cellOf, kind2 ht]
  rfl
theorem flds_get {G : Gt} {h : Hp} {i ci k : Nat} (hk : k < nfl ci) : (flds G h i ci)[k]? = some (flv G h i ci k) := by
  rw [flds, List.getElem?_map, List.getElem?_range hk]; rfl
theorem flds_len {G : Gt} {h : Hp} {i ci : Nat} : (flds G h i ci).length = nfl ci := by simp [flds]
theorem flds_setI {G : Gt} {h : Hp} {i ci k : Nat} {v : Int32} (hk : (fty ci k).1 = 0) : (flds G h i ci).set k (.int v) = flds G (upI h i k v) i ci := by
  apply List.ext_getElem?
  intro j
  rw [List.getElem?_set]
  by_cases hj : j < nfl ci
  · rw [flds_get hj, flds_get hj]
    by_cases e : k = j
    · subst e
      simp [flds_len, hj, flv, hk, hpI, upI, up2]
    · rw [if_neg e]
      have e2 : ¬ (j = k) := fun q => e q.symm
      simp [flv, hpI, upI, up2, e2, hpR]
  · have h1 : (flds G (upI h i k v) i ci)[j]? = none := List.getElem?_eq_none (by rw [flds_len]; omega)
    have h2 : (flds G h i ci)[j]? = none := List.getElem?_eq_none (by rw [flds_len]; omega)
    rw [h1, h2]
    by_cases e : k = j
    · subst e; simp [flds_len, hj]
    · rw [if_neg e]
theorem flds_setR {G : Gt} {h : Hp} {i ci k r : Nat} (hk : (fty ci k).1 ≠ 0) (hr : r ≠ 0) : (flds G h i ci).set k (.ref (G.2.2 + r)) = flds G (upR h i k r) i ci := by
  apply List.ext_getElem?
  intro j
  rw [List.getElem?_set]
  by_cases hj : j < nfl ci
  · rw [flds_get hj, flds_get hj]
    by_cases e : k = j
    · subst e
      simp [flds_len, hj, flv, hk, hpR, upR, up2, ro, hr, va_rf]
    · rw [if_neg e]
      have e2 : ¬ (j = k) := fun q => e q.symm
      simp [flv, hpI, upR, up2, e2, hpR]
  · have h1 : (flds G (upR h i k r) i ci)[j]? = none := List.getElem?_eq_none (by rw [flds_len]; omega)
    have h2 : (flds G h i ci)[j]? = none := List.getElem?_eq_none (by rw [flds_len]; omega)
    rw [h1, h2]
    by_cases e : k = j
    · subst e; simp [flds_len, hj]
    · rw [if_neg e]
theorem flds_off {G : Gt} {h h1 : Hp} {i ci : Nat} (hI : ∀ k, hpI h1 i k = hpI h i k) (hR : ∀ k, hpR h1 i k = hpR h i k) : flds G h1 i ci = flds G h i ci := by
  have e : flv G h1 i ci = flv G h i ci := by
    funext k
    simp only [flv, hI, hR]
  rw [flds, flds, e]
theorem cellOf_off {G : Gt} {h h1 : Hp} {i : Nat} (hT : hpT h1 i = hpT h i) (hI : ∀ k, hpI h1 i k = hpI h i k) (hL : ∀ k, hpL h1 i k = hpL h i k) (hR : ∀ k, hpR h1 i k = hpR h i k) : cellOf G h1 i = cellOf G h i := by
  have e1 : hpI h1 i = hpI h i := funext hI
  have e2 : hpL h1 i = hpL h i := funext hL
  have e3 : hpR h1 i = hpR h i := funext hR
  have e4 : ∀ ci, flds G h1 i ci = flds G h i ci := fun ci => flds_off hI hR
  rw [cellOf, cellOf, hT, e1, e2, e3]
  simp only [e4]
/-- one cell is written: the relation goes on -/
theorem Rel.put {G : Gt} {h h1 : Hp} {ws : va_W} {H H1 : Heap} {a k : Nat} {e0 : va_E} (hP : va_P G.1 vwCl (ws.set k (G.2.2 + a, cellOf G h1 a)) H1) (hD : va_D (AA G.2.2) (ws.set k (G.2.2 + a, cellOf G h1 a)))
    (hD0 : va_D (AA G.2.2) ws) (hk : ws[k]? = some (G.2.2 + a, e0)) (hM : ∀ i, 0 < (hpT h i).1 → (G.2.2 + i, cellOf G h i) ∈ ws) (hz : H1.size = H.size) (hn : H.size = G.2.2 + hpN h + 1) (hb : ∀ i, 0 < (hpT h i).1 → 1 ≤ i ∧ i ≤ hpN h) (hW : WT h1)
    (eT : hpT h1 = hpT h) (eN : hpN h1 = hpN h) (eo : ∀ i, i ≠ a → cellOf G h1 i = cellOf G h i) : Rel G h1 H1 := by
  refine ⟨_, hP, hD, fun i hi => ?_, by rw [hz, hn, eN], fun i hi => by rw [eN]; exact hb i (by rw [← eT]; exact hi), hW⟩
  rw [eT] at hi
  have hkl : k < ws.length := (List.getElem?_eq_some_iff.mp hk).1
  by_cases hia : i = a
  · subst hia
    exact List.mem_of_getElem? (i := k) (by simp [List.getElem?_set, hkl])
  · rw [eo i hia]
    obtain ⟨j, hj⟩ := List.getElem?_of_mem (hM i hi)
    have hkj : k ≠ j := fun q => by
      subst q
      have e9 := hk.symm.trans hj
      simp at e9
      omega
    exact List.mem_of_getElem? (i := j) (by rw [List.getElem?_set, if_neg hkj]; exact hj)
def Cx (G : Gt) (p : Program) (m : MethodId) (c : Code) (cc : ByteArray) (nL : Nat) (s : State) (args : Array Value) (own : String) : Prop := CallFix p m c cc nL s args gt own ∧ KK G s ∧ G.2.2 < s.heap.size
/-- a field by its link: own's place idx is field k of the class ci -/
def FL (own : String) (idx ci k : Nat) : Prop := ∃ (CN : String) (T : u_T), vwCl[ci]? = some (CN, T, nfl ci) ∧ k < nfl ci ∧ Cond.fieldLink own idx (T k).1 (T k).2.1 (T k).2.2.1 ∈ gt ∧ ∀ w ∈ u_ws CN T (nfl ci), w ∈ gt
/-- what a store into it needs beside -/
def FP (ci k : Nat) (fin : Bool) (own : String) : Prop := ∃ (CN : String) (T : u_T) (ty0 : Nat → FieldType) (ty : FieldType), vwCl[ci]? = some (CN, T, nfl ci) ∧ (∀ k, k < nfl ci → parseFieldDescriptor (T k).2.2.1 = some (ty0 k)) ∧ (∀ a, a < nfl ci → ∀ b, b < nfl ci → a ≠ b → (T a).2.1 ≠ (T b).2.1) ∧ (T k).2.2.2 = fin ∧ parseFieldDescriptor (T k).2.2.1 = some ty ∧ ((fty ci k).1 = 0 → ty = .int) ∧ ((fty ci k).1 ≠ 0 → (∃ n, ty = .object n) ∨ ∃ t, ty = .array t) ∧ (fin = true → (T k).1 = own)
section ROWS
variable {p : Program} {l : Launch} {e : Env} {R : Room} {s : State} {m : MethodId} {args : Array Value} {below : List Frame} {meth : Method} {c : Code} {H : Heap} {locs : List Loc} {cells slots : Nat} {Q : State → Prop}
variable {cc : ByteArray} {pc nL : Nat} {ls : Array Slot} {rest : List Value} {G : Gt} {h : Hp} {own : String}
theorem Cx.x (C : Cx G p m c cc nL s args own) : p.tables.exec = Jvm.exec := C.1.1
theorem Cx.b (C : Cx G p m c cc nL s args own) : c.code = cc := C.1.2.1
theorem Cx.ml (C : Cx G p m c cc nL s args own) : c.maxLocals = nL := C.1.2.2.1
theorem Cx.ow (C : Cx G p m c cc nL s args own) : s.vm.findClass own = some m.cls := C.1.2.2.2.1
theorem Cx.ts (C : Cx G p m c cc nL s args own) : ∀ w ∈ gt, w.before args s = true := C.1.2.2.2.2
theorem Cx.K (C : Cx G p m c cc nL s args own) : va_K G.1 vwCl (tysG G) s := C.2.1.1
theorem r_geti (C : Cx G p m c cc nL s args own) (hR : Rel G h H) {a ci k idx : Nat} (ht : hpT h a = (1, ci)) (fl : FL own idx ci k) (hi : (fty ci k).1 = 0) (hd : decode cc pc = .ok (.getfield idx, 3))
    (kk : W p l e R s m args below meth c H locs cells slots Q (F0 m (pc + 3) ls (.int (hpI h a k) :: rest))) : W p l e R s m args below meth c H locs cells slots Q (F0 m pc ls (.ref (G.2.2 + a) :: rest)) := by
  obtain ⟨ws, hP, hD, hM, -⟩ := hR
  obtain ⟨k0, hk0⟩ := List.getElem?_of_mem (hM a (by rw [ht]; exact Nat.zero_lt_one))
  rw [cellOf_obj ht] at hk0
  obtain ⟨CN, T, hc, hk, hl, hin⟩ := fl
  refine va_get C.x C.b C.ts hin C.ow C.K hP k0 hk0 hc k hk (C.ts _ hl) (fun _ q => q) (v := .int (hpI h a k)) ?_ hd kk
  rw [flds_get hk, flv, if_pos hi]
theorem r_getr (C : Cx G p m c cc nL s args own) (hR : Rel G h H) {a ci k idx : Nat} (ht : hpT h a = (1, ci)) (fl : FL own idx ci k) (hi : 0 < (fty ci k).1) (hnn : hpR h a k ≠ 0) (hd : decode cc pc = .ok (.getfield idx, 3))
    (kk : okT (fty ci k) (hpT h (hpR h a k)) → W p l e R s m args below meth c H locs cells slots Q (F0 m (pc + 3) ls (.ref (G.2.2 + hpR h a k) :: rest))) : W p l e R s m args below meth c H locs cells slots Q (F0 m pc ls (.ref (G.2.2 + a) :: rest)) := by
  obtain ⟨ws, hP, hD, hM, -, -, hW⟩ := hR
  obtain ⟨k0, hk0⟩ := List.getElem?_of_mem (hM a (by rw [ht]; exact Nat.zero_lt_one))
  rw [cellOf_obj ht] at hk0
  obtain ⟨CN, T, hc, hk, hl, hin⟩ := fl
  refine va_get C.x C.b C.ts hin C.ow C.K hP k0 hk0 hc k hk (C.ts _ hl) (fun _ q => q) (v := .ref (G.2.2 + hpR h a k)) ?_ hd (kk (hW.1 a ci k ht hi hnn))
  rw [flds_get hk, flv, if_neg (by omega), ro_some hnn]
theorem r_getn (C : Cx G p m c cc nL s args own) (hR : Rel G h H) {a ci k idx : Nat} (ht : hpT h a = (1, ci)) (fl : FL own idx ci k) (hi : 0 < (fty ci k).1) (hnn : hpR h a k = 0) (hd : decode cc pc = .ok (.getfield idx, 3))
    (kk : W p l e R s m args below meth c H locs cells slots Q (F0 m (pc + 3) ls (.null :: rest))) : W p l e R s m args below meth c H locs cells slots Q (F0 m pc ls (.ref (G.2.2 + a) :: rest)) := by
  obtain ⟨ws, hP, hD, hM, -, -, hW⟩ := hR
  obtain ⟨k0, hk0⟩ := List.getElem?_of_mem (hM a (by rw [ht]; exact Nat.zero_lt_one))
  rw [cellOf_obj ht] at hk0
  obtain ⟨CN, T, hc, hk, hl, hin⟩ := fl
  refine va_get C.x C.b C.ts hin C.ow C.K hP k0 hk0 hc k hk (C.ts _ hl) (fun _ q => q) (v := .null) ?_ hd kk
  rw [flds_get hk, flv, if_neg (by omega), ro_null hnn]
theorem WT.u1 {h : Hp} (hW : WT h) {a k : Nat} {v : Int32} : WT (upI h a k v) := hW
theorem WT.u2 {h : Hp} (hW : WT h) {a k : Nat} {v : Int64} : WT (upL h a k v) := hW
theorem WT.u3 {h : Hp} (hW : WT h) {a sp d dp n : Nat} : WT (cpI h a sp d dp n) := hW
theorem cellOf_upI {G : Gt} {h : Hp} {a k : Nat} {v : Int32} {i : Nat} (hi : i ≠ a) : cellOf G (upI h a k v) i = cellOf G h i := cellOf_off rfl (fun j => by simp [hpI, upI, up2, hi]) (fun _ => rfl) (fun _ => rfl)
theorem cellOf_upL {G : Gt} {h : Hp} {a k : Nat} {v : Int64} {i : Nat} (hi : i ≠ a) : cellOf G (upL h a k v) i = cellOf G h i := cellOf_off rfl (fun _ => rfl) (fun j => by simp [hpL, upL, up2, hi]) (fun _ => rfl)
theorem cellOf_upR {G : Gt} {h : Hp} {a k v : Nat} {i : Nat} (hi : i ≠ a) : cellOf G (upR h a k v) i = cellOf G h i := cellOf_off rfl (fun _ => rfl) (fun _ => rfl) (fun j => by simp [hpR, upR, up2, hi])
theorem cellOf_cpI {G : Gt} {h : Hp} {a sp d dp n : Nat} {i : Nat} (hi : i ≠ d) : cellOf G (cpI h a sp d dp n) i = cellOf G h i := cellOf_off rfl (fun j => by simp [hpI, cpI, hi]) (fun _ => rfl) (fun _ => rfl)
theorem hpI_upI_row {h : Hp} {a k : Nat} {v : Int32} : hpI (upI h a k v) a = upd (hpI h a) k v := by
  funext j
  simp [hpI, upI, up2, upd]
theorem hpL_upL_row {h : Hp} {a k : Nat} {v : Int64} : hpL (upL h a k v) a = vp_updL (hpL h a) k v := by
  funext j
  simp [hpL, upL, up2, vp_updL]
theorem r_puti (C : Cx G p m c cc nL s args own) (hR : Rel G h H) (hS : va_S (AA G.2.2) s.heap H locs) {a ci k idx : Nat} {v : Int32} (ht : hpT h a = (1, ci)) (fl : FL own idx ci k) (fp : FP ci k false own) (hi : (fty ci k).1 = 0) (hdg : decode cc pc = .ok (.putfield idx, 3))
    (kk : ∀ (H1 : Heap) (locs1 : List Loc), Rel G (upI h a k v) H1 → va_S (AA G.2.2) s.heap H1 locs1 → W p l e R s m args below meth c H1 locs1 cells slots Q (F0 m (pc + 3) ls rest)) : W p l e R s m args below meth c H locs cells slots Q (F0 m pc ls (.int v :: .ref (G.2.2 + a) :: rest)) := by
  obtain ⟨ws, hP, hD, hM, hz, hb, hW⟩ := hR
  obtain ⟨k0, hk0⟩ := List.getElem?_of_mem (hM a (by rw [ht]; exact Nat.zero_lt_one))
  rw [cellOf_obj ht] at hk0
  obtain ⟨CN, T, hc, hk, hl, hin⟩ := fl
  obtain ⟨CN2, T2, ty0, ty, hc2, hty, hnm, hfin, hd, hti, -, -⟩ := fp
  cases Option.some.inj (hc.symm.trans hc2)
  cases hti hi
  have hap := va_apart (own := own) C.ts hin ty0 hty hnm C.K hc
  obtain ⟨r, h1, cell, q1, q2, q3, q4⟩ := hP k0 _ hk0
  have hr : r = (CN, T, nfl ci) := Option.some.inj (h1.symm.trans hc)
  subst hr
  obtain ⟨hSl, hfc, kC, hkC, hkind⟩ := C.K.1 ci _ hc
  obtain ⟨cf, kf, fi, f, hif, hsl⟩ := hSl k hk
  have hlay := C.ts _ (hin _ (u_in_lay hk))
  unfold u_lay at hlay
  rw [if_neg (by rw [hfin]; decide)] at hlay
  have hst := (u_facts hfc hkC (u_lays C.ts hin hk) hif).1
  have h6 := u_store hfc hkC hkind hlay hif hd (v := .int v) rfl rfl
  refine W.putK C.x C.b (f := f) ⟨C.ow, C.ts _ hl, ⟨_, _, _, hif⟩, hst⟩ (by rw [q2]; exact h6) q1 q3 (by rw [hsl]; exact k2_hasslot (q4 k hk)) rfl rfl hdg fun H' e1 e2 e3 => ?_
  rw [hsl] at e1 ⊢
  have e9 : cellOf G (upI h a k v) a = .inr (ci, (flds G h a ci).set k (.int v)) := by rw [cellOf_obj (h := upI h a k v) ht, flds_setI hi]
  have g1 := hP.set (e := .inr (ci, (flds G h a ci).set k (.int v))) hD hk0 ⟨_, hc, t_OB.to (V := updV (vp_V (flds G h a ci)) k (.int v)) ⟨_, e1, q2, q3, t_set q4 hap hk (.int v)⟩ (fun j _ => vp_updV_set (by rw [flds_len]; exact hk) (.int v) j)⟩ e3
  have g2 := hD.set (e := .inr (ci, (flds G h a ci).set k (.int v))) hk0
  rw [← e9] at g1 g2
  exact kk H' _ (Rel.put g1 g2 hD hk0 hM e2 hz hb hW.u1 rfl rfl (fun i hi => cellOf_upI hi)) (hS.put e2 e3 (hD.2 k0 _ hk0))
theorem WT.u4 {h : Hp} (hW : WT h) {a ci k r : Nat} (ht : hpT h a = (1, ci)) (ho : okT (fty ci k) (hpT h r)) : WT (upR h a k r) := by
  refine ⟨fun i cj j h1 h2 h3 => ?_, fun i n j h1 h3 => ?_⟩
  · have h1' : hpT h i = (1, cj) := h1
    show okT (fty cj j) (hpT h (hpR (upR h a k r) i j))
    by_cases e : i = a ∧ j = k
    · obtain ⟨rfl, rfl⟩ := e
      have e2 : ci = cj := (Prod.mk.inj (ht.symm.trans h1')).2
      subst e2
      simpa [hpR, upR, up2] using ho
    · have e3 : hpR (upR h a k r) i j = hpR h i j := by simp only [hpR, upR, up2]; rw [if_neg e]
      rw [e3] at h3 ⊢
      exact hW.1 i cj j h1' h2 h3
  · have h1' : hpT h i = (5, n) := h1
    show hpT h (hpR (upR h a k r) i j) = (1, 0)
    have e : ¬ (i = a ∧ j = k) := fun q => by rw [q.1, ht] at h1'; cases h1'
    have e3 : hpR (upR h a k r) i j = hpR h i j := by simp only [hpR, upR, up2]; rw [if_neg e]
    rw [e3] at h3 ⊢
    exact hW.2 i n j h1' h3
theorem r_putr (C : Cx G p m c cc nL s args own) (hR : Rel G h H) (hS : va_S (AA G.2.2) s.heap H locs) {a ci k idx r : Nat} (fin : Bool) (hfi : fin = true → meth.name = "<init>") (hr0 : r ≠ 0) (ht : hpT h a = (1, ci)) (ho : okT (fty ci k) (hpT h r)) (fl : FL own idx ci k) (fp : FP ci k fin own) (hi : (fty ci k).1 ≠ 0) (hdg : decode cc pc = .ok (.putfield idx, 3))
    (kk : ∀ (H1 : Heap) (locs1 : List Loc), Rel G (upR h a k r) H1 → va_S (AA G.2.2) s.heap H1 locs1 → W p l e R s m args below meth c H1 locs1 cells slots Q (F0 m (pc + 3) ls rest)) : W p l e R s m args below meth c H locs cells slots Q (F0 m pc ls (.ref (G.2.2 + r) :: .ref (G.2.2 + a) :: rest)) := by
  obtain ⟨ws, hP, hD, hM, hz, hb, hW⟩ := hR
  obtain ⟨k0, hk0⟩ := List.getElem?_of_mem (hM a (by rw [ht]; exact Nat.zero_lt_one))
  rw [cellOf_obj ht] at hk0
  obtain ⟨CN, T, hc, hk, hl, hin⟩ := fl
  obtain ⟨CN2, T2, ty0, ty, hc2, hty, hnm, hfin, hd, -, htr, hown2⟩ := fp
  cases Option.some.inj (hc.symm.trans hc2)
  have hap := va_apart (own := own) C.ts hin ty0 hty hnm C.K hc
  obtain ⟨r', h1, cell, q1, q2, q3, q4⟩ := hP k0 _ hk0
  have hr' : r' = (CN, T, nfl ci) := Option.some.inj (h1.symm.trans hc)
  subst hr'
  obtain ⟨hSl, hfc, kC, hkC, hkind⟩ := C.K.1 ci _ hc
  obtain ⟨cf, kf, fi, f, hif, hsl⟩ := hSl k hk
  have hlay := C.ts _ (hin _ (u_in_lay hk))
  have hn : narrow ty (.ref (G.2.2 + r)) = .ref (G.2.2 + r) := by rcases htr hi with ⟨n, rfl⟩ | ⟨n, rfl⟩ <;> rfl
  have hfit : fits ty (.ref (G.2.2 + r)) = true := by rcases htr hi with ⟨n, rfl⟩ | ⟨n, rfl⟩ <;> rfl
  have e9 : cellOf G (upR h a k r) a = .inr (ci, (flds G h a ci).set k (.ref (G.2.2 + r))) := by rw [cellOf_obj (h := upR h a k r) ht, flds_setR hi hr0]
  have fin0 : ∀ (H' : Heap), H'[G.2.2 + a]? = some (cell.setSlot f.slot (.ref (G.2.2 + r))) → H'.size = H.size → (∀ q, q ≠ G.2.2 + a → H'[q]? = H[q]?) → W p l e R s m args below meth c H' (locs ++ [⟨G.2.2 + a, f.slot⟩]) cells slots Q (F0 m (pc + 3) ls rest) := by
    intro H' e1 e2 e3
    rw [hsl] at e1 ⊢
    have g1 := hP.set (e := .inr (ci, (flds G h a ci).set k (.ref (G.2.2 + r)))) hD hk0 ⟨_, hc, t_OB.to (V := updV (vp_V (flds G h a ci)) k (.ref (G.2.2 + r))) ⟨_, e1, q2, q3, t_set q4 hap hk (.ref (G.2.2 + r))⟩ (fun j _ => vp_updV_set (by rw [flds_len]; exact hk) (.ref (G.2.2 + r)) j)⟩ e3
    have g2 := hD.set (e := .inr (ci, (flds G h a ci).set k (.ref (G.2.2 + r)))) hk0
    rw [← e9] at g1 g2
    exact kk H' _ (Rel.put g1 g2 hD hk0 hM e2 hz hb (hW.u4 ht ho) rfl rfl (fun i hi => cellOf_upR hi)) (hS.put e2 e3 (hD.2 k0 _ hk0))
  cases fin with
  | false =>
    unfold u_lay at hlay
    rw [if_neg (by rw [hfin]; decide)] at hlay
    have hst := (u_facts hfc hkC (u_lays C.ts hin hk) hif).1
    have h6 := u_store hfc hkC hkind hlay hif hd hn hfit
    exact W.putK C.x C.b (f := f) ⟨C.ow, C.ts _ hl, ⟨_, _, _, hif⟩, hst⟩ (by rw [q2]; exact h6) q1 q3 (by rw [hsl]; exact k2_hasslot (q4 k hk)) rfl rfl hdg fin0
  | true =>
    unfold u_lay at hlay
    rw [if_pos hfin] at hlay
    have hst := (u_facts hfc hkC (u_lays C.ts hin hk) hif).1
    have hcf : m.cls = cf := by
      obtain ⟨_, _, c', _, _, _, -, -, hf', -, -, -, hown3, -⟩ := Cond.laysFinal_spec hlay
      have e1 : c' = cf := by have := hif.symm.trans hf'; simp at this; exact this.1.symm
      rw [hown2 rfl] at hown3
      rw [← e1]; exact Option.some.inj (C.ow.symm.trans hown3)
    have h6 := u_fits hfc hkC hkind (Or.inr hlay) hif hd hn hfit
    exact W.putFinK C.x C.b C.ow (C.ts _ hl) hif hst hcf (hfi rfl) (by rw [q2]; exact h6) q1 q3 (by rw [hsl]; exact k2_hasslot (q4 k hk)) rfl rfl hdg fin0
def inb (i : Int32) (n : Nat) : Bool := !(decide (i < 0) || decide (n ≤ i.toNatClampNeg))
theorem inb_in {i : Int32} {n : Nat} (h : inb i n = true) : vp_in i n := by
  simp only [inb, Bool.not_eq_true', Bool.or_eq_false_iff, decide_eq_false_iff_not] at h
  exact fun q => q.elim h.1 h.2
def ix (i : Int32) : Nat := i.toNatClampNeg
theorem r_iald (C : Cx G p m c cc nL s args own) (hR : Rel G h H) {a : Nat} {i : Int32} (ht : (hpT h a).1 = 2) (hin : inb i (hpT h a).2 = true) (hd : decode cc pc = .ok (.iaload, 1))
    (kk : W p l e R s m args below meth c H locs cells slots Q (F0 m (pc + 1) ls (.int (hpI h a (ix i)) :: rest))) : W p l e R s m args below meth c H locs cells slots Q (F0 m pc ls (.int i :: .ref (G.2.2 + a) :: rest)) := by
  obtain ⟨ws, hP, hD, hM, -, -, hW⟩ := hR
  obtain ⟨k0, hk0⟩ := List.getElem?_of_mem (hM a (by rw [ht]; decide))
  rw [cellOf_ints ht] at hk0
  exact va_iald C.x C.b C.K hP k0 0 hk0 rfl (inb_in hin) hd kk
theorem r_lald (C : Cx G p m c cc nL s args own) (hR : Rel G h H) {a : Nat} {i : Int32} (ht : (hpT h a).1 = 3) (hin : inb i (hpT h a).2 = true) (hd : decode cc pc = .ok (.laload, 1))
    (kk : W p l e R s m args below meth c H locs cells slots Q (F0 m (pc + 1) ls (.long (hpL h a (ix i)) :: rest))) : W p l e R s m args below meth c H locs cells slots Q (F0 m pc ls (.int i :: .ref (G.2.2 + a) :: rest)) := by
  obtain ⟨ws, hP, hD, hM, -, -, hW⟩ := hR
  obtain ⟨k0, hk0⟩ := List.getElem?_of_mem (hM a (by rw [ht]; decide))
  rw [cellOf_longs ht] at hk0
  exact va_lald C.x C.b C.K hP k0 1 hk0 rfl (inb_in hin) hd kk
theorem r_zald (C : Cx G p m c cc nL s args own) (hR : Rel G h H) {a : Nat} {i : Int32} (ht : (hpT h a).1 = 4) (hin : inb i (hpT h a).2 = true) (hd : decode cc pc = .ok (.baload, 1))
    (kk : W p l e R s m args below meth c H locs cells slots Q (F0 m (pc + 1) ls (.int (hpI h a (ix i)) :: rest))) : W p l e R s m args below meth c H locs cells slots Q (F0 m pc ls (.int i :: .ref (G.2.2 + a) :: rest)) := by
  obtain ⟨ws, hP, hD, hM, -, -, hW⟩ := hR
  obtain ⟨k0, hk0⟩ := List.getElem?_of_mem (hM a (by rw [ht]; decide))
  rw [cellOf_bools ht] at hk0
  exact va_zald C.x C.b C.K hP k0 2 hk0 rfl (inb_in hin) hd kk
theorem r_aald (C : Cx G p m c cc nL s args own) (hR : Rel G h H) {a : Nat} {i : Int32} (ht : (hpT h a).1 = 5) (hin : inb i (hpT h a).2 = true) (hnn : hpR h a (ix i) ≠ 0) (hd : decode cc pc = .ok (.aaload, 1))
    (kk : hpT h (hpR h a (ix i)) = (1, 0) → W p l e R s m args below meth c H locs cells slots Q (F0 m (pc + 1) ls (.ref (G.2.2 + hpR h a (ix i)) :: rest))) : W p l e R s m args below meth c H locs cells slots Q (F0 m pc ls (.int i :: .ref (G.2.2 + a) :: rest)) := by
  obtain ⟨ws, hP, hD, hM, -, -, hW⟩ := hR
  obtain ⟨k0, hk0⟩ := List.getElem?_of_mem (hM a (by rw [ht]; decide))
  rw [cellOf_refs ht] at hk0
  refine va_aldq C.x C.b C.K hP k0 3 hk0 rfl (inb_in hin) hd ?_
  show W p l e R s m args below meth c H locs cells slots Q (F0 m (pc + 1) ls (va_rf (ro G.2.2 (hpR h a (ix i))) :: rest))
  rw [ro_some hnn]
  exact kk (hW.2 a _ (ix i) (kind2 ht) hnn)
theorem r_alen (C : Cx G p m c cc nL s args own) (hR : Rel G h H) {a : Nat} (ht : (hpT h a).1 = 2 ∨ (hpT h a).1 = 3) (hd : decode cc pc = .ok (.arraylength, 1))
    (kk : W p l e R s m args below meth c H locs cells slots Q (F0 m (pc + 1) ls (.int (nI (hpT h a).2) :: rest))) : W p l e R s m args below meth c H locs cells slots Q (F0 m pc ls (.ref (G.2.2 + a) :: rest)) := by
  obtain ⟨ws, hP, hD, hM, -, -, hW⟩ := hR
  obtain ⟨k0, hk0⟩ := List.getElem?_of_mem (hM a (by rcases ht with ht | ht <;> rw [ht] <;> decide))
  rcases ht with ht | ht
  · rw [cellOf_ints ht] at hk0
    exact va_alen C.x C.b C.K hP k0 0 hk0 rfl rfl hd kk
  · rw [cellOf_longs ht] at hk0
    exact va_alen C.x C.b C.K hP k0 1 hk0 rfl rfl hd kk
theorem r_iast (C : Cx G p m c cc nL s args own) (hR : Rel G h H) (hS : va_S (AA G.2.2) s.heap H locs) {a : Nat} {i v : Int32} (ht : (hpT h a).1 = 2) (hin : inb i (hpT h a).2 = true) (hd : decode cc pc = .ok (.iastore, 1))
    (kk : ∀ (H1 : Heap) (locs1 : List Loc), Rel G (upI h a (ix i) v) H1 → va_S (AA G.2.2) s.heap H1 locs1 → W p l e R s m args below meth c H1 locs1 cells slots Q (F0 m (pc + 1) ls rest)) : W p l e R s m args below meth c H locs cells slots Q (F0 m pc ls (.int v :: .int i :: .ref (G.2.2 + a) :: rest)) := by
  obtain ⟨ws, hP, hD, hM, hz, hb, hW⟩ := hR
  obtain ⟨k0, hk0⟩ := List.getElem?_of_mem (hM a (by rw [ht]; decide))
  rw [cellOf_ints ht] at hk0
  refine W.iast C.x C.b (hP k0 _ hk0) ((C.K.2 0 _ rfl).1 (hpT h a).2 (fun j => .int (hpI h a j))) (fun q => by cases q) (by show ¬ (i < 0 ∨ (arrV _ _ _).slots.size ≤ _); rw [arrV_size]; exact inb_in hin) rfl rfl hd fun H1 e1 z oq => ?_
  have e9 : cellOf G (upI h a (ix i) v) a = .inl (G.2.1.1, (hpT h a).2, .inl (upd (hpI h a) (ix i) v)) := by rw [cellOf_ints (h := upI h a (ix i) v) ht, hpI_upI_row]; rfl
  have g0 : va_at G.1 vwCl (G.2.2 + a, .inl (G.2.1.1, (hpT h a).2, .inl (upd (hpI h a) (ix i) v))) H1 := by
    show H1[G.2.2 + a]? = some (vp_cell _ _)
    rw [e1, vp_cell_i, vp_cell_i, arrV_store]
    congr 2
    funext q
    by_cases hq : q = i.toNatClampNeg
    · subst hq
      simp [updV, upd, ix]
    · simp [updV, upd, hq, ix]
  have g1 := hP.set hD hk0 g0 oq
  have g2 := hD.set (e := .inl (G.2.1.1, (hpT h a).2, .inl (upd (hpI h a) (ix i) v))) hk0
  rw [← e9] at g1 g2
  exact kk H1 _ (Rel.put g1 g2 hD hk0 hM z hz hb hW.u1 rfl rfl (fun i hi => cellOf_upI hi)) (hS.put z oq (hD.2 k0 _ hk0))
theorem r_last (C : Cx G p m c cc nL s args own) (hR : Rel G h H) (hS : va_S (AA G.2.2) s.heap H locs) {a : Nat} {i : Int32} {v : Int64} (ht : (hpT h a).1 = 3) (hin : inb i (hpT h a).2 = true) (hd : decode cc pc = .ok (.lastore, 1))
    (kk : ∀ (H1 : Heap) (locs1 : List Loc), Rel G (upL h a (ix i) v) H1 → va_S (AA G.2.2) s.heap H1 locs1 → W p l e R s m args below meth c H1 locs1 cells slots Q (F0 m (pc + 1) ls rest)) : W p l e R s m args below meth c H locs cells slots Q (F0 m pc ls (.long v :: .int i :: .ref (G.2.2 + a) :: rest)) := by
  obtain ⟨ws, hP, hD, hM, hz, hb, hW⟩ := hR
  obtain ⟨k0, hk0⟩ := List.getElem?_of_mem (hM a (by rw [ht]; decide))
  rw [cellOf_longs ht] at hk0
  refine W.last C.x C.b (hP k0 _ hk0) ((C.K.2 1 _ rfl).1 (hpT h a).2 (fun j => .long (hpL h a j))) (fun q => by cases q) (by show ¬ (i < 0 ∨ (arrV _ _ _).slots.size ≤ _); rw [arrV_size]; exact inb_in hin) rfl rfl hd fun H1 e1 z oq => ?_
  have e9 : cellOf G (upL h a (ix i) v) a = .inl (G.2.1.2.1, (hpT h a).2, .inr (.inl (vp_updL (hpL h a) (ix i) v))) := by rw [cellOf_longs (h := upL h a (ix i) v) ht, hpL_upL_row]; rfl
  have g0 : va_at G.1 vwCl (G.2.2 + a, .inl (G.2.1.2.1, (hpT h a).2, .inr (.inl (vp_updL (hpL h a) (ix i) v)))) H1 := by
    show H1[G.2.2 + a]? = some (vp_cell _ _)
    rw [e1, vp_cell_l, vp_cell_l, arrV_store]
    congr 2
    funext q
    by_cases hq : q = i.toNatClampNeg
    · subst hq
      simp [updV, vp_updL, ix]
    · simp [updV, vp_updL, hq, ix]
  have g1 := hP.set hD hk0 g0 oq
  have g2 := hD.set (e := .inl (G.2.1.2.1, (hpT h a).2, .inr (.inl (vp_updL (hpL h a) (ix i) v)))) hk0
  rw [← e9] at g1 g2
  exact kk H1 _ (Rel.put g1 g2 hD hk0 hM z hz hb hW.u2 rfl rfl (fun i hi => cellOf_upL hi)) (hS.put z oq (hD.2 k0 _ hk0))
theorem r_zast (C : Cx G p m c cc nL s args own) (hR : Rel G h H) (hS : va_S (AA G.2.2) s.heap H locs) {a : Nat} {i v : Int32} (ht : (hpT h a).1 = 4) (hin : inb i (hpT h a).2 = true) (hv : vp_nar .boolean v = v) (hd : decode cc pc = .ok (.bastore, 1))
    (kk : ∀ (H1 : Heap) (locs1 : List Loc), Rel G (upI h a (ix i) v) H1 → va_S (AA G.2.2) s.heap H1 locs1 → W p l e R s m args below meth c H1 locs1 cells slots Q (F0 m (pc + 1) ls rest)) : W p l e R s m args below meth c H locs cells slots Q (F0 m pc ls (.int v :: .int i :: .ref (G.2.2 + a) :: rest)) := by
  obtain ⟨ws, hP, hD, hM, hz, hb, hW⟩ := hR
  obtain ⟨k0, hk0⟩ := List.getElem?_of_mem (hM a (by rw [ht]; decide))
  rw [cellOf_bools ht] at hk0
  refine W.zast C.x C.b (hP k0 _ hk0) ((C.K.2 2 _ rfl).1 (hpT h a).2 (fun j => .int (hpI h a j))) (fun q => by cases q) (by show ¬ (i < 0 ∨ (arrV _ _ _).slots.size ≤ _); rw [arrV_size]; exact inb_in hin) rfl rfl hd fun H1 e1 z oq => ?_
  have e9 : cellOf G (upI h a (ix i) v) a = .inl (G.2.1.2.2.1, (hpT h a).2, .inl (upd (hpI h a) (ix i) v)) := by rw [cellOf_bools (h := upI h a (ix i) v) ht, hpI_upI_row]; rfl
  have g0 : va_at G.1 vwCl (G.2.2 + a, .inl (G.2.1.2.2.1, (hpT h a).2, .inl (upd (hpI h a) (ix i) v))) H1 := by
    show H1[G.2.2 + a]? = some (vp_cell _ _)
    rw [e1, vp_cell_i, vp_cell_i, arrV_store]
    congr 2
    funext q
    by_cases hq : q = i.toNatClampNeg
    · subst hq
      have hv2 : narrow .boolean (.int v) = .int v := by
        have := hv
        revert this
        simp only [vp_nar]
        cases hh : narrow .boolean (.int v) <;> simp_all [narrow]
      simp [updV, upd, ix, hv2]
    · simp [updV, upd, hq, ix]
  have g1 := hP.set hD hk0 g0 oq
  have g2 := hD.set (e := .inl (G.2.1.2.2.1, (hpT h a).2, .inl (upd (hpI h a) (ix i) v))) hk0
  rw [← e9] at g1 g2
  exact kk H1 _ (Rel.put g1 g2 hD hk0 hM z hz hb hW.u1 rfl rfl (fun i hi => cellOf_upI hi)) (hS.put z oq (hD.2 k0 _ hk0))
end ROWS
