section NEWS
variable {p : Program} {l : Launch} {e : Env} {R : Room} {s : State} {m : MethodId} {args : Array Value} {below : List Frame} {meth : Method} {c : Code} {H : Heap} {locs : List Loc} {cells slots : Nat} {Q : State → Prop}
variable {cc : ByteArray} {pc nL : Nat} {ls : Array Slot} {rest : List Value} {G : Gt} {h : Hp} {own : String}
theorem hpT_new {h : Hp} {t : Nat × Nat} {x : Nat} (hx : x ≠ hpN h + 1) : hpT (hpNew h t) x = hpT h x := by
  simp [hpT, hpNew, hx]
theorem hpT_newq {h : Hp} {t : Nat × Nat} : hpT (hpNew h t) (hpN h + 1) = t := by simp [hpT, hpNew]
theorem cellOf_new {G : Gt} {h : Hp} {t : Nat × Nat} {x : Nat} (hx : x ≠ hpN h + 1) : cellOf G (hpNew h t) x = cellOf G h x := cellOf_off (hpT_new hx) (fun k => by simp [hpI, hpNew, hx]) (fun k => by simp [hpL, hpNew, hx]) (fun k => by simp [hpR, hpNew, hx])
theorem Rel.new (t : Nat × Nat) {ws : va_W} {H1 : Heap} (hP : va_P G.1 vwCl ws H) (hD : va_D (AA G.2.2) ws) (hM : ∀ i, 0 < (hpT h i).1 → (G.2.2 + i, cellOf G h i) ∈ ws) (hz : H.size = G.2.2 + hpN h + 1) (hb : ∀ i, 0 < (hpT h i).1 → 1 ≤ i ∧ i ≤ hpN h) (hW : WT h)
    (o1 : ∀ q : Nat, q < H.size → H1[q]? = H[q]?) (z1 : H1.size = H.size + 1) (hc : va_at G.1 vwCl (G.2.2 + (hpN h + 1), cellOf G (hpNew h t) (hpN h + 1)) H1) : Rel G (hpNew h t) H1 ∧ Ext h (hpNew h t) := by
  have hE : Ext h (hpNew h t) := fun x hx => hpT_new (by have := hb x hx; omega)
  have hk : ∀ (k : Nat) (x : Nat × va_E), ws[k]? = some x → H1[x.1]? = H[x.1]? := fun k x hx => o1 x.1 ((hP k x hx).lt)
  have ea : G.2.2 + (hpN h + 1) = H.size := by omega
  refine ⟨⟨ws ++ [(G.2.2 + (hpN h + 1), cellOf G (hpNew h t) (hpN h + 1))], (hP.kept hk).app (fun k x hx => ?_), hD.push hP ea (show G.2.2 < G.2.2 + (hpN h + 1) by omega), fun i hi => ?_, ?_, fun i hi => ?_, ?_, ?_⟩, hE⟩
  · have hz : k < 1 := (List.getElem?_eq_some_iff.mp hx).1
    rw [show k = 0 by omega] at hx
    cases hx
    exact hc
  · by_cases hi2 : i = hpN h + 1
    · subst hi2
      exact List.mem_append_right _ (List.mem_singleton.mpr rfl)
    · rw [hpT_new hi2] at hi
      rw [cellOf_new hi2]
      exact List.mem_append_left _ (hM i hi)
  · rw [z1, hz]; show _ = G.2.2 + (hpN h + 1) + 1; omega
  · show 1 ≤ i ∧ i ≤ hpN h + 1
    by_cases hi2 : i = hpN h + 1
    · omega
    · rw [hpT_new hi2] at hi
      have := hb i hi
      omega
  · intro i ci k h1 h2 h3
    by_cases hi2 : i = hpN h + 1
    · exact absurd (by simp [hpR, hpNew, hi2]) h3
    · rw [hpT_new hi2] at h1
      have e3 : hpR (hpNew h t) i k = hpR h i k := by simp [hpR, hpNew, hi2]
      rw [e3] at h3 ⊢
      have h4 := hW.1 i ci k h1 h2 h3
      have h5 := hb (hpR h i k) (by rw [h4.1]; exact h2)
      rw [hpT_new (by omega)]
      exact h4
  · intro i n k h1 h3
    by_cases hi2 : i = hpN h + 1
    · exact absurd (by simp [hpR, hpNew, hi2]) h3
    · rw [hpT_new hi2] at h1
      have e3 : hpR (hpNew h t) i k = hpR h i k := by simp [hpR, hpNew, hi2]
      rw [e3] at h3 ⊢
      have h4 := hW.2 i n k h1 h3
      have h5 := hb (hpR h i k) (by rw [h4]; decide)
      rw [hpT_new (by omega)]
      exact h4
def NL (own : String) (idx ci : Nat) : Prop := ∃ (CN : String) (T : u_T) (ty : Nat → FieldType), vwCl[ci]? = some (CN, T, nfl ci) ∧ (∀ w ∈ u_ws CN T (nfl ci), w ∈ gt) ∧ (∀ k, k < nfl ci → parseFieldDescriptor (T k).2.2.1 = some (ty k)) ∧ Cond.classLink own idx CN ∈ gt ∧ Cond.instantiable CN (nfl ci) ∈ gt ∧ Cond.initialized CN ∈ gt ∧ ∀ j, j < nfl ci → defaultValue (ty j) = if (fty ci j).1 = 0 then .int 0 else .null
theorem r_new (C : Cx G p m c cc nL s args own) (hR : Rel G h H) (hS : va_S (AA G.2.2) s.heap H locs) {ci idx : Nat} (nl : NL own idx ci) (hcells : cells + 1 ≤ R.cells) (hslots : slots + nfl ci ≤ R.slots) (hdg : decode cc pc = .ok (.new idx, 3))
    (kk : ∀ (H1 : Heap), Rel G (hpNew h (1, ci)) H1 → va_S (AA G.2.2) s.heap H1 locs → Ext h (hpNew h (1, ci)) → W p l e R s m args below meth c H1 locs (cells + 1) (slots + nfl ci) Q (F0 m (pc + 3) ls (.ref (G.2.2 + (hpN h + 1)) :: rest))) : W p l e R s m args below meth c H locs cells slots Q (F0 m pc ls rest) := by
  obtain ⟨ws, hP, hD, hM, hz, hb, hW⟩ := hR
  obtain ⟨CN, T, ty, hc, hin, hty, hcl, hinst, hini, hdf⟩ := nl
  have hKn := C.K.1 ci _ hc
  refine W.newcK C.x C.b C.ow (C.ts _ hcl) (C.ts _ hinst) (C.ts _ hini) rfl hdg hcells hslots hKn.2.1 rfl fun H1 kC hkC e1 z1 o1 => ?_
  have ea : H.size = G.2.2 + (hpN h + 1) := by omega
  have hat : va_at G.1 vwCl (G.2.2 + (hpN h + 1), cellOf G (hpNew h (1, ci)) (hpN h + 1)) H1 := by
    rw [cellOf_obj hpT_newq]
    refine ⟨_, hc, ?_⟩
    have g1 : t_OB H.size (G.1.1 ci) (nfl ci) (G.1.2 ci) H1 (vp_V (flds G (hpNew h (1, ci)) (hpN h + 1) ci)) := (u_born ty C.ts hin hKn hkC e1 hty).to (fun j hj => by
      rw [hdf j hj]
      simp only [vp_V, List.getD_eq_getElem?_getD]
      rw [flds_get hj]
      simp only [flv, Option.getD_some]
      by_cases hf : (fty ci j).1 = 0
      · rw [if_pos hf, if_pos hf]; simp [hpI, hpNew]
      · rw [if_neg hf, if_neg hf]; simp [hpR, hpNew, ro, va_rf])
    rw [ea] at g1
    exact g1
  obtain ⟨g1, g2⟩ := Rel.new (1, ci) hP hD hM hz hb hW o1 z1 hat
  have k1 := kk H1 g1 ⟨Nat.le_trans hS.1 (by omega), fun x h1 h2 => (o1 x (Nat.lt_of_lt_of_le h1 hS.1)).trans (hS.2.1 x h1 h2), hS.2.2⟩ g2
  rw [← ea] at k1
  exact k1
theorem r_newi (C : Cx G p m c cc nL s args own) (hR : Rel G h H) (hS : va_S (AA G.2.2) s.heap H locs) (n : Int32) (hn : ¬ n < 0) (hby : n.toNatClampNeg * 4 ≤ 536870912) (harr : Cond.arrayClass .int ∈ gt) (hcells : cells + 1 ≤ R.cells) (hslots : slots + n.toNatClampNeg ≤ R.slots) (hdg : decode cc pc = .ok (.newarray .int, 2))
    (kk : ∀ (H1 : Heap), Rel G (hpNew h (2, ix n)) H1 → va_S (AA G.2.2) s.heap H1 locs → Ext h (hpNew h (2, ix n)) → W p l e R s m args below meth c H1 locs (cells + 1) (slots + n.toNatClampNeg) Q (F0 m (pc + 2) ls (.ref (G.2.2 + (hpN h + 1)) :: rest))) : W p l e R s m args below meth c H locs cells slots Q (F0 m pc ls (.int n :: rest)) := by
  obtain ⟨ws, hP, hD, hM, hz, hb, hW⟩ := hR
  have ea : H.size = G.2.2 + (hpN h + 1) := by omega
  refine va_newaK (atype := .int) C.x C.b (C.ts _ harr) rfl hdg rfl hn rfl hby hcells hslots rfl fun H1 cA e1 z1 o1 hAr hNm => ?_
  have hcA : cA = G.2.1.1 := Option.some.inj (hNm.symm.trans (C.K.2 0 _ rfl).2)
  subst hcA
  have hat : va_at G.1 vwCl (G.2.2 + (hpN h + 1), cellOf G (hpNew h (2, ix n)) (hpN h + 1)) H1 := by
    rw [cellOf_ints (by rw [hpT_newq]), hpT_newq]
    show H1[G.2.2 + (hpN h + 1)]? = some (vp_cell _ _)
    rw [vp_cell_i, ← ea, e1]
    congr 2
    funext j
    simp [hpI, hpNew, newarray.typeOf, defaultValue]
  obtain ⟨g1, g2⟩ := Rel.new (2, ix n) hP hD hM hz hb hW o1 z1 hat
  have k1 := kk H1 g1 ⟨Nat.le_trans hS.1 (by omega), fun x h1 h2 => (o1 x (Nat.lt_of_lt_of_le h1 hS.1)).trans (hS.2.1 x h1 h2), hS.2.2⟩ g2
  rw [← ea] at k1
  exact k1
theorem r_newl (C : Cx G p m c cc nL s args own) (hR : Rel G h H) (hS : va_S (AA G.2.2) s.heap H locs) (n : Int32) (hn : ¬ n < 0) (hby : n.toNatClampNeg * 8 ≤ 536870912) (harr : Cond.arrayClass .long ∈ gt) (hcells : cells + 1 ≤ R.cells) (hslots : slots + n.toNatClampNeg ≤ R.slots) (hdg : decode cc pc = .ok (.newarray .long, 2))
    (kk : ∀ (H1 : Heap), Rel G (hpNew h (3, ix n)) H1 → va_S (AA G.2.2) s.heap H1 locs → Ext h (hpNew h (3, ix n)) → W p l e R s m args below meth c H1 locs (cells + 1) (slots + n.toNatClampNeg) Q (F0 m (pc + 2) ls (.ref (G.2.2 + (hpN h + 1)) :: rest))) : W p l e R s m args below meth c H locs cells slots Q (F0 m pc ls (.int n :: rest)) := by
  obtain ⟨ws, hP, hD, hM, hz, hb, hW⟩ := hR
  have ea : H.size = G.2.2 + (hpN h + 1) := by omega
  refine va_newaK (atype := .long) C.x C.b (C.ts _ harr) rfl hdg rfl hn rfl hby hcells hslots rfl fun H1 cA e1 z1 o1 hAr hNm => ?_
  have hcA : cA = G.2.1.2.1 := Option.some.inj (hNm.symm.trans (C.K.2 1 _ rfl).2)
  subst hcA
  have hat : va_at G.1 vwCl (G.2.2 + (hpN h + 1), cellOf G (hpNew h (3, ix n)) (hpN h + 1)) H1 := by
    rw [cellOf_longs (by rw [hpT_newq]), hpT_newq]
    show H1[G.2.2 + (hpN h + 1)]? = some (vp_cell _ _)
    rw [vp_cell_l, ← ea, e1]
    congr 2
    funext j
    simp [hpL, hpNew, newarray.typeOf, defaultValue]
  obtain ⟨g1, g2⟩ := Rel.new (3, ix n) hP hD hM hz hb hW o1 z1 hat
  have k1 := kk H1 g1 ⟨Nat.le_trans hS.1 (by omega), fun x h1 h2 => (o1 x (Nat.lt_of_lt_of_le h1 hS.1)).trans (hS.2.1 x h1 h2), hS.2.2⟩ g2
  rw [← ea] at k1
  exact k1
theorem r_newz (C : Cx G p m c cc nL s args own) (hR : Rel G h H) (hS : va_S (AA G.2.2) s.heap H locs) (n : Int32) (hn : ¬ n < 0) (hby : n.toNatClampNeg * 1 ≤ 536870912) (harr : Cond.arrayClass .boolean ∈ gt) (hcells : cells + 1 ≤ R.cells) (hslots : slots + n.toNatClampNeg ≤ R.slots) (hdg : decode cc pc = .ok (.newarray .boolean, 2))
    (kk : ∀ (H1 : Heap), Rel G (hpNew h (4, ix n)) H1 → va_S (AA G.2.2) s.heap H1 locs → Ext h (hpNew h (4, ix n)) → W p l e R s m args below meth c H1 locs (cells + 1) (slots + n.toNatClampNeg) Q (F0 m (pc + 2) ls (.ref (G.2.2 + (hpN h + 1)) :: rest))) : W p l e R s m args below meth c H locs cells slots Q (F0 m pc ls (.int n :: rest)) := by
  obtain ⟨ws, hP, hD, hM, hz, hb, hW⟩ := hR
  have ea : H.size = G.2.2 + (hpN h + 1) := by omega
  refine va_newaK (atype := .boolean) C.x C.b (C.ts _ harr) rfl hdg rfl hn rfl hby hcells hslots rfl fun H1 cA e1 z1 o1 hAr hNm => ?_
  have hcA : cA = G.2.1.2.2.1 := Option.some.inj (hNm.symm.trans (C.K.2 2 _ rfl).2)
  subst hcA
  have hat : va_at G.1 vwCl (G.2.2 + (hpN h + 1), cellOf G (hpNew h (4, ix n)) (hpN h + 1)) H1 := by
    rw [cellOf_bools (by rw [hpT_newq]), hpT_newq]
    show H1[G.2.2 + (hpN h + 1)]? = some (vp_cell _ _)
    rw [vp_cell_i, ← ea, e1]
    congr 2
    funext j
    simp [hpI, hpNew, newarray.typeOf, defaultValue]
  obtain ⟨g1, g2⟩ := Rel.new (4, ix n) hP hD hM hz hb hW o1 z1 hat
  have k1 := kk H1 g1 ⟨Nat.le_trans hS.1 (by omega), fun x h1 h2 => (o1 x (Nat.lt_of_lt_of_le h1 hS.1)).trans (hS.2.1 x h1 h2), hS.2.2⟩ g2
  rw [← ea] at k1
  exact k1
theorem KK.ao {U : State} (h : KK G U) : va_AO RX0 U := va_AO.moved h.2.2.1.alike h.2.2.2.2.2.1
theorem r_newq (C : Cx G p m c cc nL s args own) (hR : Rel G h H) (hS : va_S (AA G.2.2) s.heap H locs) {idx : Nat} (n : Int32) (hn : ¬ n < 0) (hby : n.toNatClampNeg * 4 ≤ 536870912) (hcl : Cond.classLink own idx RX0 ∈ gt) (hcells : cells + 1 ≤ R.cells) (hslots : slots + n.toNatClampNeg ≤ R.slots) (hdg : decode cc pc = .ok (.anewarray idx, 3))
    (kk : ∀ (H1 : Heap), Rel G (hpNew h (5, ix n)) H1 → va_S (AA G.2.2) s.heap H1 locs → Ext h (hpNew h (5, ix n)) → W p l e R s m args below meth c H1 locs (cells + 1) (slots + n.toNatClampNeg) Q (F0 m (pc + 3) ls (.ref (G.2.2 + (hpN h + 1)) :: rest))) : W p l e R s m args below meth c H locs cells slots Q (F0 m pc ls (.int n :: rest)) := by
  obtain ⟨ws, hP, hD, hM, hz, hb, hW⟩ := hR
  have ea : H.size = G.2.2 + (hpN h + 1) := by omega
  refine W.anew C.x C.b C.ow (C.ts _ hcl) (va_AO.use C.2.1.ao) rfl hdg rfl hn hby hcells hslots fun cA kA comp f1 f2 f3 f4 => ?_
  generalize hH1 : H.push ({ cls := cA, slots := Array.replicate n.toNatClampNeg .null, vm := .none } : Cell) = H1
  have z1 : H1.size = H.size + 1 := by rw [← hH1, Array.size_push]
  have e1 : H1[H.size]? = some (arrV cA n.toNatClampNeg (fun _ => .null)) := by rw [← hH1, Array.getElem?_push_size, ← arrV_new]
  have o1 : ∀ q : Nat, q < H.size → H1[q]? = H[q]? := fun q hq => by rw [← hH1, Array.getElem?_push, if_neg (Nat.ne_of_lt hq)]
  obtain ⟨_, _, -, -, -, hfc⟩ := (C.K.2 3 _ rfl).2
  have hcA : cA = G.2.1.2.2.2.1 := Option.some.inj (f1.symm.trans hfc)
  subst hcA
  have hat : va_at G.1 vwCl (G.2.2 + (hpN h + 1), cellOf G (hpNew h (5, ix n)) (hpN h + 1)) H1 := by
    rw [cellOf_refs (by rw [hpT_newq]), hpT_newq]
    show H1[G.2.2 + (hpN h + 1)]? = some (vp_cell _ _)
    rw [vp_cell_q, ← ea, e1]
    congr 2
    funext j
    simp [hpR, hpNew, ro, va_rf]
  obtain ⟨g1, g2⟩ := Rel.new (5, ix n) hP hD hM hz hb hW o1 z1 hat
  have k1 := kk H1 g1 ⟨Nat.le_trans hS.1 (by omega), fun x h1 h2 => (o1 x (Nat.lt_of_lt_of_le h1 hS.1)).trans (hS.2.1 x h1 h2), hS.2.2⟩ g2
  rw [← ea] at k1
  exact k1
theorem WT.u5 {h : Hp} (hW : WT h) {a n k r : Nat} (ht : hpT h a = (5, n)) (ho : hpT h r = (1, 0)) : WT (upR h a k r) := by
  refine ⟨fun i cj j h1 h2 h3 => ?_, fun i n2 j h1 h3 => ?_⟩
  · have h1' : hpT h i = (1, cj) := h1
    show okT (fty cj j) (hpT h (hpR (upR h a k r) i j))
    have e : ¬ (i = a ∧ j = k) := fun q => by rw [q.1, ht] at h1'; cases h1'
    have e3 : hpR (upR h a k r) i j = hpR h i j := by simp only [hpR, upR, up2]; rw [if_neg e]
    rw [e3] at h3 ⊢
    exact hW.1 i cj j h1' h2 h3
  · have h1' : hpT h i = (5, n2) := h1
    show hpT h (hpR (upR h a k r) i j) = (1, 0)
    by_cases e : i = a ∧ j = k
    · obtain ⟨rfl, rfl⟩ := e
      simpa [hpR, upR, up2] using ho
    · have e3 : hpR (upR h a k r) i j = hpR h i j := by simp only [hpR, upR, up2]; rw [if_neg e]
      rw [e3] at h3 ⊢
      exact hW.2 i n2 j h1' h3
theorem r_aast (C : Cx G p m c cc nL s args own) (hR : Rel G h H) (hS : va_S (AA G.2.2) s.heap H locs) {a r : Nat} {i : Int32} (ht : (hpT h a).1 = 5) (hin : inb i (hpT h a).2 = true) (hr0 : r ≠ 0) (htr : hpT h r = (1, 0)) (hd : decode cc pc = .ok (.aastore, 1))
    (kk : ∀ (H1 : Heap) (locs1 : List Loc), Rel G (upR h a (ix i) r) H1 → va_S (AA G.2.2) s.heap H1 locs1 → W p l e R s m args below meth c H1 locs1 cells slots Q (F0 m (pc + 1) ls rest)) : W p l e R s m args below meth c H locs cells slots Q (F0 m pc ls (.ref (G.2.2 + r) :: .int i :: .ref (G.2.2 + a) :: rest)) := by
  obtain ⟨ws, hP, hD, hM, hz, hb, hW⟩ := hR
  obtain ⟨k0, hk0⟩ := List.getElem?_of_mem (hM a (by rw [ht]; decide))
  rw [cellOf_refs ht] at hk0
  obtain ⟨k1, hk1⟩ := List.getElem?_of_mem (hM r (by rw [htr]; exact Nat.zero_lt_one))
  rw [cellOf_obj htr] at hk1
  have hin2 := inb_in hin
  have hlt : i.toNatClampNeg < (hpT h a).2 := Nat.not_le.mp fun q => hin2 (Or.inr q)
  have h0 : ¬ i < 0 := fun q => hin2 (Or.inl q)
  obtain ⟨r', hr', cellV, g1, g2, g3, -⟩ := hP k1 _ hk1
  have hcls := (C.K.1 0 (RX0, TX0, 12) rfl).2
  obtain ⟨kA, comp, q1, q2, q3, -⟩ := (C.K.2 3 _ rfl).2
  have hcomp : comp = G.1.1 0 := Option.some.inj (q3.symm.trans hcls.1)
  subst hcomp
  obtain ⟨kC, hkC, -⟩ := hcls.2
  refine W.aast C.x C.b (hP k0 _ hk0) (fun q h => by cases h) (fun h => by cases h) q1 q2 rfl hkC ⟨h0, by show _ < (arrV _ _ _).slots.size; rw [arrV_size]; exact hlt⟩ g1 (fun q h => by rw [g3] at h; cases h) (by rw [g2]; exact hkC) (by rw [g2]; exact va_assign hcls) rfl rfl hd fun H1 e z oq => ?_
  have e9 : cellOf G (upR h a (ix i) r) a = .inl (G.2.1.2.2.2.1, (hpT h a).2, .inr (.inr (.inr (.inr (va_up (fun j => ro G.2.2 (hpR h a j)) (ix i) (some (G.2.2 + r))))))) := by
    rw [cellOf_refs (h := upR h a (ix i) r) ht]
    show Sum.inl (G.2.1.2.2.2.1, (hpT h a).2, Sum.inr (Sum.inr (Sum.inr (Sum.inr (fun j => ro G.2.2 (hpR (upR h a (ix i) r) a j)))))) = _
    have e8 : (fun j => ro G.2.2 (hpR (upR h a (ix i) r) a j)) = va_up (fun j => ro G.2.2 (hpR h a j)) (ix i) (some (G.2.2 + r)) := by
      funext j
      by_cases hj : j = ix i
      · subst hj; simp [hpR, upR, up2, va_up, ro, hr0]
      · simp [hpR, upR, up2, va_up, hj]
    rw [e8]
  have g0 : va_at G.1 vwCl (G.2.2 + a, .inl (G.2.1.2.2.2.1, (hpT h a).2, .inr (.inr (.inr (.inr (va_up (fun j => ro G.2.2 (hpR h a j)) (ix i) (some (G.2.2 + r)))))))) H1 := by
    show H1[G.2.2 + a]? = some (vp_cell _ _)
    rw [e]
    rw [vp_cell_q, vp_cell_q, arrV_store]
    congr 2
    funext q
    by_cases hq : q = i.toNatClampNeg
    · subst hq
      simp [updV, va_up, va_rf, ix]
    · simp [updV, va_up, hq, ix]
  have g1 := hP.set hD hk0 g0 oq
  have g2 := hD.set (e := .inl (G.2.1.2.2.2.1, (hpT h a).2, .inr (.inr (.inr (.inr (va_up (fun j => ro G.2.2 (hpR h a j)) (ix i) (some (G.2.2 + r)))))))) hk0
  rw [← e9] at g1 g2
  exact kk H1 _ (Rel.put g1 g2 hD hk0 hM z hz hb (hW.u5 (kind2 ht) htr) rfl rfl (fun i hi => cellOf_upR hi)) (hS.put z oq (hD.2 k0 _ hk0))
theorem r_newN (C : Cx G p m c cc nL s args own) (hR : Rel G h H) (hS : va_S (AA G.2.2) s.heap H locs) {ci idx : Nat} (nl : NL own idx ci) (hcells : cells + 1 ≤ R.cells) (hslots : slots + nfl ci ≤ R.slots) (hdg : decode cc pc = .ok (.new idx, 3))
    (kk : ∀ (H1 : Heap) (a1 : Nat), a1 = hpN h + 1 → Rel G (hpNew h (1, ci)) H1 → va_S (AA G.2.2) s.heap H1 locs → Ext h (hpNew h (1, ci)) → hpT (hpNew h (1, ci)) a1 = (1, ci) → W p l e R s m args below meth c H1 locs (cells + 1) (slots + nfl ci) Q (F0 m (pc + 3) ls (.ref (G.2.2 + a1) :: rest))) : W p l e R s m args below meth c H locs cells slots Q (F0 m pc ls rest) :=
  r_new C hR hS nl hcells hslots hdg (fun H1 g1 g2 g3 => kk H1 _ rfl g1 g2 g3 (hpT_newq))
theorem r_newiN (C : Cx G p m c cc nL s args own) (hR : Rel G h H) (hS : va_S (AA G.2.2) s.heap H locs) (n : Int32) (hn : ¬ n < 0) (hby : n.toNatClampNeg * 4 ≤ 536870912) (harr : Cond.arrayClass .int ∈ gt) (hcells : cells + 1 ≤ R.cells) (hslots : slots + n.toNatClampNeg ≤ R.slots) (hdg : decode cc pc = .ok (.newarray .int, 2))
    (kk : ∀ (H1 : Heap) (a1 : Nat), a1 = hpN h + 1 → Rel G (hpNew h (2, ix n)) H1 → va_S (AA G.2.2) s.heap H1 locs → Ext h (hpNew h (2, ix n)) → (hpT (hpNew h (2, ix n)) a1).1 = 2 → W p l e R s m args below meth c H1 locs (cells + 1) (slots + n.toNatClampNeg) Q (F0 m (pc + 2) ls (.ref (G.2.2 + a1) :: rest))) : W p l e R s m args below meth c H locs cells slots Q (F0 m pc ls (.int n :: rest)) :=
  r_newi C hR hS n hn hby harr hcells hslots hdg (fun H1 g1 g2 g3 => kk H1 _ rfl g1 g2 g3 (by rw [hpT_newq]))
theorem r_newlN (C : Cx G p m c cc nL s args own) (hR : Rel G h H) (hS : va_S (AA G.2.2) s.heap H locs) (n : Int32) (hn : ¬ n < 0) (hby : n.toNatClampNeg * 8 ≤ 536870912) (harr : Cond.arrayClass .long ∈ gt) (hcells : cells + 1 ≤ R.cells) (hslots : slots + n.toNatClampNeg ≤ R.slots) (hdg : decode cc pc = .ok (.newarray .long, 2))
    (kk : ∀ (H1 : Heap) (a1 : Nat), a1 = hpN h + 1 → Rel G (hpNew h (3, ix n)) H1 → va_S (AA G.2.2) s.heap H1 locs → Ext h (hpNew h (3, ix n)) → (hpT (hpNew h (3, ix n)) a1).1 = 3 → W p l e R s m args below meth c H1 locs (cells + 1) (slots + n.toNatClampNeg) Q (F0 m (pc + 2) ls (.ref (G.2.2 + a1) :: rest))) : W p l e R s m args below meth c H locs cells slots Q (F0 m pc ls (.int n :: rest)) :=
  r_newl C hR hS n hn hby harr hcells hslots hdg (fun H1 g1 g2 g3 => kk H1 _ rfl g1 g2 g3 (by rw [hpT_newq]))
theorem r_newzN (C : Cx G p m c cc nL s args own) (hR : Rel G h H) (hS : va_S (AA G.2.2) s.heap H locs) (n : Int32) (hn : ¬ n < 0) (hby : n.toNatClampNeg * 1 ≤ 536870912) (harr : Cond.arrayClass .boolean ∈ gt) (hcells : cells + 1 ≤ R.cells) (hslots : slots + n.toNatClampNeg ≤ R.slots) (hdg : decode cc pc = .ok (.newarray .boolean, 2))
    (kk : ∀ (H1 : Heap) (a1 : Nat), a1 = hpN h + 1 → Rel G (hpNew h (4, ix n)) H1 → va_S (AA G.2.2) s.heap H1 locs → Ext h (hpNew h (4, ix n)) → (hpT (hpNew h (4, ix n)) a1).1 = 4 → W p l e R s m args below meth c H1 locs (cells + 1) (slots + n.toNatClampNeg) Q (F0 m (pc + 2) ls (.ref (G.2.2 + a1) :: rest))) : W p l e R s m args below meth c H locs cells slots Q (F0 m pc ls (.int n :: rest)) :=
  r_newz C hR hS n hn hby harr hcells hslots hdg (fun H1 g1 g2 g3 => kk H1 _ rfl g1 g2 g3 (by rw [hpT_newq]))
theorem r_newqN (C : Cx G p m c cc nL s args own) (hR : Rel G h H) (hS : va_S (AA G.2.2) s.heap H locs) {idx : Nat} (n : Int32) (hn : ¬ n < 0) (hby : n.toNatClampNeg * 4 ≤ 536870912) (hcl : Cond.classLink own idx RX0 ∈ gt) (hcells : cells + 1 ≤ R.cells) (hslots : slots + n.toNatClampNeg ≤ R.slots) (hdg : decode cc pc = .ok (.anewarray idx, 3))
    (kk : ∀ (H1 : Heap) (a1 : Nat), a1 = hpN h + 1 → Rel G (hpNew h (5, ix n)) H1 → va_S (AA G.2.2) s.heap H1 locs → Ext h (hpNew h (5, ix n)) → (hpT (hpNew h (5, ix n)) a1).1 = 5 → W p l e R s m args below meth c H1 locs (cells + 1) (slots + n.toNatClampNeg) Q (F0 m (pc + 3) ls (.ref (G.2.2 + a1) :: rest))) : W p l e R s m args below meth c H locs cells slots Q (F0 m pc ls (.int n :: rest)) :=
  r_newq C hR hS n hn hby hcl hcells hslots hdg (fun H1 g1 g2 g3 => kk H1 _ rfl g1 g2 g3 (by rw [hpT_newq]))
theorem r_objinit (C : Cx G p m c cc nL s args own) (hls : ls.size = nL) {a idx : Nat} (hl : Cond.methodLink own idx Lib.objectInit ∈ gt) (hi : Cond.instanceMethod Lib.objectInit ∈ gt) (hcd : Cond.code Lib.objectInit ⟨#[0xb1]⟩ 1 none ∈ gt) (hf : 1 ≤ R.frames) (hlo : (rest.map fun v => v.category).sum + 12 ≤ R.locals) (hd : decode cc pc = .ok (.invokespecial idx, 3))
    (kk : W p l e R s m args below meth c H locs cells slots Q (F0 m (pc + 3) ls rest)) : W p l e R s m args below meth c H locs cells slots Q (F0 m pc ls (.ref a :: rest)) := by
  refine W.objInit C.x C.b C.ow (C.ts _ hl) (C.ts _ hi) (C.ts _ hcd) rfl (by rw [C.ml]; exact hls) rfl hd hf (by show 2 * 0 + _ + 12 ≤ _; omega) ?_
  exact kk
end NEWS
