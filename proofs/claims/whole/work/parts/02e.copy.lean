section COPY
variable {p : Program} {l : Launch} {e : Env} {R : Room} {s : State} {m : MethodId} {args : Array Value} {below : List Frame} {meth : Method} {c : Code} {H : Heap} {locs : List Loc} {cells slots : Nat} {Q : State → Prop}
variable {cc : ByteArray} {pc nL : Nat} {ls : Array Slot} {rest : List Value} {G : Gt} {h : Hp} {own : String}
theorem lk_AC_n : Cond.native arraycopyName ∈ gt := gtm 450 (by decide +kernel) rfl
theorem lk_AC_s : Cond.static arraycopyName ∈ gt := gtm 449 (by decide +kernel) rfl
theorem hpI_cpI_row {h : Hp} {a sp d dp n : Nat} : hpI (cpI h a sp d dp n) d = va_cpy (hpI h a) (hpI h d) sp dp n := by
  funext j
  simp [hpI, cpI, va_cpy]
/-- whether a copy stays in its rows -/
def cpok (sp dp n : Int32) (na nd : Nat) : Bool := decide (¬ sp < 0) && decide (¬ dp < 0) && decide (¬ n < 0) && decide (sp.toNatClampNeg + n.toNatClampNeg ≤ na) && decide (dp.toNatClampNeg + n.toNatClampNeg ≤ nd)
theorem r_copy (C : Cx G p m c cc nL s args own) (hR : Rel G h H) (hS : va_S (AA G.2.2) s.heap H locs) (hls : ls.size = nL) {a d idx : Nat} {sp dp n : Int32} (ta : (hpT h a).1 = 2) (td : (hpT h d).1 = 2) (hok : cpok sp dp n (hpT h a).2 (hpT h d).2 = true)
    (hl0 : Cond.methodLink own idx arraycopyName ∈ gt) (hini0 : Cond.initialized "java/lang/System" ∈ gt) (hframes : 1 ≤ R.frames) (hlocals : (rest.map fun v => v.category).sum + (nativeFrameWords "java/lang/System" "arraycopy" 5 + 11) ≤ R.locals) (hdg : decode cc pc = .ok (.invokestatic idx, 3))
    (kk : ∀ (H1 : Heap) (locs1 : List Loc), Rel G (cpI h a (ix sp) d (ix dp) (ix n)) H1 → va_S (AA G.2.2) s.heap H1 locs1 → W p l e R s m args below meth c H1 locs1 cells slots Q (F0 m (pc + 3) ls rest)) : W p l e R s m args below meth c H locs cells slots Q (F0 m pc ls (.int n :: .int dp :: .ref (G.2.2 + d) :: .int sp :: .ref (G.2.2 + a) :: rest)) := by
  simp only [cpok, Bool.and_eq_true, decide_eq_true_eq] at hok
  obtain ⟨⟨⟨⟨h1, h2⟩, h3⟩, h4⟩, h5⟩ := hok
  have nn : ∀ z : Int32, ¬ z < 0 → z.toInt = (z.toNatClampNeg : Int) := by
    intro z hz
    have hz0 : (0 : Int) ≤ z.toInt := by
      have := Int32.not_lt.mp hz
      simpa using Int32.le_iff_toInt_le.mp this
    show z.toInt = ((z.toInt.toNat : Nat) : Int)
    omega
  obtain ⟨ws, hP, hD, hM, hz, hb, hW⟩ := hR
  obtain ⟨q0, ha0⟩ := List.getElem?_of_mem (hM a (by rw [ta]; decide))
  rw [cellOf_ints ta] at ha0
  obtain ⟨q1, ha1⟩ := List.getElem?_of_mem (hM d (by rw [td]; decide))
  rw [cellOf_ints td] at ha1
  intro T hT X
  have hc0 : H[G.2.2 + a]? = some (vp_cell G.2.1.1 ((hpT h a).2, .inl (hpI h a))) := hP q0 _ ha0
  have hc1 : H[G.2.2 + d]? = some (vp_cell G.2.1.1 ((hpT h d).2, .inl (hpI h d))) := hP q1 _ ha1
  obtain ⟨-, k0, hk0, cm0, hkk0⟩ := (C.K.2 0 _ rfl).1 (hpT h a).2 (fun j => .int (hpI h a j))
  obtain ⟨-, k1, hk1, cm1, hkk1⟩ := (C.K.2 0 _ rfl).1 (hpT h d).2 (fun j => .int (hpI h d j))
  obtain ⟨vm', X', step⟩ := X.arraycopy C.x C.ow (C.ts _ hl0) (C.ts _ lk_AC_n) (C.ts _ lk_AC_s) (C.ts _ hini0) (src := G.2.2 + a) (dst := G.2.2 + d) (cs := vp_cell G.2.1.1 ((hpT h a).2, .inl (hpI h a))) (cd := vp_cell G.2.1.1 ((hpT h d).2, .inl (hpI h d))) (srcPos := sp) (destPos := dp) (n := n) (by rw [hT]; exact hc0) (by rw [hT]; exact hc1)
    (fun _ h => by cases h) (fun _ h => by cases h) (fun h => by cases h) (fun h => by cases h) hk0 hk1 hkk0 hkk1 rfl h1 h2 h3
    (by rw [nn sp h1, nn n h3]; show ¬ _ > ((arrV G.2.1.1 (hpT h a).2 (fun j => .int (hpI h a j))).slots.size : Int); rw [arrV_size]; omega)
    (by rw [nn dp h2, nn n h3]; show ¬ _ > ((arrV G.2.1.1 (hpT h d).2 (fun j => .int (hpI h d j))).slots.size : Int); rw [arrV_size]; omega)
    (fun vm₁ _ i hi => by
      have e : (vp_cell G.2.1.1 ((hpT h a).2, .inl (hpI h a))).slots.getD (sp.toNatClampNeg + i) .null = .int (hpI h a (sp.toNatClampNeg + i)) := by
        show (arrV G.2.1.1 (hpT h a).2 (fun j => .int (hpI h a j))).slots.getD _ _ = _
        rw [Array.getD_eq_getD_getElem?, arrV_read _ _ (by omega)]
        rfl
      refine ⟨?_, ?_⟩
      · rw [e]
        rfl
      · rw [e]
        exact trivial)
    (g := F0 m pc ls (.int n :: .int dp :: .ref (G.2.2 + d) :: .int sp :: .ref (G.2.2 + a) :: rest)) rfl (by rw [C.ml]; exact hls) (rest := rest) rfl (by rw [C.b]; exact hdg) hframes (by show 2 * 0 + _ + _ ≤ _; omega)
  have e1 : copied (vp_cell G.2.1.1 ((hpT h a).2, .inl (hpI h a))) (vp_cell G.2.1.1 ((hpT h d).2, .inl (hpI h d))) sp dp n = vp_cell G.2.1.1 ((hpT h d).2, .inl (va_cpy (hpI h a) (hpI h d) sp.toNatClampNeg dp.toNatClampNeg n.toNatClampNeg)) := va_copied (fun z => .int z) G.2.1.1 G.2.1.1 (hpI h a) (hpI h d) h4
  rw [e1] at X' step
  have hl : G.2.2 + d < H.size := (Array.getElem?_eq_some_iff.mp hc1).1
  have e9 : cellOf G (cpI h a (ix sp) d (ix dp) (ix n)) d = .inl (G.2.1.1, (hpT h d).2, .inl (va_cpy (hpI h a) (hpI h d) sp.toNatClampNeg dp.toNatClampNeg n.toNatClampNeg)) := by rw [cellOf_ints (h := cpI h a (ix sp) d (ix dp) (ix n)) td, hpI_cpI_row]; rfl
  generalize hN : vp_cell G.2.1.1 ((hpT h d).2, .inl (va_cpy (hpI h a) (hpI h d) sp.toNatClampNeg dp.toNatClampNeg n.toNatClampNeg)) = cN at X' step
  have hheap : ((T.setVm vm').setCell (G.2.2 + d) cN).heap = H.setIfInBounds (G.2.2 + d) cN := by rw [← hT]; rfl
  have oq : ∀ q : Nat, q ≠ G.2.2 + d → (H.setIfInBounds (G.2.2 + d) cN)[q]? = H[q]? := fun q hq => by simp [Array.getElem?_setIfInBounds, Ne.symm hq]
  have g1 := hP.set (e := .inl (G.2.1.1, (hpT h d).2, .inl (va_cpy (hpI h a) (hpI h d) sp.toNatClampNeg dp.toNatClampNeg n.toNatClampNeg))) hD ha1 (show (H.setIfInBounds (G.2.2 + d) cN)[G.2.2 + d]? = some _ by simp [Array.getElem?_setIfInBounds, hl]; exact hN.symm) oq
  have g2 := hD.set (e := .inl (G.2.1.1, (hpT h d).2, .inl (va_cpy (hpI h a) (hpI h d) sp.toNatClampNeg dp.toNatClampNeg n.toNatClampNeg))) ha1
  rw [← e9] at g1 g2
  obtain ⟨t, a1, b1⟩ := kk _ _ (Rel.put g1 g2 hD ha1 hM (by simp) hz hb hW.u3 rfl rfl (fun i hi => cellOf_cpI hi)) ⟨by simp; exact hS.1, fun q g1 g2 => by
      rw [oq q (fun e => g2 (by rw [e]; exact hD.2 q1 _ ha1))]
      exact hS.2.1 q g1 g2, fun q hq => by
      rcases List.mem_append.mp hq with h | h
      · exact hS.2.2 q h
      · obtain ⟨z, -, hz⟩ := List.mem_map.mp h
        rw [← hz]
        exact hD.2 q1 _ ha1⟩ _ hheap X'
  exact ⟨t, step t a1, b1⟩
end COPY
