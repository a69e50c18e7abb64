/-- LOSS of camp i by a rule -/
def lsV (R : Nat × (Nat → Int32)) (env : Int32 → Int32) : Int32 := dg (pp1 (crn env R.2 (0, fun _ => 0) R.1))
def lossN (R : Nat × (Nat → Int32)) (S : Fld) (i : Nat) : Nat := if onb S i = true then ix (lsV R (mng S i (bc32 (bitsB (crs S i) (S.1 2))))) else 0
theorem lossN_le {R : Nat × (Nat → Int32)} {S : Fld} {i : Nat} : lossN R S i ≤ 9 := by
  unfold lossN
  split
  · exact (dg_rng _).2
  · omega
/-- the cells of a Rule -/
def FR (r x : Nat) : Prop := r ≤ x ∧ x ≤ r + 3
theorem FS_FR {r x : Nat} (h : FS r x) : FR r x := by unfold FS at h; unfold FR; omega
def kR2 (h h1 : Hp) (r : Nat) : Prop := hpI h1 r 3 = hpI h r 3 ∧ (∀ k, hpI h1 (r + 1) k = hpI h (r + 1) k) ∧ hpR h1 = hpR h
theorem kR2.rf {h : Hp} {r : Nat} : kR2 h h r := ⟨rfl, fun _ => rfl, rfl⟩
theorem kR2.tr {h h1 h2 : Hp} {r : Nat} (p : kR2 h h1 r) (q : kR2 h1 h2 r) : kR2 h h2 r := ⟨q.1.trans p.1, fun k => (q.2.1 k).trans (p.2.1 k), q.2.2.trans p.2.2⟩
theorem atR.keep2 {h h1 : Hp} {r sz : Nat} {st : Nat → Int32} (p : atR h r sz st) (e : hpT h1 = hpT h) (k : kR2 h h1 r) : atR h1 r sz st := by
  obtain ⟨⟨k1, k2, k3, k4, k5, k6, k7⟩, p2, p3, p4⟩ := p
  refine ⟨?_, by rw [k.1]; exact p2, p3, fun i hi => by rw [k.2.1]; exact p4 i hi⟩
  refine ⟨?_, ?_, ?_, ?_, ?_, ?_, ?_⟩ <;> first | (rw [e]; assumption) | (rw [k.2.2]; assumption)
theorem atR.keep {h h1 : Hp} {r sz : Nat} {st : Nat → Int32} {F : Nat → Prop} (p : atR h r sz st) (e : EqOff F h h1) (hF : ∀ x, FR r x → ¬ F x) : atR h1 r sz st := by
  obtain ⟨⟨k1, k2, k3, k4, k5, k6, k7⟩, p2, p3, p4⟩ := p
  have f0 := hF r (by unfold FR; omega)
  have f1 := hF (r + 1) (by unfold FR; omega)
  refine ⟨?_, by rw [e.1 _ _ f0]; exact p2, p3, fun i hi => by rw [e.1 _ _ f1]; exact p4 i hi⟩
  refine ⟨?_, ?_, ?_, ?_, ?_, ?_, ?_⟩ <;> first | (rw [e.2.2.2.1]; assumption) | (rw [e.2.2.1]; assumption)
section YEARS
variable {h : Hp} {a r : Nat} {S : Fld}
theorem p_losses {sz : Nat} {st : Nat → Int32} (c : atC h a S) (hw : wfF S) (hr : atR h r sz st) (hd : a + 7 < r ∨ r + 3 < a) : Ok (f_X4_losses h r a) (fun o => o.1 = r + 3 ∧ (∀ i, i < 8 → hpI o.2 (r + 3) i = nI (lossN (sz, st) S i)) ∧ EqOff (FR r) h o.2 ∧ kR2 h o.2 r) := by
  have hF := FU_big
  have b5 := hw.2.2.2.2.1
  rw [f_X4_losses, i0]
  refine okl (f_X4_losses_2 r a) 8 (fun j h2 => (∀ i, i < j → hpI h2 (r + 3) i = nI (lossN (sz, st) S i)) ∧ EqOff (FR r) h h2 ∧ kR2 h h2 r) _ (fun n j h2 hj ⟨d1, d2, d3⟩ kk => ?_) (fun n h2 ⟨d1, d2, d3⟩ => ?_) 8 FU 0 h (by omega) (by omega) ⟨fun i hi => by omega, EqOff.rf, kR2.rf⟩
  · have r2 := hr.keep2 d2.2.2.2.1 d3
    obtain ⟨k1, k2, k3, k4, k5, k6, k7⟩ := r2.1
    simp only [f_X4_losses_2]
    refine ok_lt (fun k2' ek => ?_)
    subst ek
    simp (disch := omega) only [i8, nI_le0, k4, k7, nz_t, gdT, inb_nI, ix_nI]
    rw [if_neg (by omega)]
    refine ok_lt (fun h7 e7 => ?_)
    have o7 : EqOff (FR r) h2 h7 := by rw [e7]; exact EqOff.uI (by unfold FR; omega)
    have t7 : kR2 h2 h7 r := by rw [e7]; exact ⟨by rw [hpI_upI, if_neg (by omega)], fun k => by rw [hpI_upI, if_neg (by omega)], rfl⟩
    have v7 : ∀ i, i < j → hpI h7 (r + 3) i = nI (lossN (sz, st) S i) := fun i hi => by rw [e7, hpI_upI, if_neg (by omega)]; exact d1 i hi
    have v8 : hpI h7 (r + 3) j = 0 := by rw [e7, hpI_upI, if_pos ⟨rfl, rfl⟩]
    clear e7
    have c7 : atC h7 a S := (c.keep d2 (fun x z1 z2 z3 => by unfold FR at z3; omega)).keep o7 (fun x z1 z2 z3 => by unfold FR at z3; omega)
    have r7 := r2.keep2 o7.2.2.2.1 t7
    have fin : ∀ h3, (∀ i, i < j + 1 → hpI h3 (r + 3) i = nI (lossN (sz, st) S i)) → EqOff (FR r) h7 h3 → kR2 h7 h3 r → Ok (f_X4_losses_47 r a (f_X4_losses_2 r a n) h3 (nI j)) _ := fun h3 z1 z2 z3 => by
      rw [f_X4_losses_47, i1, nI_add]
      exact kk h3 ⟨z1, d2.tr (o7.tr z2), d3.tr (t7.tr z3)⟩
    simp (disch := omega) only [p_isOn c7 hw, bd_s, nB_0]
    refine ok_if (fun q => fin h7 (fun i hi => ?_) EqOff.rf kR2.rf) (fun q => ?_)
    · by_cases e : i = j
      · subst e; rw [v8, lossN, q]; rfl
      · exact v7 i (by omega)
    · have q : onb S j = true := by simpa using q
      have hj2 : j < S.1 2 := by
        simp only [onb, Bool.and_eq_true, decide_eq_true_eq] at q; exact q.1
      rw [p_crossedBy c7 hw hj2, bd_s, p_bc, bd_s]
      refine ok_lt (fun h12 e12 => ?_)
      have o12 : EqOff (FR r) h7 h12 := by rw [e12]; exact EqOff.uI (by unfold FR; omega)
      have t12 : kR2 h7 h12 r := by rw [e12]; exact ⟨by rw [hpI_upI, if_neg (by omega)], fun k => by rw [hpI_upI, if_neg (by omega)], rfl⟩
      have c12 : atC h12 a S := c7.keep o12 (fun x z1 z2 z3 => by unfold FR at z3; omega)
      have r12 := r7.keep2 o12.2.2.2.1 t12
      have v5 : hpI h12 r 5 = bc32 (bitsB (crs S j) (S.1 2)) := by rw [e12, hpI_upI, if_pos ⟨rfl, rfl⟩]
      have v3 : ∀ i, hpI h12 (r + 3) i = hpI h7 (r + 3) i := fun i => by rw [e12, hpI_upI, if_neg (by omega)]
      clear e12
      rw [r12.1.2.2.2.1, gd_t (nz_t (by omega))]
      refine ok_bd (p_loss c12 r12 hd (i := j) (by omega)) (fun o ⟨p1, p2, p3⟩ => ?_)
      have t7b : hpT o.2 (r + 3) = (2, 8) := by rw [p2.2.2.2.1]; exact r12.1.2.2.2.2.2.2
      rw [t7b, gd_t (inb_nI hj (by omega))]
      refine ok_lt (fun h17 e17 => ?_)
      have o17 : EqOff (FR r) h12 h17 := by rw [e17]; exact (p2.mono (fun x z => FS_FR z)).tr (EqOff.uI (by unfold FR; omega))
      have t17 : kR2 h12 h17 r := by
        rw [e17]
        exact ⟨by rw [hpI_upI, if_neg (by omega)]; exact p3.1 3 (by omega), fun k => by rw [hpI_upI, if_neg (by omega)]; exact p2.1 _ _ (by unfold FS; omega), p3.2⟩
      refine fin h17 (fun i hi => ?_) (o12.tr o17) (t12.tr t17)
      rw [e17, hpI_upI]
      by_cases e : i = j
      · subst e
        rw [if_pos ⟨rfl, rfl⟩, p1, v5, lossN, if_pos q]
        exact (dg_rng _).1
      · rw [if_neg (by omega), p2.1 _ _ (by unfold FS; omega), v3]
        exact v7 i (by omega)
  · have r2 := hr.keep2 d2.2.2.2.1 d3
    obtain ⟨k1, k2, k3, k4, k5, k6, k7⟩ := r2.1
    simp (disch := omega) only [f_X4_losses_2, lt_u, i8, k4, nz_t, gdT]
    rw [if_pos (Int32.le_refl _)]
    exact ok_some ⟨rfl, d1, d2, d3⟩
/-- where a camp's left side comes by the year -/
def sld (S : Fld) (i : Nat) : Nat := if 0 < S.2 5 i ∧ S.2 6 i % S.2 5 i = 0 then (if S.2 1 i + 1 + S.2 3 i ≤ S.1 1 then S.2 1 i + 1 else 0) else S.2 1 i
theorem p_slide (c : atC h a S) (b4 : S.1 1 ≤ 6) (b8 : ∀ j i, S.2 j i ≤ 99) {i : Nat} (hi : i < 8) : Ok (f_X0_slide h a (nI i)) (fun h1 => atC h1 a (setF S 1 i (sld S i)) ∧ EqOff (FC a) h h1) := by
  have h1 := b8 1 i; have h3 := b8 3 i; have h5 := b8 5 i; have h6 := b8 6 i
  have non : sld S i = S.2 1 i → Ok (some h) (fun h1 => atC h1 a (setF S 1 i (sld S i)) ∧ EqOff (FC a) h h1) := fun e => ok_some ⟨c.ext (fun _ _ => rfl) (fun j k _ _ => by
    simp only [setF]; split
    · rename_i q; obtain ⟨rfl, rfl⟩ := q; exact e.symm
    · rfl), EqOff.rf⟩
  simp (disch := omega) only [f_X0_slide, bd_s, lt_u, nB_0, nB_00, nz_t, gdT, inb_nI, ix_nI, nI_le0, nI_lt0, nI_eq0, nI_add, pk_mul, i0, i1, i2, i3, c.q0, c.q1, c.q2, c.q3, c.q4, c.r5, c.r6, c.r7, c.r8, c.r9, c.r10, c.r11, c.t1, c.t2, c.t3, c.t4, c.t5, c.t6, c.t7, c.v0, c.v1, c.v2, c.v3, c.v4, c.v5, c.v6]
  by_cases q : 0 < S.2 5 i
  · have e : nz32 (nI (S.2 5 i)) = true := decide_eq_true (nI_ne0 (by omega) (by omega))
    rw [if_neg (by omega), e, gdT, rm32, pk_rem (by omega) (by omega) (by omega)]
    have hm : S.2 6 i % S.2 5 i < S.2 5 i := Nat.mod_lt _ q
    simp (disch := omega) only [nI_eq0]
    by_cases q2 : S.2 6 i % S.2 5 i = 0
    · rw [if_pos q2]
      simp (disch := omega) only [f_X0_slide_52, f_X0_slide_74, bd_s, lt_u, nB_0, nB_00, nz_t, gdT, inb_nI, ix_nI, nI_le0, nI_lt0, nI_eq0, nI_add, pk_mul, i0, i1, i2, i3, c.q0, c.q1, c.q2, c.q3, c.q4, c.r5, c.r6, c.r7, c.r8, c.r9, c.r10, c.r11, c.t1, c.t2, c.t3, c.t4, c.t5, c.t6, c.t7, c.v0, c.v1, c.v2, c.v3, c.v4, c.v5, c.v6]
      by_cases q3 : S.1 1 < S.2 1 i + 1 + S.2 3 i
      · rw [if_pos q3, if_pos rfl]
        refine ok_some ⟨?_, eoC (by omega)⟩
        rw [sld, if_pos ⟨q, q2⟩, if_neg (by omega)]; exact c.w1
      · rw [if_neg q3, if_neg (by decide)]
        refine ok_some ⟨?_, eoC (by omega)⟩
        rw [sld, if_pos ⟨q, q2⟩, if_pos (by omega)]; exact c.w1
    · rw [if_neg q2]
      exact non (by rw [sld, if_neg (fun z => q2 z.2)])
  · rw [if_pos (by omega)]
    exact non (by rw [sld, if_neg (fun z => q z.1)])
end YEARS
