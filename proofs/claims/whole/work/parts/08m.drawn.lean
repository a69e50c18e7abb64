/-- the cells from lo to hi are as they were -/
def Ag (h h1 : Hp) (lo hi : Nat) : Prop := ∀ a, lo ≤ a → a ≤ hi → (∀ k, hpI h1 a k = hpI h a k) ∧ (∀ k, hpL h1 a k = hpL h a k) ∧ (∀ k, hpR h1 a k = hpR h a k) ∧ hpT h1 a = hpT h a
section AG
variable {h h1 : Hp} {lo hi : Nat}
theorem Ag.i (g : Ag h h1 lo hi) {a k : Nat} (h1' : lo ≤ a) (h2 : a ≤ hi) : hpI h1 a k = hpI h a k := (g a h1' h2).1 k
theorem Ag.l (g : Ag h h1 lo hi) {a k : Nat} (h1' : lo ≤ a) (h2 : a ≤ hi) : hpL h1 a k = hpL h a k := (g a h1' h2).2.1 k
theorem Ag.r (g : Ag h h1 lo hi) {a k : Nat} (h1' : lo ≤ a) (h2 : a ≤ hi) : hpR h1 a k = hpR h a k := (g a h1' h2).2.2.1 k
theorem Ag.t (g : Ag h h1 lo hi) {a : Nat} (h1' : lo ≤ a) (h2 : a ≤ hi) : hpT h1 a = hpT h a := (g a h1' h2).2.2.2
theorem shC.ag {a : Nat} (c : shC h a) (g : Ag h h1 lo hi) (x : lo ≤ a) (y : a + 7 ≤ hi) : shC h1 a := ⟨by rw [g.t (by omega) (by omega)]; exact c.1, fun j hj => ⟨by rw [g.r (by omega) (by omega)]; exact (c.2 j hj).1, by rw [g.t (by omega) (by omega)]; exact (c.2 j hj).2⟩⟩
theorem atC.ag {a : Nat} {S : Fld} (c : atC h a S) (g : Ag h h1 lo hi) (x : lo ≤ a) (y : a + 7 ≤ hi) : atC h1 a S := ⟨c.1.ag g x y, fun k hk => by rw [g.i (by omega) (by omega)]; exact c.2.1 k hk, fun j i hj hi' => by rw [g.i (by omega) (by omega)]; exact c.2.2 j i hj hi'⟩
theorem atX.ag {a : Nat} {l : List Int32} (c : atX h a l) (g : Ag h h1 lo hi) (x : lo ≤ a) (y : a + 1 ≤ hi) : atX h1 a l := ⟨by rw [g.t (by omega) (by omega)]; exact c.1, by rw [g.r (by omega) (by omega)]; exact c.2.1, by rw [g.t (by omega) (by omega)]; exact c.2.2.1, by rw [g.i (by omega) (by omega)]; exact c.2.2.2.1, c.2.2.2.2.1, fun i hi' => by rw [g.i (by omega) (by omega)]; exact c.2.2.2.2.2 i hi'⟩
theorem atT.ag {a : Nat} {l : List Int64} (c : atT h a l) (g : Ag h h1 lo hi) (x : lo ≤ a) (y : a + 1 ≤ hi) : atT h1 a l := ⟨by rw [g.t (by omega) (by omega)]; exact c.1, by rw [g.r (by omega) (by omega)]; exact c.2.1, by rw [g.t (by omega) (by omega)]; exact c.2.2.1, by rw [g.i (by omega) (by omega)]; exact c.2.2.2.1, c.2.2.2.2.1, fun i hi' => by rw [g.l (by omega) (by omega)]; exact c.2.2.2.2.2 i hi'⟩
theorem atN.ag {a m : Nat} {l : List (Int32 × Int32 × Int32)} (c : atN h a m l) (g : Ag h h1 lo hi) (x : lo ≤ a) (y : a + 3 ≤ hi) : atN h1 a m l := ⟨by rw [g.t (by omega) (by omega)]; exact c.1, fun j hj => ⟨by rw [g.r (by omega) (by omega)]; exact (c.2.1 j hj).1, by rw [g.t (by omega) (by omega)]; exact (c.2.1 j hj).2⟩, by rw [g.i (by omega) (by omega)]; exact c.2.2.1, c.2.2.2.1, c.2.2.2.2.1, fun i hi' => by rw [g.i (by omega) (by omega), g.i (by omega) (by omega), g.i (by omega) (by omega)]; exact c.2.2.2.2.2 i hi'⟩
theorem atP.ag {p : Nat} {l : List Fld} (c : atP h p l) (g : Ag h h1 lo hi) (x : lo ≤ p) (y : p + 121 ≤ hi) : atP h1 p l := by
  obtain ⟨⟨s1, s2, s3, s4⟩, c2, c3, f, c4, c5, c6⟩ := c
  refine ⟨⟨by rw [g.t (by omega) (by omega)]; exact s1, by rw [g.r (by omega) (by omega)]; exact s2, by rw [g.t (by omega) (by omega)]; exact s3, fun k hk => ⟨by rw [g.r (by omega) (by omega)]; exact (s4 k hk).1, (s4 k hk).2.ag g (by omega) (by omega)⟩⟩, c2, by rw [g.i (by omega) (by omega)]; exact c3, f, c4, by rw [g.i (by omega) (by omega)]; exact c5, fun i hi' => ?_⟩
  have := Nat.mod_lt (f + i) (show 0 < 15 by omega)
  exact (c6 i hi').ag g (by omega) (by omega)
theorem shR.ag {r : Nat} (c : shR h r) (g : Ag h h1 lo hi) (x : lo ≤ r) (y : r + 3 ≤ hi) : shR h1 r := by
  obtain ⟨s1, s2, s3, s4, s5, s6, s7⟩ := c
  exact ⟨by rw [g.t (by omega) (by omega)]; exact s1, by rw [g.r (by omega) (by omega)]; exact s2, by rw [g.r (by omega) (by omega)]; exact s3, by rw [g.r (by omega) (by omega)]; exact s4, by rw [g.t (by omega) (by omega)]; exact s5, by rw [g.t (by omega) (by omega)]; exact s6, by rw [g.t (by omega) (by omega)]; exact s7⟩
theorem atR.ag {r sz : Nat} {st : Nat → Int32} (c : atR h r sz st) (g : Ag h h1 lo hi) (x : lo ≤ r) (y : r + 3 ≤ hi) : atR h1 r sz st := ⟨c.1.ag g x y, by rw [g.i (by omega) (by omega)]; exact c.2.1, c.2.2.1, fun i hi' => by rw [g.i (by omega) (by omega)]; exact c.2.2.2 i hi'⟩
theorem xRf_b : ∀ q, q ∈ xRf → 1 ≤ q.1 ∧ q.1 ≤ 201 := by decide
theorem xTy_b : ∀ q, q ∈ xTy → 1 ≤ q.1 ∧ q.1 ≤ 201 := by decide
theorem RC.ag {A : Ast} (c : RC h A) (g : Ag h h1 1 201) : RC h1 A := by
  obtain ⟨⟨⟨a1, a2⟩, a3, a4, a5, a6⟩, c2, c3, c4, c5, ⟨b, k1, k2, k3⟩, ⟨sz, st, r1, r2⟩, c8, c9⟩ := c
  refine ⟨⟨⟨fun q hq => ?_, fun q hq => ?_⟩, a3.ag g (by omega) (by omega), a4.ag g (by omega) (by omega), a5.ag g (by omega) (by omega), fun k hk => (a6 k hk).ag g (by omega) (by omega)⟩, c2.ag g (by omega) (by omega), c3.ag g (by omega) (by omega), c4.ag g (by omega) (by omega), c5.ag g (by omega) (by omega), ⟨b, k1, by rw [g.i (by omega) (by omega)]; exact k2, fun k hk => ⟨(k3 k hk).1, fun T hT => ((k3 k hk).2 T hT).ag g (by omega) (by omega)⟩⟩, ⟨sz, st, r1.ag g (by omega) (by omega), r2⟩, c8.ag g (by omega) (by omega), c9.ag g (by omega) (by omega)⟩
  · rw [g.r (xRf_b q hq).1 (xRf_b q hq).2]; exact a1 q hq
  · rw [g.t (xTy_b q hq).1 (xTy_b q hq).2]; exact a2 q hq
theorem mFl_b : ∀ x, x ∈ mFl → x.2.1 ≤ 27 := by decide
theorem RM.ag {A : Ast} {m n : Nat} (c : RM h m A n) (g : Ag h h1 m (m + 27)) : RM h1 m A n := by
  obtain ⟨⟨⟨⟨s1, s2⟩, g1, g2⟩, w1, w⟩, ⟨x1, x2, x3⟩, ⟨t1, t2, t3⟩, ⟨e1, cl, code, e2, e3, e4⟩, ⟨p1, p2, p3⟩, ⟨ch, k1, k2, k3⟩, ⟨m1, m2, m3⟩, ⟨n1, n2, n3⟩⟩ := c
  have gi : ∀ {a k : Nat}, m ≤ a → a ≤ m + 27 → hpI h1 a k = hpI h a k := fun z1 z2 => g.i z1 z2
  have fi : ∀ {j : Nat}, j ≤ 27 → hpI h1 (m + j) = hpI h (m + j) := fun hj => funext (fun k => gi (by omega) (by omega))
  refine ⟨⟨⟨⟨by rw [g.t (by omega) (by omega)]; exact s1, fun x hx => ?_⟩, by rw [gi (by omega) (by omega)]; exact g1, by rw [gi (by omega) (by omega)]; exact g2⟩, by rw [g.t (by omega) (by omega)]; exact w1, ?_⟩, ⟨by rw [gi (by omega) (by omega)]; exact x1, x2, by rw [fi (by omega)]; exact x3⟩, ⟨by rw [gi (by omega) (by omega)]; exact t1, t2, fun i hi' => by rw [g.l (by omega) (by omega)]; exact t3 i hi'⟩, ⟨by rw [gi (by omega) (by omega)]; exact e1, cl, code, by rw [gi (by omega) (by omega)]; exact e2, by rw [fi (by omega)]; exact e3, e4⟩, ⟨by rw [gi (by omega) (by omega)]; exact p1, p2, by rw [fi (by omega)]; exact p3⟩, ⟨ch, k1, by rw [gi (by omega) (by omega)]; exact k2, by rw [fi (by omega), fi (by omega), fi (by omega)]; exact k3⟩, ⟨by rw [gi (by omega) (by omega)]; exact m1, m2, by rw [fi (by omega), fi (by omega), fi (by omega)]; exact m3⟩, ⟨by rw [gi (by omega) (by omega)]; exact n1, n2, by rw [fi (by omega), fi (by omega)]; exact n3⟩⟩
  · have := mFl_b x hx
    rw [g.r (by omega) (by omega), g.t (by omega) (by omega)]; exact s2 x hx
  · rw [fi (by omega)]; exact w
theorem EqOff.ag {F : Nat → Prop} (e : EqOff F h h1) (hF : ∀ a, lo ≤ a → a ≤ hi → ¬ F a) : Ag h h1 lo hi := fun a z1 z2 => ⟨fun k => e.1 a k (hF a z1 z2), fun k => e.2.1 a k (hF a z1 z2), fun k => by rw [e.2.2.1], by rw [e.2.2.2.1]⟩
theorem Ag.tr {h2 : Hp} (a : Ag h h1 lo hi) (b : Ag h1 h2 lo hi) : Ag h h2 lo hi := fun x z1 z2 => ⟨fun k => (b.i z1 z2).trans (a.i z1 z2), fun k => (b.l z1 z2).trans (a.l z1 z2), fun k => (b.r z1 z2).trans (a.r z1 z2), (b.t z1 z2).trans (a.t z1 z2)⟩
theorem Ag.sub {l2 h2 : Nat} (a : Ag h h1 lo hi) (x : lo ≤ l2) (y : h2 ≤ hi) : Ag h h1 l2 h2 := fun q z1 z2 => a q (by omega) (by omega)
theorem Ag.new {t : Nat × Nat} : Ag h (hpNew h t) 0 (hpN h) := fun a _ z2 => ⟨fun k => by simp only [hpI, hpNew]; rw [if_neg (by omega)], fun k => by simp only [hpL, hpNew]; rw [if_neg (by omega)], fun k => by simp only [hpR, hpNew]; rw [if_neg (by omega)], by simp only [hpT, hpNew]; rw [if_neg (by omega)]⟩
end AG
/-- what a call of the class leaves alone: all cells but its own, and perhaps new ones -/
def FrX (h h1 : Hp) : Prop := Ag h h1 202 (hpN h) ∧ hpN h ≤ hpN h1 ∧ hpN h1 ≤ hpN h + 1
theorem FrX.of {h h1 : Hp} (e : EqOff FX h h1) : FrX h h1 := ⟨e.ag (fun a z1 z2 z => by unfold FX at z; omega), by rw [e.2.2.2.2]; omega, by rw [e.2.2.2.2]; omega⟩
/-! years drawn by a seed: the seed, the field, how many are lost -/
abbrev Dw : Type := Int32 × Fld × Int32
def dwS (E : RE) (d : Dw) : Dw :=
  if drV d.1 4 < 2 then (drw d.1, yearS (lossE E) d.2.1, d.2.2 + nI (goneN (lossE E) d.2.1 (d.2.1.1 2)))
  else if drV d.1 4 = 2 then (drw (drw (drw (drw (drw d.1)))), (pitchS d.2.1 (drV (drw d.1) (nI (ncl d.2.1))) (1 + drV (drw (drw d.1)) 3) (1 + drV (drw (drw (drw d.1))) 3) (1 + drV (drw (drw (drw (drw d.1)))) 9) 0).2, d.2.2)
  else if d.2.1.1 2 = 0 then (drw d.1, d.2.1, d.2.2)
  else (drw (drw (drw d.1)), (moveS d.2.1 (drV (drw d.1) (nI (d.2.1.1 2))) (drV (drw (drw d.1)) 4)).2, d.2.2)
def itD (E : RE) (d : Dw) : Nat → Dw
  | 0 => d
  | n + 1 => itD E (dwS E d) n
def sp_drawn (A : Ast) (x y : Int32) : Int32 × Ast := match numIn (nI 1) (nI 60) y with
  | some n => (onC (itD (aE A) (x, aS A, 0) n).2.1, wT A [(nI ((itD (aE A) (x, aS A, 0) n).2.1.1 2)).toInt64, (itD (aE A) (x, aS A, 0) n).2.2.toInt64])
  | none => (-1, A)
def dwB (S : Fld) (i : Nat) (d : Dw) : Prop := wfF d.2.1 ∧ d.2.1.1 0 = S.1 0 ∧ d.2.1.1 1 = S.1 1 ∧ d.2.1.1 3 ≤ S.1 3 + i
theorem dwB.next {S : Fld} {E : RE} {i : Nat} {d : Dw} (hy : S.1 3 < 900000) (hi : i < 1000) (b : dwB S i d) : dwB S (i + 1) (dwS E d) := by
  obtain ⟨b1, b2, b3, b4⟩ := b
  unfold dwS
  split
  · refine ⟨wf_year b1 (by omega), b2, b3, ?_⟩
    show d.2.1.1 3 + 1 ≤ _
    omega
  · split
    · have := wf_pitch b1 (drV (drw d.1) (nI (ncl d.2.1))) (1 + drV (drw (drw d.1)) 3) (1 + drV (drw (drw (drw d.1))) 3) (1 + drV (drw (drw (drw (drw d.1)))) 9) 0
      exact ⟨this.1, this.2.1.trans b2, this.2.2.1.trans b3, by simp only; rw [this.2.2.2]; omega⟩
    · split
      · exact ⟨b1, b2, b3, by simp only; omega⟩
      · have := wf_move b1 (drV (drw d.1) (nI (d.2.1.1 2))) (drV (drw (drw d.1)) 4)
        exact ⟨this.1, this.2.1.trans b2, this.2.2.1.trans b3, by simp only; rw [this.2.2.2]; omega⟩
section DRAWN
variable {h h1 : Hp} {A : Ast} {m n : Nat}
/-- what drawing keeps of the class -/
def dRC (h : Hp) (A : Ast) (a : Nat) (d : Dw) : Prop := RC h A ∧ atC h 22 d.2.1 ∧ hpI h a 0 = d.1
theorem c_of (c : RC h A) {T : Fld} {a : Nat} {s : Int32} (t : atC h 22 T) (hs : hpI h a 0 = s) (ha : 201 < a) (x : Int32) : Ok (f_X1_of h a x) (fun o => o.1 = drV s x ∧ (RC o.2 A ∧ atC o.2 22 T ∧ hpI o.2 a 0 = drw s) ∧ EqOff (fun q => FX q ∨ q = a) h o.2) :=
  ok_mono (p_of hs) (fun o ⟨z1, z2, z3⟩ => ⟨z1, ⟨c.ag (z3.ag (fun q y1 y2 z => by omega)), t.keep z3 (fun q y1 y2 y3 => by omega), z2⟩, z3.mono (fun q z => Or.inr z)⟩)
theorem c_dloop {A : Ast} (hy : (aS A).1 3 < 900000) {a3 k : Nat} (hk : k ≤ 60) (ha : 201 < a3) (x : Int32) : ∀ d q i h2 D, i + d = k → d < q → dRC h2 A a3 D → dwB (aS A) i D → Ok (f_X9_drawn_39 1 x (nI k) q h2 a3 D.2.2 (nI i)) (fun o => o.1 = onC (itD (aE A) D d).2.1 ∧ RC o.2 (wT A [(nI ((itD (aE A) D d).2.1.1 2)).toInt64, (itD (aE A) D d).2.2.toInt64]) ∧ EqOff (fun q => FX q ∨ q = a3) h2 o.2) := by
  intro d
  induction d with
  | zero =>
    intro q i h2 D hi hq d1 d3
    obtain ⟨q, rfl⟩ : ∃ k, q = k + 1 := ⟨q - 1, by omega⟩
    have hi : i = k := by omega
    subst hi
    obtain ⟨e1, e2, e3⟩ := d1
    rw [itD]
    simp only [f_X9_drawn_39]
    refine ok_lt (fun k2 ek2 => ?_)
    clear ek2
    rw [e1.s.r1_1]
    refine ok_t (Int32.le_refl _) (ok_gd (by decide) (ok_bd (c_t0 e1) (fun h14 ⟨c14, o14⟩ => ?_)))
    have t14 := AtC.keep9 e2 o14
    rw [c14.s.r1_1, c14.s.r1_4, t14.q2]
    refine ok_gd (by decide) (ok_gd (by decide) (ok_bd (c_t1 c14 (by simp [aT, wT, mkA]) _) (fun h19 ⟨c19, o19⟩ => ?_)))
    have t19 := AtC.keep9 t14 o19
    rw [c19.s.r1_1]
    refine ok_gd (by decide) (ok_bd (c_t1 c19 (by simp [aT, wT, mkA]) _) (fun h22 ⟨c22, o22⟩ => ?_))
    have t22 := AtC.keep9 t19 o22
    rw [c22.s.r1_4, p_onCount t22 d3.1, bd_s]
    exact ok_gd (by decide) (ok_some ⟨rfl, c22, ((F24y o14).tr ((F24y o19).tr (F24y o22))).mono (fun q z => Or.inl z)⟩)
  | succ d ih =>
    intro q i h2 D hi hq d1 d3
    obtain ⟨q, rfl⟩ : ∃ k, q = k + 1 := ⟨q - 1, by omega⟩
    obtain ⟨sd, T, v⟩ := D
    obtain ⟨e1, e2, e3⟩ := d1
    have e2 : atC h2 22 T := e2
    have e3 : hpI h2 a3 0 = sd := e3
    have wT' : wfF T := d3.1
    have b5 := wT'.2.2.2.2.1
    have nx := d3.next (E := aE A) hy (by omega)
    show Ok (f_X9_drawn_39 1 x (nI k) (q + 1) h2 a3 v (nI i)) _
    simp only [f_X9_drawn_39, f_X9_drawn_129]
    refine ok_lt (fun k2 ek2 => ?_)
    subst ek2
    refine ok_f (by rw [nI_leI (by omega) (by omega)]; omega) (ok_bd (c_of e1 e2 e3 ha 4) (fun o ⟨y1, ⟨y2, y3, y4⟩, y5⟩ => ?_))
    rw [y1]
    have fin : ∀ h3 d', dwS (aE A) (sd, T, v) = d' → dRC h3 A a3 d' → EqOff (fun q => FX q ∨ q = a3) h2 h3 → Ok (lt (nI i + 1) fun v45 => f_X9_drawn_39 1 x (nI k) q h3 a3 d'.2.2 v45) (fun o => o.1 = onC (itD (aE A) (sd, T, v) (d + 1)).2.1 ∧ RC o.2 (wT A [(nI ((itD (aE A) (sd, T, v) (d + 1)).2.1.1 2)).toInt64, (itD (aE A) (sd, T, v) (d + 1)).2.2.toInt64]) ∧ EqOff (fun q => FX q ∨ q = a3) h2 o.2) := fun h3 d' ed z1 z2 => by
      rw [lt_u, i1, nI_add, itD, ed]
      rw [ed] at nx
      exact ok_mono (ih q (i + 1) h3 d' (by omega) (by omega) z1 nx) (fun o ⟨x1, x2, x3⟩ => ⟨x1, x2, z2.tr x3⟩)
    refine ok_if (fun w => ok_if (fun w2 => ?_) (fun w2 => ?_)) (fun w => ?_)
    · have ed : dwS (aE A) (sd, T, v) = (drw (drw (drw (drw (drw sd)))), (pitchS T (drV (drw sd) (nI (ncl T))) (1 + drV (drw (drw sd)) 3) (1 + drV (drw (drw (drw sd))) 3) (1 + drV (drw (drw (drw (drw sd)))) 9) 0).2, v) := by
        unfold dwS; simp only; rw [if_neg (Int32.not_lt.mpr w), if_pos w2]
      rw [f_X9_pitchDrawn, y2.s.r1_4, p_cells y3, bd_s]
      refine ok_bd (ok_gd (by decide) (ok_bd (c_of y2 y3 y4 ha _) (fun o4 ⟨z1, ⟨z2, z3, z4⟩, z5⟩ => ok_bd (c_of z2 z3 z4 ha 3) (fun o5' ⟨x1, ⟨x2, x3, x4⟩, x5⟩ => ok_lt (fun v6 e6 => ok_bd (c_of x2 x3 x4 ha 3) (fun o7 ⟨u1, ⟨u2, u3, u4⟩, u5⟩ => ok_lt (fun v8 e8 => ?_)))))) ) (P := fun h3 => dRC h3 A a3 (dwS (aE A) (sd, T, v)) ∧ EqOff (fun q => FX q ∨ q = a3) h2 h3) (fun h3 ⟨z1, z2⟩ => ?_)
      · rw [u2.s.r1_4]
        refine ok_gd (by decide) (ok_bd (c_of u2 u3 u4 ha 9) (fun o11 ⟨t1, ⟨t2, t3, t4⟩, t5⟩ => ?_))
        rw [t1, z1, e6, e8, x1, u1]
        refine ok_bd (p_pitchOn t3 wT' _ _ _ _ _) (fun o12 ⟨r1, r2, r3⟩ => ok_some ⟨?_, ?_⟩)
        · rw [ed]
          exact ⟨t2.scr (r3.mono (fun q z => by unfold FC at z; unfold Fs; omega)), r2, by rw [r3.1 _ _ (by unfold FC; omega)]; exact t4⟩
        · exact y5.tr (z5.tr (x5.tr (u5.tr (t5.tr (r3.mono (fun q z => Or.inl (FC_FX (by omega) (by omega) q z)))))))
      · have := fin h3 _ rfl z1 z2
        rw [ed] at this
        exact this
    · rw [y2.s.r1_4, y3.q2]
      refine ok_gd (by decide) (ok_if (fun w3 => ?_) (fun w3 => ?_))
      · rw [i0, nI_leI (by omega) (by omega)] at w3
        have ed : dwS (aE A) (sd, T, v) = (drw sd, T, v) := by
          unfold dwS; simp only; rw [if_neg (Int32.not_lt.mpr w), if_neg w2, if_pos (by omega)]
        exact fin o.2 _ ed ⟨y2, y3, y4⟩ y5
      · rw [i0, nI_leI (by omega) (by omega)] at w3
        have ed : dwS (aE A) (sd, T, v) = (drw (drw (drw sd)), (moveS T (drV (drw sd) (nI (T.1 2))) (drV (drw (drw sd)) 4)).2, v) := by
          unfold dwS; simp only; rw [if_neg (Int32.not_lt.mpr w), if_neg w2, if_neg (by omega)]
        refine ok_bd (c_of y2 y3 y4 ha _) (fun o4 ⟨z1, ⟨z2, z3, z4⟩, z5⟩ => ?_)
        rw [z2.s.r1_4]
        refine ok_gd (by decide) (ok_bd (c_of z2 z3 z4 ha 4) (fun o5' ⟨x1, ⟨x2, x3, x4⟩, x5⟩ => ?_))
        rw [z1, x1]
        refine ok_bd (p_move x3 wT' _ _) (fun o12 ⟨r1, r2, r3⟩ => fin o12.2 _ ed ⟨x2.scr (r3.mono (fun q z => by unfold FC at z; unfold Fs; omega)), r2, by rw [r3.1 _ _ (by unfold FC; omega)]; exact x4⟩ ?_)
        exact y5.tr (z5.tr (x5.tr (r3.mono (fun q z => Or.inl (FC_FX (by omega) (by omega) q z)))))
    · have ed : dwS (aE A) (sd, T, v) = (drw sd, yearS (lossE (aE A)) T, v + nI (goneN (lossE (aE A)) T (T.1 2))) := by
        unfold dwS; simp only; rw [if_pos (Int32.not_le.mp w)]
      rw [y2.s.r1_4, y2.s.r1_8]
      refine ok_gd (by decide) (ok_gd (by decide) (ok_bd (c_goBy y2 y3 wT') (fun o4 ⟨z1, z2, z3, z4⟩ => ?_)))
      rw [z1, lt_u]
      refine fin o4.2 _ ed ⟨z2, z3, ?_⟩ (y5.tr (z4.mono (fun q z => Or.inl z)))
      rw [z4.1 _ _ (by unfold FX; omega)]; exact y4
theorem c_drawn (c : RC h A) (a : WA A n) (hN : 201 ≤ hpN h) (x y : Int32) : Ok (f_X9_drawn h 1 x y) (fun o => o.1 = (sp_drawn A x y).1 ∧ RC o.2 (sp_drawn A x y).2 ∧ FrX h o.2) := by
  have hF := FU_big
  have hw := a.w
  have hy := a.y
  rw [f_X9_drawn, i1, show (60 : Int32) = nI 60 by decide]
  unfold sp_drawn
  have rfX : FrX h h := FrX.of EqOff.rf
  rcases numAlt (lo := 1) (hi := 60) (by omega) (by omega) y with ⟨e, q⟩ | ⟨k, e, rfl, g1, g2⟩
  · rw [e]
    refine ok_if (fun _ => ok_some ⟨rfl, c, rfX⟩) (fun q2 => ok_f (fun w => ?_) (ok_some ⟨rfl, c, rfX⟩))
    exact absurd (q.resolve_left q2) (Int32.not_lt.mpr w)
  · rw [e]
    refine ok_f (by rw [nI_ltI (by omega) (by omega)]; omega) (ok_t (by rw [nI_leI (by omega) (by omega)]; omega) ?_)
    refine ok_lt (fun a3 ea => ok_lt (fun h4 e4 => ?_))
    have n4 : hpN h4 = hpN h + 1 := by rw [e4]; rfl
    have ag4 : Ag h h4 0 (hpN h) := by rw [e4]; exact Ag.new
    have ha : 201 < a3 := by rw [ea]; omega
    have c4 : RC h4 A := c.ag (ag4.sub (by omega) hN)
    rw [f_X1_init]
    refine ok_bd (P := fun h5 => RC h5 A ∧ hpI h5 a3 0 = x ∧ EqOff (fun q => FX q ∨ q = a3) h4 h5) (ok_lt (fun h5 e5 => ok_some ?_)) (fun h5 ⟨c5, s5, o5⟩ => ?_)
    · have o5 : EqOff (fun q => q = a3) h4 h5 := by rw [e5]; exact EqOff.uI rfl
      exact ⟨c4.ag (o5.ag (fun q y1 y2 z => by omega)), by rw [e5, hpI_upI, if_pos ⟨rfl, rfl⟩], o5.mono (fun q z => Or.inr z)⟩
    · rw [c5.s.r1_4, c5.s.r1_2]
      refine ok_gd (by decide) (ok_gd (by decide) (ok_bd (c_copy c5 (a := 22) (by omega)) (fun h10 ⟨c10, b10, o10⟩ => ?_)))
      have s10 : hpI h10 a3 0 = x := by rw [o10.1 _ _ (by unfold FC; omega)]; exact s5
      refine ok_mono (c_dloop hy g2 ha x k FU 0 h10 (x, aS A, 0) (by omega) (by omega) ⟨c10, b10, s10⟩ ⟨hw, rfl, rfl, by simp only; omega⟩) (fun o ⟨z1, z2, z3⟩ => ⟨z1, z2, ?_⟩)
      have oo : EqOff (fun q => FX q ∨ q = a3) h4 o.2 := o5.tr ((o10.mono (fun q z => Or.inl (FC_FX (by omega) (by omega) q z))).tr z3)
      refine ⟨?_, by rw [oo.2.2.2.2, n4]; omega, by rw [oo.2.2.2.2, n4]; omega⟩
      exact (ag4.sub (by omega) (Nat.le_refl _)).tr (oo.ag (fun q y1 y2 z => by unfold FX at z; omega))
end DRAWN
