/-! rules: the class reads a whole text -/
def rdG (X : List Int32) : Nat ⊕ RE := if X.length = 0 then .inr nE else match (pX X (min X.length 40) 4 0).2 with
  | none => .inl (pX X (min X.length 40) 4 0).1
  | some E => if (pX X (min X.length 40) 4 0).1 = min X.length 40 ∧ X.length ≤ 40 then .inr E else .inl (pX X (min X.length 40) 4 0).1
def sp_rule (A : Ast) : Int32 × Ast := match rdG (aX A) with
  | .inl b => (-1 - nI b, wX A [])
  | .inr E => (0, wE (wX A []) E)
theorem ok_and {α : Type} {x : Option α} {P Q : α → Prop} (p : Ok x P) (q : Ok x Q) : Ok x (fun o => P o ∧ Q o) := by
  obtain ⟨o, e1, z1⟩ := p
  obtain ⟨o2, e2, z2⟩ := q
  have : o = o2 := by rw [e1] at e2; exact Option.some.inj e2
  subst this
  exact ⟨o, e1, z1, z2⟩
section CREADA
variable {h h1 : Hp} {A : Ast}
theorem xRf_n : ∀ q, q ∈ xRf → q.1 ≠ 161 := by decide
/-- what a call with the reader leaves alone -/
def FrN (h h1 : Hp) : Prop := Ag h h1 202 (hpN h) ∧ hpN h1 = hpN h
theorem FrN.of (e : EqOff FX h h1) : FrN h h1 := ⟨e.ag (fun a z1 z2 z => by unfold FX at z; omega), e.2.2.2.2⟩
theorem FrN.tr {h2 : Hp} (a : FrN h h1) (b : FrN h1 h2) : FrN h h2 := ⟨a.1.tr (by rw [← a.2]; exact b.1), b.2.trans a.2⟩
theorem RC.u161 (c : RC h A) (eI : hpI h1 = hpI h) (eL : hpL h1 = hpL h) (eT : hpT h1 = hpT h) (eR : ∀ a k, a ≠ 161 → hpR h1 a k = hpR h a k) : RC h1 A := by
  have g1 : Ag h h1 1 160 := fun a z1 z2 => ⟨fun k => by rw [eI], fun k => by rw [eL], fun k => eR a k (by omega), by rw [eT]⟩
  have g2 : Ag h h1 162 201 := fun a z1 z2 => ⟨fun k => by rw [eI], fun k => by rw [eL], fun k => eR a k (by omega), by rw [eT]⟩
  obtain ⟨⟨⟨a1, a2⟩, a3, a4, a5, a6⟩, c2, c3, c4, c5, ⟨b, k1, k2, k3⟩, ⟨sz, st, r1, r2⟩, c8, c9⟩ := c
  exact ⟨⟨⟨fun q hq => by rw [eR _ _ (xRf_n q hq)]; exact a1 q hq, fun q hq => by rw [eT]; exact a2 q hq⟩, a3.ag g1 (by omega) (by omega), a4.ag g1 (by omega) (by omega), a5.ag g1 (by omega) (by omega), fun k hk => (a6 k hk).ag g2 (by omega) (by omega)⟩, c2.ag g1 (by omega) (by omega), c3.ag g1 (by omega) (by omega), c4.ag g1 (by omega) (by omega), c5.ag g1 (by omega) (by omega), ⟨b, k1, by rw [eI]; exact k2, fun k hk => ⟨(k3 k hk).1, fun T hT => ((k3 k hk).2 T hT).ag g2 (by omega) (by omega)⟩⟩, ⟨sz, st, r1.ag g1 (by omega) (by omega), r2⟩, c8.ag g2 (by omega) (by omega), c9.ag g2 (by omega) (by omega)⟩
def rdQ (R : Nat ⊕ RE) (o : Int32 × Hp) : Prop := match R with
  | .inl b => o.1 = nI b ∧ b ≤ 40
  | .inr E => o.1 = -1 ∧ atRE o.2 157 E
theorem c_read (c : RC h A) : Ok (f_X5_read h 161 2 157) (fun o => rdQ (rdG (aX A)) o ∧ RC o.2 A ∧ FrN h o.2) := by
  rw [f_X5_read]
  refine ok_lt (fun h1 e1 => ok_lt (fun h2 e2 => ?_))
  have c2 : RC h2 A := c.u161 (by rw [e2, e1]; rfl) (by rw [e2, e1]; rfl) (by rw [e2, e1]; rfl) (fun a k ha => by rw [e2, e1, hpR_upR, if_neg (fun z => ha z.1), hpR_upR, if_neg (fun z => ha z.1)])
  have r20 : hpR h2 161 0 = 2 := by rw [e2, e1, hpR_upR, if_neg (by omega), hpR_upR, if_pos ⟨rfl, rfl⟩]
  have r21 : hpR h2 161 1 = 157 := by rw [e2, hpR_upR, if_pos ⟨rfl, rfl⟩]
  have f2 : FrN h h2 := ⟨fun a z1 z2 => ⟨fun k => by rw [e2, e1]; rfl, fun k => by rw [e2, e1]; rfl, fun k => by rw [e2, e1, hpR_upR, if_neg (by omega), hpR_upR, if_neg (by omega)], by rw [e2, e1]; rfl⟩, by rw [e2, e1]; rfl⟩
  clear e1 e2
  refine ok_lt (fun h3 e3 => ok_lt (fun v4 e4 => ok_lt (fun h5 e5 => ?_)))
  have hl := c2.x.2.2.2.2.1
  have q3 : hpI h3 2 1 = nI (aX A).length := by rw [e3, hpI_upI, if_neg (by omega)]; exact c2.x.2.2.2.1
  rw [q3, show (40 : Int32) = nI 40 by decide, mn_9 (by omega) (by omega)] at e4
  have eo : EqOff (fun x => x = 161) h2 h5 := by rw [e5, e3]; exact (EqOff.uI (F := fun x => x = 161) (a := 161) rfl).tr (EqOff.uI (F := fun x => x = 161) (a := 161) rfl)
  have c5 : RC h5 A := c2.scr (eo.mono (fun x z => by unfold Fs; omega))
  have f5 : FrN h h5 := f2.tr (FrN.of (eo.mono (fun x z => by unfold FX; omega)))
  have r50 : hpR h5 161 0 = 2 := by rw [eo.2.2.1]; exact r20
  have r51 : hpR h5 161 1 = 157 := by rw [eo.2.2.1]; exact r21
  have i52 : hpI h5 161 2 = nI 0 := by rw [e5, hpI_upI, if_neg (by omega), e3, hpI_upI, if_pos ⟨rfl, rfl⟩]; rfl
  have i53 : hpI h5 161 3 = nI (min (aX A).length 40) := by rw [e5, hpI_upI, if_pos ⟨rfl, rfl⟩, e4]
  clear e3 e4 e5 eo
  rw [c5.x.2.2.2.1]
  unfold rdG
  refine ok_if (fun w => ?_) (fun w => ?_)
  · have w0 : (aX A).length = 0 := by rw [i0, nI_eq (by omega) (by omega)] at w; exact w
    rw [if_pos w0]
    refine ok_bd (p_putNone c5.1.2.2.2.1) (fun h12 ⟨z1, z2⟩ => ok_some ⟨⟨rfl, z1⟩, c5.scr (z2.mono (fun x z => by unfold FR at z; unfold Fs; omega)), f5.tr (FrN.of (z2.mono (FR_FX (by omega) (by omega))))⟩)
  · have w0 : ¬ (aX A).length = 0 := fun z => w (by rw [z]; rfl)
    rw [if_neg w0]
    refine ok_bd (p_rstart c5.1.2.2.2.1) (fun h7 ⟨z1, z2⟩ => ?_)
    have c7 : RC h7 A := c5.scr (z2.mono (fun x z => by unfold FR at z; unfold Fs; omega))
    have f7 : FrN h h7 := f5.tr (FrN.of (z2.mono (FR_FX (by omega) (by omega))))
    have k : ∀ q, hpI h7 161 q = hpI h5 161 q := fun q => z2.1 _ _ (fun z => by unfold FR at z; omega)
    have he : min (aX A).length 40 ≤ (aX A).length := Nat.min_le_left _ _
    have h40 : min (aX A).length 40 ≤ 40 := Nat.min_le_right _ _
    generalize hee : min (aX A).length 40 = e at he h40 i53
    have r7 : RdC h7 (aX A) e 0 0 (fun _ => 0) := ⟨⟨c7.x, by rw [z2.2.2.1]; exact r50, by rw [z2.2.2.1]; exact r51, by rw [k]; exact i53, he, h40⟩, by rw [k]; exact i52, Nat.zero_le _, z1⟩
    have kk := c_pX he 4 30 (by omega) (by omega) h7 0 0 _ r7 (by omega)
    rw [show nI (4 - 4) = (0 : Int32) by decide] at kk
    unfold f_X5_expression
    refine ok_bd kk (fun q z => ?_)
    obtain ⟨z3, z4⟩ := z
    have cq : RC q.2 A := c7.scr (z3.mono (fun x z => by unfold F5 at z; unfold Fs; omega))
    have fq : FrN h q.2 := f7.tr (FrN.of (z3.mono (fun x z => by unfold F5 at z; unfold FX; omega)))
    cases hE : (pX (aX A) e 4 0).2 with
    | none =>
      rw [hE] at z4
      obtain ⟨y1, p2, st2, y2⟩ := z4
      refine ok_t y1 ?_
      rw [f_X5_read_77, f_X5_read_78]
      exact ok_t rfl (ok_some ⟨⟨y2.2.1, by have := y2.2.2.1; omega⟩, cq, fq⟩)
    | some E =>
      rw [hE] at z4
      obtain ⟨y1, n, st2, y2, y3, y4, y5⟩ := z4
      have ya := y2.2.2.1
      simp only
      refine ok_f (by rw [y1]; decide) ?_
      rw [y2.2.1, y2.1.2.2.2.1, cq.x.2.2.2.1]
      refine ok_if (fun w1 => ?_) (fun w1 => ?_)
      · have w1' : (pX (aX A) e 4 0).1 = e := by rw [nI_eq (by omega) (by omega)] at w1; exact w1
        refine ok_if (fun w2 => ?_) (fun w2 => ?_)
        · have w2' : 40 < (aX A).length := by rw [show (40 : Int32) = nI 40 by decide, nI_ltI (by omega) (by omega)] at w2; exact w2
          rw [if_neg (fun z => by omega), f_X5_read_77, f_X5_read_78]
          exact ok_t rfl (ok_some ⟨⟨y2.2.1, by omega⟩, cq, fq⟩)
        · have w2' : ¬ 40 < (aX A).length := by rw [show (40 : Int32) = nI 40 by decide, nI_ltI (by omega) (by omega)] at w2; exact w2
          rw [if_pos ⟨w1', by omega⟩, f_X5_read_78]
          refine ok_f (by decide) (ok_some ⟨⟨rfl, _, st2, y2.2.2.2, ?_⟩, cq, fq⟩)
          rw [Nat.zero_add]
          exact Mn.rd y4 (by omega)
      · have w1' : ¬ (pX (aX A) e 4 0).1 = e := by rw [nI_eq (by omega) (by omega)] at w1; exact w1
        rw [if_neg (fun z => w1' z.1), f_X5_read_77, f_X5_read_78]
        exact ok_t rfl (ok_some ⟨⟨y2.2.1, by omega⟩, cq, fq⟩)
theorem p_copyR {E : RE} (s : shR h 153) (c : atRE h 157 E) : Ok (f_X4_copy h 153 157) (fun h1 => atRE h1 153 E ∧ EqOff (FR 153) h h1) := by
  obtain ⟨sz, st, c1, c2⟩ := c
  rw [f_X4_copy, c1.2.1]
  refine ok_lt (fun h1 e1 => ?_)
  have R1 : hpR h1 = hpR h := by rw [e1]; rfl
  have T1 : hpT h1 = hpT h := by rw [e1]; rfl
  have I1 : ∀ x y, hpI h1 x y = if x = 153 ∧ y = 3 then nI sz else hpI h x y := fun x y => by rw [e1]; exact hpI_upI
  have o1 : EqOff (FR 153) h h1 := by rw [e1]; exact EqOff.uI (by unfold FR; omega)
  rw [R1, T1, c1.1.2.1, s.2.1, c1.1.2.2.2.2.1, s.2.2.2.2.1, show ix (0 : Int32) = 0 by decide, show ix (40 : Int32) = 40 by decide]
  refine ok_gd (by decide) (ok_gd (by decide) (ok_gd (by decide) (ok_lt (fun h7 e7 => ok_some ?_))))
  have o7 : EqOff (FR 153) h h7 := o1.tr (by rw [e7]; exact EqOff.cp (by unfold FR; omega))
  refine ⟨⟨sz, st, ⟨?_, ?_, c1.2.2.1, fun i hi => ?_⟩, c2⟩, o7⟩
  · unfold shR
    rw [o7.2.2.1, o7.2.2.2.1]
    exact s
  · rw [e7, hpI_cpI, if_neg (by omega), I1, if_pos ⟨rfl, rfl⟩]
  · have := c1.2.2.1
    rw [e7, hpI_cpI, if_pos ⟨rfl, by omega, by omega⟩, I1, if_neg (by omega), Nat.zero_add, Nat.sub_zero]
    exact c1.2.2.2 i hi
theorem nI_n1 {b : Nat} (hb : b ≤ 1000) : ¬ nI b = -1 := fun z => by
  have e := congrArg (fun x => decide (x < (0 : Int32))) z
  simp only [show decide ((-1 : Int32) < 0) = true by decide, decide_eq_true_eq] at e
  rw [i0, nI_ltI (by omega) (by omega)] at e
  omega
theorem c_rule (c : RC h A) : Ok (f_X9_rule h 1) (fun o => o.1 = (sp_rule A).1 ∧ RC o.2 (sp_rule A).2 ∧ FrN h o.2) := by
  rw [f_X9_rule, c.s.r1_10, c.s.r1_0, c.s.r1_9]
  refine ok_gd (by decide) (ok_gd (by decide) (ok_gd (by decide) (ok_bd (c_read c) (fun q ⟨z1, z2, z3⟩ => ?_))))
  rw [z2.s.r1_0]
  refine ok_gd (by decide) (ok_lt (fun h10 e10 => ?_))
  have x := c_xclr z2
  rw [← e10] at x
  have f10 := z3.tr (FrN.of x.2)
  unfold sp_rule
  cases hR : rdG (aX A) with
  | inl b =>
    rw [hR] at z1
    obtain ⟨y1, y2⟩ := z1
    rw [y1]
    exact ok_f (nI_n1 (by omega)) (ok_some ⟨rfl, x.1, f10⟩)
  | inr E =>
    rw [hR] at z1
    obtain ⟨y1, y2⟩ := z1
    refine ok_t y1 ?_
    rw [x.1.s.r1_8, x.1.s.r1_9]
    have y3 : atRE h10 157 E := y2.keep (F := fun x => x = 2) (by rw [e10]; exact EqOff.uI rfl) (fun x z1 z2 => by unfold FR at z1; omega)
    obtain ⟨sz, st, r1, r2⟩ := x.1.r
    refine ok_gd (by decide) (ok_gd (by decide) (ok_bd (p_copyR r1.1 y3) (fun h16 ⟨u1, u2⟩ => ok_some ⟨rfl, x.1.rule u1 u2, f10.tr (FrN.of (u2.mono (FR_FX (by omega) (by omega))))⟩)))
end CREADA
