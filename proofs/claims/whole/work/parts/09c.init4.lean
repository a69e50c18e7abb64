section INIT4
variable {h h1 : Hp}
/-- cell 1 as it grows -/
def One (h : Hp) (R : Nat → Nat) (N : Nat) : Prop := hpN h = N ∧ hpT h 1 = (1, 9) ∧ (∀ q, hpI h 1 q = 0) ∧ ∀ q, hpR h 1 q = R q
def r1 (R : Nat → Nat) (k v : Nat) (q : Nat) : Nat := if q = k then v else R q
theorem ok_no {β : Type} {R : Nat → Nat} {b d k : Nat} {t : Nat × Nat} {f : Hp → Nat → Option Hp} {P : Hp → Prop} {K : Hp → Option β} {Q : β → Prop} (hb : 1 ≤ b) (c : One h R b) (hf : ∀ h2, Frs h2 (b + 1) t → Ok (f h2 (b + 1)) (fun h1 => P h1 ∧ hpN h1 = b + 1 + d ∧ Ag h2 h1 0 (b + 1 - 1))) (hk : ∀ h4, One h4 (r1 R k (b + 1)) (b + 1 + d) → Ag h h4 2 b → (∃ h3, P h3 ∧ Ag h3 h4 2 1000) → Ok (K h4) Q) : Ok (lt (hpN h + 1) fun a1 => lt (hpNew h t) fun h2 => (f h2 a1).bind fun q3 => lt (upR q3 1 k a1) fun h4 => K h4) Q := by
  obtain ⟨c1, c2, c3, c4⟩ := c
  refine ok_lt (fun a1 e1 => ok_lt (fun h2 e2 => ?_))
  have n := Frs.new (h := h) (t := t) c1
  rw [← e2] at n
  rw [c1] at e1
  subst e1
  refine ok_bd (hf h2 n.1) (fun h3 ⟨z1, z2, z3⟩ => ok_lt (fun h4 e4 => ?_))
  have g : Ag h h3 0 b := n.2.tr z3
  have eR : ∀ x q, hpR h4 x q = if x = 1 ∧ q = k then b + 1 else hpR h3 x q := fun x q => by rw [e4]; rfl
  have eI : ∀ x q, hpI h4 x q = hpI h3 x q := fun x q => by rw [e4]; rfl
  have eL : ∀ x q, hpL h4 x q = hpL h3 x q := fun x q => by rw [e4]; rfl
  have eT : ∀ x, hpT h4 x = hpT h3 x := fun x => by rw [e4]; rfl
  have g2 : ∀ hi, Ag h3 h4 2 hi := fun hi x x1 x2 => ⟨eI x, eL x, fun q => by rw [eR, if_neg (by omega)], eT x⟩
  refine hk h4 ⟨by rw [e4]; exact z2, by rw [eT, g.t (by omega) hb]; exact c2, fun q => by rw [eI, g.i (by omega) hb]; exact c3 q, fun q => ?_⟩ ((g.sub (by omega) (Nat.le_refl _)).tr (g2 b)) ⟨h3, z1, g2 1000⟩
  rw [eR, r1]
  by_cases w : q = k
  · rw [if_pos ⟨rfl, w⟩, if_pos w]
  · rw [if_neg (fun z => w z.2), if_neg w, g.r (by omega) hb]; exact c4 q
theorem ok_nr {β : Type} {R : Nat → Nat} {b k : Nat} {t : Nat × Nat} {K : Hp → Option β} {Q : β → Prop} (hb : 1 ≤ b) (c : One h R b) (hk : ∀ h4, One h4 (r1 R k (b + 1)) (b + 1) → Ag h h4 2 b → hpT h4 (b + 1) = t → Ok (K h4) Q) : Ok (lt (hpN h + 1) fun a1 => lt (hpNew h t) fun h2 => lt (upR h2 1 k a1) fun h4 => K h4) Q := by
  obtain ⟨c1, c2, c3, c4⟩ := c
  refine ok_nw (by omega) (fun h4 ⟨n1, n2, n3, n4, n5⟩ => hk h4 ⟨by omega, by rw [(n5 1 (by omega)).2.2.2]; exact c2, fun q => by rw [(n5 1 (by omega)).1]; exact c3 q, fun q => ?_⟩ (fun x x1 x2 => ⟨(n5 x (by omega)).1, (n5 x (by omega)).2.1, fun q => (n5 x (by omega)).2.2.1 q (fun z => by omega), (n5 x (by omega)).2.2.2⟩) (by rw [← c1]; exact n3))
  rw [r1]
  by_cases w : q = k
  · rw [if_pos w, w, n2, c1]
  · rw [if_neg w, (n5 1 (by omega)).2.2.1 q (fun _ => w)]; exact c4 q
/-- the shape of Ways -/
def shW (h : Hp) (a : Nat) : Prop := hpT h a = (1, 8) ∧ ∀ j, j < 5 → hpR h a j = a + 1 + j ∧ hpT h (a + 1 + j) = tX8 j
theorem shW.ag {a lo hi : Nat} (c : shW h a) (g : Ag h h1 lo hi) (x : lo ≤ a) (y : a + 5 ≤ hi) : shW h1 a := ⟨by rw [g.t (by omega) (by omega)]; exact c.1, fun j hj => ⟨by rw [g.r (by omega) (by omega)]; exact (c.2 j hj).1, by rw [g.t (by omega) (by omega)]; exact (c.2 j hj).2⟩⟩
def tyAt (h : Hp) (a : Nat) (t : Nat × Nat) : Prop := hpT h a = t
theorem tyAt.ag {a lo hi : Nat} {t : Nat × Nat} (c : tyAt h a t) (g : Ag h h1 lo hi) (x : lo ≤ a) (y : a ≤ hi) : tyAt h1 a t := (g.t x y).trans c
theorem b_X5 {b : Nat} (f : Frs h b (1, 5)) : Ok (f_X5_init h b) (fun h1 => tyAt h1 b (1, 5) ∧ hpN h1 = b + 0 ∧ Ag h h1 0 (b - 1)) := by
  rw [f_X5_init]
  exact ok_some ⟨f.2.2.1, f.2.1, Ag.refl⟩
theorem ok_na {β : Type} {R : Nat → Nat} {b j : Nat} {v : Int32} {K : Hp → Option β} {Q : β → Prop} (hv : v = nI j) (hj : j < 3) (hb : 177 ≤ b) (c : One h R b) (hR : R 6 = 152) (t : tyAt h 152 (5, 3)) (hk : ∀ h4, One h4 R (b + 8) → Ag h h4 2 151 → Ag h h4 153 b → tyAt h4 152 (5, 3) → hpR h4 152 j = b + 1 → (∀ k, k ≠ j → hpR h4 152 k = hpR h 152 k) → atC h4 (b + 1) S40 → Ok (K h4) Q) : Ok (gd (nz (hpR h 1 6)) <| lt (hpN h + 1) fun a1 => lt (hpNew h (1, 0)) fun h2 => (f_X0_init h2 a1).bind fun q3 => gd (inb v (hpT q3 (hpR h 1 6)).2) <| lt (upR q3 (hpR h 1 6) (ix v) a1) fun h4 => K h4) Q := by
  subst hv
  obtain ⟨c1, c2, c3, c4⟩ := c
  rw [c4 6, hR]
  refine ok_gd (by decide) (ok_nc (K := fun a1 q3 => gd (inb (nI j) (hpT q3 152).2) <| lt (upR q3 152 (ix (nI j)) a1) fun h4 => K h4) c1 (fun h1 n1 n2 n3 => ?_))
  have t : hpT h 152 = (5, 3) := t
  rw [n3.t (by omega) (by omega), t, ix_nI (by omega)]
  refine ok_gd (inb_nI (by omega) (by omega)) (ok_lt (fun h4 e4 => ?_))
  have eR : ∀ x q, hpR h4 x q = if x = 152 ∧ q = j then b + 1 else hpR h1 x q := fun x q => by rw [e4]; rfl
  have eI : ∀ x q, hpI h4 x q = hpI h1 x q := fun x q => by rw [e4]; rfl
  have eL : ∀ x q, hpL h4 x q = hpL h1 x q := fun x q => by rw [e4]; rfl
  have eT : ∀ x, hpT h4 x = hpT h1 x := fun x => by rw [e4]; rfl
  have g1 : ∀ x, x ≠ 152 → x ≤ b → (∀ k, hpI h4 x k = hpI h x k) ∧ (∀ k, hpL h4 x k = hpL h x k) ∧ (∀ k, hpR h4 x k = hpR h x k) ∧ hpT h4 x = hpT h x := fun x x1 x2 => ⟨fun k => by rw [eI, n3.i (by omega) x2], fun k => by rw [eL, n3.l (by omega) x2], fun k => by rw [eR, if_neg (fun z => x1 z.1), n3.r (by omega) x2], by rw [eT, n3.t (by omega) x2]⟩
  have g2 : Ag h1 h4 153 (b + 8) := fun x x1 x2 => ⟨eI x, eL x, fun q => by rw [eR, if_neg (by omega)], eT x⟩
  have o1 := g1 1 (by omega) (by omega)
  refine hk h4 ⟨by rw [e4]; exact n1, o1.2.2.2.trans c2, fun q => (o1.1 q).trans (c3 q), fun q => (o1.2.2.1 q).trans (c4 q)⟩ (fun x x1 x2 => g1 x (by omega) (by omega)) (fun x x1 x2 => g1 x (by omega) x2) (by show hpT h4 152 = _; rw [eT, n3.t (by omega) (by omega)]; exact t) (by rw [eR, if_pos ⟨rfl, rfl⟩]) (fun k hk => by rw [eR, if_neg (fun z => hk z.2), n3.r (by omega) (by omega)]) (n2.ag g2 (by omega) (by omega))
theorem c_init (f : Frs h 1 (1, 9)) : Ok (f_X9_init h 1) (fun h1 => RC h1 A00 ∧ hpN h1 = 201) := by
  have c0 : One h (hpR h 1) 1 := ⟨f.2.1, f.2.2.1, f.2.2.2, fun _ => rfl⟩
  rw [f_X9_init]
  refine ok_no (by omega) c0 (fun h2 z => b_X6 z) (fun g c1 ag ⟨g3, p, ag3⟩ => ?_)
  have f1 : atX g 2 [] := p.ag ag3 (by omega) (by omega)
  clear c0 ag
  clear p ag3
  refine ok_no (by omega) c1 (fun h2 z => b_X7 z) (fun g c2 ag ⟨g3, p, ag3⟩ => ?_)
  have f2 : atT g 4 [] := p.ag ag3 (by omega) (by omega)
  replace f1 := f1.ag ag (by omega) (by omega)
  clear c1 ag
  clear p ag3
  refine ok_no (by omega) c2 (fun h2 z => b_X0 z) (fun g c3 ag ⟨g3, p, ag3⟩ => ?_)
  have f3 : atC g 6 S40 := p.ag ag3 (by omega) (by omega)
  replace f1 := f1.ag ag (by omega) (by omega)
  replace f2 := f2.ag ag (by omega) (by omega)
  clear c2 ag
  clear p ag3
  refine ok_no (by omega) c3 (fun h2 z => b_X0 z) (fun g c4 ag ⟨g3, p, ag3⟩ => ?_)
  have f4 : atC g 14 S40 := p.ag ag3 (by omega) (by omega)
  replace f1 := f1.ag ag (by omega) (by omega)
  replace f2 := f2.ag ag (by omega) (by omega)
  replace f3 := f3.ag ag (by omega) (by omega)
  clear c3 ag
  clear p ag3
  refine ok_no (by omega) c4 (fun h2 z => b_X0 z) (fun g c5 ag ⟨g3, p, ag3⟩ => ?_)
  have f5 : atC g 22 S40 := p.ag ag3 (by omega) (by omega)
  replace f1 := f1.ag ag (by omega) (by omega)
  replace f2 := f2.ag ag (by omega) (by omega)
  replace f3 := f3.ag ag (by omega) (by omega)
  replace f4 := f4.ag ag (by omega) (by omega)
  clear c4 ag
  clear p ag3
  refine ok_no (by omega) c5 (fun h2 z => b_X3 z) (fun g c6 ag ⟨g3, p, ag3⟩ => ?_)
  have f6 : atP g 30 [] := p.ag ag3 (by omega) (by omega)
  replace f1 := f1.ag ag (by omega) (by omega)
  replace f2 := f2.ag ag (by omega) (by omega)
  replace f3 := f3.ag ag (by omega) (by omega)
  replace f4 := f4.ag ag (by omega) (by omega)
  replace f5 := f5.ag ag (by omega) (by omega)
  clear c5 ag
  clear p ag3
  refine ok_nr (by omega) c6 (fun g c7 ag p => ?_)
  have f7 : tyAt g 152 (5, 3) := p
  replace f1 := f1.ag ag (by omega) (by omega)
  replace f2 := f2.ag ag (by omega) (by omega)
  replace f3 := f3.ag ag (by omega) (by omega)
  replace f4 := f4.ag ag (by omega) (by omega)
  replace f5 := f5.ag ag (by omega) (by omega)
  replace f6 := f6.ag ag (by omega) (by omega)
  clear c6 ag
  refine ok_no (by omega) c7 (fun h2 z => b_X4 z) (fun g c8 ag ⟨g3, p, ag3⟩ => ?_)
  have f8 : shR g 153 := p.ag ag3 (by omega) (by omega)
  replace f1 := f1.ag ag (by omega) (by omega)
  replace f2 := f2.ag ag (by omega) (by omega)
  replace f3 := f3.ag ag (by omega) (by omega)
  replace f4 := f4.ag ag (by omega) (by omega)
  replace f5 := f5.ag ag (by omega) (by omega)
  replace f6 := f6.ag ag (by omega) (by omega)
  replace f7 := f7.ag ag (by omega) (by omega)
  clear c7 ag
  clear p ag3
  refine ok_no (by omega) c8 (fun h2 z => b_X4 z) (fun g c9 ag ⟨g3, p, ag3⟩ => ?_)
  have f9 : shR g 157 := p.ag ag3 (by omega) (by omega)
  replace f1 := f1.ag ag (by omega) (by omega)
  replace f2 := f2.ag ag (by omega) (by omega)
  replace f3 := f3.ag ag (by omega) (by omega)
  replace f4 := f4.ag ag (by omega) (by omega)
  replace f5 := f5.ag ag (by omega) (by omega)
  replace f6 := f6.ag ag (by omega) (by omega)
  replace f7 := f7.ag ag (by omega) (by omega)
  replace f8 := f8.ag ag (by omega) (by omega)
  clear c8 ag
  clear p ag3
  refine ok_no (by omega) c9 (fun h2 z => b_X5 z) (fun g c10 ag ⟨g3, p, ag3⟩ => ?_)
  have f10 : tyAt g 161 (1, 5) := p.ag ag3 (by omega) (by omega)
  replace f1 := f1.ag ag (by omega) (by omega)
  replace f2 := f2.ag ag (by omega) (by omega)
  replace f3 := f3.ag ag (by omega) (by omega)
  replace f4 := f4.ag ag (by omega) (by omega)
  replace f5 := f5.ag ag (by omega) (by omega)
  replace f6 := f6.ag ag (by omega) (by omega)
  replace f7 := f7.ag ag (by omega) (by omega)
  replace f8 := f8.ag ag (by omega) (by omega)
  replace f9 := f9.ag ag (by omega) (by omega)
  clear c9 ag
  clear p ag3
  refine ok_no (by omega) c10 (fun h2 z => b_X2a z) (fun g c11 ag ⟨g3, p, ag3⟩ => ?_)
  have f11 : atN g 162 10 [] := p.ag ag3 (by omega) (by omega)
  replace f1 := f1.ag ag (by omega) (by omega)
  replace f2 := f2.ag ag (by omega) (by omega)
  replace f3 := f3.ag ag (by omega) (by omega)
  replace f4 := f4.ag ag (by omega) (by omega)
  replace f5 := f5.ag ag (by omega) (by omega)
  replace f6 := f6.ag ag (by omega) (by omega)
  replace f7 := f7.ag ag (by omega) (by omega)
  replace f8 := f8.ag ag (by omega) (by omega)
  replace f9 := f9.ag ag (by omega) (by omega)
  replace f10 := f10.ag ag (by omega) (by omega)
  clear c10 ag
  clear p ag3
  refine ok_no (by omega) c11 (fun h2 z => b_X2b z) (fun g c12 ag ⟨g3, p, ag3⟩ => ?_)
  have f12 : atN g 166 12 [] := p.ag ag3 (by omega) (by omega)
  replace f1 := f1.ag ag (by omega) (by omega)
  replace f2 := f2.ag ag (by omega) (by omega)
  replace f3 := f3.ag ag (by omega) (by omega)
  replace f4 := f4.ag ag (by omega) (by omega)
  replace f5 := f5.ag ag (by omega) (by omega)
  replace f6 := f6.ag ag (by omega) (by omega)
  replace f7 := f7.ag ag (by omega) (by omega)
  replace f8 := f8.ag ag (by omega) (by omega)
  replace f9 := f9.ag ag (by omega) (by omega)
  replace f10 := f10.ag ag (by omega) (by omega)
  replace f11 := f11.ag ag (by omega) (by omega)
  clear c11 ag
  clear p ag3
  refine ok_no (by omega) c12 (fun h2 z => b_X8 z) (fun g c13 ag ⟨g3, p, ag3⟩ => ?_)
  have p : shW g3 170 := p
  have f13 : shW g 170 := p.ag ag3 (by omega) (by omega)
  replace f1 := f1.ag ag (by omega) (by omega)
  replace f2 := f2.ag ag (by omega) (by omega)
  replace f3 := f3.ag ag (by omega) (by omega)
  replace f4 := f4.ag ag (by omega) (by omega)
  replace f5 := f5.ag ag (by omega) (by omega)
  replace f6 := f6.ag ag (by omega) (by omega)
  replace f7 := f7.ag ag (by omega) (by omega)
  replace f8 := f8.ag ag (by omega) (by omega)
  replace f9 := f9.ag ag (by omega) (by omega)
  replace f10 := f10.ag ag (by omega) (by omega)
  replace f11 := f11.ag ag (by omega) (by omega)
  replace f12 := f12.ag ag (by omega) (by omega)
  clear c12 ag
  clear p ag3
  refine ok_nr (by omega) c13 (fun g c14 ag p => ?_)
  have f14 : tyAt g 176 (2, 496) := p
  replace f1 := f1.ag ag (by omega) (by omega)
  replace f2 := f2.ag ag (by omega) (by omega)
  replace f3 := f3.ag ag (by omega) (by omega)
  replace f4 := f4.ag ag (by omega) (by omega)
  replace f5 := f5.ag ag (by omega) (by omega)
  replace f6 := f6.ag ag (by omega) (by omega)
  replace f7 := f7.ag ag (by omega) (by omega)
  replace f8 := f8.ag ag (by omega) (by omega)
  replace f9 := f9.ag ag (by omega) (by omega)
  replace f10 := f10.ag ag (by omega) (by omega)
  replace f11 := f11.ag ag (by omega) (by omega)
  replace f12 := f12.ag ag (by omega) (by omega)
  replace f13 := f13.ag ag (by omega) (by omega)
  clear c13 ag
  refine ok_nr (by omega) c14 (fun g c15 ag p => ?_)
  have f15 : tyAt g 177 (2, 41) := p
  replace f1 := f1.ag ag (by omega) (by omega)
  replace f2 := f2.ag ag (by omega) (by omega)
  replace f3 := f3.ag ag (by omega) (by omega)
  replace f4 := f4.ag ag (by omega) (by omega)
  replace f5 := f5.ag ag (by omega) (by omega)
  replace f6 := f6.ag ag (by omega) (by omega)
  replace f7 := f7.ag ag (by omega) (by omega)
  replace f8 := f8.ag ag (by omega) (by omega)
  replace f9 := f9.ag ag (by omega) (by omega)
  replace f10 := f10.ag ag (by omega) (by omega)
  replace f11 := f11.ag ag (by omega) (by omega)
  replace f12 := f12.ag ag (by omega) (by omega)
  replace f13 := f13.ag ag (by omega) (by omega)
  replace f14 := f14.ag ag (by omega) (by omega)
  clear c14 ag
  refine ok_na (j := 0) (by decide) (by omega) (by omega) c15 rfl f7 (fun g c16 al ah t7 x0 xo y0 => ?_)
  replace f1 := f1.ag al (by omega) (by omega)
  replace f2 := f2.ag al (by omega) (by omega)
  replace f3 := f3.ag al (by omega) (by omega)
  replace f4 := f4.ag al (by omega) (by omega)
  replace f5 := f5.ag al (by omega) (by omega)
  replace f6 := f6.ag al (by omega) (by omega)
  replace f8 := f8.ag ah (by omega) (by omega)
  replace f9 := f9.ag ah (by omega) (by omega)
  replace f10 := f10.ag ah (by omega) (by omega)
  replace f11 := f11.ag ah (by omega) (by omega)
  replace f12 := f12.ag ah (by omega) (by omega)
  replace f13 := f13.ag ah (by omega) (by omega)
  replace f14 := f14.ag ah (by omega) (by omega)
  replace f15 := f15.ag ah (by omega) (by omega)
  replace x0 : hpR g 152 0 = 178 := x0
  replace y0 : atC g 178 S40 := y0
  clear f7 c15 al ah xo
  have f7 := t7
  clear t7
  refine ok_na (j := 1) (by decide) (by omega) (by omega) c16 rfl f7 (fun g c17 al ah t7 x1 xo y1 => ?_)
  replace f1 := f1.ag al (by omega) (by omega)
  replace f2 := f2.ag al (by omega) (by omega)
  replace f3 := f3.ag al (by omega) (by omega)
  replace f4 := f4.ag al (by omega) (by omega)
  replace f5 := f5.ag al (by omega) (by omega)
  replace f6 := f6.ag al (by omega) (by omega)
  replace f8 := f8.ag ah (by omega) (by omega)
  replace f9 := f9.ag ah (by omega) (by omega)
  replace f10 := f10.ag ah (by omega) (by omega)
  replace f11 := f11.ag ah (by omega) (by omega)
  replace f12 := f12.ag ah (by omega) (by omega)
  replace f13 := f13.ag ah (by omega) (by omega)
  replace f14 := f14.ag ah (by omega) (by omega)
  replace f15 := f15.ag ah (by omega) (by omega)
  replace x0 : hpR g 152 0 = 178 := (xo 0 (by omega)).trans x0
  replace y0 := y0.ag ah (by omega) (by omega)
  replace x1 : hpR g 152 1 = 186 := x1
  replace y1 : atC g 186 S40 := y1
  clear f7 c16 al ah xo
  have f7 := t7
  clear t7
  refine ok_na (j := 2) (by decide) (by omega) (by omega) c17 rfl f7 (fun g c18 al ah t7 x2 xo y2 => ?_)
  replace f1 := f1.ag al (by omega) (by omega)
  replace f2 := f2.ag al (by omega) (by omega)
  replace f3 := f3.ag al (by omega) (by omega)
  replace f4 := f4.ag al (by omega) (by omega)
  replace f5 := f5.ag al (by omega) (by omega)
  replace f6 := f6.ag al (by omega) (by omega)
  replace f8 := f8.ag ah (by omega) (by omega)
  replace f9 := f9.ag ah (by omega) (by omega)
  replace f10 := f10.ag ah (by omega) (by omega)
  replace f11 := f11.ag ah (by omega) (by omega)
  replace f12 := f12.ag ah (by omega) (by omega)
  replace f13 := f13.ag ah (by omega) (by omega)
  replace f14 := f14.ag ah (by omega) (by omega)
  replace f15 := f15.ag ah (by omega) (by omega)
  replace x0 : hpR g 152 0 = 178 := (xo 0 (by omega)).trans x0
  replace x1 : hpR g 152 1 = 186 := (xo 1 (by omega)).trans x1
  replace y0 := y0.ag ah (by omega) (by omega)
  replace y1 := y1.ag ah (by omega) (by omega)
  replace x2 : hpR g 152 2 = 194 := x2
  replace y2 : atC g 194 S40 := y2
  clear f7 c17 al ah xo
  have f7 := t7
  clear t7
  rw [show hpR _ 1 8 = 153 from (c18.2.2.2 8).trans rfl]
  refine ok_gd (by decide) (ok_bd (p_putNone f8) (fun g ⟨e153, eo⟩ => ?_))
  have ag : Ag _ g 1 152 := eo.ag (fun a z1 z2 z3 => by unfold FR at z3; omega)
  have ah : Ag _ g 157 201 := eo.ag (fun a z1 z2 z3 => by unfold FR at z3; omega)
  have c19 : One g _ 201 := ⟨by rw [eo.2.2.2.2]; exact c18.1, (ag.t (by omega) (by omega)).trans c18.2.1, fun q => (ag.i (by omega) (by omega)).trans (c18.2.2.1 q), fun q => (ag.r (by omega) (by omega)).trans (c18.2.2.2 q)⟩
  replace f1 := f1.ag ag (by omega) (by omega)
  replace f2 := f2.ag ag (by omega) (by omega)
  replace f3 := f3.ag ag (by omega) (by omega)
  replace f4 := f4.ag ag (by omega) (by omega)
  replace f5 := f5.ag ag (by omega) (by omega)
  replace f6 := f6.ag ag (by omega) (by omega)
  replace f7 := f7.ag ag (by omega) (by omega)
  replace f9 := f9.ag ah (by omega) (by omega)
  replace f10 := f10.ag ah (by omega) (by omega)
  replace f11 := f11.ag ah (by omega) (by omega)
  replace f12 := f12.ag ah (by omega) (by omega)
  replace f13 := f13.ag ah (by omega) (by omega)
  replace f14 := f14.ag ah (by omega) (by omega)
  replace f15 := f15.ag ah (by omega) (by omega)
  replace x0 := (ag.r (a := 152) (k := 0) (by omega) (by omega)).trans x0
  replace y0 := y0.ag ah (by omega) (by omega)
  replace x1 := (ag.r (a := 152) (k := 1) (by omega) (by omega)).trans x1
  replace y1 := y1.ag ah (by omega) (by omega)
  replace x2 := (ag.r (a := 152) (k := 2) (by omega) (by omega)).trans x2
  replace y2 := y2.ag ah (by omega) (by omega)
  clear c18 ag ah eo
  rw [show hpR _ 1 9 = 157 from (c19.2.2.2 9).trans rfl]
  refine ok_gd (by decide) (ok_bd (p_putNone f9) (fun g ⟨e157, eo⟩ => ?_))
  have ag : Ag _ g 1 156 := eo.ag (fun a z1 z2 z3 => by unfold FR at z3; omega)
  have ah : Ag _ g 161 201 := eo.ag (fun a z1 z2 z3 => by unfold FR at z3; omega)
  have c20 : One g _ 201 := ⟨by rw [eo.2.2.2.2]; exact c19.1, (ag.t (by omega) (by omega)).trans c19.2.1, fun q => (ag.i (by omega) (by omega)).trans (c19.2.2.1 q), fun q => (ag.r (by omega) (by omega)).trans (c19.2.2.2 q)⟩
  replace f1 := f1.ag ag (by omega) (by omega)
  replace f2 := f2.ag ag (by omega) (by omega)
  replace f3 := f3.ag ag (by omega) (by omega)
  replace f4 := f4.ag ag (by omega) (by omega)
  replace f5 := f5.ag ag (by omega) (by omega)
  replace f6 := f6.ag ag (by omega) (by omega)
  replace f7 := f7.ag ag (by omega) (by omega)
  replace f10 := f10.ag ah (by omega) (by omega)
  replace f11 := f11.ag ah (by omega) (by omega)
  replace f12 := f12.ag ah (by omega) (by omega)
  replace f13 := f13.ag ah (by omega) (by omega)
  replace f14 := f14.ag ah (by omega) (by omega)
  replace f15 := f15.ag ah (by omega) (by omega)
  replace x0 := (ag.r (a := 152) (k := 0) (by omega) (by omega)).trans x0
  replace y0 := y0.ag ah (by omega) (by omega)
  replace x1 := (ag.r (a := 152) (k := 1) (by omega) (by omega)).trans x1
  replace y1 := y1.ag ah (by omega) (by omega)
  replace x2 := (ag.r (a := 152) (k := 2) (by omega) (by omega)).trans x2
  replace y2 := y2.ag ah (by omega) (by omega)
  replace e153 : atRE g 153 nE := by
    obtain ⟨sz, st, u1, u2⟩ := e153
    exact ⟨sz, st, u1.ag ag (by omega) (by omega), u2⟩
  have f9 : shR g 157 := by
    obtain ⟨sz, st, u1, u2⟩ := e157
    exact u1.1
  clear c19 ag ah eo
  refine ok_some ⟨⟨⟨⟨?_, ?_⟩, f4.1, f5.1, f9, fun k hk => ?_⟩, f1, f2, f3, f6, ⟨0, by omega, c20.2.2.1 7, fun k hk => ⟨by simp [A00, aK, mkA, noK], fun T hT => by cases hT⟩⟩, e153, f11, f12⟩, c20.1⟩
  · intro q hq
    have w13 := f13.2
    simp only [xRf, List.mem_cons, List.not_mem_nil, or_false] at hq
    rcases hq with rfl | rfl | rfl | rfl | rfl | rfl | rfl | rfl | rfl | rfl | rfl | rfl | rfl | rfl | rfl | rfl | rfl | rfl | rfl | rfl | rfl | rfl | rfl
    all_goals first
      | exact (c20.2.2.2 _).trans rfl
      | exact x0
      | exact x1
      | exact x2
      | exact (w13 0 (by omega)).1
      | exact (w13 1 (by omega)).1
      | exact (w13 2 (by omega)).1
      | exact (w13 3 (by omega)).1
      | exact (w13 4 (by omega)).1
  · intro q hq
    have w13 := f13.2
    simp only [xTy, List.mem_cons, List.not_mem_nil, or_false] at hq
    rcases hq with rfl | rfl | rfl | rfl | rfl | rfl | rfl | rfl | rfl | rfl | rfl
    · exact c20.2.1
    · exact f7
    · exact f10
    · exact f13.1
    · exact (w13 0 (by omega)).2
    · exact (w13 1 (by omega)).2
    · exact (w13 2 (by omega)).2
    · exact (w13 3 (by omega)).2
    · exact (w13 4 (by omega)).2
    · exact f14
    · exact f15
  · rcases (show k = 0 ∨ k = 1 ∨ k = 2 by omega) with rfl | rfl | rfl
    · exact y0.1
    · exact y1.1
    · exact y2.1
end INIT4
