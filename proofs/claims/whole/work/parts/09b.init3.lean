section INIT3
variable {h h1 : Hp} {a p : Nat}
theorem Ag.refl {lo hi : Nat} : Ag h h lo hi := fun _ _ _ => ⟨fun _ => rfl, fun _ => rfl, fun _ => rfl, rfl⟩
/-- a cell more: the object that is to be built there -/
theorem Frs.new {t : Nat × Nat} {b : Nat} (hN : hpN h = b) : Frs (hpNew h t) (b + 1) t ∧ Ag h (hpNew h t) 0 b := by
  subst hN
  exact ⟨⟨by omega, rfl, by simp [hpT, hpNew], fun q => by simp [hpI, hpNew]⟩, Ag.new⟩
theorem ok_nc {β : Type} {b : Nat} {K : Nat → Hp → Option β} {Q : β → Prop} (hN : hpN h = b) (hk : ∀ h1, hpN h1 = b + 8 → atC h1 (b + 1) S40 → Ag h h1 0 b → Ok (K (b + 1) h1) Q) : Ok (lt (hpN h + 1) fun a1 => lt (hpNew h (1, 0)) fun h2 => (f_X0_init h2 a1).bind fun q3 => K a1 q3) Q := by
  refine ok_lt (fun a1 e1 => ok_lt (fun h2 e2 => ?_))
  have n := Frs.new (h := h) (t := (1, 0)) hN
  rw [← e2] at n
  rw [hN] at e1
  subst e1
  refine ok_bd (b_X0 n.1) (fun h1 ⟨z1, z2, z3⟩ => hk h1 (by rw [z2]) z1 (n.2.tr z3))
/-- a Past with j of its states -/
def PsJ (h0 h : Hp) (p j : Nat) : Prop := hpN h = p + 1 + 8 * j ∧ hpT h p = (1, 3) ∧ hpR h p 0 = p + 1 ∧ hpT h (p + 1) = (5, 15) ∧ (∀ q, hpI h p q = 0) ∧ (∀ k, k < j → hpR h (p + 1) k = p + 2 + 8 * k ∧ shC h (p + 2 + 8 * k)) ∧ Ag h0 h 0 (p - 1)
theorem ok_ps {β : Type} {h0 : Hp} {j : Nat} {v : Int32} {K : Hp → Option β} {Q : β → Prop} (hv : v = nI j) (hj : j < 15) (hp : 1 ≤ p) (r : PsJ h0 h p j) (hk : ∀ h1, PsJ h0 h1 p (j + 1) → Ok (K h1) Q) : Ok (gd (nz (hpR h p 0)) <| lt (hpN h + 1) fun a1 => lt (hpNew h (1, 0)) fun h2 => (f_X0_init h2 a1).bind fun q3 => gd (inb v (hpT q3 (hpR h p 0)).2) <| lt (upR q3 (hpR h p 0) (ix v) a1) fun h4 => K h4) Q := by
  subst hv
  obtain ⟨r1, r2, r3, r4, r5, r6, r7⟩ := r
  rw [r3]
  refine ok_gd (nz_t (by omega)) (ok_nc (K := fun a1 q3 => gd (inb (nI j) (hpT q3 (p + 1)).2) <| lt (upR q3 (p + 1) (ix (nI j)) a1) fun h4 => K h4) r1 (fun h1 n1 n2 n3 => ?_))
  rw [n3.t (by omega) (by omega), r4, ix_nI (by omega)]
  refine ok_gd (inb_nI (by omega) (by omega)) (ok_lt (fun h4 e4 => hk h4 ?_))
  have eR : ∀ x k, hpR h4 x k = if x = p + 1 ∧ k = j then p + 1 + 8 * j + 1 else hpR h1 x k := fun x k => by rw [e4]; rfl
  have eI : ∀ x k, hpI h4 x k = hpI h1 x k := fun x k => by rw [e4]; rfl
  have eT : ∀ x, hpT h4 x = hpT h1 x := fun x => by rw [e4]; rfl
  have eL : ∀ x k, hpL h4 x k = hpL h1 x k := fun x k => by rw [e4]; rfl
  have ks : ∀ x, x ≠ p + 1 → shC h1 x → shC h4 x := fun x hx c => ⟨by rw [eT]; exact c.1, fun i hi => ⟨by rw [eR, if_neg (fun z => hx z.1)]; exact (c.2 i hi).1, by rw [eT]; exact (c.2 i hi).2⟩⟩
  refine ⟨by rw [e4]; show hpN h1 = _; omega, by rw [eT, n3.t (by omega) (by omega)]; exact r2, by rw [eR, if_neg (by omega), n3.r (by omega) (by omega)]; exact r3, by rw [eT, n3.t (by omega) (by omega)]; exact r4, fun q => by rw [eI, n3.i (by omega) (by omega)]; exact r5 q, fun k hk => ?_, r7.tr (fun x y1 y2 => ⟨fun k => by rw [eI, n3.i (by omega) (by omega)], fun k => by rw [eL, n3.l (by omega) (by omega)], fun k => by rw [eR, if_neg (by omega), n3.r (by omega) (by omega)], by rw [eT, n3.t (by omega) (by omega)]⟩)⟩
  by_cases w : k = j
  · subst w
    exact ⟨by rw [eR, if_pos ⟨rfl, rfl⟩]; omega, ks _ (by omega) (by rw [show p + 2 + 8 * k = p + 1 + 8 * k + 1 by omega]; exact n2.1)⟩
  · have q := r6 k (by omega)
    exact ⟨by rw [eR, if_neg (fun z => w z.2), n3.r (by omega) (by omega)]; exact q.1, ks _ (by omega) (q.2.ag n3 (by omega) (by omega))⟩
theorem b_X3 (f : Frs h p (1, 3)) : Ok (f_X3_init h p) (fun h1 => atP h1 p [] ∧ hpN h1 = p + 121 ∧ Ag h h1 0 (p - 1)) := by
  obtain ⟨f1, f2, f3, f4⟩ := f
  rw [f_X3_init]
  refine ok_nw (by omega) (fun g0 n => ?_)
  have ag := Ag.nw n (by omega) f1
  obtain ⟨n1, n2, n3, n4, n5⟩ := n
  rw [f2] at n1 n2 n3 n4 n5
  have r0 : PsJ h g0 p 0 := ⟨by omega, by rw [(n5 p (by omega)).2.2.2]; exact f3, n2, n3, fun q => by rw [(n5 p (by omega)).1]; exact f4 q, fun k hk => by omega, ag⟩
  clear n1 n2 n3 n4 n5 ag
  refine ok_ps (j := 0) (by decide) (by omega) f1 r0 (fun g1 r1 => ?_)
  clear r0
  refine ok_ps (j := 1) (by decide) (by omega) f1 r1 (fun g2 r2 => ?_)
  clear r1
  refine ok_ps (j := 2) (by decide) (by omega) f1 r2 (fun g3 r3 => ?_)
  clear r2
  refine ok_ps (j := 3) (by decide) (by omega) f1 r3 (fun g4 r4 => ?_)
  clear r3
  refine ok_ps (j := 4) (by decide) (by omega) f1 r4 (fun g5 r5 => ?_)
  clear r4
  refine ok_ps (j := 5) (by decide) (by omega) f1 r5 (fun g6 r6 => ?_)
  clear r5
  refine ok_ps (j := 6) (by decide) (by omega) f1 r6 (fun g7 r7 => ?_)
  clear r6
  refine ok_ps (j := 7) (by decide) (by omega) f1 r7 (fun g8 r8 => ?_)
  clear r7
  refine ok_ps (j := 8) (by decide) (by omega) f1 r8 (fun g9 r9 => ?_)
  clear r8
  refine ok_ps (j := 9) (by decide) (by omega) f1 r9 (fun g10 r10 => ?_)
  clear r9
  refine ok_ps (j := 10) (by decide) (by omega) f1 r10 (fun g11 r11 => ?_)
  clear r10
  refine ok_ps (j := 11) (by decide) (by omega) f1 r11 (fun g12 r12 => ?_)
  clear r11
  refine ok_ps (j := 12) (by decide) (by omega) f1 r12 (fun g13 r13 => ?_)
  clear r12
  refine ok_ps (j := 13) (by decide) (by omega) f1 r13 (fun g14 r14 => ?_)
  clear r13
  refine ok_ps (j := 14) (by decide) (by omega) f1 r14 (fun g15 r15 => ?_)
  clear r14
  obtain ⟨q1, q2, q3, q4, q5, q6, q7⟩ := r15
  exact ok_some ⟨⟨⟨q2, q3, q4, q6⟩, by simp, q5 2, 0, by omega, q5 1, fun i hi => absurd hi (by simp)⟩, q1, q7⟩
end INIT3
