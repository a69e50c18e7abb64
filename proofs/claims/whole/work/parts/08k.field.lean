section RFIELD
variable {h h1 : Hp} {A : Ast} {m n : Nat}
theorem dgL36 (X : List Int32) (i e : Nat) : dgL X i e 3 6 = dg36 (dgA X i e) := by
  unfold dgL dg36
  cases dgA X i e <;> rfl
theorem r_field (c : RM h m A n) (a : WA A n) : Ok (f_X10_field h m) (fun o => o.1 = (sp_field A).1 ∧ RM o.2 m (sp_field A).2 (n + 1) ∧ EqOff (FM m) h o.2) := by
  rw [f_X10_field]
  refine r_th c (fun h1 c1 o1 _ => ?_)
  have hx := c1.x.2.1
  rw [show (80 : Int32) = nI 80 by decide]
  refine ok_bd (m_begins c1 (mo := 80) (by omega)) (fun o ⟨z1, c2, tp, z4, z5, z6, z7⟩ => ?_)
  rw [Nat.min_eq_left hx] at z5
  have hn := a.2.2.2.2.2
  rw [i3, show (6 : Int32) = nI 6 by decide]
  refine ok_bd (m_digitIn c2.s tp z4 z5 (Nat.le_refl _) (by omega) (by omega) (by omega)) (fun p ⟨y1, y2, y3⟩ => ?_)
  rw [dgL36] at y1 y2
  have c3 := c2.scr (Da.s y3)
  have tp3 := tp.ep y3 (fun k z => by unfold Da at z; omega)
  have t3 : hpI p.2 m 11 = nI (aX A).length := by rw [y3.1 _ _ (fun z => by unfold Da at z; omega)]; exact z5
  have oo : EqOff (FM m) h p.2 := o1.ofs.tr (z7.tr (Da.FM y3))
  rw [y1]
  unfold sp_field
  cases hr : dg36 (dgA (aX A) 0 (aX A).length) with
  | none =>
    rw [hr] at y2
    refine ok_f (by decide) ?_
    simp only [f_X10_field_35, f_X10_field_51]
    refine ok_t (by decide) (ok_some ⟨?_, c3.mono (by omega), oo⟩)
    show (-1 : Int32) - hpI p.2 m 10 = -1
    rw [y2]; decide
  | some r =>
    rw [hr] at y2
    have r36 : 3 ≤ r ∧ r ≤ 6 := by
      unfold dg36 at hr
      cases hd : dgA (aX A) 0 (aX A).length with
      | none => rw [hd] at hr; cases hr
      | some d =>
        rw [hd] at hr
        simp only at hr
        by_cases w : 3 ≤ d ∧ d ≤ 6
        · rw [if_pos w] at hr; cases hr; exact w
        · rw [if_neg w] at hr; cases hr
    refine ok_t (by show (0 : Int32) ≤ nI r; exact nI_pos' (by omega)) ?_
    refine ok_bd (m_digitIn (i := 1) c3.s tp3 y2 t3 (Nat.le_refl _) (by omega) (by omega) (by omega)) (fun q ⟨x1, x2, x3⟩ => ?_)
    rw [dgL36] at x1 x2
    have c4 := c3.scr (Da.s x3)
    have t4 : hpI q.2 m 11 = nI (aX A).length := by rw [x3.1 _ _ (fun z => by unfold Da at z; omega)]; exact t3
    have o4 : EqOff (FM m) h q.2 := oo.tr (Da.FM x3)
    rw [x1]
    cases hk : dg36 (dgA (aX A) 1 (aX A).length) with
    | none =>
      rw [hk] at x2
      simp only [f_X10_field_35, f_X10_field_51]
      refine ok_t (by decide) (ok_some ⟨?_, c4.mono (by omega), o4⟩)
      show (-1 : Int32) - hpI q.2 m 10 = -2
      rw [x2]; decide
    | some k =>
      rw [hk] at x2
      have x2 : hpI q.2 m 10 = nI 2 := x2
      have k36 : 3 ≤ k ∧ k ≤ 6 := by
        unfold dg36 at hk
        cases hd : dgA (aX A) 1 (aX A).length with
        | none => rw [hd] at hk; cases hk
        | some d =>
          rw [hd] at hk
          simp only at hk
          by_cases w : 3 ≤ d ∧ d ≤ 6
          · rw [if_pos w] at hk; cases hk; exact w
          · rw [if_neg w] at hk; cases hk
      show Ok (f_X10_field_35 m q.2 (nI k) (nI r)) _
      simp only [f_X10_field_35, f_X10_field_51]
      rw [t4, x2]
      refine ok_f (by rw [i0, nI_ltI (by omega) (by omega)]; omega) ?_
      by_cases w : (aX A).length ≤ 2
      · simp only [w, if_true]
        refine ok_t (by rw [nI_leI (by omega) (by omega)]; exact w) ?_
        obtain ⟨ch, e1, e2, e3⟩ := c4.k
        have D : ∀ {a b : Nat} {v : Int32} {g : Hp}, ((a = m ∧ (b = 3 ∨ b = 4 ∨ b = 5 ∨ b = 22 ∨ b = 31)) ∨ a = m + 2) → EqP (fun x k => (x = m ∧ (k = 3 ∨ k = 4 ∨ k = 5 ∨ k = 22 ∨ k = 31)) ∨ x = m + 2) g (upI g a b v) := fun z => EqP.uI z
        refine ok_lt (fun h8 e8 => ok_lt (fun h9 e9 => ?_))
        have p9 : EqP (fun x k => (x = m ∧ (k = 3 ∨ k = 4 ∨ k = 5 ∨ k = 22 ∨ k = 31)) ∨ x = m + 2) q.2 h9 := by rw [e9, e8]; exact (D (by omega)).tr (D (by omega))
        rw [(c4.s.ep p9).r6, (c4.s.ep p9).t2]
        refine ok_gd (nz_t (by omega)) (ok_gd (by decide) (ok_lt (fun h13 e13 => ?_)))
        have p13 := p9.tr (show EqP _ h9 h13 by rw [e13]; exact D (by omega))
        rw [(c4.s.ep p13).r6, (c4.s.ep p13).t2]
        refine ok_gd (nz_t (by omega)) (ok_gd (by decide) (ok_lt (fun h17 e17 => ?_)))
        have p17 := p13.tr (show EqP _ h13 h17 by rw [e17]; exact D (by omega))
        rw [(c4.s.ep p17).r6, (c4.s.ep p17).t2]
        refine ok_gd (nz_t (by omega)) (ok_gd (by decide) (ok_lt (fun h21 e21 => ok_lt (fun h22 e22 => ?_))))
        have q22 : hpI h22 m 5 = nI ch := by
          rw [e22, hpI_upI, if_neg (by omega), e21, hpI_upI, if_neg (by omega), e17, hpI_upI, if_neg (by omega), e13, hpI_upI, if_neg (by omega), e9, hpI_upI, if_neg (by omega), e8, hpI_upI, if_neg (by omega)]; exact e2
        rw [q22, i1, nI_add]
        refine ok_lt (fun h23 e23 => ok_lt (fun h24 e24 => ?_))
        have p24 : EqP (fun x k => (x = m ∧ (k = 3 ∨ k = 4 ∨ k = 5 ∨ k = 22 ∨ k = 31)) ∨ x = m + 2) q.2 h24 := p17.tr (by rw [e24, e23, e22, e21]; exact (D (by omega)).tr ((D (by omega)).tr ((D (by omega)).tr (D (by omega)))))
        have s24 := c4.s.ep p24
        have g3 : hpI h24 m 3 = nI r := by
          rw [e24, e23, e22, e21, e17, e13, e9, e8]
          simp only [hpI_upI]
          rw [if_neg (by omega), if_neg (by omega), if_neg (by omega), if_neg (by omega), if_neg (by omega), if_neg (by omega), if_neg (by omega), if_pos (by simp)]
        have g4 : hpI h24 m 4 = nI k := by
          rw [e24, e23, e22, e21, e17, e13, e9]
          simp only [hpI_upI]
          rw [if_neg (by omega), if_neg (by omega), if_neg (by omega), if_neg (by omega), if_neg (by omega), if_neg (by omega), if_pos (by simp)]
        have g5 : hpI h24 m 5 = nI (ch + 1) := by
          rw [e24, e23]; simp only [hpI_upI]; rw [if_neg (by omega), if_pos (by simp)]
        have g22 : hpI h24 m 22 = nI 0 := by
          rw [e24, e23, e22]; simp only [hpI_upI]; rw [if_neg (by omega), if_neg (by omega), if_pos (by simp)]; rfl
        have g31 : hpI h24 m 31 = nI 0 := by rw [e24, hpI_upI, if_pos (by simp)]; rfl
        have w48 : hpI h24 (m + 2) 48 = nI 0 := by
          rw [e24, e23, e22, e21, e17, e13, show ix (48 : Int32) = 48 by decide, show ix (49 : Int32) = 49 by decide, show ix (50 : Int32) = 50 by decide]
          simp only [hpI_upI]
          rw [if_neg (by omega), if_neg (by omega), if_neg (by omega), if_neg (by omega), if_neg (by omega), if_pos (by simp)]; rfl
        have w49 : hpI h24 (m + 2) 49 = nI 0 := by
          rw [e24, e23, e22, e21, e17, show ix (49 : Int32) = 49 by decide, show ix (50 : Int32) = 50 by decide]
          simp only [hpI_upI]
          rw [if_neg (by omega), if_neg (by omega), if_neg (by omega), if_neg (by omega), if_pos (by simp)]; rfl
        have w50 : hpI h24 (m + 2) 50 = nI 0 := by
          rw [e24, e23, e22, e21, show ix (50 : Int32) = 50 by decide]
          simp only [hpI_upI]
          rw [if_neg (by omega), if_neg (by omega), if_neg (by omega), if_pos (by simp)]; rfl
        have gG : atG h24 m (layS (aS A) r k) := ⟨s24, g3, g4⟩
        rw [m_cells gG, bd_s]
        refine ok_some ⟨rfl, ?_, o4.tr (p24.off (fun x k z => by unfold FM; omega))⟩
        refine ⟨⟨gG, s24.t2, w48, w49, w50, fun i hi => absurd hi (Nat.not_lt_zero i)⟩, c4.x.ep p24 (fun z => by omega) (fun _ z => by omega), c4.t.ep p24 (fun z => by omega) (fun _ z => by omega), c4.e.ep p24 (fun z => by omega) (fun z => by omega) (fun _ z => by omega), ⟨g22, by show 0 ≤ 15; omega, fun i hi => absurd hi (Nat.not_lt_zero i)⟩, ⟨ch + 1, by omega, g5, fun i hi => ?_⟩, ⟨g31, by show 0 ≤ 10; omega, fun i hi => absurd hi (Nat.not_lt_zero i)⟩, c4.nn.ep p24 (fun z => by omega) (fun _ z => by omega) (fun _ z => by omega)⟩
        obtain ⟨cc, b, f1, f2, f3, f4, f5⟩ := e3 i hi
        refine ⟨cc, b, by omega, by rw [p24.1 _ _ (fun z => by omega)]; exact f2, by rw [p24.1 _ _ (fun z => by omega)]; exact f3, ?_, fun T hT => by cases hT⟩
        rw [decide_eq_false (show ¬ cc = ch + 1 by omega), Bool.and_false]; rfl
      · simp only [w, if_false]
        refine ok_f (by rw [nI_leI (by omega) (by omega)]; exact w) (ok_some ⟨?_, c4.mono (by omega), o4⟩)
        show (-1 : Int32) - nI 2 = -3
        decide
end RFIELD
