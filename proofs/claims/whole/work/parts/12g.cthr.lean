/-! the class's camp, cell, row: an answer, or none where it throws -/
section CTHR
variable {h : Hp} {A : Ast}
theorem c_camp (c : RC h A) (hw : wfF (aS A)) (x y : Int32) : Ok (f_X9_camp h 1 x y) (fun o => o.1 = sp_camp A x y ∧ RC o.2 A ∧ EqOff FX h o.2) := by
  have b5 := hw.2.2.2.2.1
  rw [f_X9_camp, c.s.r1_2, p_hasx c.n, bd_s]
  simp only [f_X9_camp_21]
  have no : sp_camp A x y = none → Ok (some ((none : Option Int32), h)) (fun o => o.1 = sp_camp A x y ∧ RC o.2 A ∧ EqOff FX h o.2) := fun e => ok_some ⟨e.symm, c, EqOff.rf⟩
  refine ok_gd (by decide) ?_
  cases ex : campOf (aS A) x with
  | none => exact ok_t rfl (no (by simp [sp_camp, ex]))
  | some i =>
    obtain ⟨rfl, hi⟩ := campOf_s (by omega) ex
    refine ok_f (by show ¬ nB true = 0; decide) ?_
    cases ey : numIn (nI 0) (nI 7) y with
    | none =>
      have n0 : sp_camp A (nI i) y = none := by simp [sp_camp, ex, ey]
      have hz := (numIn_z (N := 8) (by omega) (by omega)).mp ey
      refine ok_if (fun _ => no n0) (fun w => ok_f (fun w2 => ?_) (no n0))
      rcases hz with q | q
      · exact w q
      · refine q ?_
        obtain ⟨e, l⟩ := nI_ix (Int32.not_lt.mp w)
        rw [e, show (7 : Int32) = nI 7 by decide, nI_leI l (by omega)] at w2
        rw [e, nI_ltI l (by omega)]
        omega
    | some w =>
      obtain ⟨rfl, g1, g2⟩ := numIn_s (by omega) (by omega) ey
      have es : sp_camp A (nI i) (nI w) = some (cpV A i w) := by simp [sp_camp, ex, ey]
      rw [es]
      have ye : ∀ {v : Int32}, v = cpV A i w → Ok (some (some v, h)) (fun o => o.1 = some (cpV A i w) ∧ RC o.2 A ∧ EqOff FX h o.2) := fun e => ok_some ⟨by rw [e], c, EqOff.rf⟩
      refine ok_f (by rw [i0, nI_ltI (by omega) (by omega)]; omega) (ok_t (by rw [show (7 : Int32) = nI 7 by decide, nI_leI (by omega) (by omega)]; omega) ?_)
      have h8 : i < 8 := by omega
      have E : ∀ k, k < 8 → ∀ v : Int32, v = nI k → (nI w = v ↔ w = k) := fun k hk v hv => by rw [hv, nI_eq (by omega) (by omega)]
      simp only [E 0 (by omega) 0 rfl, E 1 (by omega) 1 rfl, E 2 (by omega) 2 rfl, E 3 (by omega) 3 rfl, E 4 (by omega) 4 rfl, E 5 (by omega) 5 rfl, E 6 (by omega) 6 rfl]
      rw [c.n.r7, c.n.r8, c.n.r9, c.n.r10, c.n.r11, c.n.t3, c.n.t4, c.n.t5, c.n.t6, c.n.t7, ix_nI (by omega), c.n.v2 h8, c.n.v3 h8, c.n.v4 h8, c.n.v5 h8, c.n.v6 h8]
      refine ok_if (fun e => ?_) (fun e0 => ok_if (fun e => ?_) (fun e1 => ok_if (fun e => ?_) (fun e2 => ok_if (fun e => ?_) (fun e3 => ok_if (fun e => ?_) (fun e4 => ok_if (fun e => ?_) (fun e5 => ok_if (fun e => ?_) (fun e6 => ?_)))))))
      · subst e
        have sh := hw.2.2.2.2.2.2.2.2 i hi
        rw [p_firstCell c.n hw.2.1 hw.2.2.2.1 b5 hi (by omega) (by omega), bd_s]
        exact ye rfl
      · subst e; exact ok_gd (by decide) (ok_gd (inb_nI (by omega) (by omega)) (ye rfl))
      · subst e; exact ok_gd (by decide) (ok_gd (inb_nI (by omega) (by omega)) (ye rfl))
      · subst e; exact ok_gd (by decide) (ok_gd (inb_nI (by omega) (by omega)) (ye rfl))
      · subst e; exact ok_gd (by decide) (ok_gd (inb_nI (by omega) (by omega)) (ye rfl))
      · subst e; exact ok_gd (by decide) (ok_gd (inb_nI (by omega) (by omega)) (ye rfl))
      · subst e
        obtain ⟨sz, st, r1, r2⟩ := c.r
        rw [c.s.r1_8]
        refine ok_gd (by decide) (ok_bd (p_losses c.n hw r1 (by omega)) (fun q ⟨l1, l2, l3, l4⟩ => ?_))
        rw [lossN_E r2] at l2
        have t2 : hpT q.2 (153 + 3) = (2, 8) := by rw [l3.2.2.2.1]; exact r1.1.2.2.2.2.2.2
        rw [l1, t2, l2 i h8]
        refine ok_gd (inb_nI (by omega) (by omega)) (ok_some ⟨rfl, ?_, l3.mono (FR_FX (by omega) (by omega))⟩)
        exact c.rule ⟨sz, st, ⟨by unfold shR; rw [l3.2.2.1, l3.2.2.2.1]; exact r1.1, by rw [l4.1]; exact r1.2.1, r1.2.2.1, fun k hk => by rw [l4.2.1]; exact r1.2.2.2 k hk⟩, r2⟩ l3
      · have : w = 7 := by omega
        subst this
        rw [p_crossedBy c.n hw hi, bd_s]
        exact ye rfl
theorem c_cell (c : RC h A) (hw : wfF (aS A)) (x y : Int32) : Ok (f_X9_cell h 1 x y) (fun o => o.1 = sp_cell A x y ∧ RC o.2 A ∧ EqOff FX h o.2) := by
  have hb := ncl_le hw
  rw [f_X9_cell, c.s.r1_2, p_hasCellx c.n, bd_s]
  simp only [f_X9_cell_20]
  have no : sp_cell A x y = none → Ok (some ((none : Option Int32), h)) (fun o => o.1 = sp_cell A x y ∧ RC o.2 A ∧ EqOff FX h o.2) := fun e => ok_some ⟨e.symm, c, EqOff.rf⟩
  refine ok_gd (by decide) ?_
  cases ex : cellOfI (aS A) x with
  | none => exact ok_t rfl (no (by simp [sp_cell, ex]))
  | some i =>
    obtain ⟨rfl, hi⟩ := cellOfI_s (by omega) ex
    refine ok_f (by show ¬ nB true = 0; decide) ?_
    cases ey : numIn (nI 0) (nI 2) y with
    | none =>
      have n0 : sp_cell A (nI i) y = none := by simp [sp_cell, ex, ey]
      have hz := (numIn_z (N := 3) (by omega) (by omega)).mp ey
      refine ok_if (fun _ => no n0) (fun w => ok_f (fun w2 => ?_) (no n0))
      rcases hz with q | q
      · exact w q
      · refine q ?_
        obtain ⟨e, l⟩ := nI_ix (Int32.not_lt.mp w)
        rw [e, show (2 : Int32) = nI 2 by decide, nI_leI l (by omega)] at w2
        rw [e, nI_ltI l (by omega)]
        omega
    | some w =>
      obtain ⟨rfl, g1, g2⟩ := numIn_s (by omega) (by omega) ey
      have es : sp_cell A (nI i) (nI w) = some (clV A i w) := by simp [sp_cell, ex, ey]
      rw [es]
      have ye : ∀ {v : Int32}, v = clV A i w → Ok (some (some v, h)) (fun o => o.1 = some (clV A i w) ∧ RC o.2 A ∧ EqOff FX h o.2) := fun e => ok_some ⟨by rw [e], c, EqOff.rf⟩
      refine ok_f (by rw [i0, nI_ltI (by omega) (by omega)]; omega) (ok_t (by rw [show (2 : Int32) = nI 2 by decide, nI_leI (by omega) (by omega)]; omega) ?_)
      rw [p_onOver c.n hw (by omega), bd_s, p_strengthOver c.n hw (by omega), bd_s, p_strongestOver c.n hw (by omega), bd_s]
      rcases (show w = 0 ∨ w = 1 ∨ w = 2 by omega) with rfl | rfl | rfl
      · exact ok_t rfl (ye rfl)
      · exact ok_f (by decide) (ok_t rfl (ye rfl))
      · exact ok_f (by decide) (ok_f (by decide) (ye rfl))
theorem c_row (c : RC h A) (x : Int32) : Ok (f_X9_row h 1 x) (fun o => o.1 = sp_row A x ∧ RC o.2 A ∧ EqOff FX h o.2) := by
  have t := c.t
  have hl := t.2.2.2.2.1
  rw [f_X9_row, c.s.r1_1, t.2.2.2.1, t.2.1, t.2.2.1]
  simp only [f_X9_row_15]
  unfold sp_row
  refine ok_if (fun w => ?_) (fun w => ok_gd (by decide) (ok_if (fun w2 => ?_) (fun w2 => ?_)))
  · rw [if_neg (fun z => absurd w (Int32.not_lt.mpr z.1))]
    exact ok_some ⟨rfl, c, EqOff.rf⟩
  · have w1 := Int32.not_lt.mp w
    rw [if_pos ⟨w1, w2⟩]
    obtain ⟨e, h3⟩ := nI_ix w1
    have q2 := w2
    rw [e, nI_ltI h3 (by omega)] at q2
    exact ok_gd (by decide) (ok_gd (by rw [e]; exact inb_nI (by omega) (by omega)) (ok_some ⟨by rw [t.2.2.2.2.2 _ q2], c, EqOff.rf⟩))
  · rw [if_neg (fun z => w2 z.2)]
    exact ok_some ⟨rfl, c, EqOff.rf⟩
end CTHR
