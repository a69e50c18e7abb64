/-! the three that may throw: none is a throw -/
def cpV (A : Ast) (i w : Nat) : Int32 := if w = 0 then nI (fcl (aS A) i) else if w = 1 then nI ((aS A).2 2 i) else if w = 2 then nI ((aS A).2 3 i) else if w = 3 then nI ((aS A).2 4 i) else if w = 4 then nI ((aS A).2 5 i) else if w = 5 then nI ((aS A).2 6 i) else if w = 6 then nI (lossE (aE A) (aS A) i) else bitsB (crs (aS A) i) ((aS A).1 2)
def sp_camp (A : Ast) (x y : Int32) : Option Int32 := match campOf (aS A) x, numIn (nI 0) (nI 7) y with
  | some i, some w => some (cpV A i w)
  | _, _ => none
def clV (A : Ast) (kc w : Nat) : Int32 := if w = 0 then bitsB (ocv (aS A) kc) ((aS A).1 2) else if w = 1 then sumB (fun i => if cov (aS A) kc i = true then (aS A).2 4 i else 0) ((aS A).1 2) else oI (stg (aS A) kc)
def sp_cell (A : Ast) (x y : Int32) : Option Int32 := match cellOfI (aS A) x, numIn (nI 0) (nI 2) y with
  | some kc, some w => some (clV A kc w)
  | _, _ => none
def sp_row (A : Ast) (x : Int32) : Option Int64 := if 0 ≤ x ∧ x < nI (aT A).length then some ((aT A).getD (ix x) 0) else none
/-- an answer and whether it was thrown -/
def thr {α : Type} (v : α) (k : Int32) (o : Option α) : Prop := match o with
  | some w => v = w ∧ k = 0
  | none => k = 1
section RTHROW
variable {h h1 : Hp} {A : Ast} {m n : Nat}
theorem r_refuse (c : RM h m A n) : Ok (f_X10_refuse h m) (fun o => o.1 = 0 ∧ hpI o.2 m 0 = 1 ∧ RM o.2 m A n ∧ EqP (DS m) h o.2) := by
  rw [f_X10_refuse]
  exact ok_lt (fun h1 e1 => ok_some ⟨rfl, by rw [e1, hpI_upI, if_pos ⟨rfl, rfl⟩], by rw [e1]; exact c.th 1, by rw [e1]; exact DS.th 1⟩)
theorem r_camp (c : RM h m A n) (a : WA A n) (x y : Int32) : Ok (f_X10_camp h m x y) (fun o => thr o.1 (hpI o.2 m 0) (sp_camp A x y) ∧ RM o.2 m A n ∧ EqOff (FM m) h o.2) := by
  have hw := a.w
  have b5 := hw.2.2.2.2.1
  rw [f_X10_camp]
  refine r_th c (fun h1 c1 o1 t0 => ?_)
  have s := c1.s
  rw [m_isCamp c1.g c1.w hw, bd_s, z64_0, z64_7, p_in_num, bd_s]
  simp only [nB_0, f_X10_camp_25]
  have no : sp_camp A x y = none → Ok ((f_X10_refuse h1 m).bind fun q15 => some (q15.1, q15.2)) (fun o => thr o.1 (hpI o.2 m 0) (sp_camp A x y) ∧ RM o.2 m A n ∧ EqOff (FM m) h o.2) := fun e => ok_bd (r_refuse c1) (fun o ⟨z1, z2, z3, z4⟩ => ok_some ⟨by rw [e]; exact z2, z3, o1.ofs.tr z4.ofs⟩)
  cases ex : campOf (aS A) x with
  | none => exact ok_t rfl (no (by simp [sp_camp, ex]))
  | some i =>
    obtain ⟨rfl, hi⟩ := campOf_s (by omega) ex
    refine ok_f (by simp) ?_
    cases ey : numIn (nI 0) (nI 7) y with
    | none => exact ok_t rfl (no (by simp [sp_camp, ex, ey]))
    | some w =>
      obtain ⟨rfl, g1, g2⟩ := numIn_s (by omega) (by omega) ey
      have es : sp_camp A (nI i) (nI w) = some (cpV A i w) := by simp [sp_camp, ex, ey]
      rw [es]
      have ye : ∀ {v : Int32}, v = cpV A i w → Ok (some (v, h1)) (fun o => thr o.1 (hpI o.2 m 0) (some (cpV A i w)) ∧ RM o.2 m A n ∧ EqOff (FM m) h o.2) := fun e => ok_some ⟨⟨e, t0⟩, c1, o1.ofs⟩
      refine ok_f (by simp) ?_
      rw [show (6 : Int32) = nI 6 by decide, s.r6, s.t2, i8, pk_mul, nI_add, ix_nI (by omega)]
      by_cases w6 : 6 ≤ w
      · refine ok_t (by rw [nI_leI (by omega) (by omega)]; exact w6) ?_
        by_cases w7 : w = 6
        · subst w7
          refine ok_t rfl ?_
          rw [f_X10_lossOn, s.r6, m_isOn c1.w hw (by omega), bd_s]
          simp only [nB_0]
          have ev : cpV A i 6 = nI (lossE (aE A) (aS A) i) := rfl
          by_cases q : onb (aS A) i = false
          · refine ok_bd (P := fun o => o.1 = cpV A i 6 ∧ hpI o.2 m 0 = 0 ∧ RM o.2 m A n ∧ EqP (DS m) h1 o.2) (ok_gd (nz_t (by omega)) (ok_t q (ok_some ⟨?_, t0, c1, EqP.rf⟩))) (fun o ⟨z1, z2, z3, z4⟩ => ok_some ⟨⟨z1, z2⟩, z3, o1.ofs.tr z4.ofs⟩)
            rw [ev, lossE, if_neg (by simp [q])]; rfl
          · refine ok_bd (P := fun o => o.1 = cpV A i 6 ∧ hpI o.2 m 0 = 0 ∧ RM o.2 m A n ∧ EqP (DS m) h1 o.2) (ok_gd (nz_t (by omega)) (ok_f q (ok_bd (m_loss c1.g c1.w hw c1.e.E (Or.inl rfl) hi) (fun o ⟨z1, z2⟩ => ok_some ⟨?_, ?_, ?_, ?_⟩)))) (fun o ⟨z1, z2, z3, z4⟩ => ok_some ⟨⟨z1, z2⟩, z3, o1.ofs.tr z4.ofs⟩)
            · rw [z1, ev, lossE, if_pos (by simpa using q)]; exact (dg_rng _).1
            · rw [z2.1 _ _ (fun z => by omega)]; exact t0
            · exact c1.scr (z2.mono (fun x k z => by unfold DS; omega))
            · exact z2.mono (fun x k z => by unfold DS; omega)
        · refine ok_f (by rw [nI_eq (by omega) (by omega)]; exact w7) ?_
          rw [m_crossing c1.g c1.w hw hi, bd_s]
          have e7 : w = 7 := by omega
          subst e7
          exact ok_gd (nz_t (by omega)) (ye rfl)
      · refine ok_f (by rw [nI_leI (by omega) (by omega)]; exact w6) (ok_gd (nz_t (by omega)) (ok_gd (inb_nI (by omega) (by omega)) (ye ?_)))
        rcases (show w = 0 ∨ w = 1 ∨ w = 2 ∨ w = 3 ∨ w = 4 ∨ w = 5 by omega) with rfl | rfl | rfl | rfl | rfl | rfl
        · rw [show 8 * 0 + i = i by omega, c1.w.v0 hi]; rfl
        · exact c1.w.v2 hi
        · exact c1.w.v3 hi
        · exact c1.w.v4 hi
        · exact c1.w.v5 hi
        · exact c1.w.v6 hi
theorem r_cell (c : RM h m A n) (a : WA A n) (x y : Int32) : Ok (f_X10_cell h m x y) (fun o => thr o.1 (hpI o.2 m 0) (sp_cell A x y) ∧ RM o.2 m A n ∧ EqOff (FM m) h o.2) := by
  have hw := a.w
  have hb := ncl_le hw
  rw [f_X10_cell]
  refine r_th c (fun h1 c1 o1 t0 => ?_)
  have s := c1.s
  rw [m_isCell c1.g hw, bd_s, z64_0, z64_2, p_in_num, bd_s]
  simp only [nB_0, f_X10_cell_25]
  have no : sp_cell A x y = none → Ok ((f_X10_refuse h1 m).bind fun q15 => some (q15.1, q15.2)) (fun o => thr o.1 (hpI o.2 m 0) (sp_cell A x y) ∧ RM o.2 m A n ∧ EqOff (FM m) h o.2) := fun e => ok_bd (r_refuse c1) (fun o ⟨z1, z2, z3, z4⟩ => ok_some ⟨by rw [e]; exact z2, z3, o1.ofs.tr z4.ofs⟩)
  cases ex : cellOfI (aS A) x with
  | none => exact ok_t rfl (no (by simp [sp_cell, ex]))
  | some kc =>
    obtain ⟨rfl, hi⟩ := cellOfI_s (by omega) ex
    refine ok_f (by simp) ?_
    cases ey : numIn (nI 0) (nI 2) y with
    | none => exact ok_t rfl (no (by simp [sp_cell, ex, ey]))
    | some w =>
      obtain ⟨rfl, g1, g2⟩ := numIn_s (by omega) (by omega) ey
      have es : sp_cell A (nI kc) (nI w) = some (clV A kc w) := by simp [sp_cell, ex, ey]
      rw [es]
      have ye : ∀ {v : Int32}, v = clV A kc w → Ok (some (v, h1)) (fun o => thr o.1 (hpI o.2 m 0) (some (clV A kc w)) ∧ RM o.2 m A n ∧ EqOff (FM m) h o.2) := fun e => ok_some ⟨⟨e, t0⟩, c1, o1.ofs⟩
      refine ok_f (by simp) ?_
      rw [s.r6, m_campsOver c1.g c1.w hw (by omega), bd_s, m_strengthOn c1.g c1.w hw (by omega), bd_s, m_strongest c1.w hw, bd_s]
      refine ok_gd (nz_t (by omega)) ?_
      rcases (show w = 0 ∨ w = 1 ∨ w = 2 by omega) with rfl | rfl | rfl
      · exact ok_t rfl (ye rfl)
      · exact ok_f (by decide) (ok_t rfl (ye rfl))
      · exact ok_f (by decide) (ok_f (by decide) (ye rfl))
theorem r_row (c : RM h m A n) (x : Int32) : Ok (f_X10_row h m x) (fun o => thr o.1 (hpI o.2 m 0) (sp_row A x) ∧ RM o.2 m A n ∧ EqOff (FM m) h o.2) := by
  rw [f_X10_row]
  refine r_th c (fun h1 c1 o1 t0 => ?_)
  have hl := c1.t.2.1
  rw [c1.t.1, z64_0, i1, p_in, bd_s]
  simp only [nB_0, le_m1 (show (aT A).length < 2 ^ 31 by omega)]
  unfold sp_row
  by_cases q : 0 ≤ x ∧ x < nI (aT A).length
  · rw [if_pos q]
    obtain ⟨e, h3⟩ := nI_ix q.1
    have q2 := q.2
    rw [e, nI_ltI h3 (by omega)] at q2
    refine ok_f (by simp [q]) ?_
    rw [c1.s.r2, c1.s.t1]
    refine ok_gd (nz_t (by omega)) (ok_gd (by rw [e]; exact inb_nI (by omega) (by omega)) (ok_some ⟨⟨c1.t.2.2 _ q2, t0⟩, c1, o1.ofs⟩))
  · rw [if_neg q]
    refine ok_t (decide_eq_false q) (ok_lt (fun h7 e7 => ok_some ⟨?_, by rw [e7]; exact c1.th _, by rw [e7]; exact o1.ofs.tr (DS.th _).ofs⟩))
    show hpI h7 m 0 = 1
    rw [e7, hpI_upI, if_pos ⟨rfl, rfl⟩]; rfl
end RTHROW
