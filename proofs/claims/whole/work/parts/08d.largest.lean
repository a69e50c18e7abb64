def lgS (S : Fld) (kc hg : Nat) (s : Nat × List Int64) (wd : Nat) : Nat × List Int64 := if s.1 < hg * wd ∧ rmb S hg wd kc = true then (hg * wd, [(nI kc).toInt64, (nI hg).toInt64, (nI wd).toInt64]) else s
def lgH (S : Fld) (kc : Nat) (s : Nat × List Int64) (hg : Nat) : Nat × List Int64 := fo (lgS S kc hg) s 1 (S.1 1)
def lgC (S : Fld) (s : Nat × List Int64) (kc : Nat) : Nat × List Int64 := fo (lgH S kc) s 1 (S.1 0)
def lgV (S : Fld) : Nat × List Int64 := fo (lgC S) (0, []) 0 (ncl S)
def sp_largest (A : Ast) : Int32 × Ast := (nI (lgV (aS A)).1, wT A (lgV (aS A)).2)
section LARGEST
variable {h h1 : Hp} {A : Ast} {m n : Nat} {S : Fld}
theorem c_largest (c : RC h A) (hw : wfF (aS A)) : Ok (f_X9_largest h 1) (fun o => o.1 = (sp_largest A).1 ∧ RC o.2 (sp_largest A).2 ∧ EqOff FX h o.2) := by
  have hF := FU_big
  have hb := ncl_le hw
  have b2 := hw.2.1
  have b4 := hw.2.2.2.1
  rw [f_X9_largest, c.s.r1_1]
  refine ok_gd (by decide) (ok_bd (c_t0 c) (fun h5 ⟨c5, o5⟩ => ?_))
  refine okf (fun q (s : Hp × Int32) i => f_X9_largest_11 1 q s.1 s.2 i) (ncl (aS A)) (lgC (aS A)) (fun _ s acc => RC s.1 (wT A acc.2) ∧ EqOff FX h s.1 ∧ s.2 = nI acc.1 ∧ acc.1 ≤ 36) _ 0 (fun q i s acc _ hi d kk => ?_) (ncl (aS A)) FU 0 (h5, 0) (0, []) (by omega) (by omega) (by omega) ⟨c5, F24y o5, rfl, by simp⟩ (fun q s ⟨d1, d2, d3, d4⟩ => ?_)
  · have d1 : RC s.1 (wT A acc.2) := d.1
    show Ok (f_X9_largest_11 1 (q + 1) s.1 s.2 (nI i)) _
    simp only [f_X9_largest_11]
    refine ok_lt (fun k2 ek2 => ?_)
    subst ek2
    rw [d1.s.r1_2, p_cells d1.n, bd_s]
    refine ok_gd (by decide) (ok_f (by show ¬ nI (ncl (aS A)) ≤ nI i; rw [nI_leI (by omega) (by omega)]; omega) ?_)
    refine okf (fun q' (t : Hp × Int32) j => f_X9_largest_24 1 (f_X9_largest_11 1 q) q' t.1 t.2 (nI i) j) ((aS A).1 0 + 1) (lgH (aS A) i) (fun _ t acc => RC t.1 (wT A acc.2) ∧ EqOff FX h t.1 ∧ t.2 = nI acc.1 ∧ acc.1 ≤ 36) _ 1 (fun q' hg t acc hg1 hg2 e jj => ?_) ((aS A).1 0) FU 1 s acc (by omega) (by omega) (by omega) d (fun q' t e => ?_)
    · have e1 : RC t.1 (wT A acc.2) := e.1
      show Ok (f_X9_largest_24 1 (f_X9_largest_11 1 q) (q' + 1) t.1 t.2 (nI i) (nI hg)) _
      simp only [f_X9_largest_24]
      refine ok_lt (fun k2 ek2 => ?_)
      subst ek2
      rw [e1.s.r1_2, e1.n.q0]
      refine ok_gd (by decide) (ok_f (by show ¬ nI ((aS A).1 0) < nI hg; rw [nI_ltI (by omega) (by omega)]; omega) ?_)
      refine okf (fun q2 (t : Hp × Int32) j => f_X9_largest_38 1 (f_X9_largest_11 1 q) (f_X9_largest_24 1 (f_X9_largest_11 1 q) q') q2 t.1 t.2 (nI i) (nI hg) j) ((aS A).1 1 + 1) (lgS (aS A) i hg) (fun _ t acc => RC t.1 (wT A acc.2) ∧ EqOff FX h t.1 ∧ t.2 = nI acc.1 ∧ acc.1 ≤ 36) _ 1 (fun q2 wd t acc wd1 wd2 f ll => ?_) ((aS A).1 1) FU 1 t acc (by omega) (by omega) (by omega) e (fun q2 t f => ?_)
      · obtain ⟨h2, v2⟩ := t
        obtain ⟨f1, f2, f3, f4⟩ := f
        have f1 : RC h2 (wT A acc.2) := f1
        have f3 : v2 = nI acc.1 := f3
        subst f3
        have hm : hg * wd ≤ 36 := Nat.le_trans (Nat.mul_le_mul (show hg ≤ 6 by omega) (show wd ≤ 6 by omega)) (by omega)
        show Ok (f_X9_largest_38 1 (f_X9_largest_11 1 q) (f_X9_largest_24 1 (f_X9_largest_11 1 q) q') (q2 + 1) h2 (nI acc.1) (nI i) (nI hg) (nI wd)) _
        simp only [f_X9_largest_38, f_X9_largest_112]
        refine ok_lt (fun k2 ek2 => ?_)
        subst ek2
        rw [f1.s.r1_2, f1.n.q1, p_isRoom f1.n hw (by omega) (by omega) (by omega), bd_s, pk_mul]
        refine ok_gd (by decide) (ok_f (by show ¬ nI ((aS A).1 1) < nI wd; rw [nI_ltI (by omega) (by omega)]; omega) ?_)
        simp only [nB_0, lt_u, i1, nI_add]
        by_cases z1 : acc.1 < hg * wd
        · by_cases z2 : rmb (aS A) hg wd i = true
          · have es : lgS (aS A) i hg acc wd = (hg * wd, [(nI i).toInt64, (nI hg).toInt64, (nI wd).toInt64]) := by rw [lgS, if_pos ⟨z1, z2⟩]
            refine ok_f (by rw [nI_leI (by omega) (by omega)]; omega) (ok_f (by show ¬ rmb (aS A) hg wd i = false; simp [z2]) ?_)
            rw [f1.s.r1_1]
            refine ok_gd (by decide) (ok_bd (c_t0 f1) (fun h23 ⟨c23, o23⟩ => ?_))
            rw [c23.s.r1_1]
            refine ok_gd (by decide) (ok_bd (c_t1 c23 (by simp [aT, wT, mkA]) _) (fun h26 ⟨c26, o26⟩ => ?_))
            rw [c26.s.r1_1]
            refine ok_gd (by decide) (ok_bd (c_t1 c26 (by simp [aT, wT, mkA]) _) (fun h29 ⟨c29, o29⟩ => ?_))
            rw [c29.s.r1_1]
            refine ok_gd (by decide) (ok_bd (c_t1 c29 (by simp [aT, wT, mkA]) _) (fun h32 ⟨c32, o32⟩ => ?_))
            exact ll (h32, nI (hg * wd)) ⟨by rw [es]; exact c32, EqOff.tr f2 ((F24y o23).tr ((F24y o26).tr ((F24y o29).tr (F24y o32)))), by rw [es], by rw [es]; exact hm⟩
          · have es : lgS (aS A) i hg acc wd = acc := by rw [lgS, if_neg (fun z => z2 z.2)]
            refine ok_f (by rw [nI_leI (by omega) (by omega)]; omega) (ok_t (by show rmb (aS A) hg wd i = false; simpa using z2) (ll (h2, nI acc.1) ⟨by rw [es]; exact f1, f2, by rw [es], by rw [es]; exact f4⟩))
        · have es : lgS (aS A) i hg acc wd = acc := by rw [lgS, if_neg (fun z => z1 z.1)]
          exact ok_t (by rw [nI_leI (by omega) (by omega)]; omega) (ll (h2, nI acc.1) ⟨by rw [es]; exact f1, f2, by rw [es], by rw [es]; exact f4⟩)
      · have f1 : RC t.1 (wT A _) := f.1
        show Ok (f_X9_largest_38 1 (f_X9_largest_11 1 q) (f_X9_largest_24 1 (f_X9_largest_11 1 q) q') (q2 + 1) t.1 t.2 (nI i) (nI hg) (nI ((aS A).1 1 + 1))) _
        simp only [f_X9_largest_38]
        refine ok_lt (fun k2 ek2 => ?_)
        clear ek2
        rw [f1.s.r1_2, f1.n.q1]
        refine ok_gd (by decide) (ok_t (by show nI ((aS A).1 1) < nI ((aS A).1 1 + 1); rw [nI_ltI (by omega) (by omega)]; omega) ?_)
        rw [lt_u, i1, nI_add]
        exact jj t f
    · have e1 : RC t.1 (wT A _) := e.1
      show Ok (f_X9_largest_24 1 (f_X9_largest_11 1 q) (q' + 1) t.1 t.2 (nI i) (nI ((aS A).1 0 + 1))) _
      simp only [f_X9_largest_24]
      refine ok_lt (fun k2 ek2 => ?_)
      clear ek2
      rw [e1.s.r1_2, e1.n.q0]
      refine ok_gd (by decide) (ok_t (by show nI ((aS A).1 0) < nI ((aS A).1 0 + 1); rw [nI_ltI (by omega) (by omega)]; omega) ?_)
      rw [lt_u, i1, nI_add]
      exact kk t e
  · have d1 : RC s.1 (wT A _) := d1
    show Ok (f_X9_largest_11 1 (q + 1) s.1 s.2 (nI (ncl (aS A)))) _
    simp only [f_X9_largest_11]
    refine ok_lt (fun k2 ek2 => ?_)
    rw [d1.s.r1_2, p_cells d1.n, bd_s]
    exact ok_gd (by decide) (ok_t (Int32.le_refl _) (ok_some ⟨d3, d1, d2⟩))
theorem r_largest (c : RM h m A n) (a : WA A n) : Ok (f_X10_largest h m) (fun o => o.1 = (sp_largest A).1 ∧ RM o.2 m (sp_largest A).2 n ∧ EqOff (FM m) h o.2) := by
  have hF := FU_big
  have hw := a.w
  have hb := ncl_le a.w
  have b2 := a.w.2.1
  have b4 := a.w.2.2.2.1
  rw [f_X10_largest]
  refine r_th c (fun h1 c1 o1 _ => ?_)
  rw [c1.s.r6, i255, m_sleptBy c1.g c1.w a.w (by omega), bd_s]
  refine ok_gd (nz_t (by omega)) (r_t0 c1 (fun h5 c5 o5 => ?_))
  generalize hY : bitsL (slp (aS A) (fun i => (255 : Nat).testBit i)) (ncl (aS A)) = Y
  refine okf (fun q (s : Hp × Int32) i => f_X10_largest_27 m q s.1 Y s.2 i) (ncl (aS A)) (lgC (aS A)) (fun _ s acc => RM s.1 m (wT A acc.2) n ∧ EqOff (FM m) h s.1 ∧ s.2 = nI acc.1 ∧ acc.1 ≤ 36) _ 0 (fun q i s acc _ hi d kk => ?_) (ncl (aS A)) FU 0 (h5, 0) (0, []) (by omega) (by omega) (by omega) ⟨c5, o1.ofs.tr (Dt_FM o5), rfl, by simp⟩ (fun q s ⟨d1, d2, d3, d4⟩ => ?_)
  · have d1 : RM s.1 m (wT A acc.2) n := d.1
    show Ok (f_X10_largest_27 m (q + 1) s.1 Y s.2 (nI i)) _
    simp only [f_X10_largest_27]
    refine ok_lt (fun k2 ek2 => ?_)
    subst ek2
    rw [m_cells d1.g, bd_s]
    refine ok_f (by show ¬ nI (ncl (aS A)) ≤ nI i; rw [nI_leI (by omega) (by omega)]; omega) ?_
    refine okf (fun q' (t : Hp × Int32) j => f_X10_largest_39 m (f_X10_largest_27 m q) q' t.1 Y t.2 (nI i) j) ((aS A).1 0 + 1) (lgH (aS A) i) (fun _ t acc => RM t.1 m (wT A acc.2) n ∧ EqOff (FM m) h t.1 ∧ t.2 = nI acc.1 ∧ acc.1 ≤ 36) _ 1 (fun q' hg t acc hg1 hg2 e jj => ?_) ((aS A).1 0) FU 1 s acc (by omega) (by omega) (by omega) d (fun q' t e => ?_)
    · have e1 : RM t.1 m (wT A acc.2) n := e.1
      show Ok (f_X10_largest_39 m (f_X10_largest_27 m q) (q' + 1) t.1 Y t.2 (nI i) (nI hg)) _
      simp only [f_X10_largest_39]
      refine ok_lt (fun k2 ek2 => ?_)
      subst ek2
      rw [e1.g.2.1]
      refine ok_f (by show ¬ nI ((aS A).1 0) < nI hg; rw [nI_ltI (by omega) (by omega)]; omega) ?_
      refine okf (fun q2 (t : Hp × Int32) j => f_X10_largest_51 m (f_X10_largest_27 m q) (f_X10_largest_39 m (f_X10_largest_27 m q) q') q2 t.1 Y t.2 (nI i) (nI hg) j) ((aS A).1 1 + 1) (lgS (aS A) i hg) (fun _ t acc => RM t.1 m (wT A acc.2) n ∧ EqOff (FM m) h t.1 ∧ t.2 = nI acc.1 ∧ acc.1 ≤ 36) _ 1 (fun q2 wd t acc wd1 wd2 f ll => ?_) ((aS A).1 1) FU 1 t acc (by omega) (by omega) (by omega) e (fun q2 t f => ?_)
      · obtain ⟨h2, v2⟩ := t
        obtain ⟨f1, f2, f3, f4⟩ := f
        have f1 : RM h2 m (wT A acc.2) n := f1
        have f3 : v2 = nI acc.1 := f3
        subst f3
        have hm : hg * wd ≤ 36 := Nat.le_trans (Nat.mul_le_mul (show hg ≤ 6 by omega) (show wd ≤ 6 by omega)) (by omega)
        have eh : (decide (i / (aS A).1 1 + hg ≤ (aS A).1 0) && decide (i % (aS A).1 1 + wd ≤ (aS A).1 1)) = hld (aS A) i hg wd := by simp [hld, hi]
        have g2 : atG h2 m (aS A) := f1.g
        show Ok (f_X10_largest_51 m (f_X10_largest_27 m q) (f_X10_largest_39 m (f_X10_largest_27 m q) q') (q2 + 1) h2 Y (nI acc.1) (nI i) (nI hg) (nI wd)) _
        simp only [f_X10_largest_51, f_X10_largest_131]
        refine ok_lt (fun k2 ek2 => ?_)
        subst ek2
        rw [g2.2.2, m_isIn g2 hw (by omega) (by omega) (by omega), bd_s, eh, m_area g2 hw (by omega) (by omega) (by omega), bd_s, pk_mul, ← hY]
        refine ok_f (by rw [nI_ltI (by omega) (by omega)]; omega) ?_
        simp only [nB_0, lt_u, i1, nI_add, and_0 (show ncl (aS A) ≤ 62 by omega)]
        rw [hY]
        have er : rmb (aS A) hg wd i = true ↔ (hld (aS A) i hg wd = true ∧ ¬ ∃ k, k < ncl (aS A) ∧ ovB (aS A) i hg wd k = true ∧ slp (aS A) (fun i => (255 : Nat).testBit i) k = true) := by
          rw [← rmp_255 hw, rmp, Bool.and_eq_true]
          refine and_congr_right (fun hh => ?_)
          rw [slp_und hw hh (by omega) (by omega), decide_eq_true_eq]
          constructor
          · rintro z ⟨j, z1, z2, z3⟩; rw [z j z1 z2] at z3; cases z3
          · intro z j z1 z2
            cases z3 : und (aS A) i hg wd j with
            | false => rfl
            | true => exact absurd ⟨j, z1, z2, z3⟩ z
        have stay : lgS (aS A) i hg acc wd = acc → Ok (f_X10_largest_51 m (f_X10_largest_27 m q) (f_X10_largest_39 m (f_X10_largest_27 m q) q') q2 h2 Y (nI acc.1) (nI i) (nI hg) (nI (wd + 1))) _ := fun es => ll (h2, nI acc.1) ⟨by rw [es]; exact f1, f2, by rw [es], by rw [es]; exact f4⟩
        by_cases z1 : acc.1 < hg * wd
        · refine ok_f (by rw [nI_leI (by omega) (by omega)]; omega) ?_
          refine ok_if (fun z2 => stay (by rw [lgS, if_neg (fun z => by rw [(er.mp z.2).1] at z2; cases z2)])) (fun z2 => ok_if (fun z3 => ?_) (fun z3 => stay (by rw [lgS, if_neg (fun z => z3 (er.mp z.2).2)])))
          have es : lgS (aS A) i hg acc wd = (hg * wd, [(nI i).toInt64, (nI hg).toInt64, (nI wd).toInt64]) := by rw [lgS, if_pos ⟨z1, er.mpr ⟨by simpa using z2, z3⟩⟩]
          refine r_t0 f1 (fun h18 c18 o18 => ok_bd (m_enters c18 (by simp [aT, wT, mkA]) _) (fun h19 ⟨c19, o19⟩ => ok_bd (m_enters c19 (by simp [aT, wT, mkA]) _) (fun h20 ⟨c20, o20⟩ => ok_bd (m_enters c20 (by simp [aT, wT, mkA]) _) (fun h21 ⟨c21, o21⟩ => ?_))))
          exact ll (h21, nI (hg * wd)) ⟨by rw [es]; exact c21, EqOff.tr f2 ((Dt_FM o18).tr ((Dt_FM o19).tr ((Dt_FM o20).tr (Dt_FM o21)))), by rw [es], by rw [es]; exact hm⟩
        · exact ok_t (by rw [nI_leI (by omega) (by omega)]; omega) (stay (by rw [lgS, if_neg (fun z => z1 z.1)]))
      · have f1 : RM t.1 m (wT A _) n := f.1
        show Ok (f_X10_largest_51 m (f_X10_largest_27 m q) (f_X10_largest_39 m (f_X10_largest_27 m q) q') (q2 + 1) t.1 Y t.2 (nI i) (nI hg) (nI ((aS A).1 1 + 1))) _
        simp only [f_X10_largest_51]
        refine ok_lt (fun k2 ek2 => ?_)
        clear ek2
        rw [f1.g.2.2]
        refine ok_t (by show nI ((aS A).1 1) < nI ((aS A).1 1 + 1); rw [nI_ltI (by omega) (by omega)]; omega) ?_
        rw [lt_u, i1, nI_add]
        exact jj t f
    · have e1 : RM t.1 m (wT A _) n := e.1
      show Ok (f_X10_largest_39 m (f_X10_largest_27 m q) (q' + 1) t.1 Y t.2 (nI i) (nI ((aS A).1 0 + 1))) _
      simp only [f_X10_largest_39]
      refine ok_lt (fun k2 ek2 => ?_)
      clear ek2
      rw [e1.g.2.1]
      refine ok_t (by show nI ((aS A).1 0) < nI ((aS A).1 0 + 1); rw [nI_ltI (by omega) (by omega)]; omega) ?_
      rw [lt_u, i1, nI_add]
      exact kk t e
  · have d1 : RM s.1 m (wT A _) n := d1
    show Ok (f_X10_largest_27 m (q + 1) s.1 Y s.2 (nI (ncl (aS A)))) _
    simp only [f_X10_largest_27]
    refine ok_lt (fun k2 ek2 => ?_)
    rw [m_cells d1.g, bd_s]
    exact ok_t (Int32.le_refl _) (ok_some ⟨d3, d1, d2⟩)
end LARGEST
