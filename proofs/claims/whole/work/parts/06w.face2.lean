def onC (S : Fld) : Int32 := bc32 (bitsB (onb S) (S.1 2))
def smS (S : Fld) : Int32 := sumB (S.2 4) (S.1 2)
def ent (kind v : Int32) : Int32 := if kind = 0 then v.toInt8.toInt32 else if kind = 1 then v.toInt16.toInt32 else v
/-- the strengths by a sheet: n entries of a kind, f, and step from one to the next -/
def shtS (S : Fld) (kind : Int32) (n : Nat) (f step : Int32) : Fld := (S.1, fun j i => if j = 4 ∧ i < S.1 2 then (if i < n then ix (dg (ent kind (f + nI i * step))) else 0) else S.2 j i)
def sp_sheet (A : Ast) (kind n f step : Int32) : Int32 × Ast := if kind < 0 ∨ 3 < kind ∨ 8 < n then (-1, A) else if kind = 3 then (-3, wS A (weakS (aS A) 0)) else if n < 0 then (-2, A) else (smS (shtS (aS A) kind (ix n) f step), wS A (shtS (aS A) kind (ix n) f step))
def sp_years (A : Ast) (n : Int32) : Int32 × Ast := match numIn (nI 0) (nI 60) n with
  | some k => (onC (yrs (lossE (aE A)) (aS A) k).2, wT (wP (wS A (yrs (lossE (aE A)) (aS A) k).2) (pushL (aP A) (aS A))) [(nI (yrs (lossE (aE A)) (aS A) k).1).toInt64, (smS (yrs (lossE (aE A)) (aS A) k).2).toInt64])
  | none => (-1, A)
/-- an act, done or not -/
def sp_act (A : Ast) (r : Int32 × Fld) : Int32 × Ast := if r.1 < 0 then (r.1, wS A r.2) else (r.1, wP (wS A r.2) (pushL (aP A) (aS A)))
def sp_undo (A : Ast) : Int32 × Ast := if (aP A).length = 0 then (-1, A) else (nI ((aP A).length - 1), wP (wS A ((aP A).getD ((aP A).length - 1) S00)) ((aP A).take ((aP A).length - 1)))
def sp_keep (A : Ast) (x : Int32) : Int32 × Ast := match numIn (nI 0) (nI 2) x with
  | some i => (1, wK A (fun k => if k = i then some (aS A) else aK A k))
  | none => (0, A)
def sp_again (A : Ast) (x : Int32) : Int32 × Ast := match numIn (nI 0) (nI 2) x with
  | some i => match aK A i with
    | some T => (1, wP (wS A T) [])
    | none => (0, A)
  | none => (0, A)
def sp_count (A : Ast) (x : Int32) : Int32 := if x = 0 then nI ((aS A).1 0) else if x = 1 then nI ((aS A).1 1) else if x = 2 then nI ((aS A).1 2) else if x = 3 then onC (aS A) else if x = 4 then nI ((aS A).1 3) else if x = 5 then nI ((aS A).1 4) else if x = 6 then smS (aS A) else if x = 7 then nI (aM A).length else if x = 8 then nI (aN A).length else if x = 9 then nI (aP A).length else if x = 10 then nI (aT A).length else if x = 11 then nI (aX A).length else -100
def sp_marked (A : Ast) (x y z : Int32) : Int32 × Ast := if (campOf (aS A) x).isSome = true ∧ (numIn (nI 0) (nI 30) y).isSome = true ∧ (numIn (nI 0) (nI 1) z).isSome = true ∧ (aM A).length < 10 then (nI ((aM A).length + 1), wM A (aM A ++ [(x, y, z)])) else (-1, A)
def sp_wiped (A : Ast) : Int32 × Ast := (nI (aM A).length, wM A [])
def mostH (x : Int32) : Int32 := if x = 0 then 9 else if x = 1 then 5 else if x = 2 then 5 else if x = 3 then 99 else if x = 4 then 7 else -1
def sp_heard (A : Ast) (x v : Int32) : Int32 × Ast := if 0 ≤ v ∧ v ≤ mostH x ∧ (aN A).length < 12 then (nI ((aN A).length + 1), wN A (aN A ++ [(x, v, 0)])) else (-1, A)
def sp_forget (A : Ast) : Int32 × Ast := (nI (aN A).length, wN A [])
section FACE2
variable {h h1 : Hp} {A : Ast} {S : Fld}
theorem c_t0 (c : RC h A) : Ok (f_X7_start h 4) (fun h1 => RC h1 (wT A []) ∧ EqOff (F2 4) h h1) := ok_mono (p_tstart c.t) (fun h1 ⟨z1, z2⟩ => ⟨c.told z1 z2, z2⟩)
theorem c_t1 (c : RC h A) (hl : (aT A).length < 128) (v : Int64) : Ok (f_X7_add h 4 v) (fun h1 => RC h1 (wT A (aT A ++ [v])) ∧ EqOff (F2 4) h h1) := ok_mono (p_tadd c.t hl v) (fun h1 ⟨z1, z2⟩ => ⟨c.told z1 z2, z2⟩)
theorem F24 : ∀ x, F2 4 x → FX x := F2_FX (by omega) (by omega)
theorem p_entry (h : Hp) (k v : Int32) : f_X9_entry h k v = some (ent k v) := by
  unfold f_X9_entry ent
  by_cases q : k = 0
  · rw [if_pos q, if_pos q]
  · rw [if_neg q, if_neg q]
    by_cases q2 : k = 1
    · rw [if_pos q2, if_pos q2]
    · rw [if_neg q2, if_neg q2]
theorem c_sheet (c : RC h A) (hw : wfF (aS A)) (kind n f step : Int32) : Ok (f_X9_sheet h 1 kind n f step) (fun o => o.1 = (sp_sheet A kind n f step).1 ∧ RC o.2 (sp_sheet A kind n f step).2 ∧ EqOff FX h o.2) := by
  have hF := FU_big
  have hw2 := hw
  obtain ⟨b1, b2, b3, b4, b5, b6, b7, b8, b9⟩ := hw
  have no : sp_sheet A kind n f step = (-1, A) → Ok (some ((-1 : Int32), h)) (fun o => o.1 = (sp_sheet A kind n f step).1 ∧ RC o.2 (sp_sheet A kind n f step).2 ∧ EqOff FX h o.2) := fun e => ok_some ⟨by rw [e], by rw [e]; exact c, EqOff.rf⟩
  rw [f_X9_sheet, c.s.r1_2]
  refine ok_if (fun q1 => no (by rw [sp_sheet, if_pos (Or.inl q1)])) (fun q1 => ok_if (fun q2 => no (by rw [sp_sheet, if_pos (Or.inr (Or.inl q2))])) (fun q2 => ok_if (fun q3 => ?_) (fun q3 => no (by rw [sp_sheet, if_pos (Or.inr (Or.inr (Int32.not_le.mp q3)))]))))
  have q4 : ¬ (kind < 0 ∨ 3 < kind ∨ 8 < n) := fun z => by
    rcases z with z | z | z
    · exact q1 z
    · exact q2 z
    · exact absurd z (Int32.not_lt.mpr q3)
  rw [sp_sheet, if_neg q4]
  refine ok_if (fun q5 => ?_) (fun q5 => ok_if (fun q6 => ?_) (fun q6 => ?_))
  · rw [if_pos q5, i0]
    refine ok_gd (by decide) (ok_bd (p_weaken c.n b5 (n := 0) (by omega)) (fun h1 ⟨z1, z2⟩ => ok_some ⟨rfl, c.now z1 z2, z2.mono (FC_FX (by omega) (by omega))⟩))
  · rw [if_neg q5, if_neg (Int32.not_lt.mpr q6)]
    obtain ⟨e, h3⟩ := nI_ix q6
    have hn : ix n ≤ 8 := by
      rw [e, i8, nI_leI h3 (by omega)] at q3; exact q3
    generalize hN : ix n = N at *
    subst e
    have fin : ∀ h2 k, (k = N ∨ k = (aS A).1 2) → k ≤ N → k ≤ (aS A).1 2 → RC h2 (wS A ((aS A).1, fun j i => if j = 4 ∧ i < k then ix (dg (ent kind (f + nI i * step))) else (aS A).2 j i)) → EqOff FX h h2 → Ok (f_X9_sheet_91 1 kind (nI N) f step h2) (fun o => o.1 = smS (shtS (aS A) kind N f step) ∧ RC o.2 (wS A (shtS (aS A) kind N f step)) ∧ EqOff FX h o.2) := by
      intro h2 k e1 e2 e3 c2 o2
      rw [f_X9_sheet_91, c2.s.r1_2]
      refine ok_gd (by decide) (ok_bd (p_weaken c2.n b5 (n := N) hn) (fun h3 ⟨z1, z2⟩ => ?_))
      have c3 := c2.now (S := shtS (aS A) kind N f step) (z1.ext (fun _ _ => rfl) (fun j i _ _ => ?_)) z2
      · rw [c3.s.r1_2]
        refine ok_gd (by decide) ?_
        rw [p_strengthOfAll c3.n ?_, bd_s]
        · exact ok_some ⟨rfl, c3, o2.tr (z2.mono (FC_FX (by omega) (by omega)))⟩
        · refine ⟨b1, b2, b3, b4, b5, b6, b7, fun j i => ?_, fun i hi => ?_⟩
          · show (if j = 4 ∧ i < (aS A).1 2 then (if i < N then ix (dg (ent kind (f + nI i * step))) else 0) else (aS A).2 j i) ≤ 99
            have := (dg_rng (ent kind (f + nI i * step))).2
            have := b8 j i
            repeat' split
            all_goals omega
          · have := b9 i hi
            have g := (dg_rng (ent kind (f + nI i * step))).2
            have e : ∀ j, j ≠ 4 → (shtS (aS A) kind N f step).2 j i = (aS A).2 j i := fun j hj => by simp [shtS, hj]
            show 1 ≤ (shtS (aS A) kind N f step).2 2 i ∧ (shtS (aS A) kind N f step).2 2 i ≤ 3 ∧ 1 ≤ (shtS (aS A) kind N f step).2 3 i ∧ (shtS (aS A) kind N f step).2 3 i ≤ 3 ∧ (shtS (aS A) kind N f step).2 0 i + (shtS (aS A) kind N f step).2 2 i ≤ (aS A).1 0 ∧ (shtS (aS A) kind N f step).2 1 i + (shtS (aS A) kind N f step).2 3 i ≤ (aS A).1 1 ∧ (shtS (aS A) kind N f step).2 4 i ≤ 9 ∧ (shtS (aS A) kind N f step).2 5 i ≤ 9
            rw [e 2 (by omega), e 3 (by omega), e 0 (by omega), e 1 (by omega), e 5 (by omega)]
            have e4 : (shtS (aS A) kind N f step).2 4 i ≤ 9 := by
              simp only [shtS]
              have := this.2.2.2.2.2.2.1
              repeat' split
              all_goals omega
            exact ⟨this.1, this.2.1, this.2.2.1, this.2.2.2.1, this.2.2.2.2.1, this.2.2.2.2.2.1, e4, this.2.2.2.2.2.2.2⟩
      · show (if j = 4 ∧ N ≤ i ∧ i < (aS A).1 2 then 0 else if j = 4 ∧ i < k then ix (dg (ent kind (f + nI i * step))) else (aS A).2 j i) = if j = 4 ∧ i < (aS A).1 2 then (if i < N then ix (dg (ent kind (f + nI i * step))) else 0) else (aS A).2 j i
        by_cases j4 : j = 4
        · simp only [j4, true_and]
          by_cases y1 : i < (aS A).1 2
          · by_cases y2 : i < N
            · rw [if_neg (by omega), if_pos (by omega), if_pos y1, if_pos y2]
            · rw [if_pos (by omega), if_pos y1, if_neg y2]
          · rw [if_neg (by omega), if_neg (by omega), if_neg y1]
        · simp [j4]
    rw [i0]
    have start : RC h (wS A ((aS A).1, fun j i => if j = 4 ∧ i < 0 then ix (dg (ent kind (f + nI i * step))) else (aS A).2 j i)) := by
      have : (fun j i => if j = 4 ∧ i < 0 then ix (dg (ent kind (f + nI i * step))) else (aS A).2 j i) = (aS A).2 := by
        funext j i; simp
      rw [this]; exact c
    refine okl (fun k h2 i => f_X9_sheet_43 1 kind (nI N) f step k h2 i) (min N ((aS A).1 2)) (fun i h2 => RC h2 (wS A ((aS A).1, fun j k => if j = 4 ∧ k < i then ix (dg (ent kind (f + nI k * step))) else (aS A).2 j k)) ∧ EqOff FX h h2) _ (fun k i h2 hi ⟨c2, o2⟩ kk => ?_) (fun k h2 ⟨c2, o2⟩ => ?_) (min N ((aS A).1 2)) FU 0 h (by omega) (by omega) ⟨start, EqOff.rf⟩
    · show Ok (f_X9_sheet_43 1 kind (nI N) f step (k + 1) h2 (nI i)) _
      simp only [f_X9_sheet_43]
      refine ok_lt (fun k2' ek => ?_)
      subst ek
      have q2 : hpI h2 6 2 = nI ((aS A).1 2) := c2.n.q2
      rw [c2.s.r1_2, q2, c2.n.r9, c2.n.t5, p_entry, bd_s, p_digitOf, bd_s, ix_nI (by omega)]
      refine ok_f (by rw [nI_leI (by omega) (by omega)]; omega) (ok_gd (by decide) (ok_f (by rw [nI_leI (by omega) (by omega)]; omega) (ok_gd (by decide) (ok_gd (inb_nI (by omega) (by omega)) (ok_lt (fun h19 e19 => ?_))))))
      refine ok_lt (fun v20 e20 => ?_)
      subst e20
      rw [i1, nI_add]
      have ed := (dg_rng (ent kind (f + nI i * step))).1
      rw [ed] at e19
      have c19 := c2.n.w4 (i := i) (v := ix (dg (ent kind (f + nI i * step))))
      rw [← e19] at c19
      have o19 : EqOff (FC 6) h2 h19 := by rw [e19]; exact EqOff.uI (by unfold FC; omega)
      refine kk h19 ⟨c2.now (c19.ext (fun _ _ => rfl) (fun j k _ _ => ?_)) o19, o2.tr (o19.mono (FC_FX (by omega) (by omega)))⟩
      simp only [setF, wS, aS, mkA]
      by_cases j4 : j = 4
      · by_cases e : k = i
        · simp [j4, e]
        · by_cases y : k < i
          · simp only [j4, e, y, true_and, if_false, if_true]; rw [if_pos (by omega)]
          · simp only [j4, e, y, true_and, if_false]; rw [if_neg (by omega)]
      · simp [j4]
    · show Ok (f_X9_sheet_43 1 kind (nI N) f step (k + 1) h2 (nI (min N ((aS A).1 2)))) _
      simp only [f_X9_sheet_43]
      refine ok_lt (fun k2' ek => ?_)
      clear ek
      have q2 : hpI h2 6 2 = nI ((aS A).1 2) := c2.n.q2
      rw [c2.s.r1_2, q2]
      refine ok_if (fun y1 => ?_) (fun y1 => ok_gd (by decide) (ok_t ?_ ?_))
      · rw [nI_leI (by omega) (by omega)] at y1
        exact fin h2 (min N ((aS A).1 2)) (by omega) (by omega) (by omega) c2 o2
      · rw [nI_leI (by omega) (by omega)] at y1
        rw [nI_leI (by omega) (by omega)]; omega
      · rw [nI_leI (by omega) (by omega)] at y1
        exact fin h2 (min N ((aS A).1 2)) (by omega) (by omega) (by omega) c2 o2
  · rw [if_neg q5, if_pos (Int32.not_le.mp q6)]
    exact ok_some ⟨rfl, c, EqOff.rf⟩
theorem c_years (c : RC h A) (hw : wfF (aS A)) (hy : (aS A).1 3 < 900000) (n : Int32) : Ok (f_X9_years h 1 n) (fun o => o.1 = (sp_years A n).1 ∧ RC o.2 (sp_years A n).2 ∧ EqOff FX h o.2) := by
  rw [f_X9_years, i0, show (60 : Int32) = nI 60 by decide, c.s.r1_3, c.s.r1_2]
  unfold sp_years
  rcases numAlt (lo := 0) (hi := 60) (by omega) (by omega) n with ⟨e, q⟩ | ⟨k, e, rfl, g1, g2⟩
  · rw [e]
    refine ok_if (fun _ => ok_some ⟨rfl, c, EqOff.rf⟩) (fun q2 => ok_f (Int32.not_le.mpr (q.resolve_left q2)) (ok_some ⟨rfl, c, EqOff.rf⟩))
  · rw [e]
    refine ok_f (by rw [nI_ltI (by omega) (by omega)]; omega) (ok_t (by rw [nI_leI (by omega) (by omega)]; omega) (ok_gd (by decide) (ok_gd (by decide) ?_)))
    refine ok_bd (c_copy c (a := 14) (by omega)) (fun h7 ⟨c7, b7, o7⟩ => ?_)
    rw [c7.s.r1_2, c7.s.r1_8]
    refine ok_gd (by decide) (ok_gd (by decide) (ok_bd (c_nowTimes c7 hw (by omega) (by omega)) (fun o ⟨o1, c12, o2⟩ => ?_)))
    have b12 : atC o.2 14 (aS A) := b7.keep o2 (fun x z1 z2 z3 => by unfold FY FC FR at z3; omega)
    rw [c12.s.r1_5, c12.s.r1_3, o1]
    refine ok_gd (by decide) (ok_gd (by decide) (ok_bd (p_ppush c12.p b12 (by omega)) (fun h17 ⟨z1, z2⟩ => ?_)))
    have c17 := c12.past z1 z2
    rw [c17.s.r1_1]
    refine ok_gd (by decide) (ok_bd (c_t0 c17) (fun h20 ⟨c20, o20⟩ => ?_))
    rw [c20.s.r1_1]
    refine ok_gd (by decide) (ok_bd (c_t1 c20 (by simp [aT, wT, mkA]) _) (fun h23 ⟨c23, o23⟩ => ?_))
    rw [c23.s.r1_1, c23.s.r1_2, p_strengthOfAll c23.n (wf_yrs hw k (by omega)), bd_s]
    refine ok_gd (by decide) (ok_gd (by decide) (ok_bd (c_t1 c23 (by simp [aT, wT, mkA]) _) (fun h29 ⟨c29, o29⟩ => ?_)))
    rw [c29.s.r1_2, p_onCount c29.n (wf_yrs hw k (by omega)), bd_s]
    exact ok_gd (by decide) (ok_some ⟨rfl, c29, (o7.mono (FC_FX (by omega) (by omega))).tr ((o2.mono (fun x z => by unfold FY FC FR at z; unfold FX; omega)).tr ((z2.mono FPa_FX).tr ((o20.mono F24).tr ((o23.mono F24).tr (o29.mono F24)))))⟩)
theorem F24y {h h1 : Hp} (e : EqOff (F2 4) h h1) : EqOff FX h h1 := e.mono F24
theorem c_noted (c : RC h (wS A S)) (b : atC h 14 (aS A)) (v : Int32) : Ok (f_X9_noted h 1 v) (fun o => o.1 = v ∧ RC o.2 (sp_act A (v, S)).2 ∧ EqOff FX h o.2) := by
  rw [f_X9_noted, c.s.r1_5, c.s.r1_3]
  unfold sp_act
  refine ok_if (fun q => ?_) (fun q => ok_gd (by decide) (ok_gd (by decide) (ok_bd (p_ppush c.p b (by omega)) (fun h1 ⟨z1, z2⟩ => ?_))))
  · rw [if_pos q]; exact ok_some ⟨rfl, c, EqOff.rf⟩
  · rw [if_neg q]; exact ok_some ⟨rfl, c.past z1 z2, z2.mono FPa_FX⟩
theorem c_act (c : RC h A) {R : Int32 × Fld} {f : Hp → Nat → Option (Int32 × Hp)} (hf : ∀ h2, RC h2 A → Ok (f h2 6) (fun o => o.1 = R.1 ∧ atC o.2 6 R.2 ∧ EqOff (FC 6) h2 o.2)) : Ok (gd (nz (hpR h 1 3)) <| gd (nz (hpR h 1 2)) <| (f_X0_copy h (hpR h 1 3) (hpR h 1 2)).bind fun q5 => gd (nz (hpR q5 1 2)) <| (f q5 (hpR q5 1 2)).bind fun q8 => (f_X9_noted q8.2 1 q8.1).bind fun q9 => some (q9.1, q9.2)) (fun o => o.1 = (sp_act A R).1 ∧ RC o.2 (sp_act A R).2 ∧ EqOff FX h o.2) := by
  rw [c.s.r1_3, c.s.r1_2]
  refine ok_gd (by decide) (ok_gd (by decide) (ok_bd (c_copy c (a := 14) (by omega)) (fun h5 ⟨c5, b5, o5⟩ => ?_)))
  rw [c5.s.r1_2]
  refine ok_gd (by decide) (ok_bd (hf h5 c5) (fun o ⟨o1, o2, o3⟩ => ?_))
  rw [o1]
  refine ok_bd (c_noted (c5.now o2 o3) (b5.keep o3 (fun x z1 z2 z3 => by unfold FC at z3; omega)) R.1) (fun p ⟨p1, p2, p3⟩ => ok_some ⟨?_, p2, (o5.mono (FC_FX (by omega) (by omega))).tr ((o3.mono (FC_FX (by omega) (by omega))).tr p3)⟩)
  rw [p1]; unfold sp_act; split <;> rfl
theorem c_pitch (c : RC h A) (hw : wfF (aS A)) (x1 x2 x3 x4 x5 : Int32) : Ok (f_X9_pitch h 1 x1 x2 x3 x4 x5) (fun o => o.1 = (sp_act A (pitchS (aS A) x1 x2 x3 x4 x5)).1 ∧ RC o.2 (sp_act A (pitchS (aS A) x1 x2 x3 x4 x5)).2 ∧ EqOff FX h o.2) := c_act (f := fun h a => f_X0_pitchOn h a x1 x2 x3 x4 x5) c (fun h2 c2 => p_pitchOn c2.n hw x1 x2 x3 x4 x5)
theorem c_treads (c : RC h A) (hw : wfF (aS A)) (x y : Int32) : Ok (f_X9_treads h 1 x y) (fun o => o.1 = (sp_act A (treadS (aS A) x y)).1 ∧ RC o.2 (sp_act A (treadS (aS A) x y)).2 ∧ EqOff FX h o.2) := c_act (f := fun h a => f_X0_treadOn h a x y) c (fun h2 c2 => p_treadOn c2.n hw x y)
theorem c_sings (c : RC h A) (hw : wfF (aS A)) (x y : Int32) : Ok (f_X9_sings h 1 x y) (fun o => o.1 = (sp_act A (singS (aS A) x y)).1 ∧ RC o.2 (sp_act A (singS (aS A) x y)).2 ∧ EqOff FX h o.2) := c_act (f := fun h a => f_X0_singTo h a x y) c (fun h2 c2 => p_singTo c2.n hw x y)
theorem c_moves (c : RC h A) (hw : wfF (aS A)) (x y : Int32) : Ok (f_X9_moves h 1 x y) (fun o => o.1 = (sp_act A (moveS (aS A) x y)).1 ∧ RC o.2 (sp_act A (moveS (aS A) x y)).2 ∧ EqOff FX h o.2) := c_act (f := fun h a => f_X0_move h a x y) c (fun h2 c2 => p_move c2.n hw x y)
theorem c_undo (c : RC h A) : Ok (f_X9_undo h 1) (fun o => o.1 = (sp_undo A).1 ∧ RC o.2 (sp_undo A).2 ∧ EqOff FX h o.2) := by
  have hp := c.p.2.2.1
  have hp2 := c.p.2.1
  rw [f_X9_undo, c.s.r1_5, c.s.r1_2, hp, i0]
  refine ok_gd (by decide) ?_
  simp (disch := omega) only [nI_eq0]
  unfold sp_undo
  by_cases q : (aP A).length = 0
  · rw [if_pos q, if_pos q]; exact ok_some ⟨rfl, c, EqOff.rf⟩
  · rw [if_neg q, if_neg q]
    refine ok_gd (by decide) (ok_bd (p_ppop c.p (by omega) c.n.1 (by omega)) (fun h7 ⟨z1, z2, z3⟩ => ?_))
    have D : ∀ x, (FPa 30 x ∨ FC 6 x) → (30 ≤ x ∧ x ≤ 151) ∨ (6 ≤ x ∧ x ≤ 13) := fun x z => by unfold FPa FC at z; omega
    have c7 : RC h7 (wP (wS A ((aP A).getD ((aP A).length - 1) S00)) ((aP A).take ((aP A).length - 1))) := ⟨c.1.keep z3.2.2.1 z3.2.2.2.1, c.x.keep z3 (fun x y1 y2 => by have := D x y2; unfold F2 at y1; omega), c.t.keep z3 (fun x y1 y2 => by have := D x y2; unfold F2 at y1; omega), z2, z1, c.k.keep z3 (fun y => by have := D _ y; omega) (fun x y1 y2 y3 => by have := D x y3; omega), c.r.keep z3 (fun x y1 y2 => by have := D x y2; unfold FR at y1; omega), c.m.keep z3 (fun x y1 y2 => by have := D x y2; unfold FR at y1; omega), c.g.keep z3 (fun x y1 y2 => by have := D x y2; unfold FR at y1; omega)⟩
    rw [c7.s.r1_5, c7.p.2.2.1]
    refine ok_gd (by decide) (ok_some ⟨?_, c7, z3.mono (fun x z => by have := D x z; unfold FX; omega)⟩)
    show nI ((aP A).take ((aP A).length - 1)).length = _
    rw [List.length_take, Nat.min_eq_left (by omega)]
theorem c_keep (c : RC h A) (x : Int32) : Ok (f_X9_keep h 1 x) (fun o => o.1 = (sp_keep A x).1 ∧ RC o.2 (sp_keep A x).2 ∧ EqOff FX h o.2) := by
  rw [f_X9_keep, i0, i3, c.s.r1_6, c.s.r1_2]
  unfold sp_keep
  rcases numAlt (lo := 0) (hi := 2) (by omega) (by omega) x with ⟨e, q⟩ | ⟨k, e, rfl, g1, g2⟩
  · rw [e]
    refine ok_if (fun _ => ok_some ⟨rfl, c, EqOff.rf⟩) (fun q2 => ok_f (fun z => ?_) (ok_some ⟨rfl, c, EqOff.rf⟩))
    have q3 := q.resolve_left q2
    obtain ⟨e2, h3⟩ := nI_ix (show 0 ≤ x by rw [i0]; exact Int32.not_lt.mp q2)
    rw [e2, nI_ltI (by omega) h3] at q3
    rw [e2, nI_ltI h3 (by omega)] at z
    omega
  · rw [e]
    refine ok_f (by rw [nI_ltI (by omega) (by omega)]; omega) (ok_t (by rw [nI_ltI (by omega) (by omega)]; omega) ?_)
    rw [c.s.t152, ix_nI (by omega)]
    have er : hpR h 152 k = 178 + 8 * k := by
      rcases (show k = 0 ∨ k = 1 ∨ k = 2 by omega) with rfl | rfl | rfl
      · exact c.s.r152_0
      · exact c.s.r152_1
      · exact c.s.r152_2
    rw [er]
    refine ok_gd (by decide) (ok_gd (inb_nI (by omega) (by omega)) (ok_gd (nz_t (by omega)) (ok_gd (by decide) ?_)))
    refine ok_bd (p_copy (c.1.2.2.2.2 k (by omega)) c.n (by omega)) (fun h9 ⟨z1, z2⟩ => ?_)
    obtain ⟨b, k1, k2, k3⟩ := c.k
    have eb : hpI h9 1 7 = nI b := by rw [z2.1 _ _ (by unfold FC; omega)]; exact k2
    rw [eb, i1, shl_1 k (by omega), lt_u, nI_or]
    refine ok_lt (fun h11 e11 => ok_some ⟨rfl, ?_, ?_⟩)
    · have e12 : EqOff (fun x => x = 1) h9 h11 := by rw [e11]; exact EqOff.uI rfl
      have e13 : EqOff (fun x => x = 1 ∨ (178 ≤ x ∧ x ≤ 201)) h h11 := (z2.mono (fun x z => by unfold FC at z; omega)).tr (e12.mono (fun x z => Or.inl z))
      refine c.kept ⟨b ||| 2 ^ k, ?_, by rw [e11, hpI_upI, if_pos ⟨rfl, rfl⟩], fun j hj => ⟨?_, fun T hT => ?_⟩⟩ e13
      · exact Nat.or_lt_two_pow (n := 3) k1 (Nat.pow_lt_pow_right (by omega) (by omega))
      · rw [Nat.testBit_or, Nat.testBit_two_pow, (k3 j hj).1]
        by_cases e : j = k
        · simp [e]
        · simp [e, show ¬ k = j by omega]
      · by_cases e : j = k
        · subst e
          simp only [if_true] at hT
          cases hT
          exact z1.keep e12 (fun x y1 y2 y3 => by omega)
        · simp only [e, if_false] at hT
          exact (((k3 j hj).2 T hT).keep z2 (fun x y1 y2 y3 => by unfold FC at y3; omega)).keep e12 (fun x y1 y2 y3 => by omega)
    · rw [e11]
      exact (z2.mono (FC_FX (by omega) (by omega))).tr (EqOff.uI (by unfold FX; omega))
theorem c_again (c : RC h A) (x : Int32) : Ok (f_X9_again h 1 x) (fun o => o.1 = (sp_again A x).1 ∧ RC o.2 (sp_again A x).2 ∧ EqOff FX h o.2) := by
  rw [f_X9_again, i0, i3, c.s.r1_6, c.s.r1_2]
  unfold sp_again
  rcases numAlt (lo := 0) (hi := 2) (by omega) (by omega) x with ⟨e, q⟩ | ⟨k, e, rfl, g1, g2⟩
  · rw [e]
    refine ok_if (fun _ => ok_some ⟨rfl, c, EqOff.rf⟩) (fun q2 => ok_t ?_ (ok_some ⟨rfl, c, EqOff.rf⟩))
    have q3 := q.resolve_left q2
    obtain ⟨e2, h3⟩ := nI_ix (show 0 ≤ x by rw [i0]; exact Int32.not_lt.mp q2)
    rw [e2, nI_ltI (by omega) h3] at q3
    rw [e2, nI_leI (by omega) h3]
    omega
  · rw [e]
    obtain ⟨b, k1, k2, k3⟩ := c.k
    refine ok_f (by rw [nI_ltI (by omega) (by omega)]; omega) (ok_f (by rw [nI_leI (by omega) (by omega)]; omega) ?_)
    rw [k2, p_isIn (by omega) (by omega), bd_s, (k3 k (by omega)).1]
    simp only [nB_00]
    cases hK : aK A k with
    | none => exact ok_t rfl (ok_some ⟨rfl, c, EqOff.rf⟩)
    | some T =>
      refine ok_f (by simp) ?_
      rw [c.s.t152, ix_nI (by omega)]
      have er : hpR h 152 k = 178 + 8 * k := by
        rcases (show k = 0 ∨ k = 1 ∨ k = 2 by omega) with rfl | rfl | rfl
        · exact c.s.r152_0
        · exact c.s.r152_1
        · exact c.s.r152_2
      rw [er]
      refine ok_gd (by decide) (ok_gd (by decide) (ok_gd (inb_nI (by omega) (by omega)) (ok_gd (nz_t (by omega)) ?_)))
      refine ok_bd (p_copy c.n.1 ((k3 k (by omega)).2 T hK) (by omega)) (fun h11 ⟨z1, z2⟩ => ?_)
      have c11 := c.now z1 z2
      rw [c11.s.r1_5]
      refine ok_gd (by decide) (ok_bd (p_pwipe c11.p) (fun h14 ⟨z3, z4⟩ => ok_some ⟨rfl, c11.past z3 z4, (z2.mono (FC_FX (by omega) (by omega))).tr (z4.mono FPa_FX)⟩))
theorem c_count (c : RC h A) (hw : wfF (aS A)) (x : Int32) : f_X9_count h 1 x = some (sp_count A x) := by
  unfold f_X9_count sp_count
  rw [c.s.r1_2, c.s.r1_11, c.s.r1_12, c.s.r1_5, c.s.r1_1, c.s.r1_0, c.n.q0, c.n.q1, c.n.q2, c.n.q3, c.n.q4, c.m.2.2.1, c.g.2.2.1, c.p.2.2.1, c.t.2.2.2.1, c.x.2.2.2.1, p_onCount c.n hw, p_strengthOfAll c.n hw, bd_s, bd_s]
  rw [gd_t (show nz 6 = true by decide), gd_t (show nz 6 = true by decide), gd_t (show nz 6 = true by decide), gd_t (show nz 6 = true by decide), gd_t (show nz 6 = true by decide), gd_t (show nz 6 = true by decide), gd_t (show nz 6 = true by decide), gd_t (show nz 162 = true by decide), gd_t (show nz 166 = true by decide), gd_t (show nz 30 = true by decide), gd_t (show nz 4 = true by decide), gd_t (show nz 2 = true by decide)]
  repeat' with_reducible refine ite_eqs (fun e => ?_) (fun e => ?_)
  all_goals (simp [*]; try rfl)
theorem c_wiped (c : RC h A) : Ok (f_X9_wiped h 1) (fun o => o.1 = (sp_wiped A).1 ∧ RC o.2 (sp_wiped A).2 ∧ EqOff FX h o.2) := by
  rw [f_X9_wiped, c.s.r1_11]
  exact ok_gd (by decide) (ok_bd (p_nwipe c.m) (fun o ⟨z1, z2, z3⟩ => ok_some ⟨z1, c.marks z2 z3, z3.mono (FR_FX (by omega) (by omega))⟩))
theorem c_forgets (c : RC h A) : Ok (f_X9_forget h 1) (fun o => o.1 = (sp_forget A).1 ∧ RC o.2 (sp_forget A).2 ∧ EqOff FX h o.2) := by
  rw [f_X9_forget, c.s.r1_12]
  exact ok_gd (by decide) (ok_bd (p_nwipe c.g) (fun o ⟨z1, z2, z3⟩ => ok_some ⟨z1, c.night z2 z3, z3.mono (FR_FX (by omega) (by omega))⟩))
theorem p_mostH (h : Hp) (x : Int32) : f_X9_mostHeard h x = some (mostH x) := by
  unfold f_X9_mostHeard mostH
  repeat' with_reducible refine ite_eqs (fun e => ?_) (fun e => ?_)
  all_goals simp [*]
theorem c_heard (c : RC h A) (x v : Int32) : Ok (f_X9_heard h 1 x v) (fun o => o.1 = (sp_heard A x v).1 ∧ RC o.2 (sp_heard A x v).2 ∧ EqOff FX h o.2) := by
  have hl := c.g.2.2.2.1
  rw [f_X9_heard, p_mostH, bd_s, c.s.r1_12, p_isFull c.g, bd_s]
  unfold sp_heard
  refine ok_if (fun q => ?_) (fun q => ok_if (fun q2 => ?_) (fun q2 => ok_gd (by decide) ?_))
  · rw [if_neg (fun z => absurd q (Int32.not_lt.mpr z.1))]; exact ok_some ⟨rfl, c, EqOff.rf⟩
  · rw [if_neg (fun z => absurd q2 (Int32.not_lt.mpr z.2.1))]; exact ok_some ⟨rfl, c, EqOff.rf⟩
  · simp only [nB_0]
    by_cases q3 : (aN A).length < 12
    · rw [if_pos (show 0 ≤ v ∧ v ≤ mostH x ∧ (aN A).length < 12 from ⟨Int32.not_lt.mp q, Int32.not_lt.mp q2, q3⟩)]
      refine ok_t (decide_eq_false (by omega)) (ok_bd (p_nadd c.g q3 x v 0) (fun h9 ⟨z1, z2⟩ => ?_))
      have c9 := c.night z1 z2
      rw [c9.s.r1_12, c9.g.2.2.1]
      exact ok_gd (by decide) (ok_some ⟨by show nI (aN A ++ [(x, v, 0)]).length = _; simp, c9, z2.mono (FR_FX (by omega) (by omega))⟩)
    · rw [if_neg (show ¬ (0 ≤ v ∧ v ≤ mostH x ∧ (aN A).length < 12) from fun z => q3 z.2.2)]
      refine ok_f (fun z => absurd (of_decide_eq_false z) (by omega)) (ok_some ⟨rfl, c, EqOff.rf⟩)
theorem c_marked (c : RC h A) (x y z : Int32) : Ok (f_X9_marked h 1 x y z) (fun o => o.1 = (sp_marked A x y z).1 ∧ RC o.2 (sp_marked A x y z).2 ∧ EqOff FX h o.2) := by
  rw [f_X9_marked, c.s.r1_2, c.s.r1_11, p_hasx c.n, bd_s, p_isFull c.m, bd_s]
  unfold sp_marked
  refine ok_gd (by decide) ?_
  simp only [nB_0]
  cases hx : (campOf (aS A) x).isSome with
  | false => exact ok_t rfl (ok_some ⟨by simp, by simp; exact c, EqOff.rf⟩)
  | true =>
    refine ok_f (by simp) ?_
    have ny : ∀ {lo hi : Int32} {y : Int32}, (y < lo ∨ hi < y) → (numIn lo hi y).isSome = false := fun {lo hi y} q => by
      unfold numIn
      rw [if_neg]
      · rfl
      · rintro ⟨z1, z2⟩
        rcases q with q | q
        · exact absurd q (Int32.not_lt.mpr z1)
        · exact absurd q (Int32.not_lt.mpr z2)
    have yy : ∀ {lo hi : Int32} {y : Int32}, lo ≤ y → y ≤ hi → (numIn lo hi y).isSome = true := fun {lo hi y} q1 q2 => by
      unfold numIn; rw [if_pos ⟨q1, q2⟩]; rfl
    rw [i0, i1]
    refine ok_if (fun q => ?_) (fun q => ok_if (fun q2 => ?_) (fun q2 => ok_if (fun q3 => ?_) (fun q3 => ok_if (fun q4 => ?_) (fun q4 => ok_gd (by decide) ?_))))
    · rw [ny (Or.inl q)]; exact ok_some ⟨by simp [n1m], by simp; exact c, EqOff.rf⟩
    · have : nI 30 < y := Int32.lt_of_lt_of_le (by decide) q2
      rw [ny (Or.inr this)]; exact ok_some ⟨by simp [n1m], by simp; exact c, EqOff.rf⟩
    · rw [ny (lo := nI 0) (y := z) (Or.inl q3)]; exact ok_some ⟨by simp [n1m], by simp; exact c, EqOff.rf⟩
    · rw [ny (hi := nI 1) (y := z) (Or.inr q4)]; exact ok_some ⟨by simp [n1m], by simp; exact c, EqOff.rf⟩
    · have y30 : y ≤ nI 30 := by
        obtain ⟨e2, h3⟩ := nI_ix (show 0 ≤ y by rw [i0]; exact Int32.not_lt.mp q)
        rw [show (31 : Int32) = nI 31 by decide, e2, nI_leI (by omega) h3] at q2
        rw [e2, nI_leI h3 (by omega)]; omega
      rw [yy (Int32.not_lt.mp q) y30, yy (Int32.not_lt.mp q3) (Int32.not_lt.mp q4)]
      by_cases q5 : (aM A).length < 10
      · rw [if_pos (show true = true ∧ true = true ∧ true = true ∧ (aM A).length < 10 from ⟨rfl, rfl, rfl, q5⟩)]
        refine ok_t (decide_eq_false (by omega)) (ok_bd (p_nadd c.m q5 x y z) (fun h9 ⟨z1, z2⟩ => ?_))
        have c9 := c.marks z1 z2
        rw [c9.s.r1_11, c9.m.2.2.1]
        exact ok_gd (by decide) (ok_some ⟨by show nI (aM A ++ [(x, y, z)]).length = _; simp, c9, z2.mono (FR_FX (by omega) (by omega))⟩)
      · rw [if_neg (show ¬ (true = true ∧ true = true ∧ true = true ∧ (aM A).length < 10) from fun w => q5 w.2.2.2)]
        refine ok_f (fun z => absurd (of_decide_eq_false z) (by omega)) (ok_some ⟨n1m, c, EqOff.rf⟩)
end FACE2
