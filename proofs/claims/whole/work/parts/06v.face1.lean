/-! The class's face, and what each call answers and leaves -/
def bt (v s : Int32) : Int32 := ush32 v s &&& 255
def sp_sign (A : Ast) (v : Int32) : Int32 × Ast := if (aX A).length + 4 ≤ 80 then (nI ((aX A).length + 4), wX A ((aX A) ++ [bt v 24] ++ [bt v 16] ++ [bt v 8] ++ [bt v 0])) else (-1, A)
def sp_end (A : Ast) (n : Int32) : Int32 × Ast := if 0 ≤ n ∧ n ≤ nI (aX A).length then (1, wX A ((aX A).take (ix n))) else (0, A)
/-- a field of r rows and k columns, new -/
def layS (S : Fld) (r k : Nat) : Fld := setQ (setQ (setQ (setQ (setQ S 0 r) 1 k) 2 0) 3 0) 4 0
def dg36 (o : Option Nat) : Option Nat := match o with
  | some d => if 3 ≤ d ∧ d ≤ 6 then some d else none
  | none => none
def noK : Nat → Option Fld := fun _ => none
def sp_field (A : Ast) : Int32 × Ast := match dg36 (dgA (aX A) 0 (aX A).length), dg36 (dgA (aX A) 1 (aX A).length) with
  | none, _ => (-1, wX A [])
  | some _, none => (-2, wX A [])
  | some r, some k => if (aX A).length ≤ 2 then (nI (r * k), wX (wM (wK (wP (wS A (layS (aS A) r k)) []) noK) []) []) else (-3, wX A [])
section FACE1
variable {h h1 : Hp} {A : Ast}
theorem c_xadd (c : RC h A) (hl : (aX A).length < 80) (v : Int32) : Ok (f_X6_add h 2 v) (fun h1 => RC h1 (wX A (aX A ++ [v])) ∧ EqOff FX h h1) :=
  ok_mono (p_xadd c.x hl v) (fun h1 ⟨z1, z2⟩ => ⟨c.text z1 z2, z2.mono (F2_FX (by omega) (by omega))⟩)
theorem c_sign (c : RC h A) (v : Int32) : Ok (f_X9_sign h 1 v) (fun o => o.1 = (sp_sign A v).1 ∧ RC o.2 (sp_sign A v).2 ∧ EqOff FX h o.2) := by
  have hF := FU_big
  have hx := c.x.2.2.2.1
  have hx2 := c.x.2.2.2.2.1
  rw [f_X9_sign, c.s.r1_0, hx, show (4 : Int32) = nI 4 by decide, nI_add, show (80 : Int32) = nI 80 by decide]
  refine ok_gd (by decide) ?_
  simp (disch := omega) only [nI_le0]
  unfold sp_sign
  by_cases q : (aX A).length + 4 ≤ 80
  · rw [if_pos q, if_pos q]
    obtain ⟨k, hk⟩ : ∃ k, FU = k + 5 := ⟨FU - 5, by omega⟩
    rw [hk]
    simp only [f_X9_sign_19]
    refine ok_lt (fun k1 e1 => ?_)
    subst e1
    rw [c.s.r1_0]
    refine ok_f (by decide) (ok_gd (by decide) (ok_lt (fun v9 e9 => ?_)))
    subst e9
    refine ok_bd (c_xadd c (by omega) _) (fun ha ⟨ca, oa⟩ => ?_)
    refine ok_lt (fun v11 e11 => ?_)
    subst e11
    refine ok_lt (fun k2 e2 => ?_)
    subst e2
    rw [ca.s.r1_0]
    refine ok_f (by decide) (ok_gd (by decide) (ok_lt (fun v9 e9 => ?_)))
    subst e9
    refine ok_bd (c_xadd ca (by simp [aX, wX, mkA]; simp [aX] at q; omega) _) (fun hb ⟨cb, ob⟩ => ?_)
    refine ok_lt (fun v11 e11 => ?_)
    subst e11
    refine ok_lt (fun k3 e3 => ?_)
    subst e3
    rw [cb.s.r1_0]
    refine ok_f (by decide) (ok_gd (by decide) (ok_lt (fun v9 e9 => ?_)))
    subst e9
    refine ok_bd (c_xadd cb (by simp [aX, wX, mkA]; simp [aX] at q; omega) _) (fun hc ⟨cc, oc⟩ => ?_)
    refine ok_lt (fun v11 e11 => ?_)
    subst e11
    refine ok_lt (fun k4 e4 => ?_)
    subst e4
    rw [cc.s.r1_0]
    refine ok_f (by decide) (ok_gd (by decide) (ok_lt (fun v9 e9 => ?_)))
    subst e9
    refine ok_bd (c_xadd cc (by simp [aX, wX, mkA]; simp [aX] at q; omega) _) (fun hd ⟨cd, od⟩ => ?_)
    refine ok_lt (fun v11 e11 => ?_)
    subst e11
    refine ok_lt (fun k5 e5 => ?_)
    clear e5
    rw [cd.s.r1_0]
    refine ok_t (by decide) (ok_gd (by decide) (ok_some ⟨?_, cd, oa.tr (ob.tr (oc.tr od))⟩))
    rw [cd.x.2.2.2.1]
    simp [aX, wX, mkA]
  · rw [if_neg q, if_neg q]
    exact ok_some ⟨rfl, c, EqOff.rf⟩
theorem c_end (c : RC h A) (n : Int32) : Ok (f_X9_end h 1 n) (fun o => o.1 = (sp_end A n).1 ∧ RC o.2 (sp_end A n).2 ∧ EqOff FX h o.2) := by
  have hx := c.x.2.2.2.1
  have hx2 := c.x.2.2.2.2.1
  rw [f_X9_end, c.s.r1_0, hx]
  unfold sp_end
  refine ok_if (fun q => ?_) (fun q => ok_gd (by decide) (ok_if (fun q2 => ?_) (fun q2 => ?_)))
  · rw [if_neg (fun z => absurd q (Int32.not_lt.mpr z.1))]; exact ok_some ⟨rfl, c, EqOff.rf⟩
  · rw [if_pos ⟨Int32.not_lt.mp q, q2⟩]
    obtain ⟨e, h3⟩ := nI_ix (Int32.not_lt.mp q)
    rw [e, nI_leI h3 (by omega)] at q2
    refine ok_lt (fun h6 e6 => ok_some ⟨rfl, ?_, ?_⟩)
    · rw [e6]
      conv => arg 1; rw [e]
      exact c.text (p_xsize c.x q2) (EqOff.uI (Or.inl rfl))
    · rw [e6]; exact EqOff.uI (by unfold FX; omega)
  · rw [if_neg (fun z => q2 z.2)]; exact ok_some ⟨rfl, c, EqOff.rf⟩
/-- the text is empty again -/
theorem c_xclr (c : RC h A) : RC (upI h 2 1 (0 : Int32)) (wX A []) ∧ EqOff FX h (upI h 2 1 (0 : Int32)) := by
  have := c.text (p_xsize c.x (Nat.zero_le _)) (EqOff.uI (Or.inl rfl))
  rw [List.take_zero] at this
  exact ⟨this, EqOff.uI (by unfold FX; omega)⟩
theorem c_forget (c : RC h A) : Ok (f_X9_forgetStates h 1) (fun h1 => RC h1 (wK (wP A []) noK) ∧ EqOff FX h h1) := by
  rw [f_X9_forgetStates, c.s.r1_5]
  refine ok_gd (by decide) (ok_bd (p_pwipe c.p) (fun h1 ⟨z1, z2⟩ => ?_))
  have c1 := c.past z1 z2
  refine ok_lt (fun h2 e2 => ok_some ⟨?_, (z2.mono FPa_FX).tr (by rw [e2]; exact EqOff.uI (by unfold FX; omega))⟩)
  rw [e2]
  refine c1.kept ⟨0, by omega, by rw [hpI_upI, if_pos ⟨rfl, rfl⟩]; rfl, fun k hk => ⟨by simp [noK], fun T hT => by cases hT⟩⟩ (EqOff.uI (Or.inl rfl))
theorem oI_lt {o : Option Nat} (ho : ∀ d, o = some d → d ≤ 9) (k : Nat) (hk : k < 100) : (oI o < nI k) ↔ ∀ d, o = some d → d < k := by
  cases o with
  | none =>
    simp only [oI]
    constructor
    · intro _ d hd; cases hd
    · intro _
      have := nI_pos' (n := k) (by omega)
      exact Int32.lt_of_lt_of_le (by decide) this
  | some d =>
    have := ho d rfl
    simp only [oI]
    rw [nI_ltI (by omega) (by omega)]
    exact ⟨fun z e he => by cases he; exact z, fun z => z d rfl⟩
theorem c_fieldTold (c : RC h A) : Ok (f_X9_fieldTold h 1) (fun o => o.1 = (sp_field A).1 ∧ RC o.2 (match dg36 (dgA (aX A) 0 (aX A).length), dg36 (dgA (aX A) 1 (aX A).length) with
  | some r, some k => if (aX A).length ≤ 2 then wM (wK (wP (wS A (layS (aS A) r k)) []) noK) [] else A
  | _, _ => A) ∧ EqOff FX h o.2) := by
  have hF := FU_big
  have hx := c.x.2.2.2.1
  have hx2 := c.x.2.2.2.2.1
  obtain ⟨k, hk⟩ : ∃ k, FU = k + 3 := ⟨FU - 3, by omega⟩
  rw [f_X9_fieldTold, hk, sp_field]
  simp only [f_X9_fieldTold_2, f_X9_fieldTold_34]
  refine ok_lt (fun k1 e1 => ?_)
  subst e1
  rw [c.s.r1_0, hx, i0, p_digit c.x (by omega) (by omega), bd_s]
  refine ok_f (by decide) (ok_gd (by decide) ?_)
  have d0 : ∀ d, dgA (aX A) 0 (aX A).length = some d → d ≤ 9 := fun d hd => (dgA_le hd).1
  have d1 : ∀ d, dgA (aX A) 1 (aX A).length = some d → d ≤ 9 := fun d hd => (dgA_le hd).1
  have g3 : ∀ {o : Option Nat}, (∀ d, o = some d → d ≤ 9) → oI o < 3 → dg36 o = none := fun {o} ho z => by
    rw [i3, oI_lt ho 3 (by omega)] at z
    cases o with
    | none => rfl
    | some d => have := z d rfl; simp only [dg36]; rw [if_neg (by omega)]
  have g6 : ∀ {o : Option Nat}, (∀ d, o = some d → d ≤ 9) → ¬ oI o < 3 → oI o ≤ 6 → ∃ d, o = some d ∧ 3 ≤ d ∧ d ≤ 6 ∧ dg36 o = some d ∧ oI o = nI d := fun {o} ho z1 z2 => by
    rw [i3, oI_lt ho 3 (by omega)] at z1
    cases o with
    | none => exact absurd (fun d hd => by cases hd) z1
    | some d =>
      have := ho d rfl
      simp only [oI] at z2
      rw [show (6 : Int32) = nI 6 by decide, nI_leI (by omega) (by omega)] at z2
      have z3 : 3 ≤ d := by
        apply Classical.byContradiction
        intro q
        exact z1 (fun e he => by cases he; omega)
      exact ⟨d, rfl, z3, z2, by simp only [dg36]; rw [if_pos ⟨z3, z2⟩], rfl⟩
  have g7 : ∀ {o : Option Nat}, (∀ d, o = some d → d ≤ 9) → ¬ oI o ≤ 6 → dg36 o = none := fun {o} ho z => by
    cases o with
    | none => rfl
    | some d =>
      have := ho d rfl
      simp only [oI] at z
      rw [show (6 : Int32) = nI 6 by decide, nI_leI (by omega) (by omega)] at z
      simp only [dg36]; rw [if_neg (by omega)]
  refine ok_if (fun q => ?_) (fun q => ok_if (fun q2 => ?_) (fun q2 => ?_))
  · rw [g3 d0 q]; exact ok_some ⟨show (-1 : Int32) - nI 0 = -1 by decide, c, EqOff.rf⟩
  · obtain ⟨r, _, r1, r2, r3, r4⟩ := g6 d0 q q2
    rw [r3]
    refine ok_lt (fun v27 e27 => ?_)
    rw [i1, nI_add, Nat.zero_add] at e27
    subst e27
    refine ok_lt (fun k2 e2 => ?_)
    subst e2
    rw [c.s.r1_0, hx, p_digit c.x (i := 1) (e := (aX A).length) (by omega) (by omega), bd_s]
    refine ok_f (by decide) (ok_gd (by decide) ?_)
    refine ok_if (fun q => ?_) (fun q => ok_if (fun q2 => ?_) (fun q2 => ?_))
    · rw [g3 d1 q]; exact ok_some ⟨show (-1 : Int32) - nI 1 = -2 by decide, c, EqOff.rf⟩
    · obtain ⟨kk, _, k1, k2, k3, k4⟩ := g6 d1 q q2
      rw [k3]
      refine ok_lt (fun v27 e27 => ?_)
      rw [i1, nI_add] at e27
      subst e27
      refine ok_lt (fun k2 e2 => ?_)
      clear e2
      rw [c.s.r1_0, hx]
      refine ok_t (by decide) (ok_gd (by decide) ?_)
      rw [i2]
      simp (disch := omega) only [nI_le0]
      by_cases q5 : (aX A).length ≤ 2
      · simp only [q5, if_true]
        rw [c.s.r1_2, p_digit c.x (i := 0) (e := (aX A).length) (by omega) (by omega), r4, bd_s, i1, p_digit c.x (i := 1) (e := (aX A).length) (by omega) (by omega), k4, bd_s]
        refine ok_gd (by decide) (ok_bd (p_layOut c.n) (fun h1 ⟨z1, z2⟩ => ?_))
        have c1 := c.now z1 z2
        refine ok_bd (c_forget c1) (fun h2 ⟨c2, o2⟩ => ?_)
        rw [c2.s.r1_11]
        refine ok_gd (by decide) (ok_bd (p_nwipe c2.m) (fun o ⟨o3, o4, o5⟩ => ?_))
        have c3 := c2.marks o4 o5
        rw [c3.s.r1_2, p_cells c3.n, bd_s]
        refine ok_gd (by decide) (ok_some ⟨?_, c3, (z2.mono (FC_FX (by omega) (by omega))).tr (o2.tr (o5.mono (FR_FX (by omega) (by omega))))⟩)
        rfl
      · simp only [q5, if_false]
        exact ok_some ⟨rfl, c, EqOff.rf⟩
    · rw [g7 d1 q2]; exact ok_some ⟨show (-1 : Int32) - nI 1 = -2 by decide, c, EqOff.rf⟩
  · rw [g7 d0 q2]; exact ok_some ⟨show (-1 : Int32) - nI 0 = -1 by decide, c, EqOff.rf⟩
theorem c_field (c : RC h A) : Ok (f_X9_field h 1) (fun o => o.1 = (sp_field A).1 ∧ RC o.2 (sp_field A).2 ∧ EqOff FX h o.2) := by
  rw [f_X9_field]
  refine ok_bd (c_fieldTold c) (fun o ⟨o1, o2, o3⟩ => ?_)
  have e2 := c_xclr o2
  rw [o2.s.r1_0]
  refine ok_gd (by decide) (ok_lt (fun h4 e4 => ok_some ⟨o1, ?_, o3.tr (by rw [e4]; exact e2.2)⟩))
  rw [e4]
  have := e2.1
  unfold sp_field
  revert this
  cases dg36 (dgA (aX A) 0 (aX A).length) with
  | none => intro this; exact this
  | some r =>
    cases dg36 (dgA (aX A) 1 (aX A).length) with
    | none => intro this; exact this
    | some k =>
      simp only
      by_cases q : (aX A).length ≤ 2
      · simp only [q, if_true]; intro this; exact this
      · simp only [q, if_false]; intro this; exact this
end FACE1
