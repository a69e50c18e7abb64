/-! What a rule means: of eight numbers (strength, age, others, height, width, column, row, year by seven) one -/
abbrev RE : Type := (Nat → Int32) → Int32
def askF (S : Fld) (i : Nat) (o : Int32) (k : Nat) : Int32 := if k = 0 then nI (S.2 4 i) else if k = 1 then nI (S.2 6 i) else if k = 2 then o else if k = 3 then nI (S.2 2 i) else if k = 4 then nI (S.2 3 i) else if k = 5 then nI (S.2 1 i) else if k = 6 then nI (S.2 0 i) else rm32 (nI (S.1 3)) 7
def lIx (x : Int32) : Nat := if x = 115 then 0 else if x = 97 then 1 else if x = 111 then 2 else if x = 104 then 3 else if x = 119 then 4 else if x = 99 then 5 else if x = 114 then 6 else 7
theorem mng_ask (S : Fld) (i : Nat) (o : Int32) : mng S i o = fun x => askF S i o (lIx x) := by
  funext x
  by_cases a1 : x = 115
  · subst a1; rfl
  by_cases a2 : x = 97
  · subst a2; rfl
  by_cases a3 : x = 111
  · subst a3; rfl
  by_cases a4 : x = 104
  · subst a4; rfl
  by_cases a5 : x = 119
  · subst a5; rfl
  by_cases a6 : x = 99
  · subst a6; rfl
  by_cases a7 : x = 114
  · subst a7; rfl
  simp [mng, lIx, askF, a1, a2, a3, a4, a5, a6, a7]
/-- a Rule of the class means E -/
def rdC (R : Nat × (Nat → Int32)) (E : RE) : Prop := ∀ env, pp1 (crn (fun x => env (lIx x)) R.2 (0, fun _ => 0) R.1) = E env
def oth (S : Fld) (i : Nat) : Int32 := bc32 (bitsB (crs S i) (S.1 2))
def lossE (E : RE) (S : Fld) (i : Nat) : Nat := if onb S i = true then ix (dg (E (askF S i (oth S i)))) else 0
theorem lossN_E {R : Nat × (Nat → Int32)} {E : RE} (hE : rdC R E) : lossN R = lossE E := by
  funext S i
  unfold lossN lossE lsV
  rw [mng_ask, hE]
  rfl
theorem lossE_le {E : RE} {S : Fld} {i : Nat} : lossE E S i ≤ 9 := by
  unfold lossE
  split
  · exact (dg_rng _).2
  · omega
/-! the reference's code -/
def wrk (o x y : Int32) : Int32 := (f_X10_worked ((fun _ _ => 0), (fun _ _ => 0), (fun _ _ => 0), (fun _ => (0, 0)), 0) o x y).getD 0
theorem wrk_h (h : Hp) (o x y : Int32) : f_X10_worked h o x y = some (wrk o x y) := by
  have e : (f_X10_worked h o x y).isSome = true := by
    unfold f_X10_worked f_X10_worked_50 f_X10_worked_64 f_X10_worked_78 f_X10_flag
    repeat' split
    all_goals first | rfl | (rw [gd_t (show nz32 y = true from decide_eq_true (by assumption))]; rfl)
  exact som_g e
def mst (env : Nat → Int32) (c : Int32) (s : Stk) : Stk := if c = 3000 then (s.1, stU s.2 (s.1 - 1) (-(s.2 (s.1 - 1)))) else if c < 2000 then (s.1 + 1, stU s.2 s.1 (if c < 1000 then c else env (ix (c - 1000)))) else (s.1 - 1, stU s.2 (s.1 - 2) (wrk (c - 2000) (s.2 (s.1 - 2)) (s.2 (s.1 - 1))))
def mOk (c : Int32) (d : Nat) : Prop := if c = 3000 then 1 ≤ d else if c < 2000 then d < 80 ∧ (¬ c < 1000 → c < 1008) else 2 ≤ d
def mrn (env : Nat → Int32) (code : Nat → Int32) : Nat → Stk
  | 0 => (0, fun _ => 0)
  | n + 1 => mst env (code n) (mrn env code n)
def rdM (cl : Nat) (code : Nat → Int32) (E : RE) : Prop := cl ≤ 80 ∧ ∀ env, (∀ k, k < cl → mOk (code k) (mrn env code k).1) ∧ (if cl = 0 then E env = 1 + nB (decide (1 < env 2)) else 1 ≤ (mrn env code cl).1 ∧ E env = (mrn env code cl).2 0)
/-- what the reference loses by now: its rule, or a law -/
def atE (h : Hp) (m : Nat) (E : RE) : Prop := (hpI h m 21 < 0 ∧ ∃ cl code, hpI h m 17 = nI cl ∧ (∀ k, k < cl → hpI h (m + 6) k = code k) ∧ rdM cl code E) ∨ ∃ l, l < 16 ∧ hpI h m 21 = nI l ∧ E = fun env => nI (l / 4) + nI (l % 4) * env 2
theorem atE.keep {h h1 : Hp} {m : Nat} {E : RE} (p : atE h m E) (e1 : hpI h1 m 21 = hpI h m 21) (e2 : hpI h1 m 17 = hpI h m 17) (e3 : ∀ k, hpI h1 (m + 6) k = hpI h (m + 6) k) : atE h1 m E := by
  rcases p with ⟨p1, cl, code, p2, p3, p4⟩ | ⟨l, p1, p2, p3⟩
  · exact Or.inl ⟨by rw [e1]; exact p1, cl, code, by rw [e2]; exact p2, fun k hk => by rw [e3]; exact p3 k hk, p4⟩
  · exact Or.inr ⟨l, p1, by rw [e1]; exact p2, p3⟩
section MRULE
variable {h : Hp} {m r : Nat} {S : Fld}
theorem mst_le {env : Nat → Int32} {c : Int32} {s : Stk} (ho : mOk c s.1) (hs : s.1 ≤ 80) : (mst env c s).1 ≤ 80 := by
  unfold mOk at ho
  unfold mst
  repeat' split
  all_goals (simp_all; try omega)
theorem m_ruled {cl : Nat} {code : Nat → Int32} {E : RE} {env : Nat → Int32} (s : shM h m) (c1 : hpI h m 17 = nI cl) (c2 : ∀ k, k < cl → hpI h (m + 6) k = code k) (c3 : rdM cl code E) (ha : ∀ k, k < 8 → hpI h (m + 9) k = env k) : Ok (f_X10_ruled h m) (fun o => o.1 = E env ∧ EqP (fun x _ => x = m + 8) h o.2) := by
  have hF := FU_big
  obtain ⟨q1, q2⟩ := c3
  obtain ⟨q3, q4⟩ := q2 env
  rw [f_X10_ruled, i0]
  refine okl (fun n (s : Hp × Int32) i => f_X10_ruled_4 m n s.1 s.2 i) cl (fun i s => s.2 = nI (mrn env code i).1 ∧ (mrn env code i).1 ≤ 80 ∧ (∀ j, j < (mrn env code i).1 → hpI s.1 (m + 8) j = (mrn env code i).2 j) ∧ EqP (fun x _ => x = m + 8) h s.1) _ (fun n i s hi ⟨d1, d2, d3, d4⟩ kk => ?_) (fun n s ⟨d1, d2, d3, d4⟩ => ?_) cl FU 0 (h, nI 0) (by omega) (by omega) ⟨rfl, by simp [mrn], fun j hj => absurd hj (by simp [mrn]), EqP.rf⟩
  · obtain ⟨h2, x⟩ := s
    have d1 : x = nI (mrn env code i).1 := d1
    subst d1
    have d3 : ∀ j, j < (mrn env code i).1 → hpI h2 (m + 8) j = (mrn env code i).2 j := d3
    have d4 : EqP (fun x _ => x = m + 8) h h2 := d4
    have s2 : shM h2 m := ‹shM h m›.ep d4
    have e17 : hpI h2 m 17 = nI cl := by rw [d4.1 _ _ (by omega)]; exact c1
    have ec : hpI h2 (m + 6) i = code i := by rw [d4.1 _ _ (by omega)]; exact c2 i hi
    have hm := q3 i hi
    have en : mrn env code (i + 1) = mst env (code i) (mrn env code i) := rfl
    generalize hS : mrn env code i = T at *
    show Ok (f_X10_ruled_4 m (n + 1) h2 (nI T.1) (nI i)) _
    simp only [f_X10_ruled_4]
    refine ok_lt (fun k4 ek => ?_)
    subst ek
    rw [e17]
    refine ok_f (fun z => by rw [nI_leI (by omega) (by omega)] at z; omega) ?_
    rw [s2.r15, s2.t6]
    refine ok_gd (nz_t (by omega)) (ok_gd (inb_nI (by omega) (by omega)) ?_)
    rw [ix_nI (by omega), ec]
    refine ok_lt (fun c ec2 => ?_)
    subst ec2
    rw [s2.r19, s2.t8, s2.r20, s2.t9]
    have fin : ∀ h3 (d : Nat) (f : Nat → Int32) (y : Int32), mst env (code i) T = (d, f) → y = nI d → d ≤ 80 → (∀ j, j < d → hpI h3 (m + 8) j = f j) → EqP (fun x _ => x = m + 8) h2 h3 → Ok (f_X10_ruled_119 m (f_X10_ruled_4 m n) h3 y (nI i)) _ := fun h3 d f y z0 z1 z2 z3 z4 => by
      rw [f_X10_ruled_119, i1, nI_add, lt_u]
      have zz : mrn env code (i + 1) = (d, f) := en.trans z0
      exact kk (h3, y) ⟨by rw [zz]; exact z1, by rw [zz]; exact z2, by rw [zz]; exact z3, d4.tr z4⟩
    unfold mOk at hm
    refine ok_if (fun v1 => ?_) (fun v1 => ok_if (fun v2 => ?_) (fun v2 => ?_))
    · rw [if_pos v1] at hm
      rw [i1, pk_sub (by omega)]
      simp (disch := omega) only [nz_t, gdT, inb_nI, ix_nI, d3, lt_u]
      refine fin _ T.1 (stU T.2 (T.1 - 1) (-(T.2 (T.1 - 1)))) _ (by rw [mst, if_pos v1]) rfl d2 (fun j hj => ?_) (EqP.uI rfl)
      rw [hpI_upI, stU]
      by_cases e : j = T.1 - 1
      · rw [if_pos ⟨rfl, e⟩, if_pos e]
      · rw [if_neg (fun z => e z.2), if_neg e]; exact d3 j hj
    · rw [if_neg v1, if_pos v2] at hm
      have push : ∀ v, v = (if code i < 1000 then code i else env (ix (code i - 1000))) → Ok (f_X10_ruled_115 m (f_X10_ruled_4 m n) h2 (m + 8) (nI T.1) v (nI T.1) (nI i)) (fun o => o.fst = E env ∧ EqP (fun x _ => x = m + 8) h o.snd) := fun v ev => by
        simp (disch := omega) only [f_X10_ruled_115, s2.t8, gdT, inb_nI, ix_nI, lt_u, i1, nI_add]
        refine fin _ (T.1 + 1) (stU T.2 T.1 v) _ (by rw [mst, if_neg v1, if_pos v2, ev]) rfl (by omega) (fun j hj => ?_) (EqP.uI rfl)
        rw [hpI_upI, stU]
        by_cases e : j = T.1
        · rw [if_pos ⟨rfl, e⟩, if_pos e]
        · rw [if_neg (fun z => e z.2), if_neg e]; exact d3 j (by omega)
      refine ok_gd (nz_t (by omega)) (ok_if (fun v3 => push _ (by rw [if_pos v3])) (fun v3 => ?_))
      have v4 := hm.2 v3
      have v5 : 0 ≤ code i := Int32.le_trans (by decide) (Int32.not_lt.mp v3)
      obtain ⟨e5, e6⟩ := nI_ix v5
      rw [e5, show (1000 : Int32) = nI 1000 by decide, nI_ltI e6 (by omega)] at v3
      rw [e5, show (1008 : Int32) = nI 1008 by decide, nI_ltI e6 (by omega)] at v4
      have e7 : code i - 1000 = nI (ix (code i) - 1000) := by
        conv => lhs; rw [e5]
        rw [show (1000 : Int32) = nI 1000 by decide, pk_sub (by omega)]
      have e8 : hpI h2 (m + 9) (ix (code i) - 1000) = env (ix (code i) - 1000) := by rw [d4.1 _ _ (by omega)]; exact ha _ (by omega)
      rw [e7]
      simp (disch := omega) only [nz_t, gdT, inb_nI, ix_nI, e8]
      refine push _ ?_
      rw [if_neg (by rw [e5, show (1000 : Int32) = nI 1000 by decide, nI_ltI e6 (by omega)]; omega), e7, ix_nI (by omega)]
    · rw [if_neg v1, if_neg v2] at hm
      have ea : nI T.1 + (-1) = nI (T.1 - 1) := nI_m1 (by omega)
      rw [ea]
      refine ok_lt (fun v22 ev => ?_)
      subst ev
      rw [i1, pk_sub (show 1 ≤ T.1 - 1 by omega)]
      simp (disch := omega) only [nz_t, gdT, inb_nI, ix_nI, d3, wrk_h, bd_s]
      refine ok_lt (fun h31 e31 => ?_)
      refine fin h31 (T.1 - 1) (stU T.2 (T.1 - 2) (wrk (code i - 2000) (T.2 (T.1 - 2)) (T.2 (T.1 - 1)))) _ (by rw [mst, if_neg v1, if_neg v2]) rfl (by omega) (fun j hj => ?_) (by rw [e31]; exact EqP.uI rfl)
      rw [e31, hpI_upI, stU]
      by_cases e : j = T.1 - 2
      · rw [if_pos ⟨rfl, by omega⟩, if_pos e, show T.1 - 1 - 1 = T.1 - 2 by omega]
      · rw [if_neg (fun z => e (by omega)), if_neg e]; exact d3 j (by omega)
  · obtain ⟨h2, x⟩ := s
    have d1 : x = nI (mrn env code cl).1 := d1
    subst d1
    have d3 : ∀ j, j < (mrn env code cl).1 → hpI h2 (m + 8) j = (mrn env code cl).2 j := d3
    have d4 : EqP (fun x _ => x = m + 8) h h2 := d4
    have s2 : shM h2 m := ‹shM h m›.ep d4
    have e17 : hpI h2 m 17 = nI cl := by rw [d4.1 _ _ (by omega)]; exact c1
    show Ok (f_X10_ruled_4 m (n + 1) h2 (nI (mrn env code cl).1) (nI cl)) _
    simp only [f_X10_ruled_4]
    refine ok_lt (fun k4 ek => ?_)
    clear ek
    rw [e17, if_pos (Int32.le_refl _), i0]
    simp (disch := omega) only [nI_eq0]
    by_cases q : cl = 0
    · rw [if_pos q] at q4 ⊢
      have e8 : hpI h2 (m + 9) 2 = env 2 := by rw [d4.1 _ _ (by omega)]; exact ha _ (by omega)
      simp (disch := omega) only [s2.r20, s2.t9, nz_t, gdT, i2, inb_nI, ix_nI, e8, f_X10_ruled_148]
      have e9 : (if env 2 ≤ (1 : Int32) then nI 0 else (1 : Int32)) = nB (decide (1 < env 2)) := by
        by_cases z : env 2 ≤ 1
        · rw [if_pos z, decide_eq_false (Int32.not_lt.mpr z)]; rfl
        · rw [if_neg z, decide_eq_true (Int32.not_le.mp z)]; rfl
      rw [e9, p_flag, bd_s]
      exact ok_some ⟨q4.symm, d4⟩
    · rw [if_neg q] at q4 ⊢
      simp (disch := omega) only [s2.r19, s2.t8, nz_t, gdT, inb_nI, ix_nI, d3]
      exact ok_some ⟨q4.2.symm, d4⟩
end MRULE
