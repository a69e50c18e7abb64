/-! stories: what is done -/
def dv (X : List Int32) (i : Nat) : Nat := match dgA X i X.length with
  | some d => d
  | none => 0
theorem dv_le (X : List Int32) (i : Nat) : dv X i ≤ 9 := by
  unfold dv
  cases q : dgA X i X.length with
  | none => exact Nat.zero_le _
  | some d => exact (dgA_le q).1
/-- an act of the k-th kind whose sign lies at a -/
def doA (E : RE) (X : List Int32) (S : Fld) (k a : Nat) : Int32 × Fld := match k with
  | 0 => (nI (yrs (lossE E) S (dv X (a + 1))).1, (yrs (lossE E) S (dv X (a + 1))).2)
  | 1 => moveS S (nI (dv X (a + 1))) (nI (dv X (a + 2)))
  | 2 => treadS S (nI (dv X (a + 1))) (nI (dv X (a + 2)))
  | 3 => singS S (nI (dv X (a + 1))) (nI (dv X (a + 2)))
  | _ => pitchS S (if dv X (a + 1) < S.1 0 ∧ dv X (a + 2) < S.1 1 then nI (dv X (a + 1) * S.1 1 + dv X (a + 2)) else -1) (nI (dv X (a + 3))) (nI (dv X (a + 4))) (nI (dv X (a + 5))) (nI (dv X (a + 6)))
/-- acts until one is refused: how many were done, whether one was refused, what is there then -/
def stE (E : RE) (X : List Int32) : List Nat → Nat → Fld → Nat × Nat × Fld
  | [], n, S => (n, 0, S)
  | a :: r, n, S => match acI (X.getD a 0) with
    | none => (n, 0, S)
    | some k => if 0 ≤ (doA E X S k a).1 then stE E X r (n + 1) (doA E X S k a).2 else (n, 1, (doA E X S k a).2)
def stA (A : Ast) (n rf : Nat) (S : Fld) : Ast := wT (wX (wP (wS A S) (if n = 0 then aP A else pushL (aP A) (aS A))) []) [(nI rf).toInt64, (nI (S.1 3)).toInt64]
def sp_story (A : Ast) : Int32 × Ast := match stG (aX A) (min (aX A).length 60) 61 [] 0 with
  | .inl b => ((-1 : Int32) - nI b, wX A [])
  | .inr ps => if (aX A).length ≤ 60 then (nI (stE (aE A) (aX A) ps 0 (aS A)).1, stA A (stE (aE A) (aX A) ps 0 (aS A)).1 (stE (aE A) (aX A) ps 0 (aS A)).2.1 (stE (aE A) (aX A) ps 0 (aS A)).2.2) else ((-1 : Int32) - nI 60, wX A [])
/-- acts that lie one behind another from a to e -/
def stW (X : List Int32) (e : Nat) : List Nat → Nat → Prop
  | [], a => a = e
  | b :: r, a => b = a ∧ a < e ∧ ∃ k, acI (X.getD a 0) = some k ∧ dgsG X e a k 0 (acN k) = none ∧ a + 1 + acN k ≤ e ∧ stW X e r (a + 1 + acN k)
theorem stG_W {X : List Int32} {e : Nat} : ∀ f ps a qs, e ≤ a + 2 * f → a ≤ e → stG X e (f + 1) ps a = .inr qs → ∃ r, qs = ps ++ r ∧ stW X e r a := by
  intro f
  induction f with
  | zero =>
    intro ps a qs e1 e2 h
    rw [stG, if_pos (by omega)] at h
    cases h
    exact ⟨[], by simp, show a = e by omega⟩
  | succ f ih =>
    intro ps a qs e1 e2 h
    rw [stG] at h
    by_cases w : e ≤ a
    · rw [if_pos w] at h
      cases h
      exact ⟨[], by simp, show a = e by omega⟩
    · rw [if_neg w] at h
      cases hk : acI (X.getD a 0) with
      | none => rw [hk] at h; cases h
      | some k =>
        rw [hk] at h
        have hn := acN_le k
        cases hd : dgsG X e a k 0 (acN k) with
        | some b => simp only [hd] at h; cases h
        | none =>
          simp only [hd] at h
          have n4 := (dgsG_e _ _ hd).resolve_left (by omega)
          obtain ⟨r, r1, r2⟩ := ih _ _ _ (by omega) (by omega) h
          exact ⟨a :: r, by rw [r1]; simp, rfl, by omega, k, hk, hd, by omega, r2⟩
theorem stW_len {X : List Int32} {e : Nat} : ∀ r a, stW X e r a → a + 2 * r.length ≤ e := by
  intro r
  induction r with
  | nil => intro a h; have h : a = e := h; simp; omega
  | cons b r ih =>
    intro a ⟨_, h1, k, _, _, h2, h3⟩
    have hn := acN_le k
    have := ih _ h3
    simp only [List.length_cons]
    omega
theorem dgsG_all {X : List Int32} {e a k : Nat} : ∀ d j, dgsG X e a k j d = none → ∀ i, j ≤ i → i < j + d → ∃ x, dgL X (a + 1 + i) e (acL k i) 9 = some x := by
  intro d
  induction d with
  | zero => intro j _ i h1 h2; omega
  | succ d ih =>
    intro j h i h1 h2
    rw [dgsG] at h
    cases hd : dgL X (a + 1 + j) e (acL k j) 9 with
    | none => rw [hd] at h; cases h
    | some x =>
      rw [hd] at h
      by_cases w : i = j
      · subst w; exact ⟨x, hd⟩
      · exact ih (j + 1) h i (by omega) (by omega)
theorem ok_doA {E : RE} {X : List Int32} {S : Fld} {k a : Nat} (hw : wfF S) (hy : S.1 3 + 9 < 1000000) : wfF (doA E X S k a).2 ∧ (doA E X S k a).2.1 0 = S.1 0 ∧ (doA E X S k a).2.1 1 = S.1 1 ∧ (doA E X S k a).2.1 3 ≤ S.1 3 + 9 := by
  have hd := dv_le X (a + 1)
  unfold doA
  split
  · exact ⟨wf_yrs hw _ (by omega), (yrs_01 _).1, (yrs_01 _).2, by show (yrs (lossE E) S (dv X (a + 1))).2.1 3 ≤ _; rw [yrs_y]; omega⟩
  · have := wf_move hw (nI (dv X (a + 1))) (nI (dv X (a + 2))); exact ⟨this.1, this.2.1, this.2.2.1, by rw [this.2.2.2]; omega⟩
  · have := wf_tread hw (nI (dv X (a + 1))) (nI (dv X (a + 2))); exact ⟨this.1, this.2.1, this.2.2.1, by rw [this.2.2.2]; omega⟩
  · have := wf_sing hw (nI (dv X (a + 1))) (nI (dv X (a + 2))); exact ⟨this.1, this.2.1, this.2.2.1, by rw [this.2.2.2]; omega⟩
  · have := wf_pitch hw (if dv X (a + 1) < S.1 0 ∧ dv X (a + 2) < S.1 1 then nI (dv X (a + 1) * S.1 1 + dv X (a + 2)) else -1) (nI (dv X (a + 3))) (nI (dv X (a + 4))) (nI (dv X (a + 5))) (nI (dv X (a + 6))); exact ⟨this.1, this.2.1, this.2.2.1, by rw [this.2.2.2]; omega⟩
section STORY2
variable {h h1 : Hp} {A : Ast}
theorem c_doA (c : RC h A) (hw : wfF (aS A)) (hy : (aS A).1 3 + 9 < 1000000) {a k : Nat} (ha : a < 100) (hX : a < (aX A).length) (hk : acI ((aX A).getD a 0) = some k) (hd : ∀ i, i < acN k → ∃ d, dgA (aX A) (a + 1 + i) (aX A).length = some d) : Ok (f_X9_actDone h 1 (nI a)) (fun o => o.1 = (doA (aE A) (aX A) (aS A) k a).1 ∧ RC o.2 (wS A (doA (aE A) (aX A) (aS A) k a).2) ∧ EqOff (FY 6 153) h o.2) := by
  have hx := c.x.2.2.2.1
  have hx2 := c.x.2.2.2.2.1
  have sd : ∀ i, 1 ≤ i → i ≤ acN k → f_X9_storyDigit h 1 (nI (a + i)) = some (nI (dv (aX A) (a + i))) := fun i i1 i2 => by
    have hn := acN_le k
    obtain ⟨d, hd⟩ := hd (i - 1) (by omega)
    rw [show a + 1 + (i - 1) = a + i by omega] at hd
    rw [f_X9_storyDigit, c.s.r1_0, hx, p_digit c.x (by omega) (by omega), bd_s, gd_t (by decide), dv, hd]
    rfl
  have l1 := dv_le (aX A) (a + 1)
  have l2 := dv_le (aX A) (a + 2)
  have hl := acI_lt hk
  have es : sgA (aX A) a = (aX A).getD a 0 := by unfold sgA; rw [if_pos hX]
  have hn := acN_le k
  have mn : ∀ {o : Int32 × Hp} {T : Fld}, atC o.2 6 T → EqOff (FC 6) h o.2 → RC o.2 (wS A T) ∧ EqOff (FY 6 153) h o.2 := fun z1 z2 => ⟨c.now z1 z2, z2.mono (fun x z => Or.inl z)⟩
  rw [f_X9_actDone, show (1 : Int32) = nI 1 by decide, show (2 : Int32) = nI 2 by decide, show (3 : Int32) = nI 3 by decide, show (4 : Int32) = nI 4 by decide, show (5 : Int32) = nI 5 by decide, show (6 : Int32) = nI 6 by decide, nI_add, nI_add, nI_add, nI_add, nI_add, nI_add, sd 1 (by omega) (by omega), bd_s, c.s.r1_0, c.s.r1_2, c.s.r1_8]
  refine ok_gd (by decide) ?_
  rw [p_get c.x (by omega), bd_s, es]
  rcases (show k = 0 ∨ k = 1 ∨ k = 2 ∨ k = 3 ∨ k = 4 by omega) with rfl | rfl | rfl | rfl | rfl
  · rw [hl.2.1.mp rfl]
    refine ok_t rfl (ok_gd (by decide) (ok_gd (by decide) (ok_bd (c_nowTimes c hw (by omega) (by omega)) (fun o ⟨z1, z2, z3⟩ => ok_some ⟨z1, z2, z3⟩))))
  · rw [hl.2.2.1.mp rfl, sd 2 (by omega) (by decide)]
    refine ok_f (by decide) (ok_f (by decide) (ok_f (by decide) (ok_f (by decide) (ok_f (by decide) (ok_f (by decide) (ok_f (by decide) (ok_gd (by decide) ?_)))))))
    rw [bd_s]
    exact ok_bd (p_move c.n hw _ _) (fun o ⟨z1, z2, z3⟩ => ok_some ⟨z1, mn z2 z3⟩)
  · rw [hl.2.2.2.1.mp rfl, sd 2 (by omega) (by decide)]
    refine ok_f (by decide) (ok_f (by decide) (ok_f (by decide) (ok_f (by decide) (ok_f (by decide) (ok_f (by decide) (ok_t (by decide) (ok_gd (by decide) ?_)))))))
    rw [bd_s]
    exact ok_bd (p_treadOn c.n hw _ _) (fun o ⟨z1, z2, z3⟩ => ok_some ⟨z1, mn z2 z3⟩)
  · rw [hl.2.2.2.2.1.mp rfl, sd 2 (by omega) (by decide)]
    refine ok_f (by decide) (ok_f (by decide) (ok_f (by decide) (ok_f (by decide) (ok_f (by decide) (ok_t (by decide) (ok_gd (by decide) ?_))))))
    rw [bd_s]
    exact ok_bd (p_singTo c.n hw _ _) (fun o ⟨z1, z2, z3⟩ => ok_some ⟨z1, mn z2 z3⟩)
  · rw [hl.2.2.2.2.2.mp rfl, sd 2 (by omega) (by decide), sd 3 (by omega) (by decide), sd 4 (by omega) (by decide), sd 5 (by omega) (by decide), sd 6 (by omega) (by decide)]
    refine ok_f (by decide) (ok_f (by decide) (ok_t (by decide) (ok_gd (by decide) ?_)))
    rw [bd_s, p_cellAt c.n hw (by omega) (by omega), bd_s, bd_s, bd_s, bd_s, bd_s]
    exact ok_bd (p_pitchOn c.n hw _ _ _ _ _) (fun o ⟨z1, z2, z3⟩ => ok_some ⟨z1, mn z2 z3⟩)
theorem c_st108 {S : Fld} {n rf : Nat} (c : RC h (wS A S)) (b : atC h 14 (aS A)) (hn : n < 1000) (hr : rf < 1000) : Ok (f_X9_story_108 1 h (nI n) (nI rf)) (fun o => o.1 = nI n ∧ RC o.2 (stA A n rf S) ∧ EqOff FX h o.2) := by
  obtain ⟨c2, o2⟩ := c_xclr c
  have b2 : atC (upI h 2 1 (0 : Int32)) 14 (aS A) := b.keep (EqOff.uI (F := F2 2) (Or.inl rfl)) (fun x z1 z2 z3 => by unfold F2 at z3; omega)
  have end1 : ∀ h3 P, RC h3 (wX (wP (wS A S) P) []) → EqOff FX h h3 → Ok (f_X9_story_131 1 h3 (nI n) (nI rf)) (fun o => o.1 = nI n ∧ RC o.2 (wT (wX (wP (wS A S) P) []) [(nI rf).toInt64, (nI (S.1 3)).toInt64]) ∧ EqOff FX h o.2) := by
    intro h3 P c3 o3
    rw [f_X9_story_131, c3.s.r1_1]
    refine ok_gd (by decide) (ok_bd (c_t0 c3) (fun h36 ⟨c36, o36⟩ => ?_))
    rw [c36.s.r1_1]
    refine ok_gd (by decide) (ok_bd (c_t1 c36 (by simp [aT, wT, mkA]) _) (fun h39 ⟨c39, o39⟩ => ?_))
    rw [c39.s.r1_1, c39.s.r1_2, c39.n.2.1 3 (by omega)]
    refine ok_gd (by decide) (ok_gd (by decide) (ok_bd (c_t1 c39 (by simp [aT, wT, mkA]) _) (fun h44 ⟨c44, o44⟩ => ?_)))
    exact ok_some ⟨rfl, c44, o3.tr ((o36.mono F24).tr ((o39.mono F24).tr (o44.mono F24)))⟩
  rw [f_X9_story_108, c.s.r1_0, lt_u]
  refine ok_gd (by decide) ?_
  unfold stA
  generalize upI h 2 1 (0 : Int32) = h27 at c2 b2 o2 ⊢
  by_cases w : n = 0
  · rw [if_pos w]
    refine ok_t (by rw [i0, nI_leI (by omega) (by omega)]; omega) ?_
    exact end1 _ _ c2 o2
  · rw [if_neg w]
    refine ok_f (by rw [i0, nI_leI (by omega) (by omega)]; omega) ?_
    rw [c2.s.r1_5, c2.s.r1_3]
    refine ok_gd (by decide) (ok_gd (by decide) (ok_bd (p_ppush c2.p b2 (by omega)) (fun h33 ⟨z1, z2⟩ => ?_)))
    exact end1 _ _ (c2.past z1 z2) (o2.tr (z2.mono FPa_FX))
theorem c_stE (he : (aX A).length ≤ 60) : ∀ r q n j a S h2, stW (aX A) (aX A).length r a → r.length < q → n = j → j + r.length ≤ 30 → wfF S → S.1 3 + 9 * r.length < 1000000 → RC h2 (wS A S) → atC h2 14 (aS A) → EqOff FX h h2 → Ok (f_X9_story_43 1 q h2 (nI n) (nI 0) (nI a) (nI j)) (fun o => o.1 = nI (stE (aE A) (aX A) r n S).1 ∧ RC o.2 (stA A (stE (aE A) (aX A) r n S).1 (stE (aE A) (aX A) r n S).2.1 (stE (aE A) (aX A) r n S).2.2) ∧ EqOff FX h o.2) := by
  intro r
  induction r with
  | nil =>
    intro q n j a S h2 g1 g2 g3 g4 hw hy c b o2
    obtain ⟨q, rfl⟩ : ∃ k, q = k + 1 := ⟨q - 1, by omega⟩
    have g1 : a = (aX A).length := g1
    have hx : hpI h2 2 1 = nI (aX A).length := c.x.2.2.2.1
    simp only [f_X9_story_43, lt_u]
    rw [c.s.r1_0, hx, g1]
    have hl : j ≤ 30 := by simp at g4; exact g4
    refine ok_f (by rw [show (60 : Int32) = nI 60 by decide, nI_leI (by omega) (by omega)]; omega) (ok_gd (by decide) (ok_t (Int32.le_refl _) ?_))
    exact ok_mono (c_st108 c b (by omega) (by omega)) (fun o ⟨z1, z2, z3⟩ => ⟨z1, z2, o2.tr z3⟩)
  | cons b0 r ih =>
    intro q n j a S h2 ⟨g0, g01, k, hk, hd, g02, g1⟩ g2 g3 g4 hw hy c b o2
    subst g0
    simp only [List.length_cons] at g2 g4 hy
    obtain ⟨q, rfl⟩ : ∃ k, q = k + 1 := ⟨q - 1, by omega⟩
    have hx : hpI h2 2 1 = nI (aX A).length := c.x.2.2.2.1
    have hn := acN_le k
    have es : sgA (aX A) b0 = (aX A).getD b0 0 := by unfold sgA; rw [if_pos g01]
    have dd : ∀ i, i < acN k → ∃ d, dgA (aX A) (b0 + 1 + i) (aX A).length = some d := fun i hi => by
      obtain ⟨x, z⟩ := dgsG_all _ _ hd i (by omega) (by omega)
      unfold dgL at z
      cases q : dgA (aX A) (b0 + 1 + i) (aX A).length with
      | none => rw [q] at z; cases z
      | some d => exact ⟨d, rfl⟩
    have ds := ok_doA (E := aE A) (X := aX A) (S := S) (k := k) (a := b0) hw (by omega)
    simp only [f_X9_story_43, f_X9_story_83, lt_u]
    rw [c.s.r1_0, hx]
    refine ok_f (by rw [show (60 : Int32) = nI 60 by decide, nI_leI (by omega) (by omega)]; omega) (ok_gd (by decide) (ok_f (by rw [nI_leI (by omega) (by omega)]; omega) (ok_t rfl ?_)))
    refine ok_bd (c_doA c hw (show S.1 3 + 9 < 1000000 by omega) (by omega) g01 hk dd) (fun o ⟨z1, z2, z3⟩ => ?_)
    have b3 : atC o.2 14 (aS A) := b.keep z3 (fun x y1 y2 y3 => by unfold FY FC FR at y3; omega)
    have o3 : EqOff FX h o.2 := o2.tr (z3.mono (fun x z => by unfold FY FC FR at z; unfold FX; omega))
    have z1 : o.1 = (doA (aE A) (aX A) S k b0).1 := z1
    have z2 : RC o.2 (wS A (doA (aE A) (aX A) S k b0).2) := z2
    have gx := p_get z2.x (i := b0) (by omega)
    rw [show aX (wS A (doA (aE A) (aX A) S k b0).2) = aX A from rfl, es] at gx
    rw [stE, hk, z1, z2.s.r1_0, gx, bd_s, p_dgb, hk, bd_s]
    simp only
    have en : nI b0 + ((1 : Int32) + nI (acN k)) = nI (b0 + 1 + acN k) := by rw [i1, nI_add, nI_add]; congr 1; omega
    rw [en, i1, nI_add, nI_add]
    by_cases w : 0 ≤ (doA (aE A) (aX A) S k b0).1
    · rw [if_pos w]
      refine ok_gd (by decide) ?_
      rw [if_pos w]
      exact ih q (n + 1) (j + 1) (b0 + 1 + acN k) _ o.2 g1 (by omega) (by omega) (by omega) ds.1 (by have := ds.2.2.2; omega) z2 b3 o3
    · rw [if_neg w]
      refine ok_gd (by decide) ?_
      rw [if_neg w]
      obtain ⟨q, rfl⟩ : ∃ k, q = k + 1 := ⟨q - 1, by omega⟩
      have hx3 : hpI o.2 2 1 = nI (aX A).length := z2.x.2.2.2.1
      simp only [f_X9_story_43, lt_u, bd_s, p_dgb, hk]
      rw [z2.s.r1_0, hx3]
      have fin : Ok (f_X9_story_108 1 o.2 (nI n) (nI 1)) (fun p => p.1 = nI n ∧ RC p.2 (stA A n 1 (doA (aE A) (aX A) S k b0).2) ∧ EqOff FX h p.2) := ok_mono (c_st108 z2 b3 (by omega) (by omega)) (fun o ⟨z1, z2, z3⟩ => ⟨z1, z2, o3.tr z3⟩)
      refine ok_f (by rw [show (60 : Int32) = nI 60 by decide, nI_leI (by omega) (by omega)]; omega) (ok_gd (by decide) (ok_if (fun _ => fin) (fun _ => ok_f (by decide) fin)))
theorem c_story (c : RC h A) (hw : wfF (aS A)) (hy : (aS A).1 3 < 900000) : Ok (f_X9_story h 1) (fun o => o.1 = (sp_story A).1 ∧ RC o.2 (sp_story A).2 ∧ EqOff FX h o.2) := by
  have hF := FU_big
  have hx2 := c.x.2.2.2.2.1
  obtain ⟨cc, oc⟩ := c_xclr c
  have bad : ∀ b, b < 1000 → Ok (if nI b = (-1 : Int32) then gd (nz (hpR h 1 3)) <| gd (nz (hpR h 1 2)) <| (f_X0_copy h (hpR h 1 3) (hpR h 1 2)).bind fun q7 => f_X9_story_43 1 FU q7 (0 : Int32) (0 : Int32) (0 : Int32) (0 : Int32) else gd (nz (hpR h 1 0)) <| lt (upI h (hpR h 1 0) 1 (0 : Int32)) fun h10 => some (((-1 : Int32) - nI b), h10)) (fun o => o.1 = (-1 : Int32) - nI b ∧ RC o.2 (wX A []) ∧ EqOff FX h o.2) := fun b hb => by
    rw [c.s.r1_0]
    exact ok_f (ne_m1 (by omega)) (ok_gd (by decide) (ok_lt (fun h10 e => ok_some ⟨rfl, by rw [e]; exact cc, by rw [e]; exact oc⟩)))
  rw [f_X9_story, p_badStory c, bd_s]
  unfold sp_story
  cases hs : stG (aX A) (min (aX A).length 60) 61 [] 0 with
  | inl b =>
    have hb : b < 1000 := by
      have : ∀ f ps a b, a ≤ 60 → stG (aX A) (min (aX A).length 60) f ps a = .inl b → b < 1000 := by
        intro f
        induction f with
        | zero => intro ps a b _ h; cases h
        | succ f ih =>
          intro ps a b ha h
          rw [stG] at h
          by_cases w : min (aX A).length 60 ≤ a
          · rw [if_pos w] at h; cases h
          · rw [if_neg w] at h
            cases hk : acI ((aX A).getD a 0) with
            | none => rw [hk] at h; cases h; omega
            | some k =>
              rw [hk] at h
              have hn := acN_le k
              cases hd : dgsG (aX A) (min (aX A).length 60) a k 0 (acN k) with
              | some b2 => simp only [hd] at h; cases h; have := dgsG_b _ _ _ (by omega) hd; omega
              | none =>
                simp only [hd] at h
                have n4 := (dgsG_e _ _ hd).resolve_left (by omega)
                exact ih _ _ _ (by omega) h
      exact this _ _ _ _ (by omega) hs
    exact bad b hb
  | inr ps =>
    by_cases w : (aX A).length ≤ 60
    · rw [show stR (aX A) (min (aX A).length 60) (Sum.inr ps) = -1 from if_pos w]
      simp only
      rw [if_pos w]
      rw [Nat.min_eq_left w] at hs
      obtain ⟨r, r1, r2⟩ := stG_W 60 [] 0 ps (by omega) (by omega) hs
      rw [List.nil_append] at r1
      subst r1
      have hl := stW_len _ _ r2
      rw [c.s.r1_3, c.s.r1_2]
      refine ok_t trivial (ok_gd (by decide) (ok_gd (by decide) (ok_bd (c_copy c (a := 14) (by omega)) (fun h7 ⟨c7, b7, o7⟩ => ?_))))
      exact c_stE w ps FU 0 0 0 (aS A) h7 r2 (by omega) rfl (by omega) hw (by omega) c7 b7 (o7.mono (FC_FX (by omega) (by omega)))
    · rw [show stR (aX A) (min (aX A).length 60) (Sum.inr ps) = nI 60 from (if_neg w).trans (by rw [Nat.min_eq_right (by omega)])]
      simp only
      rw [if_neg w]
      exact bad 60 (by omega)
end STORY2
theorem wa_story {A : Ast} {n : Nat} (a : WA A n) (hn : n < 1000) : WA (sp_story A).2 (n + 1) := by
  have h3 := a.1.2.2.2
  have hy := a.y
  unfold sp_story
  cases hs : stG (aX A) (min (aX A).length 60) 61 [] 0 with
  | inl b => exact a.up hn
  | inr ps =>
    simp only
    by_cases w : (aX A).length ≤ 60
    · rw [if_pos w]
      rw [Nat.min_eq_left w] at hs
      obtain ⟨r, r1, r2⟩ := stG_W 60 [] 0 ps (by omega) (by omega) hs
      rw [List.nil_append] at r1
      subst r1
      have hl := stW_len _ _ r2
      have go : ∀ (r : List Nat) m S, wfF S → S.1 3 + 9 * r.length < 1000000 → wfF (stE (aE A) (aX A) r m S).2.2 ∧ (stE (aE A) (aX A) r m S).2.2.1 0 = S.1 0 ∧ (stE (aE A) (aX A) r m S).2.2.1 1 = S.1 1 ∧ (stE (aE A) (aX A) r m S).2.2.1 3 ≤ S.1 3 + 9 * r.length := by
        intro r
        induction r with
        | nil => intro m S hw _; exact ⟨hw, rfl, rfl, Nat.le_add_right _ _⟩
        | cons b r ih =>
          intro m S hw hy
          simp only [List.length_cons] at hy ⊢
          rw [stE]
          cases hk : acI ((aX A).getD b 0) with
          | none => exact ⟨hw, rfl, rfl, Nat.le_add_right _ _⟩
          | some k =>
            have ds := ok_doA (E := aE A) (X := aX A) (S := S) (k := k) (a := b) hw (by omega)
            simp only
            by_cases w : 0 ≤ (doA (aE A) (aX A) S k b).1
            · rw [if_pos w]
              have := ih (m + 1) _ ds.1 (by have := ds.2.2.2; omega)
              exact ⟨this.1, this.2.1.trans ds.2.1, this.2.2.1.trans ds.2.2.1, by have := this.2.2.2; have := ds.2.2.2; omega⟩
            · rw [if_neg w]
              exact ⟨ds.1, ds.2.1, ds.2.2.1, by have := ds.2.2.2; show (doA (aE A) (aX A) S k b).2.1 3 ≤ _; omega⟩
      have g := go ps 0 (aS A) a.w (by omega)
      unfold stA
      by_cases w0 : (stE (aE A) (aX A) ps 0 (aS A)).1 = 0
      · rw [if_pos w0]
        exact a.fld hn g.1 g.2.1 g.2.2.1 (Nat.le_trans g.2.2.2 (by omega))
      · rw [if_neg w0]
        exact a.push hn g.1 g.2.1 g.2.2.1 (Nat.le_trans g.2.2.2 (by omega))
    · rw [if_neg w]
      exact a.up hn
