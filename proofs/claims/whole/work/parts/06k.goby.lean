/-- the same, when the camp has grown a year older -/
def sl2 (S : Fld) (i : Nat) : Nat := if 0 < S.2 5 i ∧ (min 99 (S.2 6 i + 1)) % S.2 5 i = 0 then (if S.2 1 i + 1 + S.2 3 i ≤ S.1 1 then S.2 1 i + 1 else 0) else S.2 1 i
def yrC (L : Fld → Nat → Nat) (S : Fld) (j i : Nat) : Nat := if i < S.1 2 ∧ 0 < S.2 4 i then (if j = 1 then sl2 S i else if j = 4 then S.2 4 i - L S i else if j = 6 then min 99 (S.2 6 i + 1) else S.2 j i) else S.2 j i
def goneN (L : Fld → Nat → Nat) (S : Fld) : Nat → Nat
  | 0 => 0
  | n + 1 => goneN L S n + (if 0 < S.2 4 n ∧ S.2 4 n - L S n = 0 then 1 else 0)
theorem goneN_le {L : Fld → Nat → Nat} {S : Fld} : ∀ n, goneN L S n ≤ n := by
  intro n
  induction n with
  | zero => exact Nat.le_refl _
  | succ n ih => rw [goneN]; split <;> omega
def yearS (L : Fld → Nat → Nat) (S : Fld) : Fld := (fun k => if k = 3 then S.1 3 + 1 else if k = 4 then min 999 (S.1 4 + goneN L S (S.1 2)) else S.1 k, yrC L S)
theorem sl2_le {S : Fld} {i : Nat} (b4 : S.1 1 ≤ 6) (b8 : ∀ j i, S.2 j i ≤ 99) : sl2 S i ≤ 99 := by
  have := b8 1 i
  unfold sl2
  split
  · split <;> omega
  · omega
theorem yrC_le {L : Fld → Nat → Nat} {S : Fld} (b4 : S.1 1 ≤ 6) (b8 : ∀ j i, S.2 j i ≤ 99) (j i : Nat) : yrC L S j i ≤ 99 := by
  have h1 := b8 j i; have h4 := b8 4 i; have h3 := sl2_le (i := i) b4 b8
  unfold yrC
  repeat' split
  all_goals omega
theorem wf_year {L : Fld → Nat → Nat} {S : Fld} (hw : wfF S) (hy : S.1 3 + 1 < 1000000) : wfF (yearS L S) := by
  obtain ⟨b1, b2, b3, b4, b5, b6, b7, b8, b9⟩ := hw
  refine ⟨b1, b2, b3, b4, b5, hy, by show min 999 _ ≤ 999; omega, fun j i => yrC_le b4 b8 j i, fun i hi => ?_⟩
  have hi : i < S.1 2 := hi
  obtain ⟨g1, g2, g3, g4, g5, g6, g7, g8⟩ := b9 i hi
  show 1 ≤ yrC L S 2 i ∧ yrC L S 2 i ≤ 3 ∧ 1 ≤ yrC L S 3 i ∧ yrC L S 3 i ≤ 3 ∧ yrC L S 0 i + yrC L S 2 i ≤ S.1 0 ∧ yrC L S 1 i + yrC L S 3 i ≤ S.1 1 ∧ yrC L S 4 i ≤ 9 ∧ yrC L S 5 i ≤ 9
  have e : ∀ j, j ≠ 1 → j ≠ 4 → j ≠ 6 → yrC L S j i = S.2 j i := fun j z1 z2 z3 => by simp [yrC, z1, z2, z3]
  rw [e 2 (by omega) (by omega) (by omega), e 3 (by omega) (by omega) (by omega), e 0 (by omega) (by omega) (by omega), e 5 (by omega) (by omega) (by omega)]
  have e1 : yrC L S 1 i + S.2 3 i ≤ S.1 1 := by
    simp only [yrC, sl2, if_true]
    repeat' split
    all_goals omega
  have e4 : yrC L S 4 i ≤ 9 := by
    simp [yrC]
    split <;> omega
  exact ⟨g1, g2, g3, g4, g5, e1, e4, g8⟩
/-- while a year goes by: camps below i are done -/
def yrT (L : Fld → Nat → Nat) (S : Fld) (i : Nat) : Fld := (S.1, fun j k => if k < i then yrC L S j k else S.2 j k)
def FY (a r x : Nat) : Prop := FC a x ∨ FR r x
section GOBY
variable {h : Hp} {a r : Nat} {S : Fld}
theorem yrT_0 {L : Fld → Nat → Nat} {i : Nat} (hn : ¬ 0 < S.2 4 i) (c : atC h a (yrT L S i)) : atC h a (yrT L S (i + 1)) := c.ext (fun _ _ => rfl) (fun j k _ _ => by
  simp only [yrT]
  by_cases e : k = i
  · subst e
    rw [if_neg (by omega), if_pos (by omega), yrC, if_neg (fun z => hn z.2)]
  · by_cases q : k < i
    · rw [if_pos q, if_pos (by omega)]
    · rw [if_neg q, if_neg (by omega)])
theorem yrT_1 {L : Fld → Nat → Nat} {i : Nat} (hi : i < S.1 2) (hn : 0 < S.2 4 i) (c : atC h a (setF (setF (setF (yrT L S i) 4 i (S.2 4 i - L S i)) 6 i (min 99 (S.2 6 i + 1))) 1 i (sl2 S i))) : atC h a (yrT L S (i + 1)) := c.ext (fun _ _ => rfl) (fun j k _ _ => by
  simp only [yrT, setF]
  by_cases e : k = i
  · subst e
    rw [if_pos (show k < k + 1 by omega), yrC, if_pos (⟨hi, hn⟩ : k < S.1 2 ∧ 0 < S.2 4 k)]
    by_cases j1 : j = 1
    · simp [j1]
    · by_cases j4 : j = 4
      · simp [j4]
      · by_cases j6 : j = 6
        · simp [j6]
        · simp [j1, j4, j6]
  · simp only [e, and_false, if_false]
    by_cases q : k < i
    · rw [if_pos q, if_pos (by omega)]
    · rw [if_neg q, if_neg (by omega)])
theorem p_goBy {sz : Nat} {st : Nat → Int32} (c : atC h a S) (hw : wfF S) (hr : atR h r sz st) (hd : a + 7 < r ∨ r + 3 < a) : Ok (f_X0_goBy h a r) (fun o => o.1 = nI (goneN (lossN (sz, st)) S (S.1 2)) ∧ atC o.2 a (yearS (lossN (sz, st)) S) ∧ atR o.2 r sz st ∧ EqOff (FY a r) h o.2) := by
  have hF := FU_big
  have hw2 := hw
  obtain ⟨b1, b2, b3, b4, b5, b6, b7, b8, b9⟩ := hw
  rw [f_X0_goBy]
  refine ok_bd (p_losses c hw2 hr hd) (fun o ⟨o1, o2, o3, o4⟩ => ?_)
  rw [o1]
  have c0 : atC o.2 a (yrT (lossN (sz, st)) S 0) := (c.keep o3 (fun x z1 z2 z3 => by unfold FR at z3; omega)).ext (fun _ _ => rfl) (fun j k _ _ => rfl)
  have r0 := hr.keep2 o3.2.2.2.1 o4
  have e0 : EqOff (FY a r) h o.2 := o3.mono (fun x z => Or.inr z)
  generalize o.2 = h0 at o2 o3 o4 c0 r0 e0
  refine okl (fun n (s : Hp × Int32) i => f_X0_goBy_11 a r n s.1 (r + 3) s.2 i) (S.1 2) (fun i s => s.2 = nI (goneN (lossN (sz, st)) S i) ∧ atC s.1 a (yrT (lossN (sz, st)) S i) ∧ EqOff (FC a) h0 s.1) _ (fun n i s hi ⟨d1, d2, d3⟩ kk => ?_) (fun n s ⟨d1, d2, d3⟩ => ?_) (S.1 2) FU 0 (h0, 0) (by omega) (by omega) ⟨rfl, c0, EqOff.rf⟩
  · obtain ⟨h2, x⟩ := s
    have d1 : x = nI (goneN (lossN (sz, st)) S i) := d1
    have d2 : atC h2 a (yrT (lossN (sz, st)) S i) := d2
    have d3 : EqOff (FC a) h0 h2 := d3
    subst d1
    have hg := goneN_le (L := lossN (sz, st)) (S := S) i
    have v4 : (yrT (lossN (sz, st)) S i).2 4 i = S.2 4 i := by simp [yrT]
    have v6 : (yrT (lossN (sz, st)) S i).2 6 i = S.2 6 i := by simp [yrT]
    have hl : hpI h2 (r + 3) i = nI (lossN (sz, st) S i) := by rw [d3.1 _ _ (by unfold FC; omega)]; exact o2 i (by omega)
    have tl : hpT h2 (r + 3) = (2, 8) := by rw [d3.2.2.2.1]; exact r0.1.2.2.2.2.2.2
    have q2 : hpI h2 a 2 = nI (S.1 2) := d2.q2
    have w4 : hpI h2 (a + 5) i = nI (S.2 4 i) := by rw [d2.v4 (by omega), v4]
    have l4 := b8 4 i
    have ll := lossN_le (R := (sz, st)) (S := S) (i := i)
    have fin : ∀ h3 y, y = nI (goneN (lossN (sz, st)) S (i + 1)) → atC h3 a (yrT (lossN (sz, st)) S (i + 1)) → EqOff (FC a) h2 h3 → Ok (f_X0_goBy_93 a r (f_X0_goBy_11 a r n) h3 (r + 3) y (nI i)) _ := fun h3 y z0 z1 z2 => by
      rw [f_X0_goBy_93, i1, nI_add]
      exact kk (h3, y) ⟨z0, z1, d3.tr z2⟩
    show Ok (f_X0_goBy_11 a r (n + 1) h2 (r + 3) (nI (goneN (lossN (sz, st)) S i)) (nI i)) _
    simp only [f_X0_goBy_11]
    refine ok_lt (fun k2' ek => ?_)
    subst ek
    simp (disch := omega) only [q2, nI_le0, d2.r9, d2.t5, nz_t, gdT, inb_nI, ix_nI, w4, i0]
    rw [if_neg (by omega)]
    by_cases q : 0 < S.2 4 i
    · rw [if_neg (by omega), tl]
      simp (disch := omega) only [gdT, inb_nI, hl, mx_sub]
      refine ok_lt (fun v14 ev => ?_)
      subst ev
      refine ok_lt (fun h16 e16 => ?_)
      have c16 : atC h16 a (setF (yrT (lossN (sz, st)) S i) 4 i (S.2 4 i - lossN (sz, st) S i)) := by rw [e16]; exact d2.w4
      have t16 : EqOff (FC a) h2 h16 := by rw [e16]; exact eoC (by omega)
      clear e16
      have w16 : hpI h16 (a + 5) i = nI (S.2 4 i - lossN (sz, st) S i) := by rw [c16.v4 (by omega)]; simp [setF]
      have w17 : hpI h16 (a + 7) i = nI (S.2 6 i) := by rw [c16.v6 (by omega)]; simp [setF, yrT]
      have l6 := b8 6 i
      have go : ∀ y, y = nI (goneN (lossN (sz, st)) S (i + 1)) → Ok (f_X0_goBy_66 a r (f_X0_goBy_11 a r n) h16 (r + 3) y (nI i)) _ := fun y ey => by
        simp (disch := omega) only [f_X0_goBy_66, c16.r11, c16.t7, nz_t, gdT, inb_nI, ix_nI, w17, i1, nI_add, show (99 : Int32) = nI 99 by decide, mn_9]
        refine ok_lt (fun v26 ev => ?_)
        subst ev
        refine ok_lt (fun h28 e28 => ?_)
        have c28 := c16.w6 (i := i) (v := min 99 (S.2 6 i + 1))
        rw [← e28] at c28
        have t28 : EqOff (FC a) h16 h28 := by rw [e28]; exact eoC (by omega)
        clear e28
        refine ok_bd (p_slide c28 b4 (fun j k => ?_) (i := i) (by omega)) (fun h29 ⟨z1, z2⟩ => ?_)
        · have g1 := b8 j k; have g2 := yrC_le (L := lossN (sz, st)) b4 b8 j k
          simp only [setF, yrT]
          repeat' split
          all_goals omega
        · refine fin h29 y ey (yrT_1 hi q ?_) (t16.tr (t28.tr z2))
          have es : sld (setF (setF (yrT (lossN (sz, st)) S i) 4 i (S.2 4 i - lossN (sz, st) S i)) 6 i (min 99 (S.2 6 i + 1))) i = sl2 S i := by
            simp [sld, sl2, setF, yrT]
          rw [es] at z1
          exact z1
      simp (disch := omega) only [c16.r9, c16.t5, nz_t, gdT, inb_nI, w16, nI_eq0]
      by_cases q2 : S.2 4 i - lossN (sz, st) S i = 0
      · rw [if_pos q2, i1, nI_add, lt_u]
        exact go _ (by rw [goneN, if_pos ⟨q, q2⟩])
      · rw [if_neg q2]
        exact go _ (by rw [goneN, if_neg (fun z => q2 z.2), Nat.add_zero])
    · rw [if_pos (by omega)]
      exact fin h2 _ (by rw [goneN, if_neg (fun z => q z.1), Nat.add_zero]) (yrT_0 q d2) EqOff.rf
  · obtain ⟨h2, x⟩ := s
    have d1 : x = nI (goneN (lossN (sz, st)) S (S.1 2)) := d1
    have d2 : atC h2 a (yrT (lossN (sz, st)) S (S.1 2)) := d2
    have d3 : EqOff (FC a) h0 h2 := d3
    subst d1
    have hg := goneN_le (L := lossN (sz, st)) (S := S) (S.1 2)
    have q2 : hpI h2 a 2 = nI (S.1 2) := d2.q2
    have q4 : hpI h2 a 4 = nI (S.1 4) := d2.q4
    show Ok (f_X0_goBy_11 a r (n + 1) h2 (r + 3) (nI (goneN (lossN (sz, st)) S (S.1 2))) (nI (S.1 2))) _
    simp only [f_X0_goBy_11]
    refine ok_lt (fun k2' ek => ?_)
    clear ek
    rw [q2, if_pos (Int32.le_refl _), q4, nI_add, show (999 : Int32) = nI 999 by decide]
    have em : mn32 (nI 999) (nI (S.1 4 + goneN (lossN (sz, st)) S (S.1 2))) = nI (min 999 (S.1 4 + goneN (lossN (sz, st)) S (S.1 2))) := by
      unfold mn32
      simp (disch := omega) only [nI_lt0]
      by_cases q : S.1 4 + goneN (lossN (sz, st)) S (S.1 2) < 999
      · rw [if_pos q, Nat.min_eq_right (by omega)]
      · rw [if_neg q, Nat.min_eq_left (by omega)]
    rw [em]
    refine ok_lt (fun v3 ev => ?_)
    subst ev
    refine ok_lt (fun h4 e4 => ?_)
    have c4 : atC h4 a (setQ (yrT (lossN (sz, st)) S (S.1 2)) 4 (min 999 (S.1 4 + goneN (lossN (sz, st)) S (S.1 2)))) := by rw [e4]; exact d2.wq
    have t4 : EqOff (FC a) h2 h4 := by rw [e4]; exact eoC0
    clear e4
    have q3 : hpI h4 a 3 = nI (S.1 3) := by rw [c4.q3]; simp [setQ, yrT]
    rw [q3, i1, nI_add]
    refine ok_lt (fun h5 e5 => ?_)
    have c5 := c4.wq (k := 3) (v := S.1 3 + 1)
    rw [← e5] at c5
    have t5 : EqOff (FC a) h4 h5 := by rw [e5]; exact eoC0
    clear e5
    have tt : EqOff (FC a) h0 h5 := d3.tr (t4.tr t5)
    refine ok_some ⟨rfl, c5.ext (fun k hk => ?_) (fun j i hj hi => ?_), r0.keep tt (fun x z1 z2 => by unfold FR at z1; unfold FC at z2; omega), e0.tr (tt.mono (fun x z => Or.inl z))⟩
    · simp only [setQ, yearS, yrT]
    · simp only [setQ, yearS, yrT]
      by_cases q : i < S.1 2
      · rw [if_pos q]
      · rw [if_neg q, yrC, if_neg (fun z => q z.1)]
/-- n years: how many are lost, what is there then -/
def yrs (L : Fld → Nat → Nat) (S : Fld) : Nat → Nat × Fld
  | 0 => (0, S)
  | n + 1 => ((yrs L S n).1 + goneN L (yrs L S n).2 ((yrs L S n).2.1 2), yearS L (yrs L S n).2)
theorem yrs_y {L : Fld → Nat → Nat} : ∀ n, (yrs L S n).2.1 3 = S.1 3 + n := by
  intro n
  induction n with
  | zero => rfl
  | succ n ih => show (yearS L (yrs L S n).2).1 3 = _; simp only [yearS, if_true, ih]; omega
theorem wf_yrs {L : Fld → Nat → Nat} (hw : wfF S) : ∀ n, S.1 3 + n < 1000000 → wfF (yrs L S n).2 := by
  intro n
  induction n with
  | zero => intro _; exact hw
  | succ n ih => intro hn; exact wf_year (ih (by omega)) (by rw [yrs_y]; omega)
theorem p_goByTimes {sz : Nat} {st : Nat → Int32} (c : atC h a S) (hw : wfF S) (hr : atR h r sz st) (hd : a + 7 < r ∨ r + 3 < a) {n : Nat} (hn : n ≤ 100) (hy : S.1 3 + n < 1000000) : Ok (f_X0_goByTimes h a r (nI n)) (fun o => o.1 = nI (yrs (lossN (sz, st)) S n).1 ∧ atC o.2 a (yrs (lossN (sz, st)) S n).2 ∧ atR o.2 r sz st ∧ EqOff (FY a r) h o.2) := by
  have hF := FU_big
  rw [f_X0_goByTimes, i0]
  refine okl (fun k (s : Hp × Int32) i => f_X0_goByTimes_5 a r (nI n) k s.1 s.2 i) n (fun i s => s.2 = nI (yrs (lossN (sz, st)) S i).1 ∧ atC s.1 a (yrs (lossN (sz, st)) S i).2 ∧ atR s.1 r sz st ∧ EqOff (FY a r) h s.1) _ (fun k i s hi ⟨d1, d2, d3, d4⟩ kk => ?_) (fun k s ⟨d1, d2, d3, d4⟩ => ?_) n FU 0 (h, nI 0) (by omega) (by omega) ⟨rfl, c, hr, EqOff.rf⟩
  · obtain ⟨h2, x⟩ := s
    have d1 : x = nI (yrs (lossN (sz, st)) S i).1 := d1
    subst d1
    show Ok (f_X0_goByTimes_5 a r (nI n) (k + 1) h2 (nI (yrs (lossN (sz, st)) S i).1) (nI i)) _
    simp only [f_X0_goByTimes_5]
    refine ok_lt (fun k2' ek => ?_)
    subst ek
    simp (disch := omega) only [nI_le0]
    rw [if_neg (by omega)]
    refine ok_bd (p_goBy d2 (wf_yrs hw i (by omega)) d3 hd) (fun o ⟨z1, z2, z3, z4⟩ => ?_)
    simp only [lt_u, z1, nI_add, i1]
    exact kk (o.2, _) ⟨rfl, z2, z3, d4.tr z4⟩
  · obtain ⟨h2, x⟩ := s
    have d1 : x = nI (yrs (lossN (sz, st)) S n).1 := d1
    subst d1
    show Ok (f_X0_goByTimes_5 a r (nI n) (k + 1) h2 (nI (yrs (lossN (sz, st)) S n).1) (nI n)) _
    simp only [f_X0_goByTimes_5]
    refine ok_lt (fun k2' ek => ?_)
    rw [if_pos (Int32.le_refl _)]
    exact ok_some ⟨rfl, d2, d3, d4⟩
end GOBY
