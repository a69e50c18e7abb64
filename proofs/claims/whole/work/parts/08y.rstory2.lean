section RSTORY2
variable {h h1 : Hp} {A : Ast} {m n : Nat} {S : Fld}
theorem yrs_le {L : Fld → Nat → Nat} (hw : wfF S) : ∀ n, n ≤ 100 → S.1 3 + n < 1000000 → (yrs L S n).1 ≤ 8 * n := by
  intro n
  induction n with
  | zero => intro _ _; exact Nat.le_refl _
  | succ n ih =>
    intro h1 h2
    have := ih (by omega) (by omega)
    have b := (wf_yrs (L := L) hw n (by omega)).2.2.2.2.1
    have g := goneN_le (L := L) (S := (yrs L S n).2) ((yrs L S n).2.1 2)
    show (yrs L S n).1 + goneN L (yrs L S n).2 ((yrs L S n).2.1 2) ≤ _
    omega
theorem DWY (e : EqP (DW (m + 2)) h h1) : EqP (DY m (m + 2)) h h1 := e.mono (fun x k z => Or.inr (Or.inl z))
theorem m_does51 {E : RE} (g : atG h m S) (w : atW h (m + 2) S) (hw : wfF S) (e : atE h m E) {N : Nat} {x : Int32} (hN : N ≤ 9) (hy : S.1 3 + 9 < 1000000) : Ok (f_X10_does_51 m x FU h (nI N) (nI 0)) (fun o => o.1 = 1 ∧ atW o.2 (m + 2) (yrs (lossE E) S N).2 ∧ EqP (DY m (m + 2)) h o.2) := by
  have hF := FU_big
  refine okl (fun k h2 i => f_X10_does_51 m x k h2 (nI N) i) N (fun i h2 => atW h2 (m + 2) (yrs (lossE E) S i).2 ∧ EqP (DY m (m + 2)) h h2) _ (fun k i h2 hi ⟨d1, d3⟩ kk => ?_) (fun k h2 ⟨d1, d3⟩ => ?_) N FU 0 h (by omega) (by omega) ⟨w, EqP.rf⟩
  · show Ok (f_X10_does_51 m x (k + 1) h2 (nI N) (nI i)) _
    simp only [f_X10_does_51]
    refine ok_lt (fun k2' ek => ?_)
    subst ek
    refine ok_f (by rw [nI_leI (by omega) (by omega)]; omega) ?_
    have es : (yrs (lossE E) S i).2.1 0 = S.1 0 ∧ (yrs (lossE E) S i).2.1 1 = S.1 1 := yrs_01 i
    have g2 : atG h2 m (yrs (lossE E) S i).2 := ⟨g.1.ep d3, by rw [es.1, d3.1 _ _ (by unfold DY; omega)]; exact g.2.1, by rw [es.2, d3.1 _ _ (by unfold DY; omega)]; exact g.2.2⟩
    have e2 := e.keep (d3.1 m 21 (by unfold DY; omega)) (d3.1 m 17 (by unfold DY; omega)) (fun k => d3.1 (m + 6) k (by unfold DY; omega))
    rw [g2.1.r6]
    refine ok_gd (nz_t (by omega)) (ok_bd (m_yearGoes g2 d1 (wf_yrs hw i (by omega)) e2 (Or.inl rfl)) (fun o ⟨z1, z2, z3⟩ => ?_))
    rw [i1, nI_add, lt_u]
    exact kk o ⟨z1, d3.tr z3⟩
  · show Ok (f_X10_does_51 m x (k + 1) h2 (nI N) (nI N)) _
    simp only [f_X10_does_51]
    refine ok_lt (fun k2' ek => ?_)
    exact ok_t (Int32.le_refl _) (ok_some ⟨rfl, d1, d3⟩)
theorem m_does {E : RE} (g : atG h m S) (w : atW h (m + 2) S) (hw : wfF S) (e : atE h m E) (hy : S.1 3 + 9 < 1000000) {X : List Int32} {j a k : Nat} (hj : j < 60) (hk : acI (X.getD a 0) = some k) (hv : hpI h (m + 12) j = nI k) (hd : ∀ i, i < acN k → hpI h (m + 13) (6 * j + i) = nI (dv X (a + 1 + i))) : Ok (f_X10_does h m (nI j)) (fun o => o.1 = nB (decide (0 ≤ (doA E X S k a).1)) ∧ atW o.2 (m + 2) (doA E X S k a).2 ∧ EqP (DY m (m + 2)) h o.2) := by
  have hF := FU_big
  have s := g.1
  have hl := acI_lt hk
  have hn := acN_le k
  have l1 := dv_le X (a + 1)
  have l2 := dv_le X (a + 2)
  have d0 : hpI h (m + 13) (6 * j) = nI (dv X (a + 1)) := hd 0 (by omega)
  have tail : ∀ {x : Option (Int32 × Hp)} {R : Int32 × Fld}, Ok x (fun o => o.1 = R.1 ∧ atW o.2 (m + 2) R.2 ∧ EqP (DW (m + 2)) h o.2) → Ok (x.bind fun q => if q.1 < 0 then some ((0 : Int32), q.2) else some ((1 : Int32), q.2)) (fun o => o.1 = nB (decide (0 ≤ R.1)) ∧ atW o.2 (m + 2) R.2 ∧ EqP (DY m (m + 2)) h o.2) := fun {x R} hx => by
    refine ok_bd hx (fun o ⟨z1, z2, z3⟩ => ?_)
    rw [z1]
    refine ok_if (fun z => ok_some ⟨?_, z2, DWY z3⟩) (fun z => ok_some ⟨?_, z2, DWY z3⟩)
    · rw [decide_eq_false (Int32.not_le.mpr z)]; rfl
    · rw [decide_eq_true (Int32.not_lt.mp z)]; rfl
  rw [f_X10_does, show (6 : Int32) = nI 6 by decide, pk_mul, lt_u, s.r27, s.t13, s.r26, s.t12, s.r6, ix_nI (by omega), ix_nI (by omega), d0, hv, lt_u, lt_u]
  refine ok_gd (nz_t (by omega)) (ok_gd (inb_nI (by omega) (by omega)) (ok_gd (nz_t (by omega)) (ok_gd (inb_nI (by omega) (by omega)) ?_)))
  rcases (show k = 0 ∨ k = 1 ∨ k = 2 ∨ k = 3 ∨ k = 4 by omega) with rfl | rfl | rfl | rfl | rfl
  · refine ok_t rfl ?_
    have eD : doA E X S 0 a = (nI (yrs (lossE E) S (dv X (a + 1))).1, (yrs (lossE E) S (dv X (a + 1))).2) := rfl
    have yl := yrs_le (L := lossE E) hw (dv X (a + 1)) (by omega) (by omega)
    rw [eD]
    refine ok_mono (m_does51 g w hw e (N := dv X (a + 1)) l1 hy) (fun o ⟨z1, z2, z3⟩ => ⟨?_, z2, z3⟩)
    rw [z1, decide_eq_true (nI_pos' (by omega))]; rfl
  · have d1 : hpI h (m + 13) (6 * j + 1) = nI (dv X (a + 2)) := hd 1 (by decide)
    refine ok_f (by decide) (ok_t rfl (ok_gd (nz_t (by omega)) ?_))
    rw [i1, nI_add, ix_nI (by omega), d1]
    exact ok_gd (inb_nI (by omega) (by omega)) (tail (m_movesOne g w hw _ _))
  · have d1 : hpI h (m + 13) (6 * j + 1) = nI (dv X (a + 2)) := hd 1 (by decide)
    refine ok_f (by decide) (ok_f (by decide) (ok_t rfl ?_))
    rw [i1, nI_add, ix_nI (by omega), d1]
    exact ok_gd (inb_nI (by omega) (by omega)) (tail (m_treadsOn g w hw _ _))
  · have d1 : hpI h (m + 13) (6 * j + 1) = nI (dv X (a + 2)) := hd 1 (by decide)
    refine ok_f (by decide) (ok_f (by decide) (ok_f (by decide) (ok_t rfl ?_)))
    rw [i1, nI_add, ix_nI (by omega), d1]
    exact ok_gd (inb_nI (by omega) (by omega)) (tail (m_singsTo g w hw _ _))
  · have d1 : hpI h (m + 13) (6 * j + 1) = nI (dv X (a + 2)) := hd 1 (by decide)
    have d2 : hpI h (m + 13) (6 * j + 2) = nI (dv X (a + 3)) := hd 2 (by decide)
    have d3 : hpI h (m + 13) (6 * j + 3) = nI (dv X (a + 4)) := hd 3 (by decide)
    have d4 : hpI h (m + 13) (6 * j + 4) = nI (dv X (a + 5)) := hd 4 (by decide)
    have d5 : hpI h (m + 13) (6 * j + 5) = nI (dv X (a + 6)) := hd 5 (by decide)
    refine ok_f (by decide) (ok_f (by decide) (ok_f (by decide) (ok_f (by decide) ?_)))
    have no : ¬ (dv X (a + 1) < S.1 0 ∧ dv X (a + 2) < S.1 1) → Ok (some ((0 : Int32), h)) (fun o => o.1 = nB (decide (0 ≤ (doA E X S 4 a).1)) ∧ atW o.2 (m + 2) (doA E X S 4 a).2 ∧ EqP (DY m (m + 2)) h o.2) := fun z => by
      have e : doA E X S 4 a = (-1, S) := by
        show pitchS S (if dv X (a + 1) < S.1 0 ∧ dv X (a + 2) < S.1 1 then nI (dv X (a + 1) * S.1 1 + dv X (a + 2)) else -1) _ _ _ _ = _
        rw [if_neg z]
        have : cellOfI S (-1) = none := by unfold cellOfI; rw [if_neg (fun y => absurd y.1 (by decide))]
        unfold pitchS
        rw [this]
      rw [e]
      exact ok_some ⟨rfl, w, EqP.rf⟩
    have b2 := hw.2.1
    have b4 := hw.2.2.2.1
    simp only [f_X10_does_170, f_X10_does_171]
    rw [g.2.1, g.2.2, s.r27, s.t13, s.r6, i1, i2, i3, show (4 : Int32) = nI 4 by decide, show (5 : Int32) = nI 5 by decide, nI_add, nI_add, nI_add, nI_add, nI_add, ix_nI (show 6 * j + 1 < 2 ^ 31 by omega), ix_nI (show 6 * j + 2 < 2 ^ 31 by omega), ix_nI (show 6 * j + 3 < 2 ^ 31 by omega), ix_nI (show 6 * j + 4 < 2 ^ 31 by omega), ix_nI (show 6 * j + 5 < 2 ^ 31 by omega), d1, d2, d3, d4, d5, pk_mul, nI_add]
    refine ok_if (fun z => ok_t trivial (no (fun y => ?_))) (fun z => ok_gd (inb_nI (by omega) (by omega)) (ok_if (fun z2 => ok_t trivial (no (fun y => ?_))) (fun z2 => ok_f (by decide) ?_)))
    · rw [nI_leI (by omega) (by omega)] at z; omega
    · rw [nI_leI (by omega) (by omega)] at z2; omega
    · rw [nI_leI (by omega) (by omega)] at z z2
      have eD : doA E X S 4 a = pitchS S (nI (S.1 1 * dv X (a + 1) + dv X (a + 2))) (nI (dv X (a + 3))) (nI (dv X (a + 4))) (nI (dv X (a + 5))) (nI (dv X (a + 6))) := by
        show pitchS S (if dv X (a + 1) < S.1 0 ∧ dv X (a + 2) < S.1 1 then nI (dv X (a + 1) * S.1 1 + dv X (a + 2)) else -1) _ _ _ _ = _
        rw [if_pos ⟨by omega, by omega⟩, Nat.mul_comm]
      rw [eD]
      exact ok_gd (nz_t (by omega)) (ok_gd (nz_t (by omega)) (ok_gd (inb_nI (by omega) (by omega)) (ok_gd (inb_nI (by omega) (by omega)) (ok_gd (inb_nI (by omega) (by omega)) (ok_gd (inb_nI (by omega) (by omega)) (ok_gd (inb_nI (by omega) (by omega)) (tail (m_pitches g w hw _ _ _ _ _))))))))
/-- what a story leaves -/
theorem r_st88 {j rf N : Nat} (c : RM h m (wS (wX A []) S) n) (hP : ∀ i, i < (aP A).length → ((aP A).getD i S00).1 2 ≤ 8) (h8 : (aS A).1 2 ≤ 8) (q : mQ h m (aP A).length (aS A)) (hN : hpI h m 28 = nI N) (hj : j ≤ N) (hN6 : N < 100) (hrf : rf = if N ≤ j then 0 else 1) : Ok (f_X10_story_88 m h (nI j)) (fun o => o.1 = nI j ∧ RM o.2 m (stA A j rf S) n ∧ EqOff (FM m) h o.2) := by
  rw [f_X10_story_88]
  refine r_t0 c (fun h14 c14 o14 => ?_)
  have n14 : hpI h14 m 28 = nI N := by rw [o14.1 _ _ (fun z => by unfold Dt at z; omega)]; exact hN
  have q14 := q.ep o14 (fun k z => by unfold Dt at z; omega)
  have ef : (if nI N ≤ nI j then (0 : Int32) else 1) = nI rf := by
    rw [hrf]
    by_cases w : N ≤ j
    · rw [if_pos w, if_pos (by rw [nI_leI (by omega) (by omega)]; exact w)]; rfl
    · rw [if_neg w, if_neg (by rw [nI_leI (by omega) (by omega)]; exact w)]; rfl
  have pf : f_X10_flag h14 (nI rf) = some (nI rf) := by
    have : rf = 0 ∨ rf = 1 := by rw [hrf]; split <;> omega
    rcases this with z | z
    · rw [z]; exact pf0 h14
    · rw [z]; exact pf1 h14
  rw [n14, ef, f_X10_story_108, pf, bd_s]
  refine ok_bd (m_enters c14 (by simp [aT, wT, mkA]) _) (fun h17 ⟨c17, o17⟩ => ?_)
  rw [c17.s.r6, c17.s.t2, show ix (49 : Int32) = 49 by decide, c17.w.2.2.1]
  refine ok_gd (nz_t (by omega)) (ok_gd (by decide) (ok_bd (m_enters c17 (by simp [aT, wT, mkA]) _) (fun h21 ⟨c21, o21⟩ => ?_)))
  have oo : EqOff (FM m) h h21 := (Dt_FM o14).tr ((Dt_FM o17).tr (Dt_FM o21))
  have q21 := (q14.ep o17 (fun k z => by unfold Dt at z; omega)).ep o21 (fun k z => by unfold Dt at z; omega)
  unfold stA
  by_cases w : j = 0
  · rw [if_pos w]
    refine ok_t (by rw [i0, nI_leI (by omega) (by omega)]; omega) (ok_some ⟨by rw [w]; rfl, c21, oo⟩)
  · rw [if_neg w]
    refine ok_f (by rw [i0, nI_leI (by omega) (by omega)]; omega) (ok_bd (m_adds c21 hP h8 q21 (nI j)) (fun o ⟨z1, z2, z3⟩ => ok_some ⟨z1, z2, oo.tr (Dp_FM z3)⟩))
theorem r_stE (hP : ∀ i, i < (aP A).length → ((aP A).getD i S00).1 2 ≤ 8) (h8 : (aS A).1 2 ≤ 8) {N : Nat} (hN6 : N < 60) : ∀ r q j S h2, j + r.length = N → r.length < q → wfF S → S.1 0 = (aS A).1 0 → S.1 1 = (aS A).1 1 → S.1 3 + 9 * r.length < 1000000 → RM h2 m (wS (wX A []) S) n → mQ h2 m (aP A).length (aS A) → hpI h2 m 28 = nI N → (∀ i, i < r.length → acR h2 m (aX A) (j + i) (r.getD i 0)) → EqOff (FM m) h h2 → Ok (f_X10_story_64 m q h2 (nI j)) (fun o => o.1 = nI (stE (aE A) (aX A) r j S).1 ∧ RM o.2 m (stA A (stE (aE A) (aX A) r j S).1 (stE (aE A) (aX A) r j S).2.1 (stE (aE A) (aX A) r j S).2.2) n ∧ EqOff (FM m) h o.2) := by
  intro r
  induction r with
  | nil =>
    intro q j S h2 e1 e2 hw s0 s1 hy c mq hN ac o2
    obtain ⟨q, rfl⟩ : ∃ k, q = k + 1 := ⟨q - 1, by omega⟩
    simp only [List.length_nil] at e1
    simp only [f_X10_story_64, lt_u]
    rw [hN]
    refine ok_t (by rw [nI_leI (by omega) (by omega)]; omega) ?_
    exact ok_mono (r_st88 (rf := 0) c hP h8 mq hN (by omega) (by omega) (by rw [if_pos (by omega)])) (fun o ⟨z1, z2, z3⟩ => ⟨z1, z2, o2.tr z3⟩)
  | cons b r ih =>
    intro q j S h2 e1 e2 hw s0 s1 hy c mq hN ac o2
    obtain ⟨q, rfl⟩ : ∃ k, q = k + 1 := ⟨q - 1, by omega⟩
    simp only [List.length_cons] at e1 e2 hy
    simp only [f_X10_story_64, lt_u]
    rw [hN]
    refine ok_f (by rw [nI_leI (by omega) (by omega)]; omega) ?_
    obtain ⟨k, k1, k2, k3⟩ := ac 0 (by simp)
    have k1 : acI ((aX A).getD b 0) = some k := k1
    have ds := ok_doA (E := aE A) (X := aX A) (S := S) (k := k) (a := b) hw (by omega)
    refine ok_bd (m_does (E := aE A) (X := aX A) (a := b) c.g c.w hw c.e.E (show S.1 3 + 9 < 1000000 by omega) (by omega) k1 k2 k3) (fun o ⟨z1, z2, z3⟩ => ?_)
    have c3 : RM o.2 m (wS (wX A []) (doA (aE A) (aX A) S k b).2) n := c.now z2 ds.2.1 ds.2.2.1 (DY_n z3)
    have q3 := mq.ep z3 (fun k z => by unfold DY at z; omega)
    have n3 : hpI o.2 m 28 = nI N := by rw [z3.1 _ _ (fun z => by unfold DY at z; omega)]; exact hN
    have o3 := o2.tr (DY_FM (Or.inl rfl) z3)
    have z1 : o.1 = nB (decide (0 ≤ (doA (aE A) (aX A) S k b).1)) := z1
    rw [stE, k1, z1]
    simp only [nB_0]
    by_cases w : 0 ≤ (doA (aE A) (aX A) S k b).1
    · refine ok_f (by rw [decide_eq_true w]; decide) ?_
      rw [i1, nI_add]
      simp only [if_pos w]
      refine ih q (j + 1) _ o.2 (by omega) (by omega) ds.1 (ds.2.1.trans s0) (ds.2.2.1.trans s1) (by have := ds.2.2.2; omega) c3 q3 n3 (fun i hi => ?_) o3
      obtain ⟨k', y1, y2, y3⟩ := ac (i + 1) (by simp; omega)
      rw [show j + (i + 1) = j + 1 + i by omega] at y2 y3
      exact ⟨k', y1, by rw [z3.1 _ _ (fun z => by unfold DY at z; omega)]; exact y2, fun i' hi' => by rw [z3.1 _ _ (fun z => by unfold DY at z; omega)]; exact y3 i' hi'⟩
    · refine ok_t (decide_eq_false w) ?_
      simp only [if_neg w]
      exact ok_mono (r_st88 (rf := 1) c3 hP h8 q3 n3 (by omega) (by omega) (by rw [if_neg (by omega)])) (fun o ⟨z1, z2, z3⟩ => ⟨z1, z2, o3.tr z3⟩)
/-- while acts are read -/
def Dz (m x k : Nat) : Prop := (x = m ∧ (k = 10 ∨ k = 28)) ∨ x = m + 12 ∨ x = m + 13
theorem Dz.s (e : EqP (Dz m) h h1) : EqP (DS m) h h1 := e.mono (fun x k z => by unfold Dz at z; unfold DS; omega)
theorem Dr.z {r : Nat} (e : EqP (Dr m r) h h1) : EqP (Dz m) h h1 := e.mono (fun x k z => by unfold Dr at z; unfold Dz; omega)
theorem r_story (c : RM h m A n) (a : WA A n) : Ok (f_X10_story h m) (fun o => o.1 = (sp_story A).1 ∧ RM o.2 m (sp_story A).2 n ∧ EqOff (FM m) h o.2) := by
  have hF := FU_big
  have hw := a.w
  have hy := a.y
  rw [f_X10_story]
  refine r_th c (fun h1 c1 o1 _ => ?_)
  have hx := c1.x.2.1
  rw [show (60 : Int32) = nI 60 by decide]
  refine ok_bd (m_begins c1 (mo := 60) (by omega)) (fun o ⟨z1, c2, tp, z4, z5, z6, z7⟩ => ok_lt (fun h3 e3 => ?_))
  have o3 : EqP (Dz m) o.2 h3 := by rw [e3]; exact EqP.uI (Or.inl ⟨rfl, Or.inr rfl⟩)
  have c3 : RM h3 m (wX A []) n := c2.scr (Dz.s o3)
  have tp3 := tp.ep o3 (fun k z => by unfold Dz at z; omega)
  have r3 : hpI h3 m 28 = nI 0 := by rw [e3, hpI_upI, if_pos ⟨rfl, rfl⟩]; rfl
  have a3 : hpI h3 m 10 = nI 0 := by rw [e3, hpI_upI, if_neg (by omega)]; exact z4
  have t3 : hpI h3 m 11 = nI (min (aX A).length 60) := by rw [e3, hpI_upI, if_neg (by omega)]; exact z5
  have oo : EqOff (FM m) h h3 := o1.ofs.tr (z7.tr (Dz.s o3).ofs)
  rw [z1]
  unfold sp_story
  generalize he : min (aX A).length 60 = e at *
  have e60 : e ≤ 60 := by omega
  have e80 : e ≤ (aX A).length := by omega
  have bad : ∀ b h5, EqP (Dz m) h3 h5 → hpI h5 m 10 = nI b → b ≤ e → Ok (f_X10_story_42 m h5 (nI (aX A).length) (nB false)) (fun o => o.1 = (-1 : Int32) - nI b ∧ RM o.2 m (wX A []) n ∧ EqOff (FM m) h o.2) := fun b h5 o5 a5 hb => by
    have t5 : hpI h5 m 11 = nI e := by rw [o5.1 _ _ (fun z => by unfold Dz at z; omega)]; exact t3
    rw [f_X10_story_42, show (60 : Int32) = nI 60 by decide, m_faultOf a5 t5 (by omega) (by omega) (by omega) (by omega), bd_s]
    have ev : fltV (aX A).length 60 false b e = (-1 : Int32) - nI b := by
      unfold fltV
      by_cases w1 : (aX A).length ≤ 60
      · rw [if_pos w1, if_neg (fun y => by cases y.1)]
      · rw [if_neg w1]
        by_cases w2 : 60 ≤ b
        · rw [if_pos (Or.inr w2), show b = 60 by omega]
        · rw [if_neg (fun y => y.elim (fun y => by cases y.1) w2)]
    have neg : ∀ b, b < 100 → ¬ (0 : Int32) ≤ -1 - nI b := by decide +kernel
    rw [ev]
    exact ok_f (neg b (by omega)) (ok_some ⟨rfl, c3.scr (Dz.s o5), oo.tr (Dz.s o5).ofs⟩)
  have fin : ∀ q (ps : List Nat) h2, 0 < q → 2 * ps.length ≤ e → EqP (Dz m) h3 h2 → hpI h2 m 10 = nI e → hpI h2 m 28 = nI ps.length → (∀ j, j < ps.length → acR h2 m (aX A) j (ps.getD j 0)) → Ok (f_X10_story_19 m q h2 (nI (aX A).length) (nB true)) (fun o => o.1 = (if (aX A).length ≤ 60 then (nI (stE (aE A) (aX A) ps 0 (aS A)).1, stA A (stE (aE A) (aX A) ps 0 (aS A)).1 (stE (aE A) (aX A) ps 0 (aS A)).2.1 (stE (aE A) (aX A) ps 0 (aS A)).2.2) else ((-1 : Int32) - nI 60, wX A [])).1 ∧ RM o.2 m (if (aX A).length ≤ 60 then (nI (stE (aE A) (aX A) ps 0 (aS A)).1, stA A (stE (aE A) (aX A) ps 0 (aS A)).1 (stE (aE A) (aX A) ps 0 (aS A)).2.1 (stE (aE A) (aX A) ps 0 (aS A)).2.2) else ((-1 : Int32) - nI 60, wX A [])).2 n ∧ EqOff (FM m) h o.2) := by
    intro q ps h2 f1 f2 o2 a2 r2 ac
    obtain ⟨q, rfl⟩ : ∃ k, q = k + 1 := ⟨q - 1, by omega⟩
    have t2 : hpI h2 m 11 = nI e := by rw [o2.1 _ _ (fun z => by unfold Dz at z; omega)]; exact t3
    have c4 : RM h2 m (wX A []) n := c3.scr (Dz.s o2)
    simp only [f_X10_story_19, f_X10_story_42, lt_u]
    rw [show (60 : Int32) = nI 60 by decide, m_faultOf a2 t2 (by omega) (by omega) (by omega) (by omega), bd_s, a2, t2]
    refine ok_f (by decide) (ok_t (Int32.le_refl _) ?_)
    by_cases w9 : (aX A).length ≤ 60
    · have ev : fltV (aX A).length 60 true e e = 0 := by
        unfold fltV
        rw [if_pos w9, if_pos (show true = true ∧ e = e from ⟨rfl, rfl⟩)]
      rw [ev]
      simp only [if_pos w9]
      refine ok_t (by decide) (ok_bd (m_putsBy c4 (show WA (wX A []) n from a)) (fun h9 ⟨c9, q9, o9⟩ => ?_))
      have k9 : ∀ x k, x ≠ m + 10 → hpI h9 x k = hpI h2 x k := fun x k hx => o9.1 _ _ (fun z => by unfold Dq at z; omega)
      refine r_stE (A := A) (fun i hi => a.p8 hi) hw.2.2.2.2.1 (N := ps.length) (by omega) ps FU 0 (aS A) h9 (by omega) (by omega) hw rfl rfl (by omega) c9 q9 (by rw [k9 _ _ (by omega)]; exact r2) (fun i hi => ?_) (oo.tr ((Dz.s o2).ofs.tr (Dq_FM o9)))
      obtain ⟨k, y1, y2, y3⟩ := ac i hi
      rw [Nat.zero_add]
      exact ⟨k, y1, by rw [k9 _ _ (by omega)]; exact y2, fun i' hi' => by rw [k9 _ _ (by omega)]; exact y3 i' hi'⟩
    · have ev : fltV (aX A).length 60 true e e = (-1 : Int32) - nI 60 := by
        unfold fltV
        rw [if_neg w9, if_pos (Or.inl (show true = true ∧ e = e from ⟨rfl, rfl⟩))]
      rw [ev]
      simp only [if_neg w9]
      exact ok_f (by decide) (ok_some ⟨rfl, c4, oo.tr (Dz.s o2).ofs⟩)
  have go : ∀ f q ps a' h2, e ≤ a' + 2 * f → f + 1 < q → a' ≤ e → 2 * ps.length ≤ a' → EqP (Dz m) h3 h2 → hpI h2 m 10 = nI a' → hpI h2 m 28 = nI ps.length → (∀ j, j < ps.length → acR h2 m (aX A) j (ps.getD j 0)) → Ok (f_X10_story_19 m q h2 (nI (aX A).length) (nB true)) (fun o => o.1 = (match stG (aX A) e (f + 1) ps a' with
      | .inl b => ((-1 : Int32) - nI b, wX A [])
      | .inr ps => if (aX A).length ≤ 60 then (nI (stE (aE A) (aX A) ps 0 (aS A)).1, stA A (stE (aE A) (aX A) ps 0 (aS A)).1 (stE (aE A) (aX A) ps 0 (aS A)).2.1 (stE (aE A) (aX A) ps 0 (aS A)).2.2) else ((-1 : Int32) - nI 60, wX A [])).1 ∧ RM o.2 m (match stG (aX A) e (f + 1) ps a' with
      | .inl b => ((-1 : Int32) - nI b, wX A [])
      | .inr ps => if (aX A).length ≤ 60 then (nI (stE (aE A) (aX A) ps 0 (aS A)).1, stA A (stE (aE A) (aX A) ps 0 (aS A)).1 (stE (aE A) (aX A) ps 0 (aS A)).2.1 (stE (aE A) (aX A) ps 0 (aS A)).2.2) else ((-1 : Int32) - nI 60, wX A [])).2 n ∧ EqOff (FM m) h o.2) := by
    intro f
    induction f with
    | zero =>
      intro q ps a' h2 f1 f2 f3 f4 o2 a2 r2 ac
      have ea : a' = e := by omega
      subst ea
      rw [stG, if_pos (Nat.le_refl _)]
      exact fin q ps h2 (by omega) f4 o2 a2 r2 ac
    | succ f ih =>
      intro q ps a' h2 f1 f2 f3 f4 o2 a2 r2 ac
      rw [stG]
      by_cases w : e ≤ a'
      · have ea : a' = e := by omega
        subst ea
        rw [if_pos (Nat.le_refl _)]
        exact fin q ps h2 (by omega) f4 o2 a2 r2 ac
      · rw [if_neg w]
        obtain ⟨q, rfl⟩ : ∃ k, q = k + 1 := ⟨q - 1, by omega⟩
        have t2 : hpI h2 m 11 = nI e := by rw [o2.1 _ _ (fun z => by unfold Dz at z; omega)]; exact t3
        have tp2 := tp3.ep o2 (fun k z => by unfold Dz at z; omega)
        have c4 : RM h2 m (wX A []) n := c3.scr (Dz.s o2)
        have bad2 : ∀ b h5, EqP (Dz m) h3 h5 → hpI h5 m 10 = nI b → b ≤ e → Ok (f_X10_story_19 m q h5 (nI (aX A).length) 0) (fun o => o.1 = (-1 : Int32) - nI b ∧ RM o.2 m (wX A []) n ∧ EqOff (FM m) h o.2) := fun b h5 o5 a5 hb => by
          obtain ⟨q', rfl⟩ : ∃ k, q = k + 1 := ⟨q - 1, by omega⟩
          simp only [f_X10_story_19, lt_u]
          exact ok_t trivial (bad b h5 o5 a5 hb)
        simp only [f_X10_story_19, lt_u]
        rw [a2, t2]
        refine ok_f (by decide) (ok_f (by rw [nI_leI (by omega) (by omega)]; exact w) ?_)
        refine ok_bd (m_readsAct c4.s tp2 a2 t2 e80 (by omega) e60 r2 (by omega)) (fun p hp => ?_)
        obtain ⟨hp1, hp2⟩ := hp
        have o5 := o2.tr (Dr.z hp2)
        cases hk : acI ((aX A).getD a' 0) with
        | none =>
          rw [hk] at hp1
          obtain ⟨x1, x2⟩ := (show p.1 = 0 ∧ hpI p.2 m 10 = nI a' from hp1)
          rw [x1]
          exact bad2 a' p.2 o5 x2 f3
        | some k =>
          rw [hk] at hp1
          have hn := acN_le k
          cases hd : dgsG (aX A) e a' k 0 (acN k) with
          | some b =>
            simp only [hd] at hp1 ⊢
            obtain ⟨x1, x2⟩ := (show p.1 = 0 ∧ hpI p.2 m 10 = nI b from hp1)
            rw [x1]
            exact bad2 b p.2 o5 x2 (dgsG_b _ _ _ (by omega) hd)
          | none =>
            simp only [hd] at hp1 ⊢
            obtain ⟨x1, x2, x3, x4⟩ := (show p.1 = 1 ∧ (∀ k', some k = some k' → hpI p.2 m 10 = nI (a' + 1 + acN k')) ∧ hpI p.2 m 28 = nI (ps.length + 1) ∧ acR p.2 m (aX A) ps.length a' from hp1)
            have n4 := (dgsG_e _ _ hd).resolve_left (by omega)
            rw [x1]
            refine ih q (ps ++ [a']) (a' + 1 + acN k) p.2 (by omega) (by omega) (by omega) (by simp; omega) o5 (x2 k rfl) (by simp; exact x3) (fun j hj => ?_)
            have hj : j < ps.length + 1 := by simpa using hj
            rw [getD_snoc hj]
            by_cases z : j = ps.length
            · rw [if_pos z, z]; exact x4
            · rw [if_neg z]
              obtain ⟨k', y1, y2, y3⟩ := ac j (by omega)
              refine ⟨k', y1, by rw [hp2.1 _ _ (fun z => by unfold Dr at z; omega)]; exact y2, fun i' hi' => ?_⟩
              have := acN_le k'
              rw [hp2.1 _ _ (fun z => by unfold Dr at z; omega)]; exact y3 i' hi'
  exact go 60 FU [] 0 h3 (by omega) (by omega) (by omega) (by simp) EqP.rf a3 r3 (fun j hj => absurd hj (by simp))
end RSTORY2
