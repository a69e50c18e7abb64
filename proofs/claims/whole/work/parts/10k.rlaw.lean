/-! rules: the reference reads a whole text; how another rule would do -/
theorem flt40 {l a e : Nat} {is : Bool} (he : e = min l 40) (ha : a ≤ e) : fltV l 40 is a e = if is = true ∧ a = e ∧ l ≤ 40 then 0 else -1 - nI a := by
  unfold fltV
  by_cases w : l ≤ 40
  · rw [if_pos w]
    by_cases w2 : is = true ∧ a = e
    · rw [if_pos w2, if_pos ⟨w2.1, w2.2, w⟩]
    · rw [if_neg w2, if_neg (fun z => w2 ⟨z.1, z.2.1⟩)]
  · rw [if_neg w, if_neg (c := is = true ∧ a = e ∧ l ≤ 40) (fun z => w z.2.2)]
    by_cases w3 : 40 ≤ a
    · rw [if_pos (Or.inr w3), show a = 40 by omega]
    · rw [if_neg (fun z => by rcases z with z | z <;> omega)]
theorem bad40 : ∀ b, b < 41 → (¬ (0 : Int32) ≤ -1 - nI b) ∧ (¬ (-1 - nI b = (0 : Int32))) ∧ (-1 - nI b + 1 - 10000 = -10000 - nI b) := by decide +kernel
theorem rdM_z (code : Nat → Int32) : rdM 0 code nE := ⟨Nat.zero_le _, fun env => ⟨fun k hk => absurd hk (Nat.not_lt_zero k), by rw [if_pos rfl, nE]⟩⟩
section RLAW
variable {h h1 : Hp} {A : Ast} {m n : Nat}
def rdR (m : Nat) (R : Nat ⊕ RE) (o : Int32 × Hp) : Prop := match R with
  | .inl b => o.1 = -1 - nI b ∧ b ≤ 40
  | .inr E => o.1 = 0 ∧ ∃ p code, mCd o.2 m p code ∧ rdM p code E
theorem m_readsRule (c : RM h m A n) : Ok (f_X10_readsRule h m) (fun o => rdR m (rdG (aX A)) o ∧ RM o.2 m (wX A []) n ∧ EqOff (FM m) h o.2) := by
  rw [f_X10_readsRule, show (40 : Int32) = nI 40 by decide]
  refine ok_bd (m_begins c (mo := 40) (by omega)) (fun q ⟨z1, z2, z3, z4, z5, z6, z7⟩ => ok_lt (fun h2 e2 => ?_))
  have o2 : EqP (Du m) q.2 h2 := by rw [e2]; exact EqP.uI (Or.inl ⟨rfl, by omega⟩)
  have c2 : RM h2 m (wX A []) n := z2.scr (Du.s o2)
  have tp2 : mTp h2 m (aX A) := z3.ep o2 (fun k z => by unfold Du at z; omega)
  have hl := z3.1
  have i10 : hpI h2 m 10 = nI 0 := by rw [e2, hpI_upI, if_neg (by omega)]; exact z4
  have i11 : hpI h2 m 11 = nI (min (aX A).length 40) := by rw [e2, hpI_upI, if_neg (by omega)]; exact z5
  have i12 : hpI h2 m 12 = nI 0 := by rw [e2, hpI_upI, if_neg (by omega)]; exact z6
  have cd2 : mCd h2 m 0 (fun _ => 0) := ⟨by rw [e2, hpI_upI, if_pos ⟨rfl, rfl⟩]; rfl, fun k hk => absurd hk (Nat.not_lt_zero k)⟩
  have f2 := z7.tr (Du.s o2).ofs
  have he : min (aX A).length 40 ≤ (aX A).length := Nat.min_le_left _ _
  have h40 : min (aX A).length 40 ≤ 40 := Nat.min_le_right _ _
  clear e2
  rw [z1]
  unfold rdG
  generalize hee : min (aX A).length 40 = e at he h40 i11
  refine ok_if (fun w => ?_) (fun w => ?_)
  · have w0 : (aX A).length = 0 := by rw [i0, nI_eq (by omega) (by omega)] at w; exact w
    rw [if_pos w0, f_X10_readsRule_24, f_X10_readsRule_29, show (40 : Int32) = nI 40 by decide, show (1 : Int32) = nB true by decide, m_faultOf i10 i11 (by omega) (by omega) (by omega) (by omega), bd_s, flt40 hee.symm (by omega), if_pos ⟨rfl, by omega, by omega⟩]
    exact ok_some ⟨⟨rfl, 0, _, cd2, rdM_z _⟩, c2, f2⟩
  · have w0 : ¬ (aX A).length = 0 := fun z => w (by rw [z]; rfl)
    rw [if_neg w0]
    have r2 : RdM h2 m (aX A) e 0 0 0 (fun _ => 0) := ⟨c2.s, tp2, i10, i11, i12, cd2, he, h40, Nat.zero_le _⟩
    have kk := m_pX (m := m) he h40 4 (by omega) 0 90 (by omega) h2 0 0 _ (by omega) r2 (by omega)
    unfold f_X10_readsRank
    refine ok_bd kk (fun q4 z => ?_)
    obtain ⟨u1, u2⟩ := z
    have c4 : RM q4.2 m (wX A []) n := c2.scr (Du.s u1)
    have f4 := f2.tr (Du.s u1).ofs
    have j11 : hpI q4.2 m 11 = nI e := by rw [u1.1 _ _ (fun z => by unfold Du at z; omega)]; exact i11
    have po := pX_o he 4 0 (Nat.zero_le _)
    cases hE : (pX (aX A) e 4 0).2 with
    | none =>
      rw [hE] at u2
      obtain ⟨y1, y2, y3⟩ := u2
      refine ok_t y1 ?_
      rw [f_X10_readsRule_29, show (40 : Int32) = nI 40 by decide, show (0 : Int32) = nB false by decide, m_faultOf y2 j11 (by omega) (by omega) (by omega) (by omega), bd_s, flt40 hee.symm (by omega), if_neg (fun z => by cases z.1)]
      exact ok_some ⟨⟨rfl, by omega⟩, c4, f4⟩
    | some E =>
      rw [hE] at u2
      obtain ⟨y1, k, code2, y2, y3, y4, y5⟩ := u2
      simp only
      refine ok_f (by rw [y1]; decide) ?_
      rw [f_X10_readsRule_24, f_X10_readsRule_29, show (40 : Int32) = nI 40 by decide, show (1 : Int32) = nB true by decide, m_faultOf y2.2.2.1 j11 (by omega) (by omega) (by omega) (by omega), bd_s, flt40 hee.symm (by omega)]
      by_cases w1 : (pX (aX A) e 4 0).1 = e ∧ (aX A).length ≤ 40
      · rw [if_pos w1, if_pos ⟨rfl, w1⟩]
        have y6 := y2.2.2.2.2.2.1
        rw [Nat.zero_add] at y6
        exact ok_some ⟨⟨rfl, k, code2, y6, Mr.rd y4 (by omega)⟩, c4, f4⟩
      · rw [if_neg w1, if_neg (fun z => w1 z.2)]
        exact ok_some ⟨⟨rfl, by omega⟩, c4, f4⟩
/-- a code is laid out -/
def Dl (m x k : Nat) : Prop := (x = m ∧ k = 17) ∨ x = m + 6
theorem m_lays (s : shM h m) {r p : Nat} {code : Nat → Int32} (hr : r = m + 7 ∨ r = m + 24) (hp : p ≤ 80) (hc : ∀ k, k < p → hpI h r k = code k) : Ok (f_X10_laysCode h m r (nI p)) (fun h1 => hpI h1 m 17 = nI p ∧ (∀ k, k < p → hpI h1 (m + 6) k = code k) ∧ EqP (Dl m) h h1) := by
  have hF := FU_big
  rw [f_X10_laysCode]
  refine ok_lt (fun h1 e1 => ?_)
  have o1 : EqP (Dl m) h h1 := by rw [e1]; exact EqP.uI (Or.inl ⟨rfl, rfl⟩)
  have i17 : hpI h1 m 17 = nI p := by rw [e1, hpI_upI, if_pos ⟨rfl, rfl⟩]
  have tr : hpT h r = (2, 80) := by
    rcases hr with rfl | rfl
    · exact s.t7
    · exact s.t24
  refine okl (fun q s i => f_X10_laysCode_7 m r (nI p) q s i) p (fun i s => hpI s m 17 = nI p ∧ (∀ k, k < i → hpI s (m + 6) k = code k) ∧ EqP (Dl m) h s) _ (fun q i s2 hi ⟨v1, v2, v3⟩ k => ?_) (fun q s2 ⟨v1, v2, v3⟩ => ?_) p FU 0 h1 (by omega) (by omega) ⟨i17, fun k hk => absurd hk (Nat.not_lt_zero k), o1⟩
  · have s3 := s.ep v3
    have tr3 : hpT s2 r = (2, 80) := by rw [v3.2.2.2.1]; exact tr
    simp only [f_X10_laysCode_7, lt_u]
    rw [s3.r15, s3.t6, tr3, ix_nI (by omega), i1, nI_add]
    refine ok_f (by rw [nI_leI (by omega) (by omega)]; omega) (ok_gd (nz_t (by omega)) (ok_gd (inb_nI (by omega) (by omega)) (ok_gd (inb_nI (by omega) (by omega)) (k _ ⟨?_, fun j hj => ?_, ?_⟩))))
    · rw [hpI_upI, if_neg (by omega)]; exact v1
    · rw [hpI_upI]
      by_cases w : j = i
      · subst w
        rw [if_pos ⟨rfl, rfl⟩, v3.1 _ _ (fun z => by unfold Dl at z; omega)]
        exact hc j (by omega)
      · rw [if_neg (fun z => w z.2)]; exact v2 j (by omega)
    · exact v3.tr (EqP.uI (Or.inr rfl))
  · simp only [f_X10_laysCode_7, lt_u]
    exact ok_t (Int32.le_refl _) (ok_some ⟨v1, v2, v3⟩)
theorem RM.lay (c : RM h m A n) {p : Nat} {code : Nat → Int32} {E : RE} (i17 : hpI h1 m 17 = nI p) (hc : ∀ k, k < p → hpI h1 (m + 6) k = code k) (e : EqP (Dl m) h h1) (hE : rdM p code E) : RM h1 m (wE A E) n := c.rule ⟨by rw [e.1 _ _ (fun z => by unfold Dl at z; omega)]; exact c.e.1, p, code, i17, hc, hE⟩ (DSo.i (e.mono (fun x k z => by unfold Dl at z; unfold De; omega)))
theorem Dl_FM (e : EqP (Dl m) h h1) : EqOff (FM m) h h1 := e.off (fun x k z => by unfold Dl at z; unfold FM; omega)
theorem r_rule (c : RM h m A n) : Ok (f_X10_rule h m) (fun o => o.1 = (sp_rule A).1 ∧ RM o.2 m (sp_rule A).2 n ∧ EqOff (FM m) h o.2) := by
  rw [f_X10_rule]
  refine r_th c (fun h1 c1 o1 _ => ok_bd (m_readsRule c1) (fun q ⟨z1, z2, z3⟩ => ?_))
  have f2 := o1.ofs.tr z3
  unfold sp_rule
  cases hR : rdG (aX A) with
  | inl b =>
    rw [hR] at z1
    obtain ⟨y1, y2⟩ := z1
    rw [y1]
    exact ok_f (bad40 b (by omega)).2.1 (ok_some ⟨rfl, z2, f2⟩)
  | inr E =>
    rw [hR] at z1
    obtain ⟨y1, p, code, y2, y3⟩ := z1
    refine ok_t y1 ?_
    rw [z2.s.r16, y2.1]
    refine ok_gd (nz_t (by omega)) (ok_bd (m_lays z2.s (Or.inl rfl) y3.1 y2.2) (fun h6 ⟨u1, u2, u3⟩ => ok_some ⟨y1, z2.lay u1 u2 u3 y3, f2.tr (Dl_FM u3)⟩))
/-- years thought of, nine -/
theorem m_onIn (c : RM h m A n) (a : WA A n) : Ok (f_X10_onIn h m (nI 9)) (fun o => o.1 = on9 (aE A) A ∧ RM o.2 m A n ∧ EqP (DY m (m + 3)) h o.2) := by
  have hy := a.y
  rw [f_X10_onIn]
  refine ok_bd (m_copies c a) (fun h6 ⟨c6, w6, o6⟩ => ?_)
  rw [c6.s.r7]
  refine ok_gd (nz_t (by omega)) (ok_bd (m_goesOn c6.g w6 a.w c6.e.E (Or.inr rfl) (n := 9) (by omega) (by omega)) (fun h9 ⟨w9, l9, o9⟩ => ?_))
  have c9 := c6.scr (DY_s o9)
  rw [c9.s.r7, m_on w9 (wf_yrs a.w 9 (by omega)), bd_s, p_bc, bd_s]
  exact ok_gd (nz_t (by omega)) (ok_some ⟨rfl, c9, (o6.mono (fun x k z => by unfold DW at z; unfold DY; omega)).tr o9⟩)
theorem m_lossOn (c : RM h m A n) (a : WA A n) {i : Nat} (hi : i < (aS A).1 2) : Ok (f_X10_lossOn h m (nI i)) (fun o => o.1 = nI (lossE (aE A) (aS A) i) ∧ RM o.2 m A n ∧ EqP (fun x _ => x = m + 8 ∨ x = m + 9) h o.2) := by
  have b5 := a.w.2.2.2.2.1
  rw [f_X10_lossOn, c.s.r6, m_isOn c.w a.w (by omega), bd_s]
  simp only [nB_0]
  by_cases q : onb (aS A) i = false
  · refine ok_gd (nz_t (by omega)) (ok_t q (ok_some ⟨?_, c, EqP.rf⟩))
    rw [lossE, if_neg (by simp [q])]; rfl
  · refine ok_gd (nz_t (by omega)) (ok_f q (ok_bd (m_loss c.g c.w a.w c.e.E (Or.inl rfl) hi) (fun o ⟨z1, z2⟩ => ok_some ⟨?_, ?_, z2⟩)))
    · rw [z1, lossE, if_pos (by simpa using q)]; exact (dg_rng _).1
    · exact c.scr (z2.mono (fun x k z => by unfold DS; omega))
theorem r_law (c : RM h m A n) (a : WA A n) : Ok (f_X10_law h m) (fun o => o.1 = (sp_law A).1 ∧ RM o.2 m (sp_law A).2 n ∧ EqOff (FM m) h o.2) := by
  have hF := FU_big
  have b5 := a.w.2.2.2.2.1
  rw [f_X10_law]
  refine r_th c (fun h1 c1 o1 _ => ok_bd (m_readsRule c1) (fun q ⟨z1, z2, z3⟩ => ?_))
  have f2 := o1.ofs.tr z3
  unfold sp_law
  cases hR : rdG (aX A) with
  | inl b =>
    rw [hR] at z1
    obtain ⟨y1, y2⟩ := z1
    rw [y1]
    exact ok_f (bad40 b (by omega)).1 (ok_some ⟨(bad40 b (by omega)).2.2, z2, f2⟩)
  | inr E =>
    rw [hR] at z1
    obtain ⟨y1, p, code, y2, y3⟩ := z1
    refine ok_t (by rw [y1]; decide) ?_
    rw [show (9 : Int32) = nI 9 by decide]
    refine ok_bd (m_onIn z2 a) (fun q4 ⟨a1, a2, a3⟩ => ok_lt (fun v5 e5 => ?_))
    obtain ⟨x1, cl, cod, x2, x3, x4⟩ := a2.e
    rw [x2] at e5
    subst e5
    have cd4 : mCd q4.2 m p code := y2.ep a3 (fun z => by unfold DY at z; omega) (fun k z => by unfold DY at z; omega)
    have f4 := f2.tr (DY_FM (Or.inr rfl) a3)
    rw [a1]
    -- the code is put by
    refine okl (fun q s i => f_X10_law_37 m q s (on9 (aE (wX A [])) (wX A [])) (nI cl) i) cl (fun i s => (∀ k, k < i → hpI s (m + 24) k = cod k) ∧ EqP (fun x _ => x = m + 24) q4.2 s) _ (fun q i s hi ⟨v1, v2⟩ k => ?_) (fun q s ⟨v1, v2⟩ => ?_) cl FU 0 q4.2 (by omega) (by have := x4.1; omega) ⟨fun k hk => absurd hk (Nat.not_lt_zero k), EqP.rf⟩
    · have := x4.1
      have s3 := a2.s.ep v2
      simp only [f_X10_law_37, lt_u]
      rw [s3.r15, s3.t6, s3.r41, s3.t24, ix_nI (by omega), i1, nI_add, v2.1 m 17 (fun z => by omega), x2]
      refine ok_f (by rw [nI_leI (by omega) (by omega)]; omega) (ok_gd (nz_t (by omega)) (ok_gd (nz_t (by omega)) (ok_gd (inb_nI (by omega) (by omega)) (ok_gd (inb_nI (by omega) (by omega)) (k _ ⟨fun j hj => ?_, ?_⟩)))))
      · rw [hpI_upI]
        by_cases w : j = i
        · subst w
          rw [if_pos ⟨rfl, rfl⟩, v2.1 _ _ (fun z => by omega)]
          exact x3 j (by omega)
        · rw [if_neg (fun z => w z.2)]; exact v1 j (by omega)
      · exact v2.tr (EqP.uI rfl)
    · have cs : RM s m (wX A []) n := a2.scr (v2.mono (fun x k z => by unfold DS; omega))
      have cds : mCd s m p code := cd4.ep v2 (fun z => by omega) (fun k z => by omega)
      have fs := f4.tr (v2.off (F := FM m) (fun x k z => by unfold FM; omega))
      simp only [f_X10_law_37, lt_u]
      rw [v2.1 m 17 (fun z => by omega), x2, cs.s.r16, cds.1]
      refine ok_t (Int32.le_refl _) (ok_gd (nz_t (by omega)) (ok_bd (m_lays cs.s (Or.inl rfl) y3.1 cds.2) (fun h9 ⟨u1, u2, u3⟩ => ?_)))
      have c9 : RM h9 m (wE (wX A []) E) n := cs.lay u1 u2 u3 y3
      have w9 : ∀ k, k < cl → hpI h9 (m + 24) k = cod k := fun k hk => by rw [u3.1 _ _ (fun z => by unfold Dl at z; omega)]; exact v1 k hk
      rw [show (9 : Int32) = nI 9 by decide]
      refine ok_bd (m_onIn c9 a) (fun q10 ⟨d1, d2, d3⟩ => ?_)
      have w10 : ∀ k, k < cl → hpI q10.2 (m + 24) k = cod k := fun k hk => by rw [d3.1 _ _ (fun z => by unfold DY at z; omega)]; exact w9 k hk
      rw [d1]
      refine r_t0 d2 (fun h11 c11 o11 => ok_bd (m_enters c11 (by simp [aT, wT, mkA]) _) (fun h12 ⟨c12, o12⟩ => ok_bd (m_enters c12 (by simp [aT, wT, mkA]) _) (fun h13 ⟨c13, o13⟩ => ?_)))
      have w13 : ∀ k, k < cl → hpI h13 (m + 24) k = cod k := fun k hk => by rw [o13.1 _ _ (fun z => by unfold Dt at z; omega), o12.1 _ _ (fun z => by unfold Dt at z; omega), o11.1 _ _ (fun z => by unfold Dt at z; omega)]; exact w10 k hk
      have f13 := fs.tr ((Dl_FM u3).tr ((DY_FM (Or.inr rfl) d3).tr ((Dt_FM o11).tr ((Dt_FM o12).tr (Dt_FM o13)))))
      -- the losses are told
      refine okl (fun q s i => f_X10_law_107 m q s (on9 (aE A) A) (nI cl) (on9 E A) i) ((aS A).1 2) (fun i s => RM s m (wT (wE (wX A []) E) ([(on9 E A).toInt64, (on9 (aE A) A).toInt64] ++ lwR E (aS A) i)) n ∧ (∀ k, k < cl → hpI s (m + 24) k = cod k) ∧ EqOff (FM m) h s) _ (fun q i s2 hi ⟨v1, v2, v3⟩ k => ?_) (fun q s2 ⟨v1, v2, v3⟩ => ?_) ((aS A).1 2) FU 0 h13 (by omega) (by omega) ⟨c13, w13, f13⟩
      · have n2 : atW s2 (m + 2) (aS A) := v1.w
        simp only [f_X10_law_107, lt_u]
        rw [v1.s.r6, v1.s.t2, show ix (48 : Int32) = 48 by decide, n2.2.1, i1, nI_add]
        refine ok_gd (nz_t (by omega)) (ok_gd (by decide) (ok_f (by rw [nI_leI (by omega) (by omega)]; omega) (ok_bd (m_lossOn v1 a hi) (fun q29 ⟨g1, g2, g3⟩ => ?_))))
        rw [g1]
        refine ok_bd (m_enters g2 ?_ _) (fun h30 ⟨c30, o30⟩ => k _ ⟨?_, fun j hj => ?_, ?_⟩)
        · show ([(on9 E A).toInt64, (on9 (aE A) A).toInt64] ++ lwR E (aS A) i).length < 128
          rw [List.length_append, lwR_n]
          show 2 + i < 128
          omega
        · rw [lwR_s, ← List.append_assoc]
          exact c30
        · rw [o30.1 _ _ (fun z => by unfold Dt at z; omega), g3.1 _ _ (fun z => by omega)]; exact v2 j hj
        · exact v3.tr ((g3.off (F := FM m) (fun x k z => by unfold FM; omega)).tr (Dt_FM o30))
      · have n2 : atW s2 (m + 2) (aS A) := v1.w
        simp only [f_X10_law_107, lt_u]
        rw [v1.s.r6, v1.s.t2, show ix (48 : Int32) = 48 by decide, n2.2.1, v1.s.r41]
        refine ok_gd (nz_t (by omega)) (ok_gd (by decide) (ok_t (Int32.le_refl _) (ok_gd (nz_t (by omega)) (ok_bd (m_lays v1.s (Or.inr rfl) x4.1 v2) (fun h28 ⟨g1, g2, g3⟩ => ok_some ⟨rfl, ?_, v3.tr (Dl_FM g3)⟩)))))
        exact v1.lay g1 g2 g3 x4
/-- both -/
theorem bothN {α : Type} {B : Ast} {n1 : Nat} {f g : Hp → Option (α × Hp)} {v : α} (b : Bo h m A n) (hc : Ok (f h) (fun o => o.1 = v ∧ RC o.2 B ∧ FrN h o.2)) (hr : ∀ h1, RM h1 m A n → Ok (g h1) (fun o => o.1 = v ∧ RM o.2 m B n1 ∧ EqOff (FM m) h1 o.2)) (hw : WA B n1) : ∃ h1 h2, f h = some (v, h1) ∧ g h1 = some (v, h2) ∧ Bo h2 m B n1 := by
  obtain ⟨b1, b2, b3, b4, b5⟩ := b
  obtain ⟨o, e1, z1, z2, z3⟩ := hc
  obtain ⟨p, e2, y1, y2, y3⟩ := hr o.2 (b2.ag (z3.1.sub (by omega) (by omega)))
  refine ⟨o.2, p.2, ?_, ?_, z2.fm y3 b4, y2, hw, b4, ?_⟩
  · rw [e1, ← z1]
  · rw [e2, ← y1]
  · rw [y3.2.2.2.2, z3.2]; exact b5
theorem bo_rule (b : Bo h m A n) (hn : n < 1000) : ∃ h1 h2, f_X9_rule h 1 = some ((sp_rule A).1, h1) ∧ f_X10_rule h1 m = some ((sp_rule A).1, h2) ∧ Bo h2 m (sp_rule A).2 (n + 1) :=
  bothN (f := fun h => f_X9_rule h 1) (g := fun h => f_X10_rule h m) b (c_rule b.1) (fun h1 c => ok_mono (r_rule c) (fun o ⟨z1, z2, z3⟩ => ⟨z1, z2.mono (by omega), z3⟩)) (by have u := b.2.2.1.up hn; unfold sp_rule; split <;> exact u)
theorem bo_law (b : Bo h m A n) (hn : n < 1000) : ∃ h1 h2, f_X9_law h 1 = some ((sp_law A).1, h1) ∧ f_X10_law h1 m = some ((sp_law A).1, h2) ∧ Bo h2 m (sp_law A).2 (n + 1) :=
  bothN (f := fun h => f_X9_law h 1) (g := fun h => f_X10_law h m) b (c_law b.1 b.2.2.1.w b.2.2.1.y) (fun h1 c => ok_mono (r_law c b.2.2.1) (fun o ⟨z1, z2, z3⟩ => ⟨z1, z2.mono (by omega), z3⟩)) (by have u := b.2.2.1.up hn; unfold sp_law; split <;> exact u)
end RLAW
