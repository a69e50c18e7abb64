section RFACE2
variable {h h1 : Hp} {A : Ast} {m n : Nat}
/-- a call's first step: nothing is thrown -/
theorem r_th {α : Type} (c : RM h m A n) {f : Hp → Option α} {Q : α → Prop} (k : ∀ h1, RM h1 m A n → EqP (DS m) h h1 → hpI h1 m 0 = 0 → Ok (f h1) Q) : Ok (lt (upI h m 0 (0 : Int32)) f) Q := ok_lt (fun h1 e1 => k h1 (by rw [e1]; exact c.th 0) (by rw [e1]; exact DS.th 0) (by rw [e1, hpI_upI, if_pos ⟨rfl, rfl⟩]))
theorem r_t0 {α : Type} (c : RM h m A n) {f : Hp → Option α} {Q : α → Prop} (k : ∀ h1, RM h1 m (wT A []) n → EqP (Dt m) h h1 → Ok (f h1) Q) : Ok (lt (upI h m 1 (0 : Int32)) f) Q := ok_lt (fun h1 e1 => k h1 (by rw [e1]; exact c.t0) (by rw [e1]; exact Dt0))
theorem Dt_FM (e : EqP (Dt m) h h1) : EqOff (FM m) h h1 := e.off (fun x k z => FMt x k z)
theorem Dp_FM (e : EqP (Dp m) h h1) : EqOff (FM m) h h1 := e.off (fun x k z => FMp x k z)
theorem Dq_FM {l : Nat} (e : EqP (Dq m l) h h1) : EqOff (FM m) h h1 := e.off (fun x k z => by unfold Dq at z; unfold FM; omega)
theorem DY_FM {r : Nat} (hr : r = m + 2 ∨ r = m + 3) (e : EqP (DY m r) h h1) : EqOff (FM m) h h1 := e.off (fun x k z => by unfold DY at z; unfold FM; omega)
theorem DW_FM {r : Nat} (hr : m ≤ r ∧ r ≤ m + 27) (e : EqP (DW r) h h1) : EqOff (FM m) h h1 := e.off (fun x k z => by unfold DW at z; unfold FM; omega)
theorem DY_n (e : EqP (DY m (m + 2)) h h1) : EqP (DSo m (Dn m)) h h1 := e.mono (fun x k z => by unfold DY at z; unfold DSo DS Dn; omega)
theorem DW_n (e : EqP (DW (m + 2)) h h1) : EqP (DSo m (Dn m)) h h1 := e.mono (fun x k z => by unfold DW at z; unfold DSo DS Dn; omega)
theorem DY_s (e : EqP (DY m (m + 3)) h h1) : EqP (DS m) h h1 := e.mono (fun x k z => by unfold DY at z; unfold DS; omega)
theorem DW_s (e : EqP (DW (m + 3)) h h1) : EqP (DS m) h h1 := e.mono (fun x k z => by unfold DW at z; unfold DS; omega)
theorem z64_60 : (60 : Int64) = (nI 60).toInt64 := by decide
theorem z64_2 : (2 : Int64) = (nI 2).toInt64 := by decide
theorem z64_30 : (30 : Int64) = (nI 30).toInt64 := by decide
theorem z64_99 : (99 : Int64) = (nI 99).toInt64 := by decide
theorem z64_4 : (4 : Int64) = (nI 4).toInt64 := by decide
theorem z64_7 : (7 : Int64) = (nI 7).toInt64 := by decide
theorem z64_8 : (8 : Int64) = (nI 8).toInt64 := by decide
theorem z64_10 : (10 : Int64) = (nI 10).toInt64 := by decide
theorem z64_20 : (20 : Int64) = (nI 20).toInt64 := by decide
theorem z64_40 : (40 : Int64) = (nI 40).toInt64 := by decide
theorem yN (n : Nat) {L : Fld → Nat → Nat} {S : Fld} (hw : wfF S) (hy : S.1 3 < 900000) (hn : n ≤ 1000) : wfF (yrs L S n).2 := wf_yrs hw n (by omega)
theorem r_years (c : RM h m A n) (a : WA A n) (x : Int32) : Ok (f_X10_years h m x) (fun o => o.1 = (sp_years A x).1 ∧ RM o.2 m (sp_years A x).2 n ∧ EqOff (FM m) h o.2) := by
  have hy := a.y
  rw [f_X10_years]
  refine r_th c (fun h1 c1 o1 _ => ?_)
  rw [z64_0, z64_60, p_in_num, bd_s]
  simp only [nB_0]
  unfold sp_years
  cases e : numIn (nI 0) (nI 60) x with
  | none => exact ok_t rfl (ok_some ⟨rfl, c1, o1.ofs⟩)
  | some k =>
    obtain ⟨rfl, g1, g2⟩ := numIn_s (by omega) (by omega) e
    refine ok_f (by simp) (ok_bd (m_putsBy c1 a) (fun h4 ⟨c4, q4, o4⟩ => ?_))
    rw [c4.s.r6]
    refine ok_gd (nz_t (by omega)) (ok_bd (m_goesOn c4.g c4.w a.w c4.e.E (Or.inl rfl) (n := k) (by omega) (by omega)) (fun h7 ⟨w7, l7, o7⟩ => ?_))
    have c7 := c4.now w7 (yrs_01 k).1 (yrs_01 k).2 (DY_n o7)
    have q7 := q4.ep o7 (fun k z => by unfold DY at z; omega)
    have hw7 := yN k (L := lossE (aE A)) a.w hy (by omega)
    refine r_t0 c7 (fun h8 c8 o8 => ?_)
    have q8 := q7.ep o8 (fun k z => by unfold Dt at z; omega)
    have l8 : hpI h8 m 25 = nI (yrs (lossE (aE A)) (aS A) k).1 := by rw [o8.1 _ _ (by unfold Dt; omega)]; exact l7
    rw [l8]
    refine ok_bd (m_enters c8 (by simp [aT, wT, mkA]) _) (fun h9 ⟨c9, o9⟩ => ?_)
    have q9 := q8.ep o9 (fun k z => by unfold Dt at z; omega)
    rw [c9.s.r6, m_sumOf c9.w hw7, bd_s]
    refine ok_gd (nz_t (by omega)) (ok_bd (m_enters c9 (by simp [aT, wT, mkA]) _) (fun h13 ⟨c13, o13⟩ => ?_))
    have q13 := q9.ep o13 (fun k z => by unfold Dt at z; omega)
    rw [c13.s.r6, m_on c13.w hw7, bd_s, p_bc, bd_s]
    refine ok_gd (nz_t (by omega)) (ok_bd (m_adds c13 (fun i hi => a.p8 hi) a.w.2.2.2.2.1 q13 _) (fun o ⟨z1, z2, z3⟩ => ok_some ⟨z1, z2, ?_⟩))
    exact o1.ofs.tr ((Dq_FM o4).tr ((DY_FM (Or.inl rfl) o7).tr ((Dt_FM o8).tr ((Dt_FM o9).tr ((Dt_FM o13).tr (Dp_FM z3))))))
theorem r_actT (a : WA A n) {R : Int32 × Fld} {x : Option (Int32 × Hp)} {h2 : Hp} (c2 : RM h2 m A n) (q2 : mQ h2 m (aP A).length (aS A)) (o2 : EqOff (FM m) h h2) (hR : okS (aS A) R.2) (hx : Ok x (fun o => o.1 = R.1 ∧ atW o.2 (m + 2) R.2 ∧ EqP (DW (m + 2)) h2 o.2)) : Ok (x.bind fun q5 => (f_X10_counted q5.2 m q5.1).bind fun q6 => some (q6.1, q6.2)) (fun o => o.1 = (sp_act A R).1 ∧ RM o.2 m (sp_act A R).2 n ∧ EqOff (FM m) h o.2) := by
  refine ok_bd hx (fun o ⟨z1, z2, z3⟩ => ?_)
  have c3 := c2.now z2 hR.2.1 hR.2.2.1 (DW_n z3)
  have q3 := q2.ep z3 (fun k z => by unfold DW at z; omega)
  have o3 := o2.tr (DW_FM (m := m) (by omega) z3)
  rw [f_X10_counted, z1]
  unfold sp_act
  by_cases q : R.1 < 0
  · rw [if_neg (Int32.not_le.mpr q), if_pos q, bd_s]
    exact ok_some ⟨rfl, c3, o3⟩
  · rw [if_pos (Int32.not_lt.mp q), if_neg q]
    refine ok_bd (ok_bd (m_adds c3 (fun i hi => a.p8 hi) a.w.2.2.2.2.1 q3 R.1) (fun o ⟨y1, y2, y3⟩ => ok_some (Q := fun (o : Int32 × Hp) => o.1 = R.1 ∧ RM o.2 m (wP (wS A R.2) (pushL (aP A) (aS A))) n ∧ EqOff (FM m) h o.2) ⟨y1, y2, o3.tr (Dp_FM y3)⟩)) (fun p ⟨p1, p2, p3⟩ => ok_some ⟨p1, p2, p3⟩)
theorem r_pitch (c : RM h m A n) (a : WA A n) (x1 x2 x3 x4 x5 : Int32) : Ok (f_X10_pitch h m x1 x2 x3 x4 x5) (fun o => o.1 = (sp_act A (pitchS (aS A) x1 x2 x3 x4 x5)).1 ∧ RM o.2 m (sp_act A (pitchS (aS A) x1 x2 x3 x4 x5)).2 n ∧ EqOff (FM m) h o.2) := by
  rw [f_X10_pitch]
  refine r_th c (fun h1 c1 o1 _ => ok_bd (m_putsBy c1 a) (fun h4 ⟨c4, q4, o4⟩ => ?_))
  rw [c4.s.r6]
  exact ok_gd (nz_t (by omega)) (r_actT a c4 q4 (o1.ofs.tr (Dq_FM o4)) (wf_pitch a.w x1 x2 x3 x4 x5) (m_pitches c4.g c4.w a.w x1 x2 x3 x4 x5))
theorem r_treads (c : RM h m A n) (a : WA A n) (x y : Int32) : Ok (f_X10_treads h m x y) (fun o => o.1 = (sp_act A (treadS (aS A) x y)).1 ∧ RM o.2 m (sp_act A (treadS (aS A) x y)).2 n ∧ EqOff (FM m) h o.2) := by
  rw [f_X10_treads]
  refine r_th c (fun h1 c1 o1 _ => ok_bd (m_putsBy c1 a) (fun h4 ⟨c4, q4, o4⟩ => ?_))
  exact r_actT a c4 q4 (o1.ofs.tr (Dq_FM o4)) (wf_tread a.w x y) (m_treadsOn c4.g c4.w a.w x y)
theorem r_sings (c : RM h m A n) (a : WA A n) (x y : Int32) : Ok (f_X10_sings h m x y) (fun o => o.1 = (sp_act A (singS (aS A) x y)).1 ∧ RM o.2 m (sp_act A (singS (aS A) x y)).2 n ∧ EqOff (FM m) h o.2) := by
  rw [f_X10_sings]
  refine r_th c (fun h1 c1 o1 _ => ok_bd (m_putsBy c1 a) (fun h4 ⟨c4, q4, o4⟩ => ?_))
  exact r_actT a c4 q4 (o1.ofs.tr (Dq_FM o4)) (wf_sing a.w x y) (m_singsTo c4.g c4.w a.w x y)
theorem r_moves (c : RM h m A n) (a : WA A n) (x y : Int32) : Ok (f_X10_moves h m x y) (fun o => o.1 = (sp_act A (moveS (aS A) x y)).1 ∧ RM o.2 m (sp_act A (moveS (aS A) x y)).2 n ∧ EqOff (FM m) h o.2) := by
  rw [f_X10_moves]
  refine r_th c (fun h1 c1 o1 _ => ok_bd (m_putsBy c1 a) (fun h4 ⟨c4, q4, o4⟩ => ?_))
  rw [c4.s.r6]
  exact ok_gd (nz_t (by omega)) (r_actT a c4 q4 (o1.ofs.tr (Dq_FM o4)) (wf_move a.w x y) (m_movesOne c4.g c4.w a.w x y))
theorem r_undo (c : RM h m A n) (a : WA A n) : Ok (f_X10_undo h m) (fun o => o.1 = (sp_undo A).1 ∧ RM o.2 m (sp_undo A).2 n ∧ EqOff (FM m) h o.2) := by
  have hF := FU_big
  rw [f_X10_undo]
  refine r_th c (fun h1 c1 o1 _ => ?_)
  obtain ⟨p1, p2, p3⟩ := c1.p
  rw [p1, i0]
  simp (disch := omega) only [nI_eq0]
  unfold sp_undo
  by_cases q : (aP A).length = 0
  · rw [if_pos q, if_pos q]; exact ok_some ⟨rfl, c1, o1.ofs⟩
  · rw [if_neg q, if_neg q, i1, pk_sub (by omega)]
    refine ok_lt (fun h3 e3 => ?_)
    have o3 : EqP (Dp m) h1 h3 := by rw [e3]; exact EqP.uI (Or.inl ⟨rfl, rfl⟩)
    have u3 : hpI h3 m 22 = nI ((aP A).length - 1) := by rw [e3, hpI_upI, if_pos ⟨rfl, rfl⟩]
    have r3 : ∀ k, hpI h3 (m + 10) k = hpI h1 (m + 10) k := fun k => by rw [e3, hpI_upI, if_neg (by omega)]
    clear e3
    have el : ((aP A).take ((aP A).length - 1)).length = (aP A).length - 1 := by simp
    have c3 : RM h3 m (wP A ((aP A).take ((aP A).length - 1))) n := c1.past ⟨by rw [el]; exact u3, by rw [el]; omega, fun i hi => by
      rw [el] at hi
      have e2 : (fun k => hpI h3 (m + 10) (51 * i + k)) = (fun k => hpI h1 (m + 10) (51 * i + k)) := funext (fun k => r3 _)
      rw [e2, getD_take hi]; exact p3 i (by omega)⟩ (DSo.i o3)
    refine okl (fun k h2 i => f_X10_undo_26 m k h2 i) 51 (fun j h2 => (∀ k, k < j → hpI h2 (m + 2) k = hpI h1 (m + 10) (51 * ((aP A).length - 1) + k)) ∧ EqP (DW (m + 2)) h3 h2) _ (fun q j h2 hj ⟨d1, d2⟩ kk => ?_) (fun q h2 ⟨d1, d2⟩ => ?_) 51 FU 0 h3 (by omega) (by omega) ⟨fun k hk => by omega, EqP.rf⟩
    · have s2 := c3.s.ep d2
      have u : hpI h2 m 22 = nI ((aP A).length - 1) := by rw [d2.1 _ _ (fun z => by unfold DW at z; omega)]; exact u3
      show Ok (f_X10_undo_26 m (q + 1) h2 (nI j)) _
      simp only [f_X10_undo_26]
      refine ok_lt (fun k2 ek => ?_)
      subst ek
      simp (disch := omega) only [s2.r23, s2.r6, s2.t2, s2.t10, u, i51, i1, pk_mul, nI_add, nI_le0, ix_nI]
      refine ok_f (by omega) (ok_gd (nz_t (by omega)) (ok_gd (nz_t (by omega)) (ok_gd (inb_nI (by omega) (by omega)) (ok_gd (inb_nI (by omega) (by omega)) (ok_lt (fun h8 e8 => ?_))))))
      rw [lt_u]
      refine kk h8 ⟨fun k hk => ?_, d2.tr (by rw [e8]; exact EqP.uI rfl)⟩
      rw [e8, hpI_upI]
      by_cases z : k = j
      · rw [if_pos ⟨rfl, by omega⟩, d2.1 _ _ (fun z => by unfold DW at z; omega), r3, z]
      · rw [if_neg (by omega)]; exact d1 k (by omega)
    · show Ok (f_X10_undo_26 m (q + 1) h2 (nI 51)) _
      have u : hpI h2 m 22 = nI ((aP A).length - 1) := by rw [d2.1 _ _ (fun z => by unfold DW at z; omega)]; exact u3
      simp only [f_X10_undo_26]
      refine ok_lt (fun k2 ek => ?_)
      clear ek
      have wl := a.2.1 ((aP A).length - 1) (by omega)
      have w2 : atW h2 (m + 2) ((aP A).getD ((aP A).length - 1) S00) := ((p3 ((aP A).length - 1) (by omega)).cp (a.p8 (by omega)) d1).W (c3.s.ep d2).t2
      exact ok_t (by decide) (ok_some ⟨u, c3.now w2 wl.2.1 wl.2.2.1 (DW_n d2), o1.ofs.tr ((Dp_FM o3).tr (DW_FM (by omega) d2))⟩)
theorem r_keep (c : RM h m A n) (a : WA A n) (x : Int32) : Ok (f_X10_keep h m x) (fun o => o.1 = (sp_keep A x).1 ∧ RM o.2 m (sp_keep A x).2 n ∧ EqOff (FM m) h o.2) := by
  have hF := FU_big
  rw [f_X10_keep]
  refine r_th c (fun h1 c1 o1 _ => ?_)
  rw [z64_0, z64_2, p_in_num, bd_s]
  simp only [nB_0]
  unfold sp_keep
  cases e : numIn (nI 0) (nI 2) x with
  | none => exact ok_t rfl (ok_some ⟨rfl, c1, o1.ofs⟩)
  | some i =>
    obtain ⟨rfl, g1, g2⟩ := numIn_s (by omega) (by omega) e
    obtain ⟨ch, k1, k2, k3⟩ := c1.k
    have hn := a.2.2.2.2.2
    refine ok_f (by simp) ?_
    rw [c1.s.r43, c1.s.t25, ix_nI (by omega)]
    refine ok_gd (nz_t (by omega)) (ok_gd (inb_nI (by omega) (by omega)) (ok_lt (fun h7 e7 => ?_)))
    have o7 : EqP (Dk m) h1 h7 := by rw [e7]; exact EqP.uI (Or.inr (Or.inl rfl))
    have s7 := c1.s.ep o7
    have u7 : hpI h7 m 5 = nI ch := by rw [e7, hpI_upI, if_neg (by omega)]; exact k2
    rw [s7.r44, s7.t26, u7]
    refine ok_gd (nz_t (by omega)) (ok_gd (inb_nI (by omega) (by omega)) (ok_lt (fun h11 e11 => ?_)))
    have o11 : EqP (Dk m) h1 h11 := by rw [e11]; exact o7.tr (EqP.uI (Or.inr (Or.inr (Or.inl rfl))))
    rw [i0]
    refine okl (fun k h2 j => f_X10_keep_38 m (nI i) k h2 j) 51 (fun j h2 => (∀ k, k < j → hpI h2 (m + 27) (51 * i + k) = hpI h1 (m + 2) k) ∧ EqP (fun x y => x = m + 27 ∧ 51 * i ≤ y ∧ y < 51 * i + 51) h11 h2) _ (fun q j h2 hj ⟨d1, d2⟩ kk => ?_) (fun q h2 ⟨d1, d2⟩ => ?_) 51 FU 0 h11 (by omega) (by omega) ⟨fun k hk => by omega, EqP.rf⟩
    · have s2 := (c1.s.ep o11).ep d2
      show Ok (f_X10_keep_38 m (nI i) (q + 1) h2 (nI j)) _
      simp only [f_X10_keep_38]
      refine ok_lt (fun k2 ek => ?_)
      subst ek
      simp (disch := omega) only [s2.r45, s2.r6, s2.t2, s2.t27, i51, i1, pk_mul, nI_add, nI_le0, ix_nI]
      refine ok_f (by omega) (ok_gd (nz_t (by omega)) (ok_gd (nz_t (by omega)) (ok_gd (inb_nI (by omega) (by omega)) (ok_gd (inb_nI (by omega) (by omega)) (ok_lt (fun h8 e8 => ?_))))))
      rw [lt_u]
      refine kk h8 ⟨fun k hk => ?_, d2.tr (by rw [e8]; exact EqP.uI ⟨rfl, by omega, by omega⟩)⟩
      rw [e8, hpI_upI]
      by_cases z : k = j
      · rw [if_pos ⟨rfl, by omega⟩, d2.1 _ _ (by omega), o11.1 _ _ (fun z => by unfold Dk at z; omega), z]
      · rw [if_neg (by omega)]; exact d1 k (by omega)
    · show Ok (f_X10_keep_38 m (nI i) (q + 1) h2 (nI 51)) _
      simp only [f_X10_keep_38]
      refine ok_lt (fun k2 ek => ?_)
      clear ek
      have o2 : EqP (Dk m) h1 h2 := o11.tr (d2.mono (fun x k z => Or.inr (Or.inr (Or.inr z.1))))
      refine ok_t (by decide) (ok_some ⟨rfl, c1.kept ⟨ch, k1, ?_, fun j hj => ?_⟩ (DSo.i o2), o1.ofs.tr (o2.off (fun x k z => FMk x k z))⟩)
      · rw [d2.1 _ _ (by omega), e11, hpI_upI, if_neg (by omega)]; exact u7
      · by_cases z : j = i
        · subst z
          refine ⟨ch, true, Nat.le_refl _, ?_, ?_, by simp, fun T hT => ?_⟩
          · rw [d2.1 _ _ (by omega), e11, hpI_upI, if_pos ⟨rfl, rfl⟩]
          · rw [d2.1 _ _ (by omega), e11, hpI_upI, if_neg (by omega), e7, hpI_upI, if_pos ⟨rfl, rfl⟩]; rfl
          · simp only [if_true] at hT
            cases hT
            exact c1.w.V.cp a.w.2.2.2.2.1 d1
        · obtain ⟨cc, b, y1, y2, y3, y4, y5⟩ := k3 j hj
          refine ⟨cc, b, y1, ?_, ?_, by simp only [z, if_false]; exact y4, fun T hT => ?_⟩
          · rw [d2.1 _ _ (by omega), e11, hpI_upI, if_neg (by omega), e7, hpI_upI, if_neg (by omega)]; exact y2
          · rw [d2.1 _ _ (by omega), e11, hpI_upI, if_neg (by omega), e7, hpI_upI, if_neg (by omega)]; exact y3
          · simp only [z, if_false] at hT
            exact (y5 T hT).cp (a.2.2.1 j T hT).1.2.2.2.2.1 (fun k hk => by rw [d2.1 _ _ (by omega), e11, hpI_upI, if_neg (by omega), e7, hpI_upI, if_neg (by omega)])
theorem r_again (c : RM h m A n) (a : WA A n) (x : Int32) : Ok (f_X10_again h m x) (fun o => o.1 = (sp_again A x).1 ∧ RM o.2 m (sp_again A x).2 n ∧ EqOff (FM m) h o.2) := by
  have hF := FU_big
  rw [f_X10_again]
  refine r_th c (fun h1 c1 o1 _ => ?_)
  rw [z64_0, z64_2, p_in_num, bd_s]
  simp only [nB_0]
  unfold sp_again
  cases e : numIn (nI 0) (nI 2) x with
  | none => exact ok_t rfl (ok_some ⟨rfl, c1, o1.ofs⟩)
  | some i =>
    obtain ⟨rfl, g1, g2⟩ := numIn_s (by omega) (by omega) e
    obtain ⟨ch, k1, k2, k3⟩ := c1.k
    have hn := a.2.2.2.2.2
    obtain ⟨cc, b, y1, y2, y3, y4, y5⟩ := k3 i (by omega)
    refine ok_f (by simp) ?_
    rw [c1.s.r43, c1.s.t25, ix_nI (by omega), y3, c1.s.r44, c1.s.t26, y2, k2]
    simp (disch := omega) only [nB_0, nI_eq0]
    refine ok_gd (nz_t (by omega)) (ok_gd (inb_nI (by omega) (by omega)) ?_)
    cases hK : aK A i with
    | none =>
      rw [hK] at y4
      refine ok_if (fun _ => ok_some ⟨rfl, c1, o1.ofs⟩) (fun q => ok_gd (nz_t (by omega)) (ok_gd (inb_nI (by omega) (by omega)) (ok_f (fun q2 => ?_) (ok_some ⟨rfl, c1, o1.ofs⟩))))
      have q : b = true := by simpa using q
      rw [q, q2] at y4
      simp at y4
    | some T =>
      rw [hK] at y4
      have y4 : b = true ∧ cc = ch := by simpa using y4.symm
      have wT := a.2.2.1 i T hK
      refine ok_f (by simp [y4.1]) (ok_gd (nz_t (by omega)) (ok_gd (inb_nI (by omega) (by omega)) (ok_t y4.2 ?_)))
      rw [i0]
      refine okl (fun k h2 j => f_X10_again_43 m (nI i) k h2 j) 51 (fun j h2 => (∀ k, k < j → hpI h2 (m + 2) k = hpI h1 (m + 27) (51 * i + k)) ∧ EqP (DW (m + 2)) h1 h2) _ (fun q j h2 hj ⟨d1, d2⟩ kk => ?_) (fun q h2 ⟨d1, d2⟩ => ?_) 51 FU 0 h1 (by omega) (by omega) ⟨fun k hk => by omega, EqP.rf⟩
      · have s2 := c1.s.ep d2
        show Ok (f_X10_again_43 m (nI i) (q + 1) h2 (nI j)) _
        simp only [f_X10_again_43]
        refine ok_lt (fun k2 ek => ?_)
        subst ek
        simp (disch := omega) only [s2.r45, s2.r6, s2.t2, s2.t27, i51, i1, pk_mul, nI_add, nI_le0, ix_nI]
        refine ok_f (by omega) (ok_gd (nz_t (by omega)) (ok_gd (nz_t (by omega)) (ok_gd (inb_nI (by omega) (by omega)) (ok_gd (inb_nI (by omega) (by omega)) (ok_lt (fun h8 e8 => ?_))))))
        rw [lt_u]
        refine kk h8 ⟨fun k hk => ?_, d2.tr (by rw [e8]; exact EqP.uI rfl)⟩
        rw [e8, hpI_upI]
        by_cases z : k = j
        · rw [if_pos ⟨rfl, by omega⟩, d2.1 _ _ (fun z => by unfold DW at z; omega), z]
        · rw [if_neg (by omega)]; exact d1 k (by omega)
      · show Ok (f_X10_again_43 m (nI i) (q + 1) h2 (nI 51)) _
        simp only [f_X10_again_43]
        refine ok_lt (fun k2 ek => ?_)
        clear ek
        have w2 : atW h2 (m + 2) T := ((y5 T hK).cp wT.1.2.2.2.2.1 d1).W (c1.s.ep d2).t2
        have c2 := c1.now w2 wT.2.1 wT.2.2.1 (DW_n d2)
        refine ok_t (by decide) (ok_lt (fun h13 e13 => ?_))
        have o13 : EqP (Dp m) h2 h13 := by rw [e13]; exact EqP.uI (Or.inl ⟨rfl, rfl⟩)
        refine ok_some ⟨rfl, c2.past ⟨by rw [e13, hpI_upI, if_pos ⟨rfl, rfl⟩]; rfl, by simp, fun i hi => absurd hi (by simp)⟩ (DSo.i o13), o1.ofs.tr ((DW_FM (by omega) d2).tr (Dp_FM o13))⟩
theorem r_count (c : RM h m A n) (a : WA A n) (x : Int32) : Ok (f_X10_count h m x) (fun o => o.1 = sp_count A x ∧ RM o.2 m A n ∧ EqOff (FM m) h o.2) := by
  rw [f_X10_count]
  refine r_th c (fun h1 c1 o1 _ => ?_)
  have fin : ∀ v, v = sp_count A x → Ok (some (v, h1)) (fun o => o.1 = sp_count A x ∧ RM o.2 m A n ∧ EqOff (FM m) h o.2) := fun v e => ok_some ⟨e, c1, o1.ofs⟩
  rw [c1.g.2.1, c1.g.2.2, c1.s.r6, c1.s.t2, show ix (48 : Int32) = 48 by decide, show ix (49 : Int32) = 49 by decide, show ix (50 : Int32) = 50 by decide, c1.w.n, c1.w.y, c1.w.l, m_on c1.w a.w, bd_s, p_bc, bd_s, m_sumOf c1.w a.w, bd_s, c1.mm.1, c1.nn.1, c1.p.1, c1.t.1, c1.x.1]
  have g : ∀ {v : Int32} {Q : Int32 × Hp → Prop} {k : Int32}, inb k 51 = true → Ok (some (v, h1)) Q → Ok (gd (nz (m + 2)) <| gd (inb k 51) <| some (v, h1)) Q := fun hk z => ok_gd (nz_t (by omega)) (ok_gd hk z)
  unfold sp_count at fin ⊢
  by_cases e0 : x = 0
  · simp only [if_pos e0] at fin ⊢; exact fin _ rfl
  by_cases e1 : x = 1
  · simp only [if_neg e0, if_pos e1] at fin ⊢; exact fin _ rfl
  by_cases e2 : x = 2
  · simp only [if_neg e0, if_neg e1, if_pos e2] at fin ⊢; exact g (by decide) (fin _ rfl)
  by_cases e3 : x = 3
  · simp only [if_neg e0, if_neg e1, if_neg e2, if_pos e3] at fin ⊢; exact ok_gd (nz_t (by omega)) (fin _ rfl)
  by_cases e4 : x = 4
  · simp only [if_neg e0, if_neg e1, if_neg e2, if_neg e3, if_pos e4] at fin ⊢; exact g (by decide) (fin _ rfl)
  by_cases e5 : x = 5
  · simp only [if_neg e0, if_neg e1, if_neg e2, if_neg e3, if_neg e4, if_pos e5] at fin ⊢; exact g (by decide) (fin _ rfl)
  by_cases e6 : x = 6
  · simp only [if_neg e0, if_neg e1, if_neg e2, if_neg e3, if_neg e4, if_neg e5, if_pos e6] at fin ⊢; exact ok_gd (nz_t (by omega)) (fin _ rfl)
  simp only [if_neg e0, if_neg e1, if_neg e2, if_neg e3, if_neg e4, if_neg e5, if_neg e6] at fin ⊢
  repeat' with_reducible refine ok_if (fun e => ?_) (fun e => ?_)
  all_goals exact fin _ (by simp [*])
end RFACE2
