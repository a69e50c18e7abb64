section RFACE3
variable {h h1 : Hp} {A : Ast} {m n : Nat}
theorem Dm_FM (e : EqP (Dm m) h h1) : EqOff (FM m) h h1 := e.off (fun x k z => FMm x k z)
theorem Dh_FM (e : EqP (Dh m) h h1) : EqOff (FM m) h h1 := e.off (fun x k z => FMh x k z)
theorem r_wiped (c : RM h m A n) : Ok (f_X10_wiped h m) (fun o => o.1 = (sp_wiped A).1 ∧ RM o.2 m (sp_wiped A).2 n ∧ EqOff (FM m) h o.2) := by
  rw [f_X10_wiped]
  refine r_th c (fun h1 c1 o1 _ => ?_)
  rw [lt_u]
  refine ok_lt (fun h3 e3 => ?_)
  have o3 : EqP (Dm m) h1 h3 := by rw [e3]; exact EqP.uI (Or.inl ⟨rfl, rfl⟩)
  exact ok_some ⟨c1.mm.1, c1.marks ⟨by rw [e3, hpI_upI, if_pos ⟨rfl, rfl⟩]; rfl, by simp, fun i hi => absurd hi (by simp)⟩ (DSo.i o3), o1.ofs.tr (Dm_FM o3)⟩
theorem r_forget (c : RM h m A n) : Ok (f_X10_forget h m) (fun o => o.1 = (sp_forget A).1 ∧ RM o.2 m (sp_forget A).2 n ∧ EqOff (FM m) h o.2) := by
  rw [f_X10_forget]
  refine r_th c (fun h1 c1 o1 _ => ?_)
  rw [lt_u]
  refine ok_lt (fun h3 e3 => ?_)
  have o3 : EqP (Dh m) h1 h3 := by rw [e3]; exact EqP.uI (Or.inl ⟨rfl, rfl⟩)
  exact ok_some ⟨c1.nn.1, c1.night ⟨by rw [e3, hpI_upI, if_pos ⟨rfl, rfl⟩]; rfl, by simp, fun i hi => absurd hi (by simp)⟩ (DSo.i o3), o1.ofs.tr (Dh_FM o3)⟩
theorem r_heard (c : RM h m A n) (x v : Int32) : Ok (f_X10_heard h m x v) (fun o => o.1 = (sp_heard A x v).1 ∧ RM o.2 m (sp_heard A x v).2 n ∧ EqOff (FM m) h o.2) := by
  rw [f_X10_heard]
  refine r_th c (fun h1 c1 o1 _ => ?_)
  obtain ⟨p1, p2, p3⟩ := c1.nn
  simp only [f_X10_heard_35]
  rw [z64_0, z64_4, p_in_num, bd_s]
  simp only [nB_0]
  have no : sp_heard A x v = (-1, A) → Ok (some ((-1 : Int32), h1)) (fun o => o.1 = (sp_heard A x v).1 ∧ RM o.2 m (sp_heard A x v).2 n ∧ EqOff (FM m) h o.2) := fun e => ok_some ⟨by rw [e], by rw [e]; exact c1, o1.ofs⟩
  rcases numAlt (lo := 0) (hi := 4) (by omega) (by omega) x with ⟨e, q⟩ | ⟨k, e, rfl, g1, g2⟩
  · rw [e]
    refine ok_t rfl (no ?_)
    have hx : ∀ j : Nat, j ≤ 4 → ¬ x = nI j := by
      intro j hj z
      rw [z] at q
      rw [nI_ltI (by omega) (by omega), nI_ltI (by omega) (by omega)] at q
      omega
    have em : mostH x = -1 := by
      unfold mostH
      rw [if_neg (show ¬ x = 0 from hx 0 (by omega)), if_neg (show ¬ x = 1 from hx 1 (by omega)), if_neg (show ¬ x = 2 from hx 2 (by omega)), if_neg (show ¬ x = 3 from hx 3 (by omega)), if_neg (show ¬ x = 4 from hx 4 (by omega))]
    rw [sp_heard, if_neg]
    rintro ⟨z1, z2, -⟩
    rw [em] at z2
    exact absurd (Int32.le_trans z1 z2) (by decide)
  · rw [e]
    refine ok_f (by simp) ?_
    have hs : (if nI k = 0 then (9 : Int32) else (if nI k = (3 : Int32) then (99 : Int32) else (if nI k = (4 : Int32) then (7 : Int32) else (5 : Int32)))) = mostH (nI k) := by
      rcases (show k = 0 ∨ k = 1 ∨ k = 2 ∨ k = 3 ∨ k = 4 by omega) with rfl | rfl | rfl | rfl | rfl <;> decide
    rw [hs, p_in, bd_s]
    simp only [nB_0]
    by_cases q1 : nI 0 ≤ v ∧ v ≤ mostH (nI k)
    · refine ok_f (by simp [q1]) ?_
      rw [p1, show (12 : Int32) = nI 12 by decide]
      simp (disch := omega) only [nI_eq0]
      by_cases q2 : (aN A).length = 12
      · refine ok_t q2 (no ?_)
        rw [sp_heard, if_neg]
        rintro ⟨-, -, z⟩; omega
      · refine ok_f q2 ?_
        have es : sp_heard A (nI k) v = (nI ((aN A).length + 1), wN A (aN A ++ [(nI k, v, 0)])) := by
          rw [sp_heard, if_pos ⟨q1.1, q1.2, by omega⟩]
        rw [es]
        rw [c1.s.r37, c1.s.t20, ix_nI (by omega)]
        refine ok_gd (nz_t (by omega)) (ok_gd (inb_nI (by omega) (by omega)) (ok_lt (fun h13 e13 => ?_)))
        have s13 : shM h13 m := by rw [e13]; exact c1.s.ep (EqP.uI (D := Dh m) (Or.inr (Or.inl rfl)))
        have q13 : hpI h13 m 36 = nI (aN A).length := by rw [e13, hpI_upI, if_neg (by omega)]; exact p1
        rw [s13.r38, s13.t21, q13, ix_nI (by omega)]
        refine ok_gd (nz_t (by omega)) (ok_gd (inb_nI (by omega) (by omega)) (ok_lt (fun h17 e17 => ?_)))
        have q17 : hpI h17 m 36 = nI (aN A).length := by rw [e17, hpI_upI, if_neg (by omega)]; exact q13
        rw [q17, i1, nI_add]
        refine ok_lt (fun h18 e18 => ?_)
        have p18 : EqP (Dh m) h1 h18 := by rw [e18, e17, e13]; exact (EqP.uI (Or.inr (Or.inl rfl))).tr ((EqP.uI (Or.inr (Or.inr rfl))).tr (EqP.uI (Or.inl ⟨rfl, rfl⟩)))
        have q18 : hpI h18 m 36 = nI ((aN A).length + 1) := by rw [e18, hpI_upI, if_pos ⟨rfl, rfl⟩]
        refine ok_some ⟨q18, c1.night ⟨by rw [q18]; simp, by simp; omega, fun i hi => ?_⟩ (DSo.i p18), o1.ofs.tr (Dh_FM p18)⟩
        have hi : i < (aN A).length + 1 := by simpa using hi
        rw [getD_snoc hi, e18, e17, e13]
        simp only [hpI_upI]
        by_cases z : i = (aN A).length
        · subst z
          simp
        · rw [if_neg z]
          have := p3 i (by omega)
          simp [z]
          exact this
    · refine ok_t (by simp only [q1]; rfl) (no ?_)
      rw [sp_heard, if_neg]
      rintro ⟨z1, z2, -⟩; exact q1 ⟨z1, z2⟩
theorem r_marked (c : RM h m A n) (a : WA A n) (x y z : Int32) : Ok (f_X10_marked h m x y z) (fun o => o.1 = (sp_marked A x y z).1 ∧ RM o.2 m (sp_marked A x y z).2 n ∧ EqOff (FM m) h o.2) := by
  rw [f_X10_marked]
  refine r_th c (fun h1 c1 o1 _ => ?_)
  obtain ⟨p1, p2, p3⟩ := c1.mm
  rw [m_isCamp c1.g c1.w a.w, bd_s, z64_0, z64_30, z64_1, p_in_num, bd_s, p_in_num, bd_s]
  simp only [nB_0]
  have no : sp_marked A x y z = (-1, A) → Ok (some ((-1 : Int32), h1)) (fun o => o.1 = (sp_marked A x y z).1 ∧ RM o.2 m (sp_marked A x y z).2 n ∧ EqOff (FM m) h o.2) := fun e => ok_some ⟨by rw [e], by rw [e]; exact c1, o1.ofs⟩
  refine ok_if (fun q => no ?_) (fun q => ok_if (fun q1 => no ?_) (fun q1 => ok_if (fun q2 => no ?_) (fun q2 => ?_)))
  · rw [sp_marked, if_neg]; rintro ⟨w, -⟩; rw [q] at w; cases w
  · rw [sp_marked, if_neg]; rintro ⟨-, w, -⟩; rw [q1] at w; cases w
  · rw [sp_marked, if_neg]; rintro ⟨-, -, w, -⟩; rw [q2] at w; cases w
  · have q : (campOf (aS A) x).isSome = true := eq_true_of_ne_false q
    have q1 : (numIn (nI 0) (nI 30) y).isSome = true := eq_true_of_ne_false q1
    have q2 : (numIn (nI 0) (nI 1) z).isSome = true := eq_true_of_ne_false q2
    rw [p1, show (10 : Int32) = nI 10 by decide]
    simp (disch := omega) only [nI_eq0]
    by_cases q3 : (aM A).length = 10
    · refine ok_t q3 (no ?_)
      rw [sp_marked, if_neg]; rintro ⟨-, -, -, w⟩; omega
    · refine ok_f q3 ?_
      have es : sp_marked A x y z = (nI ((aM A).length + 1), wM A (aM A ++ [(x, y, z)])) := by
        rw [sp_marked, if_pos ⟨q, q1, q2, by omega⟩]
      rw [es]
      rw [c1.s.r32, c1.s.t16, ix_nI (by omega)]
      refine ok_gd (nz_t (by omega)) (ok_gd (inb_nI (by omega) (by omega)) (ok_lt (fun h12 e12 => ?_)))
      have s12 : shM h12 m := by rw [e12]; exact c1.s.ep (EqP.uI (D := Dm m) (Or.inr (Or.inl rfl)))
      have q12 : hpI h12 m 31 = nI (aM A).length := by rw [e12, hpI_upI, if_neg (by omega)]; exact p1
      rw [s12.r33, s12.t17, q12, ix_nI (by omega)]
      refine ok_gd (nz_t (by omega)) (ok_gd (inb_nI (by omega) (by omega)) (ok_lt (fun h16 e16 => ?_)))
      have s16 : shM h16 m := by rw [e16]; exact s12.ep (EqP.uI (D := Dm m) (Or.inr (Or.inr (Or.inl rfl))))
      have q16 : hpI h16 m 31 = nI (aM A).length := by rw [e16, hpI_upI, if_neg (by omega)]; exact q12
      rw [s16.r34, s16.t18, q16, ix_nI (by omega)]
      refine ok_gd (nz_t (by omega)) (ok_gd (inb_nI (by omega) (by omega)) (ok_lt (fun h20 e20 => ?_)))
      have q20 : hpI h20 m 31 = nI (aM A).length := by rw [e20, hpI_upI, if_neg (by omega)]; exact q16
      rw [q20, i1, nI_add]
      refine ok_lt (fun h21 e21 => ?_)
      have p21 : EqP (Dm m) h1 h21 := by rw [e21, e20, e16, e12]; exact (EqP.uI (Or.inr (Or.inl rfl))).tr ((EqP.uI (Or.inr (Or.inr (Or.inl rfl)))).tr ((EqP.uI (Or.inr (Or.inr (Or.inr rfl)))).tr (EqP.uI (Or.inl ⟨rfl, rfl⟩))))
      have q21 : hpI h21 m 31 = nI ((aM A).length + 1) := by rw [e21, hpI_upI, if_pos ⟨rfl, rfl⟩]
      refine ok_some ⟨q21, c1.marks ⟨by rw [q21]; simp, by simp; omega, fun i hi => ?_⟩ (DSo.i p21), o1.ofs.tr (Dm_FM p21)⟩
      have hi : i < (aM A).length + 1 := by simpa using hi
      rw [getD_snoc hi, e21, e20, e16, e12]
      simp only [hpI_upI]
      by_cases w : i = (aM A).length
      · subst w
        simp
      · rw [if_neg w]
        have := p3 i (by omega)
        simp [w]
        exact this
theorem r_lies (c : RM h m A n) (a : WA A n) (x y : Int32) : Ok (f_X10_lies h m x y) (fun o => o.1 = (sp_lies A x y).1 ∧ RM o.2 m (sp_lies A x y).2 n ∧ EqOff (FM m) h o.2) := by
  have hy := a.y
  have b5 := a.w.2.2.2.2.1
  rw [f_X10_lies]
  refine r_th c (fun h1 c1 o1 _ => ?_)
  rw [m_isCamp c1.g c1.w a.w, bd_s, z64_0, z64_99, p_in_num, bd_s]
  simp only [nB_0]
  unfold sp_lies
  cases ex : campOf (aS A) x with
  | none => exact ok_t rfl (ok_some ⟨rfl, c1, o1.ofs⟩)
  | some i =>
    obtain ⟨rfl, hi⟩ := campOf_s (by omega) ex
    refine ok_f (by simp) ?_
    cases ey : numIn (nI 0) (nI 99) y with
    | none => exact ok_t rfl (ok_some ⟨rfl, c1, o1.ofs⟩)
    | some k =>
      obtain ⟨rfl, g1, g2⟩ := numIn_s (by omega) (by omega) ey
      refine ok_f (by simp) (ok_bd (m_copies c1 a) (fun h6 ⟨c6, w6, o6⟩ => ?_))
      rw [c6.s.r7]
      refine ok_gd (nz_t (by omega)) (ok_bd (m_goesOn c6.g w6 a.w c6.e.E (Or.inr rfl) (n := k) (by omega) (by omega)) (fun h9 ⟨w9, l9, o9⟩ => ?_))
      have c9 := c6.scr (DY_s o9)
      have hw9 := yrN_w a.w hy (n := k) (by omega)
      have hik : i < (yrN A k).1 2 := by rw [yrN_q]; exact hi
      refine r_t0 c9 (fun h10 c10 o10 => ?_)
      have w10 : atW h10 (m + 3) (yrN A k) := w9.ep o10 (fun k z => by unfold Dt at z; omega)
      rw [c10.s.r7, c10.s.t3, j24, ix_nI (by omega), w10.v4 hik]
      refine ok_gd (nz_t (by omega)) (ok_gd (inb_nI (by omega) (by omega)) (ok_bd (m_enters c10 (by simp [aT, wT, mkA]) _) (fun h14 ⟨c14, o14⟩ => ?_)))
      have w14 : atW h14 (m + 3) (yrN A k) := w10.ep o14 (fun k z => by unfold Dt at z; omega)
      rw [c14.s.r7, m_on w14 hw9, bd_s]
      refine ok_gd (nz_t (by omega)) (ok_bd (m_enters c14 (by simp [aT, wT, mkA]) _) (fun h18 ⟨c18, o18⟩ => ?_))
      have w18 : atW h18 (m + 3) (yrN A k) := w14.ep o18 (fun k z => by unfold Dt at z; omega)
      rw [c18.s.r7, c18.s.t3, ix_nI (by omega), w18.v0 hik]
      refine ok_gd (nz_t (by omega)) (ok_gd (inb_nI (by omega) (by omega)) (ok_some ⟨rfl, c18, ?_⟩))
      exact o1.ofs.tr ((DW_FM (by omega) o6).tr ((DY_FM (Or.inr rfl) o9).tr ((Dt_FM o10).tr ((Dt_FM o14).tr (Dt_FM o18)))))
theorem r_gone (c : RM h m A n) (a : WA A n) (x : Int32) : Ok (f_X10_gone h m x) (fun o => o.1 = (sp_gone A x).1 ∧ RM o.2 m (sp_gone A x).2 n ∧ EqOff (FM m) h o.2) := by
  have hF := FU_big
  have hy := a.y
  have b5 := a.w.2.2.2.2.1
  rw [f_X10_gone]
  refine r_th c (fun h1 c1 o1 _ => ?_)
  rw [m_isCamp c1.g c1.w a.w, bd_s]
  simp only [nB_0]
  unfold sp_gone
  cases ex : campOf (aS A) x with
  | none => exact ok_t rfl (ok_some ⟨rfl, c1, o1.ofs⟩)
  | some i =>
    obtain ⟨rfl, hi⟩ := campOf_s (by omega) ex
    refine ok_f (by simp) (ok_bd (m_copies c1 a) (fun h6 ⟨c6, w6, o6⟩ => ?_))
    rw [i0]
    have go : ∀ d k1 k h2, k + d = 100 → d < k1 → RM h2 m A n → atW h2 (m + 3) (yrN A k) → EqOff (FM m) h h2 → Ok (f_X10_gone_21 m (nI i) k1 h2 (nI k)) (fun o => o.1 = (match ff (fun n => !(onb (yrN A n) i)) k d with
      | some n => (nI n, wT A [(nI (fcl (yrN A n) i)).toInt64])
      | none => ((-2 : Int32), A)).1 ∧ RM o.2 m (match ff (fun n => !(onb (yrN A n) i)) k d with
      | some n => (nI n, wT A [(nI (fcl (yrN A n) i)).toInt64])
      | none => ((-2 : Int32), A)).2 n ∧ EqOff (FM m) h o.2) := by
      intro d
      induction d with
      | zero =>
        intro k1 k h2 z1 z2 c2 t2 o2
        obtain ⟨n', rfl⟩ : ∃ k, k1 = k + 1 := ⟨k1 - 1, by omega⟩
        have : k = 100 := by omega
        subst this
        simp only [f_X10_gone_21, ff]
        refine ok_lt (fun k2' ek => ?_)
        exact ok_t (by decide) (ok_some ⟨rfl, c2, o2⟩)
      | succ d ih =>
        intro k1 k h2 z1 z2 c2 t2 o2
        obtain ⟨n', rfl⟩ : ∃ k, k1 = k + 1 := ⟨k1 - 1, by omega⟩
        have wk := yrN_w a.w hy (n := k) (by omega)
        have hik : i < (yrN A k).1 2 := by rw [yrN_q]; exact hi
        simp only [f_X10_gone_21, ff]
        refine ok_lt (fun k2' ek => ?_)
        subst ek
        rw [c2.s.r7, m_isOn t2 wk (by omega), bd_s]
        refine ok_f (by rw [show (99 : Int32) = nI 99 by decide, nI_ltI (by omega) (by omega)]; omega) (ok_gd (nz_t (by omega)) ?_)
        simp only [nB_0]
        by_cases ho : onb (yrN A k) i = false
        · simp only [ho, Bool.not_false, if_true]
          refine r_t0 c2 (fun h13 c13 o13 => ?_)
          have w13 : atW h13 (m + 3) (yrN A k) := t2.ep o13 (fun k z => by unfold Dt at z; omega)
          rw [c13.s.r7, c13.s.t3, ix_nI (by omega), w13.v0 hik]
          refine ok_gd (nz_t (by omega)) (ok_gd (inb_nI (by omega) (by omega)) (ok_bd (m_enters c13 (by simp [aT, wT, mkA]) _) (fun h17 ⟨c17, o17⟩ => ok_some ⟨rfl, c17, o2.tr ((Dt_FM o13).tr (Dt_FM o17))⟩)))
        · have ho : onb (yrN A k) i = true := by simpa using ho
          simp only [ho, Bool.not_true, Bool.true_eq_false, Bool.false_eq_true, if_false]
          have gk : atG h2 m (yrN A k) := ⟨c2.s, by rw [(yrN_01 k).1]; exact c2.g.2.1, by rw [(yrN_01 k).2]; exact c2.g.2.2⟩
          refine ok_bd (m_yearGoes gk t2 wk c2.e.E (Or.inr rfl)) (fun h11 ⟨w11, l11, o11⟩ => ?_)
          rw [i1, nI_add, lt_u]
          exact ih n' (k + 1) h11 (by omega) (by omega) (c2.scr (DY_s o11)) w11 (o2.tr (DY_FM (Or.inr rfl) o11))
    exact go 100 FU 0 h6 (by omega) (by omega) c6 w6 (o1.ofs.tr (DW_FM (by omega) o6))
theorem slp_255 {S : Fld} (hw : wfF S) (kc : Nat) : slp S (fun i => (255 : Nat).testBit i) kc = decide (∃ i, i < S.1 2 ∧ ocv S kc i = true) := by
  have b5 := hw.2.2.2.2.1
  unfold slp
  congr 1
  apply propext
  constructor
  · rintro ⟨i, z1, z2, z3, z4⟩
    refine ⟨i, z1, ?_⟩
    simp only [cov, Bool.and_eq_true] at z4
    simp [ocv, z2, z4.1, z4.2]
  · rintro ⟨i, z1, z2⟩
    simp only [ocv, Bool.and_eq_true] at z2
    exact ⟨i, z1, z2.1.1, tb255 i (by omega), by simp [cov, z2.1.2, z2.2]⟩
theorem i255 : (255 : Int32) = nI 255 := by decide
theorem r_slept (c : RM h m A n) (a : WA A n) : Ok (f_X10_slept h m) (fun o => o.1 = (sp_slept A).1 ∧ RM o.2 m (sp_slept A).2 n ∧ EqOff (FM m) h o.2) := by
  have hF := FU_big
  have hb := ncl_le a.w
  rw [f_X10_slept]
  refine r_th c (fun h1 c1 o1 _ => ?_)
  rw [c1.s.r6, i255, m_sleptBy c1.g c1.w a.w (by omega), bd_s]
  refine ok_gd (nz_t (by omega)) ?_
  have es : bitsL (slp (aS A) (fun i => (255 : Nat).testBit i)) (ncl (aS A)) = slL (aS A) := bitsL_congr (fun i _ => slp_255 a.w i)
  rw [es]
  have e := fo_lp (fun k (b : Int32 × Int32) i => f_X10_slept_25 m k h1 (slL (aS A)) b.2 b.1 i) (ncl (aS A)) (slF (aS A)) (fun b => f_X10_slept_25 m 1 h1 (slL (aS A)) b.2 b.1 (nI (ncl (aS A)))) (fun k b i hi => ?_) (fun k b => ?_) (ncl (aS A)) FU (0, -1) 0 (by omega) (by omega)
  · have e : f_X10_slept_25 m FU h1 (slL (aS A)) (-1) 0 (nI 0) = f_X10_slept_25 m 1 h1 (slL (aS A)) (slB (aS A)).2 (slB (aS A)).1 (nI (ncl (aS A))) := e
    rw [show f_X10_slept_25 m FU h1 (slL (aS A)) (-1) 0 0 = f_X10_slept_25 m FU h1 (slL (aS A)) (-1) 0 (nI 0) from rfl, e]
    simp only [f_X10_slept_25]
    refine ok_lt (fun k ek => ?_)
    clear ek
    rw [m_cells c1.g, bd_s]
    refine ok_t (Int32.le_refl _) (r_t0 c1 (fun h9 c9 o9 => ?_))
    rw [p_bc64, bd_s]
    refine ok_bd (m_enters c9 (by simp [aT, wT, mkA]) _) (fun h13 ⟨c13, o13⟩ => ok_bd (m_enters c13 (by simp [aT, wT, mkA]) _) (fun h16 ⟨c16, o16⟩ => ok_bd (m_enters c16 (by simp [aT, wT, mkA]) _) (fun h19 ⟨c19, o19⟩ => ok_some ⟨rfl, c19, o1.ofs.tr ((Dt_FM o9).tr ((Dt_FM o13).tr ((Dt_FM o16).tr (Dt_FM o19))))⟩)))
  · have e2 := m_campsOver c1.g c1.w a.w (kc := i) (by omega)
    show f_X10_slept_25 m (k + 1) h1 (slL (aS A)) b.2 b.1 (nI i) = f_X10_slept_25 m k h1 (slL (aS A)) (slF (aS A) b i).2 (slF (aS A) b i).1 (nI (i + 1))
    simp (disch := omega) only [f_X10_slept_25, f_X10_slept_62, lt_u, c1.s.r6, m_cells c1.g, bd_s, e2, p_bc, nI_le0, i1, nI_add, nz_t, gdT]
    rw [if_neg (by omega)]
    unfold slF ovN mx32
    by_cases q : bc32 (bitsB (ocv (aS A) i) ((aS A).1 2)) ≤ b.1
    · rw [if_pos q, if_pos q, if_neg (Int32.not_lt.mpr q)]
    · rw [if_neg q, if_neg q, if_pos (Int32.not_le.mp q)]
  · show f_X10_slept_25 m (k + 1) h1 (slL (aS A)) b.2 b.1 (nI (ncl (aS A))) = f_X10_slept_25 m 1 h1 (slL (aS A)) b.2 b.1 (nI (ncl (aS A)))
    simp (disch := omega) only [f_X10_slept_25, lt_u, m_cells c1.g, bd_s]
    rw [if_pos (Int32.le_refl _), if_pos (Int32.le_refl _)]
theorem r_say1 (c : RM h m A n) {x : Int32} {v : Int64} (o2 : EqOff (FM m) h1 h) : Ok (lt (upI h m 1 (0 : Int32)) fun h7 => (f_X10_enters h7 m v).bind fun q8 => some (x, q8)) (fun o => o.1 = x ∧ RM o.2 m (wT A [v]) n ∧ EqOff (FM m) h1 o.2) := r_t0 c (fun h9 c9 o9 => ok_bd (m_enters c9 (by simp [aT, wT, mkA]) _) (fun h13 ⟨c13, o13⟩ => ok_some ⟨rfl, c13, o2.tr ((Dt_FM o9).tr (Dt_FM o13))⟩))
theorem r_clears (c : RM h m A n) (a : WA A n) (x : Int32) : Ok (f_X10_clears h m x) (fun o => o.1 = (sp_clears A x).1 ∧ RM o.2 m (sp_clears A x).2 n ∧ EqOff (FM m) h o.2) := by
  have hF := FU_big
  have hy := a.y
  have hb := ncl_le a.w
  rw [f_X10_clears]
  refine r_th c (fun h1 c1 o1 _ => ?_)
  rw [m_isCell c1.g a.w, bd_s]
  simp only [nB_0]
  unfold sp_clears
  cases hx : cellOfI (aS A) x with
  | none => exact ok_t rfl (ok_some ⟨rfl, c1, o1.ofs⟩)
  | some kc =>
    obtain ⟨rfl, hi⟩ := cellOfI_s (by omega) hx
    refine ok_f (by simp) (ok_bd (m_copies c1 a) (fun h6 ⟨c6, w6, o6⟩ => ?_))
    refine okl (fun k (s : Hp × (Option Nat × Nat)) i => f_X10_clears_27 m (nI kc) k s.1 (o2 s.2.1) (nI s.2.2) i) 100 (fun i s => s.2 = fo (clS A kc) (none, 0) 0 i ∧ RM s.1 m A n ∧ atW s.1 (m + 3) (yrN A i) ∧ EqOff (FM m) h s.1) _ (fun k i s hi2 ⟨d1, d2, d3, d4⟩ kk => ?_) (fun k s ⟨d1, d2, d3, d4⟩ => ?_) 100 FU 0 (h6, (none, 0)) (by omega) (by omega) ⟨rfl, c6, w6, o1.ofs.tr (DW_FM (by omega) o6)⟩
    · obtain ⟨h2, b⟩ := s
      have d1 : b = fo (clS A kc) (none, 0) 0 i := d1
      have d2 : RM h2 m A n := d2
      have d3 : atW h2 (m + 3) (yrN A i) := d3
      have d4 : EqOff (FM m) h h2 := d4
      have wk := yrN_w a.w hy (n := i) (by omega)
      have gk : atG h2 m (yrN A i) := ⟨d2.s, by rw [(yrN_01 i).1]; exact d2.g.2.1, by rw [(yrN_01 i).2]; exact d2.g.2.2⟩
      have ge : ∀ n, b.1 = some n → n < 1000 := fun n hn => clB_ge i (none, 0) 0 (fun n z => by cases z) (by omega) n (by rw [← d1]; exact hn)
      have eB : fo (clS A kc) (none, 0) 0 (i + 1) = clS A kc b i := by rw [fo_snoc, ← d1, Nat.zero_add]
      show Ok (f_X10_clears_27 m (nI kc) (k + 1) h2 (o2 b.1) (nI b.2) (nI i)) _
      simp only [f_X10_clears_27]
      refine ok_lt (fun k2' ek => ?_)
      subst ek
      rw [d2.s.r7, m_campsOver gk d3 wk (by omega), bd_s]
      refine ok_f (by rw [show (99 : Int32) = nI 99 by decide, nI_ltI (by omega) (by omega)]; omega) (ok_gd (nz_t (by omega)) ?_)
      have fin : ∀ y v, y = o2 (clS A kc b i).1 → nI b.2 + nB v = nI (clS A kc b i).2 → Ok (f_X10_clears_68 m (nI kc) (f_X10_clears_27 m (nI kc) k) h2 y (nI b.2) (nI i) (nB v)) _ := fun y v z1 z2 => by
        simp only [f_X10_clears_68]
        rw [p_flag, bd_s, lt_u, d2.s.r7, z2, z1]
        refine ok_gd (nz_t (by omega)) (ok_bd (m_yearGoes gk d3 wk d2.e.E (Or.inr rfl)) (fun h11 ⟨w11, l11, o11⟩ => ?_))
        rw [i1, nI_add, lt_u]
        exact kk (h11, clS A kc b i) ⟨eB.symm, d2.scr (DY_s o11), w11, d4.tr (DY_FM (Or.inr rfl) o11)⟩
      have b5k := wk.2.2.2.2.1
      have eq : (if bitsB (ocv (yrN A i) kc) ((yrN A i).1 2) = 0 then (0 : Int32) else 1) = nB (slY A kc i) := by
        rw [i0]
        simp only [bitsB_0 (show (yrN A i).1 2 ≤ 31 by omega)]
        by_cases q : ∃ j, j < (yrN A i).1 2 ∧ ocv (yrN A i) kc j = true
        · rw [if_neg (fun z => by obtain ⟨j, z1, z2⟩ := q; rw [z j z1] at z2; cases z2), show slY A kc i = true from decide_eq_true q]; rfl
        · rw [if_pos (fun j hj => by
            cases z : ocv (yrN A i) kc j with
            | false => rfl
            | true => exact absurd ⟨j, hj, z⟩ q), show slY A kc i = false from decide_eq_false q]; rfl
      rw [eq]
      simp only [f_X10_clears_51, f_X10_clears_67, nB_0]
      cases qs : slY A kc i with
      | true =>
        refine ok_f (by simp) (fin _ true (by simp [clS, qs]) (by simp [clS, qs, nB_t, i1, nI_add]))
      | false =>
        refine ok_t rfl ?_
        have e2 : nI b.2 + nB false = nI (clS A kc b i).2 := by simp [clS, qs, nB_f]
        cases hb1 : b.1 with
        | none =>
          refine ok_f (by decide) (fin _ false ?_ e2)
          simp [clS, qs, hb1, o2]
        | some j =>
          have := ge j hb1
          refine ok_t (by simp only [o2]; rw [i0, nI_leI (by omega) (by omega)]; omega) (fin _ false ?_ e2)
          simp [clS, qs, hb1]
    · obtain ⟨h2, b⟩ := s
      have d1 : b = clB A kc := d1
      have d2 : RM h2 m A n := d2
      have ge : ∀ n, b.1 = some n → n < 1000 := fun n hn => clB_ge 100 (none, 0) 0 (fun n z => by cases z) (by omega) n (by rw [d1] at hn; exact hn)
      show Ok (f_X10_clears_27 m (nI kc) (k + 1) h2 (o2 b.1) (nI b.2) (nI 100)) _
      simp only [f_X10_clears_27]
      refine ok_lt (fun k2' ek => ?_)
      clear ek
      refine ok_t (by decide) ?_
      rw [← d1]
      cases hb1 : b.1 with
      | none => exact ok_t (by decide) (ok_some ⟨rfl, d2, d4⟩)
      | some j =>
        have := ge j hb1
        refine ok_f (by simp only [o2]; rw [i0, nI_ltI (by omega) (by omega)]; omega) (r_say1 d2 d4)
end RFACE3
