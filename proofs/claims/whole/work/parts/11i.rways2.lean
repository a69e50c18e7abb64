/-! ways: the reference's answers -/
section RWAYS
variable {h h1 : Hp} {A : Ast} {m n : Nat}
theorem Dy_s (e : EqP (Dy m) h h1) : EqP (DS m) h h1 := e.mono (fun x k z => by unfold Dy at z; unfold DS; omega)
def Dz5 (m x k : Nat) : Prop := x = m + 15
theorem Dz5_s (e : EqP (Dz5 m) h h1) : EqP (DS m) h h1 := e.mono (fun x k z => by unfold Dz5 at z; unfold DS; omega)
theorem r_meets (c : RM h m A n) (a : WA A n) (x y z : Int32) : Ok (f_X10_meets h m x y z) (fun o => ∃ B, Rmt A x y z o.1 B ∧ RM o.2 m B n ∧ EqOff (FM m) h o.2) := by
  have hF := FU_big
  have hw := a.w
  have hb := ncl_le hw
  have b5 := hw.2.2.2.2.1
  have hN := NVR_e
  rw [f_X10_meets]
  refine r_th c (fun h1 c1 o1 _ => ?_)
  have g1 := c1.g
  have w1 : atW h1 (m + 2) (aS A) := c1.w
  rw [m_isCell g1 hw, bd_s, m_isCell g1 hw, bd_s, c1.s.r6, c1.s.t2, show ix (48 : Int32) = 48 by decide, w1.2.1]
  simp only [nB_0]
  unfold Rmt
  cases hx : cellOfI (aS A) x with
  | none => exact ok_t rfl (ok_some ⟨A, ⟨rfl, rfl⟩, c1, o1.ofs⟩)
  | some fr =>
    obtain ⟨rfl, hf⟩ := cellOfI_s (by omega) hx
    refine ok_f (by simp) ?_
    cases hy : cellOfI (aS A) y with
    | none => exact ok_t rfl (ok_some ⟨A, ⟨rfl, rfl⟩, c1, o1.ofs⟩)
    | some gc =>
      obtain ⟨rfl, hg⟩ := cellOfI_s (by omega) hy
      have p2 := pow_256 b5
      have p1 : 1 ≤ 2 ^ (aS A).1 2 := Nat.one_le_two_pow
      refine ok_f (by simp) (ok_gd (nz_t (by omega)) (ok_gd (by decide) ?_))
      rw [show shl32 (1 : Int32) (nI ((aS A).1 2)) = nI (2 ^ (aS A).1 2) by rw [i1]; exact shl_1 _ (by omega), lt_u, show nI (2 ^ (aS A).1 2) - (1 : Int32) = nI (2 ^ (aS A).1 2 - 1) by rw [i1, pk_sub (by omega)], z64_0, p_in_num, bd_s]
      cases hz : numIn (nI 0) (nI (2 ^ (aS A).1 2 - 1)) z with
      | none => exact ok_t rfl (ok_some ⟨A, ⟨rfl, rfl⟩, c1, o1.ofs⟩)
      | some al =>
        obtain ⟨rfl, _, hal⟩ := numIn_s (by omega) (by omega) hz
        have ha : al < 256 := by omega
        refine ok_f (by show ¬ nB true = 0; decide) ?_
        rw [m_on w1 hw, bd_s, bitsB_nb _ _ (by omega)]
        by_cases qa : al &&& nb (onb (aS A)) ((aS A).1 2) = al
        · simp only [if_pos qa]
          refine ok_t ((andN (by omega)).mpr qa) ?_
          rw [i0]
          refine okl (fun q s i => f_X10_meets_64 m (nI fr) (nI gc) (nI al) q s i) (ncl (aS A)) (fun i s => EqP (Dz5 m) h1 s ∧ ∀ j, j < i → hpI s (m + 15) j = nI (one1 j)) _ (fun q i s hi ⟨v1, v2⟩ k => ?_) (fun q s ⟨v1, v2⟩ => ?_) (ncl (aS A)) FU 0 h1 (by omega) (by omega) ⟨EqP.rf, fun j hj => absurd hj (Nat.not_lt_zero j)⟩
          · have cs := c1.scr (Dz5_s v1)
            simp only [f_X10_meets_64, lt_u]
            rw [m_cells cs.g, bd_s, cs.s.r30, cs.s.t15, ix_nI (by omega), i1, nI_add]
            refine ok_f (by rw [nI_leI (by omega) (by omega)]; omega) (ok_gd (nz_t (by omega)) (ok_gd (inb_nI (by omega) (by omega)) (k _ ⟨v1.tr (EqP.uI rfl), fun j hj => ?_⟩)))
            rw [hpI_upI]
            by_cases e : j = i
            · rw [if_pos ⟨rfl, e⟩]; rfl
            · rw [if_neg (fun z => e z.2)]; exact v2 j (by omega)
          · have cs := c1.scr (Dz5_s v1)
            simp only [f_X10_meets_64, lt_u]
            rw [m_cells cs.g, bd_s]
            have B : LyB s m (aS A) al gc one1 := ⟨cs.g, cs.w, hw, ha, hg, fun c _ => ⟨Nat.le_refl 1, by show 1 ≤ NVR; omega⟩, v2⟩
            refine ok_t (Int32.le_refl _) (ok_bd (m_laysYet B) (fun h17 ⟨o17, D, y, ya⟩ => ?_))
            have c17 := cs.scr (Dy_s o17)
            have V0 := VU_st (S := aS A) (fr := fr) ha hf
            have gr := grU hw (pc := one1) ha (fun c _ => Nat.le_refl 1)
            have hon : ∀ i, al.testBit i = true → onb (aS A) i = true := fun i hi => by
              have := sub_bit qa hi
              rw [nb_bit, Bool.and_eq_true] at this
              exact this.2
            have d90 := far90 hw ha (fun c _ => Nat.le_refl 1) hg y hon 8 (by omega) _ V0.1 V0.2 (fun i h3 h4 => by
              have : al.testBit i = false := Nat.testBit_lt_two_pow (Nat.lt_of_lt_of_le ha (by rw [show 256 = 2 ^ 8 by decide]; exact Nat.pow_le_pow_right (by omega) h3))
              rw [this] at h4; cases h4)
            obtain ⟨L, l0, wa⟩ := way_ex gr y _ _ V0.1 (Nat.le_refl _) (by omega)
            refine ok_bd (m_tellsWay c17 (B.ep o17) ya y hf wa (by omega)) (fun o ⟨z1, z2, z3⟩ => ok_some ⟨_, ⟨D, L, y, wa, ?_, rfl⟩, z2, ?_⟩)
            · show o.1 - 1 = nI L
              rw [z1, i1, pk_sub (by omega), Nat.add_sub_cancel]
            · exact o1.ofs.tr ((Dz5_s v1).ofs.tr ((Dy_s o17).ofs.tr (Dt_FM z3)))
        · simp only [if_neg qa]
          exact ok_f (fun z => qa ((andN (by omega)).mp z)) (ok_some ⟨A, ⟨rfl, rfl⟩, c1, o1.ofs⟩)
theorem r_quiet (c : RM h m A n) (a : WA A n) (x y : Int32) : Ok (f_X10_quiet h m x y) (fun o => ∃ B, Rqt A x y o.1 B ∧ RM o.2 m B n ∧ EqOff (FM m) h o.2) := by
  have hF := FU_big
  have hw := a.w
  have hb := ncl_le hw
  have b5 := hw.2.2.2.2.1
  have hN := NVR_e
  rw [f_X10_quiet]
  refine r_th c (fun h1 c1 o1 _ => ?_)
  have g1 := c1.g
  rw [m_isCell g1 hw, bd_s, m_isCell g1 hw, bd_s]
  simp only [nB_0]
  unfold Rqt
  cases hx : cellOfI (aS A) x with
  | none => exact ok_t rfl (ok_some ⟨A, ⟨rfl, rfl⟩, c1, o1.ofs⟩)
  | some fr =>
    obtain ⟨rfl, hf⟩ := cellOfI_s (by omega) hx
    refine ok_f (by simp) ?_
    cases hy : cellOfI (aS A) y with
    | none => exact ok_t rfl (ok_some ⟨A, ⟨rfl, rfl⟩, c1, o1.ofs⟩)
    | some gc =>
      obtain ⟨rfl, hg⟩ := cellOfI_s (by omega) hy
      refine ok_f (by simp) ?_
      rw [i0]
      refine okl (fun q s i => f_X10_quiet_25 m (nI fr) (nI gc) q s i) (ncl (aS A)) (fun i s => EqP (Dz5 m) h1 s ∧ ∀ j, j < i → hpI s (m + 15) j = nI (pq (aS A) gc j)) _ (fun q i s hi ⟨v1, v2⟩ k => ?_) (fun q s ⟨v1, v2⟩ => ?_) (ncl (aS A)) FU 0 h1 (by omega) (by omega) ⟨EqP.rf, fun j hj => absurd hj (Nat.not_lt_zero j)⟩
      · have cs := c1.scr (Dz5_s v1)
        have fin : ∀ v : Int32, v = nI (pq (aS A) gc i) → Ok (f_X10_quiet_62 m (nI fr) (nI gc) (f_X10_quiet_25 m (nI fr) (nI gc) q) s (m + 15) (nI i) v (nI i)) (fun o => ∃ B, (∃ D, Yt (VU (aS A) 0) (nxU (aS A) 0) (wU (pq (aS A) gc)) (gc * 256 + 0) D ∧ if D (fr * 256 + ovA (aS A) 0 fr) < NVR then ∃ L, Way (VU (aS A) 0) (nxU (aS A) 0) (wU (pq (aS A) gc)) D (fr * 256 + ovA (aS A) 0 fr) L ∧ o.1 = nI L ∧ B = wT A (rowW (aS A) 0 (pq (aS A) gc) D (fr * 256 + ovA (aS A) 0 fr) (L + 1)) else o.1 = -2 ∧ B = A) ∧ RM o.2 m B n ∧ EqOff (FM m) h o.2) := fun v ev => by
          rw [f_X10_quiet_62, cs.s.t15, ix_nI (by omega), lt_u, lt_u, i1, nI_add, ev]
          refine ok_gd (inb_nI (by omega) (by omega)) (k _ ⟨v1.tr (EqP.uI rfl), fun j hj => ?_⟩)
          rw [hpI_upI]
          by_cases e : j = i
          · rw [if_pos ⟨rfl, e⟩, e]
          · rw [if_neg (fun z => e z.2)]; exact v2 j (by omega)
        simp only [f_X10_quiet_25, lt_u]
        rw [m_cells cs.g, bd_s, cs.s.r30, cs.s.r6, m_campsOver cs.g cs.w hw (by omega), bd_s, bitsB_nb _ _ (by omega)]
        refine ok_f (by rw [nI_leI (by omega) (by omega)]; omega) (ok_gd (nz_t (by omega)) (ok_if (fun e => ?_) (fun e => ok_gd (nz_t (by omega)) (ok_if (fun e2 => ?_) (fun e2 => ?_)))))
        · have e := nI_inj (by omega) (by omega) e
          rw [f_X10_quiet_61]
          refine fin _ ?_
          unfold pq
          rw [if_pos (Or.inl e)]; rfl
        · have l2 := nb_lt (ocv (aS A) i) ((aS A).1 2)
          have p2 := pow_256 b5
          have e2 := nI_inj (b := 0) (by omega) (by omega) e2
          rw [f_X10_quiet_61]
          refine fin _ ?_
          unfold pq
          rw [if_pos (Or.inr e2)]; rfl
        · have e : ¬ i = gc := fun z => e (by rw [z])
          have e2 : ¬ nb (ocv (aS A) i) ((aS A).1 2) = 0 := fun z => e2 (by rw [z]; rfl)
          rw [NVR_i]
          refine fin _ ?_
          unfold pq
          rw [if_neg (fun z => by rcases z with z | z; exact e z; exact e2 z)]
      · have cs := c1.scr (Dz5_s v1)
        simp only [f_X10_quiet_25, lt_u]
        rw [m_cells cs.g, bd_s, i0]
        have B : LyB s m (aS A) 0 gc (pq (aS A) gc) := ⟨cs.g, cs.w, hw, by omega, hg, fun c _ => pq_1 c, v2⟩
        refine ok_t (Int32.le_refl _) (ok_bd (m_laysYet B) (fun h17 ⟨o17, D, y, ya⟩ => ?_))
        have c17 := cs.scr (Dy_s o17)
        have V0 := VU_st (S := aS A) (al := 0) (fr := fr) (by omega) hf
        have gr := grU hw (al := 0) (pc := pq (aS A) gc) (by omega) (fun c _ => (pq_1 c).1)
        have dl := y.2.1 _ V0.1
        have yv := ya _ V0.1
        rw [ovA_0] at V0 dl yv ⊢
        rw [c17.s.r29, m_state h17 (by omega) (by omega), bd_s, c17.s.t14, ix_nI (by omega), yv, NVR_i]
        refine ok_gd (nz_t (by omega)) (ok_gd (inb_nI (by omega) (by omega)) (ok_if (fun e => ?_) (fun e => ?_)))
        · rw [nI_ltI (by omega) (by omega)] at e
          obtain ⟨L, l0, wa⟩ := way_ex gr y _ _ V0.1 (Nat.le_refl _) e
          have l35 := way_35 hw (fun c _ => (pq_1 c).1) y wa
          have wa2 : Way (VU (aS A) 0) (nxU (aS A) 0) (wU (pq (aS A) gc)) D (fr * 256 + ovA (aS A) 0 fr) L := by rw [ovA_0]; exact wa
          refine ok_bd (m_tellsWay c17 (B.ep o17) ya y hf wa2 (by omega)) (fun o ⟨z1, z2, z3⟩ => ok_some ⟨_, ⟨D, y, ?_⟩, z2, ?_⟩)
          · rw [if_pos e]
            refine ⟨L, wa, ?_, by rw [ovA_0]⟩
            show o.1 - 1 = nI L
            rw [z1, i1, pk_sub (by omega), Nat.add_sub_cancel]
          · exact o1.ofs.tr ((Dz5_s v1).ofs.tr ((Dy_s o17).ofs.tr (Dt_FM z3)))
        · rw [nI_ltI (by omega) (by omega)] at e
          refine ok_some ⟨A, ⟨D, y, ?_⟩, c17, o1.ofs.tr ((Dz5_s v1).ofs.tr (Dy_s o17).ofs)⟩
          rw [if_neg e]
          exact ⟨rfl, rfl⟩
theorem r_soft (c : RM h m A n) (a : WA A n) (x y : Int32) : Ok (f_X10_soft h m x y) (fun o => ∃ B, Rsf A x y o.1 B ∧ RM o.2 m B n ∧ EqOff (FM m) h o.2) := by
  have hF := FU_big
  have hw := a.w
  have hb := ncl_le hw
  have b5 := hw.2.2.2.2.1
  have hN := NVR_e
  rw [f_X10_soft]
  refine r_th c (fun h1 c1 o1 _ => ?_)
  have g1 := c1.g
  rw [m_isCell g1 hw, bd_s, m_isCell g1 hw, bd_s]
  simp only [nB_0]
  unfold Rsf
  cases hx : cellOfI (aS A) x with
  | none => exact ok_t rfl (ok_some ⟨A, ⟨rfl, rfl⟩, c1, o1.ofs⟩)
  | some fr =>
    obtain ⟨rfl, hf⟩ := cellOfI_s (by omega) hx
    refine ok_f (by simp) ?_
    cases hy : cellOfI (aS A) y with
    | none => exact ok_t rfl (ok_some ⟨A, ⟨rfl, rfl⟩, c1, o1.ofs⟩)
    | some gc =>
      obtain ⟨rfl, hg⟩ := cellOfI_s (by omega) hy
      refine ok_f (by simp) ?_
      rw [i0]
      refine okl (fun q s i => f_X10_soft_25 m (nI fr) (nI gc) q s i) (ncl (aS A)) (fun i s => EqP (Dz5 m) h1 s ∧ ∀ j, j < i → hpI s (m + 15) j = nI (psf (aS A) j)) _ (fun q i s hi ⟨v1, v2⟩ k => ?_) (fun q s ⟨v1, v2⟩ => ?_) (ncl (aS A)) FU 0 h1 (by omega) (by omega) ⟨EqP.rf, fun j hj => absurd hj (Nat.not_lt_zero j)⟩
      · have cs := c1.scr (Dz5_s v1)
        simp only [f_X10_soft_25, lt_u]
        rw [m_cells cs.g, bd_s, cs.s.r30, cs.s.r6, m_strengthOn cs.g cs.w hw (by omega), bd_s, sumB_n, cs.s.t15, ix_nI (by omega), show (100 : Int32) = nI 100 by decide, pk_mul, i1, nI_add, nI_add]
        refine ok_f (by rw [nI_leI (by omega) (by omega)]; omega) (ok_gd (nz_t (by omega)) (ok_gd (nz_t (by omega)) (ok_gd (inb_nI (by omega) (by omega)) (k _ ⟨v1.tr (EqP.uI rfl), fun j hj => ?_⟩))))
        rw [hpI_upI]
        by_cases e : j = i
        · rw [if_pos ⟨rfl, e⟩, e]; rfl
        · rw [if_neg (fun z => e z.2)]; exact v2 j (by omega)
      · have cs := c1.scr (Dz5_s v1)
        simp only [f_X10_soft_25, lt_u]
        rw [m_cells cs.g, bd_s, i0]
        have B : LyB s m (aS A) 0 gc (psf (aS A)) := ⟨cs.g, cs.w, hw, by omega, hg, fun c _ => ⟨(psf_1 hw c).1, by have := (psf_1 hw c).2; omega⟩, v2⟩
        refine ok_t (Int32.le_refl _) (ok_bd (m_laysYet B) (fun h17 ⟨o17, D, y, ya⟩ => ?_))
        have c17 := cs.scr (Dy_s o17)
        have V0 := VU_st (S := aS A) (al := 0) (fr := fr) (by omega) hf
        have gr := grU hw (al := 0) (pc := psf (aS A)) (by omega) (fun c _ => (psf_1 hw c).1)
        have dl := y.2.1 _ V0.1
        obtain ⟨v, q1, q2, q3, q4, q5⟩ := man_go hw (al := 0) (by omega) (fun c _ => (psf_1 hw c).2) y hg _ _ V0.1 V0.2 rfl
        have q6 := VU_0 q1
        have q7 : v = gc * 256 + 0 := by omega
        rw [q7, y.1] at q5
        have q8 := dRC2_10 hw V0.1.1 hg
        have q9 := Nat.mul_le_mul_right 7201 q8
        have e : D (fr * 256 + ovA (aS A) 0 fr) < NVR := by omega
        clear q5 q8 q9 q7 q4 q3
        obtain ⟨L, l0, wa⟩ := way_ex gr y _ _ V0.1 (Nat.le_refl _) e
        have l35 := way_35 hw (fun c _ => (psf_1 hw c).1) y wa
        have yv := ya _ V0.1
        have sg := sgC_le hw fr
        rw [ovA_0] at yv dl e
        rw [c17.s.r6, m_strengthOn c17.g c17.w hw (by omega), bd_s, sumB_n, c17.s.r29, m_state h17 (by omega) (by omega), bd_s, c17.s.t14, ix_nI (by omega), yv, show (100 : Int32) = nI 100 by decide, pk_div (by omega) (by omega) (by omega), nI_add]
        refine ok_gd (nz_t (by omega)) (ok_gd (nz_t (by omega)) (ok_gd (inb_nI (by omega) (by omega)) (ok_bd (m_tellsWay c17 (B.ep o17) ya y hf wa (by omega)) (fun o ⟨z1, z2, z3⟩ => ok_some ⟨_, ⟨D, L, y, wa, ?_, rfl⟩, z2, ?_⟩))))
        · rw [ovA_0]; rfl
        · exact o1.ofs.tr ((Dz5_s v1).ofs.tr ((Dy_s o17).ofs.tr (Dt_FM z3)))
end RWAYS
