section RDRAWN
variable {h h1 : Hp} {A : Ast} {m n : Nat}
def D42 (m x k : Nat) : Prop := x = m ∧ k = 42
def dRM (h : Hp) (m : Nat) (A : Ast) (n : Nat) (d : Dw) : Prop := RM h m A n ∧ atW h (m + 3) d.2.1 ∧ hpI h m 42 = d.1 ∧ hpI h m 25 = d.2.2
theorem m_draws (c : RM h m A n) {T : Fld} {s l : Int32} (t : atW h (m + 3) T) (hs : hpI h m 42 = s) (hl : hpI h m 25 = l) {x : Int32} (hx : 0 < x) : Ok (f_X10_draws h m x) (fun o => o.1 = drV s x ∧ (RM o.2 m A n ∧ atW o.2 (m + 3) T ∧ hpI o.2 m 42 = drw s ∧ hpI o.2 m 25 = l) ∧ EqP (DS m) h o.2) := by
  rw [f_X10_draws, hs]
  refine ok_lt (fun h2 e2 => ?_)
  have o2 : EqP (D42 m) h h2 := by rw [e2]; exact EqP.uI ⟨rfl, rfl⟩
  have o3 : EqP (DS m) h h2 := o2.mono (fun x k z => Or.inl ⟨z.1, by rw [z.2]; decide⟩)
  have q2 : hpI h2 m 42 = drw s := by rw [e2, hpI_upI, if_pos ⟨rfl, rfl⟩]; rfl
  rw [q2, lt_u]
  refine ok_gd (decide_eq_true (fun z => by rw [z] at hx; exact absurd hx (by decide))) ?_
  rw [lt_u]
  refine ok_some ⟨?_, ⟨c.scr o3, t.ep o2 (fun k z => by unfold D42 at z; omega), q2, by rw [o2.1 _ _ (fun z => by unfold D42 at z; omega)]; exact hl⟩, o3⟩
  unfold drV
  rw [if_neg (Int32.not_le.mpr hx)]
theorem nI_p {k : Nat} (h1 : 0 < k) (h2 : k < 2 ^ 31) : (0 : Int32) < nI k := by rw [i0, nI_ltI (by omega) h2]; exact h1
theorem r_dloop (hy : (aS A).1 3 < 900000) {k : Nat} (hk : k ≤ 60) (x : Int32) : ∀ d q i h2 D, i + d = k → d < q → dRM h2 m A n D → dwB (aS A) i D → Ok (f_X10_drawn_39 m x (nI k) q h2 (nI i)) (fun o => o.1 = onC (itD (aE A) D d).2.1 ∧ RM o.2 m (wT A [(nI ((itD (aE A) D d).2.1.1 2)).toInt64, (itD (aE A) D d).2.2.toInt64]) n ∧ EqOff (FM m) h2 o.2) := by
  intro d
  induction d with
  | zero =>
    intro q i h2 D hi hq d1 d3
    obtain ⟨q, rfl⟩ : ∃ k, q = k + 1 := ⟨q - 1, by omega⟩
    have hi : i = k := by omega
    subst hi
    obtain ⟨e1, e2, e3, e4⟩ := d1
    rw [itD]
    simp only [f_X10_drawn_39]
    refine ok_lt (fun k2 ek2 => ?_)
    clear ek2
    refine ok_t (Int32.le_refl _) (r_t0 e1 (fun h10 c10 o10 => ?_))
    have w10 := e2.ep o10 (fun k z => by unfold Dt at z; omega)
    have l10 : hpI h10 m 25 = D.2.2 := by rw [o10.1 _ _ (fun z => by unfold Dt at z; omega)]; exact e4
    rw [c10.s.r7, c10.s.t3, show ix (48 : Int32) = 48 by decide, w10.n]
    refine ok_gd (nz_t (by omega)) (ok_gd (by decide) (ok_bd (m_enters c10 (by simp [aT, wT, mkA]) _) (fun h14 ⟨c14, o14⟩ => ?_)))
    have l14 : hpI h14 m 25 = D.2.2 := by rw [o14.1 _ _ (fun z => by unfold Dt at z; omega)]; exact l10
    have w14 := w10.ep o14 (fun k z => by unfold Dt at z; omega)
    rw [l14]
    refine ok_bd (m_enters c14 (by simp [aT, wT, mkA]) _) (fun h15 ⟨c15, o15⟩ => ?_)
    have w15 := w14.ep o15 (fun k z => by unfold Dt at z; omega)
    rw [c15.s.r7, m_on w15 d3.1, bd_s, p_bc, bd_s]
    exact ok_gd (nz_t (by omega)) (ok_some ⟨rfl, c15, (Dt_FM o10).tr ((Dt_FM o14).tr (Dt_FM o15))⟩)
  | succ d ih =>
    intro q i h2 D hi hq d1 d3
    obtain ⟨q, rfl⟩ : ∃ k, q = k + 1 := ⟨q - 1, by omega⟩
    obtain ⟨sd, T, v⟩ := D
    obtain ⟨e1, e2, e3, e4⟩ := d1
    have e2 : atW h2 (m + 3) T := e2
    have e3 : hpI h2 m 42 = sd := e3
    have e4 : hpI h2 m 25 = v := e4
    have wT' : wfF T := d3.1
    have b5 := wT'.2.2.2.2.1
    have t0 : T.1 0 = (aS A).1 0 := d3.2.1
    have t1 : T.1 1 = (aS A).1 1 := d3.2.2.1
    have hb := ncl_le wT'
    have nx := d3.next (E := aE A) hy (by omega)
    simp only [f_X10_drawn_39, f_X10_drawn_168]
    refine ok_lt (fun k2 ek2 => ?_)
    subst ek2
    refine ok_f (by rw [nI_leI (by omega) (by omega)]; omega) (ok_bd (m_draws e1 e2 e3 e4 (x := 4) (by decide)) (fun o ⟨y1, ⟨y2, y3, y4, yl⟩, y5⟩ => ?_))
    rw [y1]
    have fin : ∀ h3 d', dwS (aE A) (sd, T, v) = d' → dRM h3 m A n d' → EqOff (FM m) h2 h3 → Ok (lt (nI i + 1) fun v47 => f_X10_drawn_39 m x (nI k) q h3 v47) (fun o => o.1 = onC (itD (aE A) (sd, T, v) (d + 1)).2.1 ∧ RM o.2 m (wT A [(nI ((itD (aE A) (sd, T, v) (d + 1)).2.1.1 2)).toInt64, (itD (aE A) (sd, T, v) (d + 1)).2.2.toInt64]) n ∧ EqOff (FM m) h2 o.2) := fun h3 d' ed z1 z2 => by
      rw [lt_u, i1, nI_add, itD, ed]
      rw [ed] at nx
      exact ok_mono (ih q (i + 1) h3 d' (by omega) (by omega) z1 nx) (fun o ⟨x1, x2, x3⟩ => ⟨x1, x2, z2.tr x3⟩)
    refine ok_if (fun w => ok_if (fun w2 => ?_) (fun w2 => ?_)) (fun w => ?_)
    · have ed : dwS (aE A) (sd, T, v) = (drw (drw (drw (drw (drw sd)))), (pitchS T (drV (drw sd) (nI (ncl T))) (1 + drV (drw (drw sd)) 3) (1 + drV (drw (drw (drw sd))) 3) (1 + drV (drw (drw (drw (drw sd)))) 9) 0).2, v) := by
        unfold dwS; simp only; rw [if_neg (Int32.not_lt.mpr w), if_pos w2]
      rw [m_cells (y2.gk t0 t1), bd_s]
      refine ok_bd (m_draws y2 y3 y4 yl (nI_p (by omega) (by omega))) (fun o4 ⟨z1, ⟨z2, z3, z4, zl⟩, z5⟩ => ok_bd (m_draws z2 z3 z4 zl (x := 3) (by decide)) (fun o5' ⟨x1, ⟨x2, x3, x4, xl⟩, x5⟩ => ok_lt (fun v6 e6 => ok_bd (m_draws x2 x3 x4 xl (x := 3) (by decide)) (fun o7 ⟨u1, ⟨u2, u3, u4, ul⟩, u5⟩ => ok_lt (fun v8 e8 => ?_)))))
      rw [u2.s.r7]
      refine ok_gd (nz_t (by omega)) (ok_bd (m_draws u2 u3 u4 ul (x := 9) (by decide)) (fun o11 ⟨r1, ⟨r2, r3, r4, rl⟩, r5⟩ => ?_))
      rw [r1, z1, e6, e8, x1, u1]
      refine ok_bd (m_pitches (r2.gk t0 t1) r3 wT' _ _ _ _ _) (fun o12 ⟨p1, p2, p3⟩ => fin o12.2 _ ed ⟨r2.scr (DW_s p3), p2, ?_, ?_⟩ ?_)
      · rw [p3.1 _ _ (fun z => by unfold DW at z; omega)]; exact r4
      · rw [p3.1 _ _ (fun z => by unfold DW at z; omega)]; exact rl
      · exact y5.ofs.tr (z5.ofs.tr (x5.ofs.tr (u5.ofs.tr (r5.ofs.tr (DW_FM (by omega) p3)))))
    · rw [y2.s.r7, y2.s.t3, show ix (48 : Int32) = 48 by decide, y3.n]
      refine ok_gd (nz_t (by omega)) (ok_gd (by decide) (ok_if (fun w3 => ?_) (fun w3 => ok_gd (by decide) ?_)))
      · rw [i0, nI_leI (by omega) (by omega)] at w3
        have ed : dwS (aE A) (sd, T, v) = (drw sd, T, v) := by
          unfold dwS; simp only; rw [if_neg (Int32.not_lt.mpr w), if_neg w2, if_pos (by omega)]
        exact fin o.2 _ ed ⟨y2, y3, y4, yl⟩ y5.ofs
      · rw [i0, nI_leI (by omega) (by omega)] at w3
        have ed : dwS (aE A) (sd, T, v) = (drw (drw (drw sd)), (moveS T (drV (drw sd) (nI (T.1 2))) (drV (drw (drw sd)) 4)).2, v) := by
          unfold dwS; simp only; rw [if_neg (Int32.not_lt.mpr w), if_neg w2, if_neg (by omega)]
        refine ok_bd (m_draws y2 y3 y4 yl (nI_p (by omega) (by omega))) (fun o4 ⟨z1, ⟨z2, z3, z4, zl⟩, z5⟩ => ?_)
        rw [z2.s.r7]
        refine ok_gd (nz_t (by omega)) (ok_bd (m_draws z2 z3 z4 zl (x := 4) (by decide)) (fun o5' ⟨x1, ⟨x2, x3, x4, xl⟩, x5⟩ => ?_))
        rw [z1, x1]
        refine ok_bd (m_movesOne (x2.gk t0 t1) x3 wT' _ _) (fun o12 ⟨p1, p2, p3⟩ => fin o12.2 _ ed ⟨x2.scr (DW_s p3), p2, ?_, ?_⟩ ?_)
        · rw [p3.1 _ _ (fun z => by unfold DW at z; omega)]; exact x4
        · rw [p3.1 _ _ (fun z => by unfold DW at z; omega)]; exact xl
        · exact y5.ofs.tr (z5.ofs.tr (x5.ofs.tr (DW_FM (by omega) p3)))
    · have ed : dwS (aE A) (sd, T, v) = (drw sd, yearS (lossE (aE A)) T, v + nI (goneN (lossE (aE A)) T (T.1 2))) := by
        unfold dwS; simp only; rw [if_pos (Int32.not_le.mp w)]
      rw [y2.s.r7]
      refine ok_gd (nz_t (by omega)) (ok_bd (m_yearGoes (y2.gk t0 t1) y3 wT' y2.e.E (Or.inr rfl)) (fun h4 ⟨z1, z2, z3⟩ => fin h4 _ ed ⟨y2.scr (DY_s z3), z1, ?_, ?_⟩ (y5.ofs.tr (DY_FM (Or.inr rfl) z3))))
      · rw [z3.1 _ _ (fun z => by unfold DY at z; omega)]; exact y4
      · rw [z2, yl]
theorem r_drawn (c : RM h m A n) (a : WA A n) (x y : Int32) : Ok (f_X10_drawn h m x y) (fun o => o.1 = (sp_drawn A x y).1 ∧ RM o.2 m (sp_drawn A x y).2 n ∧ EqOff (FM m) h o.2) := by
  have hF := FU_big
  have hy := a.y
  rw [f_X10_drawn]
  refine r_th c (fun h1 c1 o1 _ => ?_)
  rw [z64_1, z64_60, p_in_num, bd_s]
  simp only [nB_0]
  unfold sp_drawn
  cases ey : numIn (nI 1) (nI 60) y with
  | none => exact ok_t rfl (ok_some ⟨rfl, c1, o1.ofs⟩)
  | some k =>
    obtain ⟨rfl, g1, g2⟩ := numIn_s (by omega) (by omega) ey
    refine ok_f (by simp) (ok_lt (fun h4 e4 => ?_))
    have o4 : EqP (DS m) h1 h4 := by rw [e4]; exact EqP.uI (Or.inl ⟨rfl, by decide⟩)
    have c4 : RM h4 m A n := c1.scr o4
    have q4 : hpI h4 m 42 = x := by rw [e4, hpI_upI, if_pos ⟨rfl, rfl⟩]
    refine ok_bd (m_copies c4 a) (fun h5 ⟨c5, w5, o5⟩ => ?_)
    have q5 : hpI h5 m 42 = x := by rw [o5.1 _ _ (fun z => by unfold DW at z; omega)]; exact q4
    rw [c5.s.r7, show (0 : Int32) = nI 0 from rfl]
    refine ok_gd (nz_t (by omega)) (ok_bd (m_goesOn c5.g w5 a.w c5.e.E (Or.inr rfl) (n := 0) (by omega) (by omega)) (fun h8 ⟨w8, l8, o8⟩ => ?_))
    have q8 : hpI h8 m 42 = x := by rw [o8.1 _ _ (fun z => by unfold DY at z; omega)]; exact q5
    refine ok_mono (r_dloop hy g2 x k FU 0 h8 (x, aS A, 0) (by omega) (by omega) ⟨c5.scr (DY_s o8), w8, q8, l8⟩ ⟨a.w, rfl, rfl, by simp only; omega⟩) (fun o ⟨z1, z2, z3⟩ => ⟨z1, z2, ?_⟩)
    exact o1.ofs.tr (o4.ofs.tr ((DW_FM (by omega) o5).tr ((DY_FM (Or.inr rfl) o8).tr z3)))
end RDRAWN
