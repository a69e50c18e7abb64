def ftB (A : Ast) : Nat → Bool := asM (aS A) (aM A)
def lwT (o : Option Nat) : List Int64 := match o with
  | none => []
  | some l => [(nI (l / 4)).toInt64, (nI (l % 4)).toInt64]
def sp_laws (A : Ast) : Int32 × Ast := (nI (cntB (ftB A) 0 16), wT A (lwT (ff (ftB A) 0 16)))
theorem cnt_ff0 {p : Nat → Bool} : ∀ d, cntB p 0 d = 0 ↔ ff p 0 d = none := by
  intro d
  induction d with
  | zero => exact ⟨fun _ => rfl, fun _ => rfl⟩
  | succ d ih =>
    rw [cnt_snoc, ff_snoc, Nat.zero_add]
    cases hf : ff p 0 d with
    | none =>
      have := ih.mpr hf
      by_cases q : p d = true <;> simp [q, this]
    | some k =>
      have : ¬ cntB p 0 d = 0 := fun z => by rw [ih.mp z] at hf; cases hf
      by_cases q : p d = true <;> simp [q, this]
/-- how many laws are left at most, once a camp is looked at in a year -/
def lfO (A : Ast) (k y : Nat) : Nat := cntB (fun l => ftB A l && onb (yL (aS A) l y) k) 0 16
def lfN (A : Ast) (k y : Nat) : Nat := max (lfO A k y) (cntB (ftB A) 0 16 - lfO A k y)
def wtY (A : Ast) (k : Nat) (b : Option (Nat × Nat)) (y : Nat) : Option (Nat × Nat) := match b with
  | none => some (31 * k + y, lfN A k y)
  | some p => if p.2 ≤ lfN A k y then some p else some (31 * k + y, lfN A k y)
def wtK (A : Ast) (b : Option (Nat × Nat)) (k : Nat) : Option (Nat × Nat) := fo (wtY A k) b 0 31
def wtV (A : Ast) : Option (Nat × Nat) := fo (wtK A) none 0 ((aS A).1 2)
def sp_watch (A : Ast) : Int32 × Ast := match ff (ftB A) 0 16, wtV A with
  | some _, some p => (nI p.1, wT A [(nI p.2).toInt64])
  | _, _ => (-2, A)
theorem lf_le {A : Ast} {k y : Nat} : lfO A k y ≤ cntB (ftB A) 0 16 ∧ lfN A k y ≤ 16 := by
  have h1 : lfO A k y ≤ cntB (ftB A) 0 16 := cnt_mono (fun l z => by simp only [Bool.and_eq_true] at z; exact z.1) 16 0
  have h2 := cnt_le (p := ftB A) 16 0
  unfold lfN
  exact ⟨h1, by omega⟩
theorem ft_cnt (A : Ast) : bc32 (bitsB (ftB A) 16) = nI (cntB (ftB A) 0 16) := by
  rw [bitsB_nb _ _ (by omega), bc16 (nb_lt (ftB A) 16)]
  congr 1
  refine cnt_congr 16 0 (fun k _ hk => ?_)
  rw [nb_bit]; simp [show k < 16 by omega]
theorem ft_0 (A : Ast) : (bitsB (ftB A) 16 = 0) ↔ ff (ftB A) 0 16 = none := by
  rw [i0, bitsB_0 (by omega), ff_none]
  exact ⟨fun z j _ hj => z j (by omega), fun z j hj => z j (by omega) (by omega)⟩
section LAWS2
variable {h h1 : Hp} {A : Ast} {m n : Nat}
theorem c_laws (c : RC h A) (a : WA A n) : Ok (f_X9_laws h 1) (fun o => o.1 = (sp_laws A).1 ∧ RC o.2 (sp_laws A).2 ∧ EqOff FX h o.2) := by
  have hF := FU_big
  rw [f_X9_laws]
  refine ok_bd (c_fitting c a) (fun o ⟨z1, c1, _, o1⟩ => ?_)
  have z1 : o.1 = bitsB (ftB A) 16 := z1
  rw [c1.s.r1_1, z1]
  refine ok_gd (by decide) (ok_bd (c_t0 c1) (fun h4 ⟨c4, o4⟩ => ?_))
  simp only [f_X9_laws_43, p_bc, bd_s, ft_cnt]
  unfold sp_laws
  cases hf : ff (ftB A) 0 16 with
  | none => exact ok_t ((ft_0 A).mpr hf) (ok_some ⟨rfl, c4, o1.tr (F24y o4)⟩)
  | some l =>
    have hl := ff_s _ _ _ hf
    refine ok_f (fun z => by rw [(ft_0 A).mp z] at hf; cases hf) ?_
    have e : f_X9_firstIn h4 (bitsB (ftB A) 16) = some (nI l) := by
      have e := fo_ff (fun q i => f_X9_firstIn_2 h4 (bitsB (ftB A) 16) q i) 16 (ftB A) (fun j => some (nI j)) (some (-1)) (fun q i hi => ?_) (fun q => ?_) 16 FU 0 (by omega) (by omega)
      · rw [hf] at e; exact e
      · show f_X9_firstIn_2 h4 (bitsB (ftB A) 16) (q + 1) (nI i) = _
        simp only [f_X9_firstIn_2, lt_u]
        rw [if_neg (by rw [show (16 : Int32) = nI 16 by decide, nI_leI (by omega) (by omega)]; omega), p_isInB (by omega) (by omega), bd_s, i1, nI_add]
        simp only [nB_0]
        cases ftB A i <;> simp [hi]
      · show f_X9_firstIn_2 h4 (bitsB (ftB A) 16) (q + 1) (nI 16) = _
        simp only [f_X9_firstIn_2, lt_u]
        rw [if_pos (by decide)]
    rw [e, bd_s, c4.s.r1_1, show (4 : Int32) = nI 4 by decide, pk_div (by omega) (by omega) (by omega)]
    refine ok_gd (by decide) (ok_bd (c_t1 c4 (by simp [aT, wT, mkA]) _) (fun h9 ⟨c9, o9⟩ => ?_))
    rw [c9.s.r1_1, rm_nI (by omega) (by omega) (by omega), lt_u]
    exact ok_gd (by decide) (ok_bd (c_t1 c9 (by simp [aT, wT, mkA]) _) (fun h13 ⟨c13, o13⟩ => ok_some ⟨rfl, c13, o1.tr ((F24y o4).tr ((F24y o9).tr (F24y o13)))⟩))
def D21 (m x k : Nat) : Prop := DS m x k ∨ (x = m ∧ k = 21)
theorem nI_nB {z : Nat} (hz : z ≤ 1) : nI z = nB (decide (z = 1)) := by
  rcases (show z = 0 ∨ z = 1 by omega) with rfl | rfl <;> decide
theorem m_isLaw (c : RM h m A n) (a : WA A n) {l : Nat} (hl : l < 16) : Ok (f_X10_isLaw h m (nI l)) (fun o => o.1 = nB (ftB A l) ∧ RM o.2 m A n ∧ (∀ y, y < 31 → hpI o.2 (m + 19) (l * 31 + y) = onL (aS A) l y) ∧ (∀ k, (k < l * 31 ∨ l * 31 + 31 ≤ k) → hpI o.2 (m + 19) k = hpI h (m + 19) k) ∧ EqP (DS m) h o.2) := by
  have hF := FU_big
  have hw := a.w
  have hy := a.y
  have b5 := hw.2.2.2.2.1
  rw [f_X10_isLaw]
  refine ok_bd (m_copies c a) (fun h1 ⟨c1, w1, o1⟩ => ok_lt (fun h2 e2 => ?_))
  have o2 : EqP (D21 m) h1 h2 := by rw [e2]; exact EqP.uI (Or.inr ⟨rfl, rfl⟩)
  have w2 : atW h2 (m + 3) (aS A) := w1.ep (D := fun x k => x = m ∧ k = 21) (by rw [e2]; exact EqP.uI ⟨rfl, rfl⟩) (fun k z => by omega)
  refine okl (fun q (h3 : Hp) y => f_X10_isLaw_11 m (nI l) q h3 y) 31 (fun y h3 => EqP (D21 m) h1 h3 ∧ (hpI h3 m 21 = nI l ∧ hpL h3 m 21 = hpL h1 m 21) ∧ atW h3 (m + 3) (yL (aS A) l y) ∧ (∀ y', y' < y → hpI h3 (m + 19) (l * 31 + y') = onL (aS A) l y') ∧ (∀ k, (k < l * 31 ∨ l * 31 + 31 ≤ k) → hpI h3 (m + 19) k = hpI h1 (m + 19) k)) _ (fun q y h3 hyy ⟨d1, d2, d3, d4, d5⟩ kk => ?_) (fun q h3 ⟨d1, d2, d3, d4, d5⟩ => ?_) 31 FU 0 h2 (by omega) (by omega) ⟨o2, ⟨by rw [e2, hpI_upI, if_pos ⟨rfl, rfl⟩], by rw [e2]; rfl⟩, w2, fun y' z => by omega, fun k _ => by rw [e2, hpI_upI, if_neg (by omega)]⟩
  · have wy : wfF (yL (aS A) l y) := wf_yrs hw y (by omega)
    have s3 := c1.s.ep d1
    show Ok (f_X10_isLaw_11 m (nI l) (q + 1) h3 (nI y)) _
    simp only [f_X10_isLaw_11]
    refine ok_lt (fun k2 ek2 => ?_)
    subst ek2
    rw [s3.r35, s3.r7, s3.t19, m_on d3 wy, bd_s, show (31 : Int32) = nI 31 by decide, pk_mul, nI_add, ix_nI (by omega)]
    refine ok_f (by rw [show (30 : Int32) = nI 30 by decide, nI_ltI (by omega) (by omega)]; omega) (ok_gd (nz_t (by omega)) (ok_gd (nz_t (by omega)) (ok_gd (inb_nI (by omega) (by omega)) (ok_lt (fun h11 e11 => ?_)))))
    have o11 : EqP (fun x _ => x = m + 19) h3 h11 := by rw [e11]; exact EqP.uI rfl
    have d11 : EqP (D21 m) h1 h11 := d1.tr (o11.mono (fun x k z => Or.inl (by unfold DS; omega)))
    have s11 := s3.ep o11
    have w11 : atW h11 (m + 3) (yL (aS A) l y) := d3.ep o11 (fun k z => by omega)
    have g11 : atG h11 m (yL (aS A) l y) := ⟨s11, by rw [show (yL (aS A) l y).1 0 = (aS A).1 0 from (yrs_01 y).1, d11.1 _ _ (fun z => by unfold D21 DS at z; omega)]; exact c1.g.2.1, by rw [show (yL (aS A) l y).1 1 = (aS A).1 1 from (yrs_01 y).2, d11.1 _ _ (fun z => by unfold D21 DS at z; omega)]; exact c1.g.2.2⟩
    have l11 : hpI h11 m 21 = nI l := by rw [o11.1 _ _ (fun z => by omega)]; exact d2.1
    rw [s11.r7]
    refine ok_gd (nz_t (by omega)) (ok_bd (m_yearGoes g11 w11 wy (E := lwE l) (Or.inr ⟨l, hl, l11, rfl⟩) (Or.inr rfl)) (fun h14 ⟨w14, _, o14⟩ => ?_))
    rw [lt_u, i1, nI_add]
    have t14 : ∀ k, hpI h14 (m + 19) k = hpI h11 (m + 19) k := fun k => o14.1 _ _ (fun z => by unfold DY at z; omega)
    have eq0 : onL (aS A) l y = bitsB (onb (yL (aS A) l y)) ((yL (aS A) l y).1 2) := by unfold onL; rw [show (yL (aS A) l y).1 2 = (aS A).1 2 from yrs_q y]
    refine kk h14 ⟨d11.tr (o14.mono (fun x k z => Or.inl (by unfold DY at z; unfold DS; omega))), ⟨by rw [o14.1 _ _ (fun z => by unfold DY at z; omega)]; exact l11, by rw [o14.2.1 _ _ (fun z => by unfold DY at z; omega), o11.2.1 _ _ (fun z => by omega)]; exact d2.2⟩, w14, fun y' hy' => ?_, fun k hk => ?_⟩
    · rw [t14, e11, hpI_upI]
      by_cases w : y' = y
      · rw [if_pos ⟨rfl, by omega⟩, w, eq0]
      · rw [if_neg (by omega)]; exact d4 y' (by omega)
    · rw [t14, e11, hpI_upI, if_neg (by omega)]; exact d5 k hk
  · show Ok (f_X10_isLaw_11 m (nI l) (q + 1) h3 (nI 31)) _
    simp only [f_X10_isLaw_11]
    refine ok_lt (fun k2 ek2 => ?_)
    clear ek2
    refine ok_t (by decide) (ok_lt (fun h4 e4 => ?_))
    have o4 : EqP (DS m) h1 h4 := by
      refine ⟨fun x k z => ?_, fun x k z => ?_, by rw [e4]; exact d1.2.2.1, by rw [e4]; exact d1.2.2.2.1, by rw [e4]; exact d1.2.2.2.2⟩
      · rw [e4, hpI_upI]
        by_cases w : x = m ∧ k = 21
        · rw [if_pos w, w.1, w.2]; exact c1.e.1.symm
        · rw [if_neg w]; exact d1.1 _ _ (fun y => y.elim z w)
      · rw [e4, hpL_upI]
        by_cases w : x = m ∧ k = 21
        · rw [w.1, w.2]; exact d2.2
        · exact d1.2.1 _ _ (fun y => y.elim z w)
    have c4 : RM h4 m A n := c1.scr o4
    have s4 := c4.s
    obtain ⟨g1, g2, g3⟩ := c4.mm
    have t4 : ∀ k, hpI h4 (m + 19) k = hpI h3 (m + 19) k := fun k => by rw [e4, hpI_upI, if_neg (by omega)]
    have e := fo_lp (fun q (z : Bool) i => f_X10_isLaw_58 m (nI l) q h4 (nB z) i) (aM A).length (fun (z : Bool) i => z && mkF (aS A) l ((aM A).getD i (0, 0, 0))) (fun z => some (nB z, h4)) (fun q z i hi => ?_) (fun q z => ?_) (aM A).length FU true 0 (by omega) (by omega)
    · rw [fo_and, Bool.true_and] at e
      rw [show f_X10_isLaw_58 m (nI l) FU h4 1 0 = _ from e]
      exact ok_some ⟨rfl, c4, fun y hyy => by rw [t4]; exact d4 y hyy, fun k hk => by rw [t4, d5 k hk]; exact o1.1 _ _ (fun z => by unfold DW at z; omega), (o1.mono (fun x k z => by unfold DW at z; unfold DS; omega)).tr o4⟩
    · show f_X10_isLaw_58 m (nI l) (q + 1) h4 (nB z) (nI i) = f_X10_isLaw_58 m (nI l) q h4 (nB (z && mkF (aS A) l ((aM A).getD i (0, 0, 0)))) (nI (i + 1))
      obtain ⟨k, y, zz, ek, z1, z2, z3⟩ := a.2.2.2.1 i hi
      have g3 := g3 i hi
      rw [ek] at g3 ⊢
      simp only [f_X10_isLaw_58, f_X10_isLaw_112, f_X10_isLaw_113, lt_u]
      rw [g1, s4.r35, s4.r33, s4.r32, s4.r34, s4.t19, s4.t17, s4.t16, s4.t18, ix_nI (by omega), g3.1, g3.2.1, g3.2.2, show (31 : Int32) = nI 31 by decide, pk_mul, nI_add, ix_nI (by omega), t4, d4 y (by omega), show onL (aS A) l y = bitsB (onb (yL (aS A) l y)) ((aS A).1 2) from rfl, p_hasB h4 (by omega) (by omega), bd_s, p_flag, bd_s, nI_nB z3, if_neg (by rw [nI_leI (by omega) (by omega)]; omega), gd_t (nz_t (by omega)), gd_t (nz_t (by omega)), gd_t (inb_nI (by omega) (by omega)), gd_t (inb_nI (by omega) (by omega)), gd_t (nz_t (by omega)), gd_t (inb_nI (by omega) (by omega)), gd_t (nz_t (by omega)), gd_t (inb_nI (by omega) (by omega)), i1, nI_add]
      simp only [nB_eq, nB_0]
      have em : mkF (aS A) l (nI k, nI y, nB (decide (zz = 1))) = ((decide (k < (aS A).1 2) && onb (yL (aS A) l y) k) == decide (zz = 1)) := by
        rw [← nI_nB z3]
        unfold mkF; simp only; rw [ix_nI (by omega), ix_nI (by omega), ix_nI (by omega)]
      rw [em]
      cases z with
      | false => simp; rfl
      | true =>
        rw [if_neg (by simp)]
        by_cases w : (decide (k < (aS A).1 2) && onb (yL (aS A) l y) k) = decide (zz = 1)
        · rw [if_pos w, w]; simp [nB_t, i1]
        · have wb : ((decide (k < (aS A).1 2) && onb (yL (aS A) l y) k) == decide (zz = 1)) = false := by simpa using w
          rw [if_neg w, wb]; rfl
    · show f_X10_isLaw_58 m (nI l) (q + 1) h4 (nB z) (nI (aM A).length) = _
      simp only [f_X10_isLaw_58, lt_u]
      rw [g1, if_pos (Int32.le_refl _)]
theorem r_laws (c : RM h m A n) (a : WA A n) : Ok (f_X10_laws h m) (fun o => o.1 = (sp_laws A).1 ∧ RM o.2 m (sp_laws A).2 n ∧ EqOff (FM m) h o.2) := by
  have hF := FU_big
  rw [f_X10_laws]
  refine r_th c (fun h1 c1 o1 _ => r_t0 c1 (fun h2 c2 o2 => ?_))
  refine okl (fun q (s : Hp × Int32) i => f_X10_laws_14 m q s.1 s.2 i) 16 (fun i s => s.2 = nI (cntB (ftB A) 0 i) ∧ RM s.1 m (wT A (lwT (ff (ftB A) 0 i))) n ∧ EqOff (FM m) h s.1) _ (fun q l s hl d kk => ?_) (fun q s d => ?_) 16 FU 0 (h2, 0) (by omega) (by omega) ⟨rfl, c2, o1.ofs.tr (Dt_FM o2)⟩
  · obtain ⟨h3, v⟩ := s
    obtain ⟨d1, d7, d8⟩ := d
    have d1 : v = nI (cntB (ftB A) 0 l) := d1
    subst d1
    have d7 : RM h3 m (wT A (lwT (ff (ftB A) 0 l))) n := d7
    have a7 : WA (wT A (lwT (ff (ftB A) 0 l))) n := a
    have hc := cnt_le (p := ftB A) l 0
    have h0 := cnt_ff0 (p := ftB A) l
    have en : cntB (ftB A) 0 (l + 1) = if ftB A l = true then cntB (ftB A) 0 l + 1 else cntB (ftB A) 0 l := by rw [cnt_snoc, Nat.zero_add]
    have ef := ff_snoc (p := ftB A) l 0
    rw [Nat.zero_add] at ef
    show Ok (f_X10_laws_14 m (q + 1) h3 (nI (cntB (ftB A) 0 l)) (nI l)) _
    simp only [f_X10_laws_14, f_X10_laws_50]
    refine ok_lt (fun k2 ek2 => ?_)
    subst ek2
    refine ok_f (by rw [show (16 : Int32) = nI 16 by decide, nI_leI (by omega) (by omega)]; omega) (ok_bd (m_isLaw d7 a7 hl) (fun o ⟨z1, z2, _, _, z5⟩ => ?_))
    have z1 : o.1 = nB (ftB A l) := z1
    rw [z1]
    simp only [nB_0, p_flag, bd_s, lt_u]
    have o3 : EqOff (FM m) h o.2 := EqOff.tr d8 z5.ofs
    cases hf : ftB A l with
    | false =>
      refine ok_t rfl ?_
      rw [nB_f, Int32.add_zero, i1, nI_add]
      rw [hf] at en ef
      have ef : ff (ftB A) 0 (l + 1) = ff (ftB A) 0 l := by rw [ef]; cases ff (ftB A) 0 l <;> rfl
      exact kk (o.2, _) ⟨by rw [en]; rfl, by rw [ef]; exact z2, o3⟩
    | true =>
      rw [hf] at en ef
      refine ok_f (by simp) ?_
      rw [show nI (cntB (ftB A) 0 l) + nB true = nI (cntB (ftB A) 0 (l + 1)) by rw [en, if_pos rfl, nB_t, i1, nI_add], show nI l + (1 : Int32) = nI (l + 1) by rw [i1, nI_add]]
      by_cases w : cntB (ftB A) 0 l = 0
      · have w2 := h0.mp w
        refine ok_t (by rw [w]; rfl) ?_
        rw [w2] at z2 ef
        rw [show (4 : Int32) = nI 4 by decide, pk_div (by omega) (by omega) (by omega), rm_nI (by omega) (by omega) (by omega)]
        refine ok_bd (m_enters z2 (by simp [aT, wT, mkA, lwT]) _) (fun h7 ⟨c7, o7⟩ => ok_bd (m_enters c7 (by simp [aT, wT, mkA, lwT]) _) (fun h9 ⟨c9, o9⟩ => ?_))
        exact kk (h9, _) ⟨rfl, by rw [ef]; exact c9, o3.tr ((Dt_FM o7).tr (Dt_FM o9))⟩
      · refine ok_f (fun z => w (by rw [i0, nI_eq (by omega) (by omega)] at z; exact z)) ?_
        cases hz : ff (ftB A) 0 l with
        | none => exact absurd (h0.mpr hz) w
        | some k0 =>
          rw [hz] at z2 ef
          exact kk (o.2, _) ⟨rfl, by rw [ef]; exact z2, o3⟩
  · obtain ⟨d1, d7, d8⟩ := d
    show Ok (f_X10_laws_14 m (q + 1) s.1 s.2 (nI 16)) _
    simp only [f_X10_laws_14]
    refine ok_lt (fun k2 ek2 => ?_)
    exact ok_t (by decide) (ok_some ⟨d1, d7, d8⟩)
end LAWS2
