section MACTS
variable {h : Hp} {m r : Nat} {S : Fld}
def DW (r x k : Nat) : Prop := x = r
theorem m_treadsOn (g : atG h m S) (w : atW h (m + 2) S) (hw : wfF S) (x y : Int32) : Ok (f_X10_treadsOn h m x y) (fun o => o.1 = (treadS S x y).1 ∧ atW o.2 (m + 2) (treadS S x y).2 ∧ EqP (DW (m + 2)) h o.2) := by
  have b5 := hw.2.2.2.2.1
  have b8 := hw.2.2.2.2.2.2.2.1
  rw [f_X10_treadsOn, m_isCamp g w hw, bd_s]
  simp only [nB_0]
  cases hx : campOf S x with
  | none => exact ok_t rfl (ok_some ⟨by simp [treadS, hx], by simp [treadS, hx]; exact w, EqP.rf⟩)
  | some i =>
    obtain ⟨rfl, hi⟩ := campOf_s (by omega) hx
    have h8 := b8 4 i
    refine ok_f (by simp) ?_
    rw [z64_1, z64_9, p_in_num, bd_s]
    simp only [nB_0]
    cases hy : numIn (nI 1) (nI 9) y with
    | none => exact ok_t rfl (ok_some ⟨by simp [treadS, hx, hy], by simp [treadS, hx, hy]; exact w, EqP.rf⟩)
    | some n =>
      obtain ⟨rfl, g1, g2⟩ := numIn_s (by omega) (by omega) hy
      refine ok_f (by simp) ?_
      rw [g.1.r6, m_isOn w hw (by omega), bd_s]
      refine ok_gd (nz_t (by omega)) ?_
      simp only [nB_0]
      cases ho : onb S i with
      | false => exact ok_t rfl (ok_some ⟨by simp [treadS, hx, hy, ho], by simp [treadS, hx, hy, ho]; exact w, EqP.rf⟩)
      | true =>
        refine ok_f (by simp) ?_
        rw [w.t, j24, ix_nI (by omega), w.v4 hi, i0, mx_sub (by omega) (by omega)]
        refine ok_gd (inb_nI (by omega) (by omega)) (ok_lt (fun v ev => ?_))
        subst ev
        refine ok_gd (inb_nI (by omega) (by omega)) (ok_lt (fun h14 e14 => ?_))
        have c14 := w.w4 b5 (i := i) (v := S.2 4 i - n) hi
        rw [← e14] at c14
        have p14 : EqP (DW (m + 2)) h h14 := by rw [e14]; exact EqP.uI rfl
        rw [(g.1.ep p14).r6, c14.t, c14.v4 hi]
        refine ok_gd (nz_t (by omega)) (ok_gd (inb_nI (by omega) (by omega)) (ok_some ⟨?_, ?_, p14⟩))
        · simp [treadS, hx, hy, ho, setF]
        · simp only [treadS, hx, hy, ho, if_true]; exact c14
theorem m_singsTo (g : atG h m S) (w : atW h (m + 2) S) (hw : wfF S) (x y : Int32) : Ok (f_X10_singsTo h m x y) (fun o => o.1 = (singS S x y).1 ∧ atW o.2 (m + 2) (singS S x y).2 ∧ EqP (DW (m + 2)) h o.2) := by
  have b5 := hw.2.2.2.2.1
  have b8 := hw.2.2.2.2.2.2.2.1
  rw [f_X10_singsTo, m_isCamp g w hw, bd_s]
  simp only [nB_0]
  cases hx : campOf S x with
  | none => exact ok_t rfl (ok_some ⟨by simp [singS, hx], by simp [singS, hx]; exact w, EqP.rf⟩)
  | some i =>
    obtain ⟨rfl, hi⟩ := campOf_s (by omega) hx
    have h8 := b8 4 i
    refine ok_f (by simp) ?_
    rw [z64_1, z64_9, p_in_num, bd_s]
    simp only [nB_0]
    cases hy : numIn (nI 1) (nI 9) y with
    | none => exact ok_t rfl (ok_some ⟨by simp [singS, hx, hy], by simp [singS, hx, hy]; exact w, EqP.rf⟩)
    | some n =>
      obtain ⟨rfl, g1, g2⟩ := numIn_s (by omega) (by omega) hy
      refine ok_f (by simp) ?_
      rw [g.1.r6, w.t, j24, ix_nI (by omega), w.v4 hi, i9, nI_add, mn_9 (by omega) (by omega)]
      refine ok_gd (nz_t (by omega)) (ok_gd (inb_nI (by omega) (by omega)) (ok_lt (fun v ev => ?_)))
      subst ev
      refine ok_gd (inb_nI (by omega) (by omega)) (ok_lt (fun h14 e14 => ?_))
      have c14 := w.w4 b5 (i := i) (v := min 9 (S.2 4 i + n)) hi
      rw [← e14] at c14
      have p14 : EqP (DW (m + 2)) h h14 := by rw [e14]; exact EqP.uI rfl
      rw [(g.1.ep p14).r6, c14.t, c14.v4 hi]
      refine ok_gd (nz_t (by omega)) (ok_gd (inb_nI (by omega) (by omega)) (ok_some ⟨?_, ?_, p14⟩))
      · simp [singS, hx, hy, setF]
      · simp only [singS, hx, hy]; exact c14
/-- a camp more, of the reference -/
theorem m_comes (w : atW h r S) (b5 : S.1 2 < 8) {kc hg wd st sl : Nat} : Ok (f_X10_comes h r (nI kc) (nI hg) (nI wd) (nI st) (nI sl)) (fun h1 => atW h1 r (addC S (kc / S.1 1) (kc % S.1 1) hg wd st sl) ∧ EqP (DW r) h h1) := by
  obtain ⟨w1, w2, w3, w4, w5⟩ := w
  rw [f_X10_comes, w1, show ix (48 : Int32) = 48 by decide, w2]
  refine ok_gd (by decide) (ok_lt (fun v2 ev => ?_))
  subst ev
  rw [j8, j16, j24, j32, j40, ix_nI (by omega), ix_nI (by omega), ix_nI (by omega), ix_nI (by omega), ix_nI (by omega), ix_nI (by omega)]
  refine ok_gd (inb_nI (by omega) (by omega)) (ok_lt (fun h4 e4 => ?_))
  have t4 : hpT h4 r = (2, 51) := by rw [e4]; exact w1
  rw [t4]
  refine ok_gd (inb_nI (by omega) (by omega)) (ok_lt (fun h6 e6 => ?_))
  have t6 : hpT h6 r = (2, 51) := by rw [e6]; exact t4
  rw [t6]
  refine ok_gd (inb_nI (by omega) (by omega)) (ok_lt (fun h8 e8 => ?_))
  have t8 : hpT h8 r = (2, 51) := by rw [e8]; exact t6
  rw [t8]
  refine ok_gd (inb_nI (by omega) (by omega)) (ok_lt (fun h10 e10 => ?_))
  have t10 : hpT h10 r = (2, 51) := by rw [e10]; exact t8
  rw [t10]
  refine ok_gd (inb_nI (by omega) (by omega)) (ok_lt (fun h12 e12 => ?_))
  have t12 : hpT h12 r = (2, 51) := by rw [e12]; exact t10
  rw [t12]
  refine ok_gd (inb_nI (by omega) (by omega)) (ok_lt (fun h14 e14 => ?_))
  have t14 : hpT h14 r = (2, 51) := by rw [e14]; exact t12
  have v14 : hpI h14 r 48 = nI (S.1 2) := by
    rw [e14, hpI_upI, if_neg (by omega), e12, hpI_upI, if_neg (by omega), e10, hpI_upI, if_neg (by omega), e8, hpI_upI, if_neg (by omega), e6, hpI_upI, if_neg (by omega), e4, hpI_upI, if_neg (by omega)]; exact w2
  rw [t14, v14, i1, nI_add]
  refine ok_gd (by decide) (ok_gd (by decide) (ok_lt (fun h17 e17 => ok_some ⟨⟨?_, ?_, ?_, ?_, fun i hi => ?_⟩, ?_⟩)))
  · rw [e17]; exact t14
  · rw [e17, hpI_upI, if_pos ⟨rfl, rfl⟩]; rfl
  · rw [e17, hpI_upI, if_neg (by omega), e14, hpI_upI, if_neg (by omega), e12, hpI_upI, if_neg (by omega), e10, hpI_upI, if_neg (by omega), e8, hpI_upI, if_neg (by omega), e6, hpI_upI, if_neg (by omega), e4, hpI_upI, if_neg (by omega)]; exact w3
  · rw [e17, hpI_upI, if_neg (by omega), e14, hpI_upI, if_neg (by omega), e12, hpI_upI, if_neg (by omega), e10, hpI_upI, if_neg (by omega), e8, hpI_upI, if_neg (by omega), e6, hpI_upI, if_neg (by omega), e4, hpI_upI, if_neg (by omega)]; exact w4
  · have hi : i < S.1 2 + 1 := by simpa [addC] using hi
    have rd : ∀ k, k ≠ 48 → hpI h17 r k = if k = 40 + S.1 2 then nI 0 else if k = 32 + S.1 2 then nI sl else if k = 24 + S.1 2 then nI st else if k = 16 + S.1 2 then nI wd else if k = 8 + S.1 2 then nI hg else if k = S.1 2 then nI kc else hpI h r k := by
      intro k hk
      rw [e17, hpI_upI, if_neg (by omega), e14, hpI_upI, e12, hpI_upI, e10, hpI_upI, e8, hpI_upI, e6, hpI_upI, e4, hpI_upI]
      simp only [true_and, i0]
    by_cases e : i = S.1 2
    · subst e
      rw [rd _ (by omega), rd _ (by omega), rd _ (by omega), rd _ (by omega), rd _ (by omega), rd _ (by omega)]
      have ek : kc / S.1 1 * S.1 1 + kc % S.1 1 = kc := Nat.div_add_mod' kc (S.1 1)
      refine ⟨?_, ?_, ?_, ?_, ?_, ?_⟩
      · rw [if_neg (by omega), if_neg (by omega), if_neg (by omega), if_neg (by omega), if_neg (by omega), if_pos rfl]
        simp only [fcl, addC, if_true]
        rw [if_neg (by omega), ek]
      · rw [if_neg (by omega), if_neg (by omega), if_neg (by omega), if_neg (by omega), if_pos rfl]; simp [addC]
      · rw [if_neg (by omega), if_neg (by omega), if_neg (by omega), if_pos rfl]; simp [addC]
      · rw [if_neg (by omega), if_neg (by omega), if_pos rfl]; simp [addC]
      · rw [if_neg (by omega), if_pos rfl]; simp [addC]
      · rw [if_pos rfl]; simp [addC]
    · have hi2 : i < S.1 2 := by omega
      have := w5 i hi2
      rw [rd _ (by omega), rd _ (by omega), rd _ (by omega), rd _ (by omega), rd _ (by omega), rd _ (by omega)]
      have e2 : fcl (addC S (kc / S.1 1) (kc % S.1 1) hg wd st sl) i = fcl S i := by simp only [fcl, addC, e, if_false]; rw [if_neg (by omega)]
      have e3 : ∀ j, (addC S (kc / S.1 1) (kc % S.1 1) hg wd st sl).2 j i = S.2 j i := fun j => by simp only [addC, e, if_false]
      rw [e2, e3, e3, e3, e3, e3]
      have no : ∀ k, (k = i ∨ k = 8 + i ∨ k = 16 + i ∨ k = 24 + i ∨ k = 32 + i ∨ k = 40 + i) → (if k = 40 + S.1 2 then nI 0 else if k = 32 + S.1 2 then nI sl else if k = 24 + S.1 2 then nI st else if k = 16 + S.1 2 then nI wd else if k = 8 + S.1 2 then nI hg else if k = S.1 2 then nI kc else hpI h r k) = hpI h r k := by
        intro k hk
        rw [if_neg (by omega), if_neg (by omega), if_neg (by omega), if_neg (by omega), if_neg (by omega), if_neg (by omega)]
      rw [no _ (by omega), no _ (by omega), no _ (by omega), no _ (by omega), no _ (by omega), no _ (by omega)]
      exact this
  · have u : ∀ (g : Hp) (k : Nat) (v : Int32), EqP (DW r) g (upI g r k v) := fun g k v => EqP.uI rfl
    rw [e17, e14, e12, e10, e8, e6, e4]
    exact (u _ _ _).tr ((u _ _ _).tr ((u _ _ _).tr ((u _ _ _).tr ((u _ _ _).tr ((u _ _ _).tr (u _ _ _))))))
theorem und_cell (hw : wfF S) {i kc hg wd : Nat} (hi : i < S.1 2) (hh : hld S kc hg wd = true) (h1 : 1 ≤ hg) (h2 : 1 ≤ wd) : (∃ k, k < ncl S ∧ ovB S kc hg wd k = true ∧ cov S k i = true) ↔ 0 < cmc S i kc hg wd := by
  obtain ⟨b1, b2, b3, b4, b5, -, -, b8, b9⟩ := hw
  obtain ⟨g1, g2, g3, g4, g5, g6, -⟩ := b9 i hi
  simp only [hld, Bool.and_eq_true, decide_eq_true_eq] at hh
  have hp : (0 < cmc S i kc hg wd) ↔ (0 < cmn (S.2 0 i) (S.2 2 i) (kc / S.1 1) hg ∧ 0 < cmn (S.2 1 i) (S.2 3 i) (kc % S.1 1) wd) := by
    unfold cmc
    constructor
    · intro z
      refine ⟨Nat.pos_of_ne_zero (fun e => ?_), Nat.pos_of_ne_zero (fun e => ?_)⟩
      · rw [e, Nat.zero_mul] at z; omega
      · rw [e, Nat.mul_zero] at z; omega
    · intro z; exact Nat.mul_pos z.1 z.2
  rw [hp]
  unfold cmn
  simp only [ovB, cov, ovr, ovc, hi, decide_true, Bool.true_and, Bool.and_eq_true, decide_eq_true_eq]
  constructor
  · rintro ⟨k, z⟩; omega
  · intro z
    refine ⟨max (S.2 0 i) (kc / S.1 1) * S.1 1 + max (S.2 1 i) (kc % S.1 1), cell_lt (by omega) (by omega), ?_⟩
    obtain ⟨d1, d2⟩ := dm_1 (r := max (S.2 0 i) (kc / S.1 1)) (k := max (S.2 1 i) (kc % S.1 1)) (m := S.1 1) (by omega)
    rw [d1, d2]; omega
theorem tb255 : ∀ i, i < 8 → (255 : Nat).testBit i = true := by decide
/-- no room: some camp is on under the block -/
theorem slp_und (hw : wfF S) {kc hg wd : Nat} {p : Nat → Bool} (hh : hld S kc hg wd = true) (h1 : 1 ≤ hg) (h2 : 1 ≤ wd) : (∃ k, k < ncl S ∧ ovB S kc hg wd k = true ∧ slp S p k = true) ↔ ∃ i, i < S.1 2 ∧ p i = true ∧ und S kc hg wd i = true := by
  simp only [slp, decide_eq_true_eq]
  constructor
  · rintro ⟨k, k1, k2, i, k3, k4, k5, k6⟩
    refine ⟨i, k3, k5, ?_⟩
    rw [onb_4 k3, decide_eq_true_eq] at k4
    simp only [und, Bool.and_eq_true, decide_eq_true_eq]
    exact ⟨k4, (und_cell hw k3 hh h1 h2).mp ⟨k, k1, k2, k6⟩⟩
  · rintro ⟨i, k3, k5, k6⟩
    simp only [und, Bool.and_eq_true, decide_eq_true_eq] at k6
    obtain ⟨k, k1, k2, k7⟩ := (und_cell hw k3 hh h1 h2).mpr k6.2
    exact ⟨k, k1, k2, i, k3, by rw [onb_4 k3]; exact decide_eq_true k6.1, k5, k7⟩
theorem m_pitches (g : atG h m S) (w : atW h r S) (hw : wfF S) (x1 x2 x3 x4 x5 : Int32) : Ok (f_X10_pitches h m r x1 x2 x3 x4 x5) (fun o => o.1 = (pitchS S x1 x2 x3 x4 x5).1 ∧ atW o.2 r (pitchS S x1 x2 x3 x4 x5).2 ∧ EqP (DW r) h o.2) := by
  have b5 := hw.2.2.2.2.1
  have hb := ncl_le hw
  have nope : (pitchS S x1 x2 x3 x4 x5) = (-1, S) → Ok (some ((-1 : Int32), h)) (fun o => o.1 = (pitchS S x1 x2 x3 x4 x5).1 ∧ atW o.2 r (pitchS S x1 x2 x3 x4 x5).2 ∧ EqP (DW r) h o.2) := fun e => ok_some ⟨by rw [e], by rw [e]; exact w, EqP.rf⟩
  rw [f_X10_pitches, m_isCell g hw, bd_s, z64_0, z64_1, z64_3, z64_9, p_in_num, p_in_num, p_in_num, p_in_num]
  simp only [bd_s, nB_0]
  cases e1 : cellOfI S x1 with
  | none => exact ok_t rfl (nope (by simp [pitchS, e1]))
  | some kc =>
    obtain ⟨rfl, g1⟩ := cellOfI_s (by omega) e1
    refine ok_f (by simp) ?_
    cases e2 : numIn (nI 1) (nI 3) x2 with
    | none => exact ok_t rfl (nope (by simp [pitchS, e1, e2]))
    | some hg =>
      obtain ⟨rfl, g2, g2'⟩ := numIn_s (by omega) (by omega) e2
      refine ok_f (by simp) ?_
      cases e3 : numIn (nI 1) (nI 3) x3 with
      | none => exact ok_t rfl (nope (by simp [pitchS, e1, e2, e3]))
      | some wd =>
        obtain ⟨rfl, g3, g3'⟩ := numIn_s (by omega) (by omega) e3
        refine ok_f (by simp) ?_
        cases e4 : numIn (nI 1) (nI 9) x4 with
        | none => exact ok_t rfl (nope (by simp [pitchS, e1, e2, e3, e4]))
        | some st =>
          obtain ⟨rfl, g4, g4'⟩ := numIn_s (by omega) (by omega) e4
          refine ok_f (by simp) ?_
          cases e5 : numIn (nI 0) (nI 9) x5 with
          | none => exact ok_t rfl (nope (by simp [pitchS, e1, e2, e3, e4, e5]))
          | some sl =>
            obtain ⟨rfl, g5, g5'⟩ := numIn_s (by omega) (by omega) e5
            refine ok_f (by simp) ?_
            rw [m_isIn g hw (by omega) (by omega) (by omega), bd_s]
            simp only [nB_0]
            have eh : hld S kc hg wd = (decide (kc / S.1 1 + hg ≤ S.1 0) && decide (kc % S.1 1 + wd ≤ S.1 1)) := by simp [hld, g1]
            rw [← eh]
            cases e6 : hld S kc hg wd with
            | false => exact ok_t rfl (ok_some ⟨by simp [pitchS, e1, e2, e3, e4, e5, e6], by simp [pitchS, e1, e2, e3, e4, e5, e6]; exact w, EqP.rf⟩)
            | true =>
              refine ok_f (by simp) ?_
              rw [w.t, show ix (48 : Int32) = 48 by decide, w.n, i8]
              refine ok_gd (by decide) ?_
              simp (disch := omega) only [nI_eq0]
              by_cases e7 : S.1 2 = 8
              · refine ok_t e7 (ok_some ⟨by simp only [pitchS, e1, e2, e3, e4, e5, e6]; rw [if_neg (by simp), if_pos (by omega)], by simp only [pitchS, e1, e2, e3, e4, e5, e6]; rw [if_neg (by simp), if_pos (by omega)]; exact w, EqP.rf⟩)
              · refine ok_f e7 ?_
                rw [m_area g hw (by omega) (by omega) (by omega), bd_s, show (255 : Int32) = nI 255 by decide, m_sleptBy g w hw (by omega), bd_s]
                rw [← z64_0]
                simp only [and_0 (show ncl S ≤ 62 by omega), slp_und hw e6 g2 g3]
                have e9 : (∃ i, i < S.1 2 ∧ (255 : Nat).testBit i = true ∧ und S kc hg wd i = true) ↔ (∃ i, i < S.1 2 ∧ und S kc hg wd i = true) := ⟨fun ⟨i, z1, _, z2⟩ => ⟨i, z1, z2⟩, fun ⟨i, z1, z2⟩ => ⟨i, z1, tb255 i (by omega), z2⟩⟩
                simp only [e9]
                by_cases e8 : ∃ i, i < S.1 2 ∧ und S kc hg wd i = true
                · refine ok_f (fun z => z e8) (ok_some ⟨by simp only [pitchS, e1, e2, e3, e4, e5, e6]; rw [if_neg (by simp), if_neg (by omega), if_pos e8], by simp only [pitchS, e1, e2, e3, e4, e5, e6]; rw [if_neg (by simp), if_neg (by omega), if_pos e8]; exact w, EqP.rf⟩)
                · have eR : pitchS S (nI kc) (nI hg) (nI wd) (nI st) (nI sl) = (nI (S.1 2), addC S (kc / S.1 1) (kc % S.1 1) hg wd st sl) := by
                    simp only [pitchS, e1, e2, e3, e4, e5, e6]; rw [if_neg (by simp), if_neg (by omega), if_neg e8]
                  rw [eR]
                  refine ok_t e8 (ok_bd (m_comes w (by omega)) (fun h1 ⟨z1, z2⟩ => ?_))
                  rw [z1.t, z1.n]
                  refine ok_gd (by decide) (ok_some ⟨?_, z1, z2⟩)
                  show nI ((addC S (kc / S.1 1) (kc % S.1 1) hg wd st sl).1 2) - 1 = _
                  simp only [addC, if_true]
                  rw [i1, pk_sub (by omega), Nat.add_sub_cancel]
theorem mv_end (g : atG h m S) (w : atW h r S) (hw : wfF S) {i a b : Nat} {x y z : Int32} (hi : i < S.1 2) (ha : a < 100) (hb : b < 100) (hz : z = nI a) (hxy : x + y = nI b) (wv : Int32) : Ok (f_X10_movesOne_86 m r (nI i) wv h x y z) (fun o => if a + S.2 2 i ≤ S.1 0 ∧ b + S.2 3 i ≤ S.1 1 then o.1 = nI (a * S.1 1 + b) ∧ atW o.2 r (setF (setF S 0 i a) 1 i b) ∧ EqP (DW r) h o.2 else o = (-2, h)) := by
  subst hz
  obtain ⟨b1, b2, b3, b4, b5, -, -, b8, b9⟩ := hw
  obtain ⟨g1, g2, g3, g4, g5, g6, -⟩ := b9 i hi
  rw [f_X10_movesOne_86, hxy]
  refine ok_lt (fun v ev => ?_)
  subst ev
  rw [w.t, j8, ix_nI (by omega), w.v2 hi, g.2.1, g.2.2, pk_sub (by omega), z64_0, p_in, bd_s]
  refine ok_gd (inb_nI (by omega) (by omega)) ?_
  simp (disch := omega) only [nB_0, nI_le0]
  by_cases q1 : a + S.2 2 i ≤ S.1 0
  · refine ok_f (by simp; omega) ?_
    rw [j16, ix_nI (by omega), w.v3 hi, pk_sub (by omega), p_in, bd_s]
    refine ok_gd (inb_nI (by omega) (by omega)) ?_
    simp (disch := omega) only [nB_0, nI_le0]
    by_cases q2 : b + S.2 3 i ≤ S.1 1
    · refine ok_f (by simp; omega) ?_
      rw [ix_nI (by omega), pk_mul, nI_add, Nat.mul_comm]
      refine ok_gd (inb_nI (by omega) (by omega)) (ok_lt (fun h24 e24 => ?_))
      have c24 := w.wc b5 (i := i) (a := a) (b := b) hi
      rw [← e24] at c24
      have p24 : EqP (DW r) h h24 := by rw [e24]; exact EqP.uI rfl
      rw [c24.t, c24.v0 hi]
      refine ok_gd (inb_nI (by omega) (by omega)) (ok_some ?_)
      rw [if_pos ⟨q1, q2⟩]
      exact ⟨by simp [fcl, setF], c24, p24⟩
    · refine ok_t (by simp; omega) (ok_some ?_)
      rw [if_neg (fun z => q2 z.2)]
  · refine ok_t (by simp; omega) (ok_some ?_)
    rw [if_neg (fun z => q1 z.1)]
theorem mv_out (g : atG h m S) (w : atW h r S) (hw : wfF S) {i : Nat} {x y z : Int32} (hi : i < S.1 2) (hn : z < 0 ∨ x + y < 0) (wv : Int32) : Ok (f_X10_movesOne_86 m r (nI i) wv h x y z) (fun o => o = (-2, h)) := by
  obtain ⟨b1, b2, b3, b4, b5, -, -, b8, b9⟩ := hw
  obtain ⟨g1, g2, g3, g4, g5, g6, -⟩ := b9 i hi
  rw [f_X10_movesOne_86]
  refine ok_lt (fun v ev => ?_)
  rw [w.t, j8, ix_nI (by omega), w.v2 hi, g.2.1, g.2.2, pk_sub (by omega), z64_0, p_in, bd_s]
  refine ok_gd (inb_nI (by omega) (by omega)) ?_
  simp only [nB_0]
  refine ok_if (fun _ => ok_some rfl) (fun q => ?_)
  have q : nI 0 ≤ z := by
    have := of_decide_eq_true (show decide (nI 0 ≤ z ∧ z ≤ nI (S.1 0 - S.2 2 i)) = true by simpa using q)
    exact this.1
  have hv : v < 0 := by
    rcases hn with z1 | z1
    · rw [i0] at z1; exact absurd z1 (Int32.not_lt.mpr q)
    · rw [ev]; exact z1
  rw [j16, ix_nI (by omega), w.v3 hi, pk_sub (by omega), p_in, bd_s]
  refine ok_gd (inb_nI (by omega) (by omega)) ?_
  simp only [nB_0]
  refine ok_t ?_ (ok_some rfl)
  apply decide_eq_false
  rintro ⟨z1, -⟩
  rw [← i0] at z1
  exact absurd hv (Int32.not_lt.mpr z1)
theorem m_movesOne (g : atG h m S) (w : atW h r S) (hw : wfF S) (x y : Int32) : Ok (f_X10_movesOne h m r x y) (fun o => o.1 = (moveS S x y).1 ∧ atW o.2 r (moveS S x y).2 ∧ EqP (DW r) h o.2) := by
  have hw2 := hw
  have cz := cols_nz g hw
  have hb := ncl_le hw
  obtain ⟨b1, b2, b3, b4, b5, -, -, b8, b9⟩ := hw
  rw [f_X10_movesOne, w.t, show ix (48 : Int32) = 48 by decide, w.n, i1, n1m, m_campIn w hw2, bd_s]
  refine ok_gd (by decide) ?_
  simp only [nB_0]
  cases hx : campOf S x with
  | none => exact ok_t rfl (ok_some ⟨by simp [moveS, hx], by simp [moveS, hx]; exact w, EqP.rf⟩)
  | some i =>
    obtain ⟨rfl, hi⟩ := campOf_s (by omega) hx
    obtain ⟨g1, g2, g3, g4, g5, g6, -⟩ := b9 i hi
    obtain ⟨f1, f2, f3⟩ := fcl_dm hw2 hi
    refine ok_f (by simp) ?_
    rw [z64_0, z64_3, p_in_num, bd_s]
    simp only [nB_0]
    cases hy : numIn (nI 0) (nI 3) y with
    | none => exact ok_t rfl (ok_some ⟨by simp [moveS, hx, hy], by simp [moveS, hx, hy]; exact w, EqP.rf⟩)
    | some wv =>
      obtain ⟨rfl, g7, g8⟩ := numIn_s (by omega) (by omega) hy
      refine ok_f (by simp) ?_
      rw [ix_nI (by omega), w.v0 hi, g.2.2, pk_div (by omega) (by omega) (by omega), f1]
      refine ok_gd (inb_nI (by omega) (by omega)) (ok_gd cz ?_)
      rw [f_X10_movesOne_56]
      refine ok_lt (fun v10 e10 => ?_)
      rw [w.t, ix_nI (by omega), w.v0 hi, g.2.2, rm_nI (by omega) (by omega) (by omega), f2]
      refine ok_gd (inb_nI (by omega) (by omega)) (ok_gd cz (ok_lt (fun v13 e13 => ?_)))
      subst e13
      have fin : ∀ {o : Int32 × Hp} {a b : Nat}, mvT S i wv = (if a + S.2 2 i ≤ S.1 0 ∧ b + S.2 3 i ≤ S.1 1 then some (a, b) else none) → (if a + S.2 2 i ≤ S.1 0 ∧ b + S.2 3 i ≤ S.1 1 then o.1 = nI (a * S.1 1 + b) ∧ atW o.2 r (setF (setF S 0 i a) 1 i b) ∧ EqP (DW r) h o.2 else o = (-2, h)) → o.1 = (moveS S (nI i) (nI wv)).1 ∧ atW o.2 r (moveS S (nI i) (nI wv)).2 ∧ EqP (DW r) h o.2 := by
        intro o a b em ho
        by_cases hf : a + S.2 2 i ≤ S.1 0 ∧ b + S.2 3 i ≤ S.1 1
        · rw [if_pos hf] at em ho
          simp only [moveS, hx, hy, em]
          exact ho
        · rw [if_neg hf] at em ho
          simp only [moveS, hx, hy, em]
          rw [ho]
          exact ⟨rfl, w, EqP.rf⟩
      have non : mvT S i wv = none → ∀ {o : Int32 × Hp}, o = (-2, h) → o.1 = (moveS S (nI i) (nI wv)).1 ∧ atW o.2 r (moveS S (nI i) (nI wv)).2 ∧ EqP (DW r) h o.2 := by
        intro em o ho
        simp only [moveS, hx, hy, em]
        rw [ho]
        exact ⟨rfl, w, EqP.rf⟩
      simp (disch := omega) only [i0, i1, i2, i3, nI_eq0, n1m] at e10 ⊢
      rcases (show wv = 0 ∨ wv = 1 ∨ wv = 2 ∨ wv = 3 by omega) with rfl | rfl | rfl | rfl
      · simp only [Nat.reduceEqDiff, if_false, if_true] at e10 ⊢
        by_cases q : 0 < S.2 0 i
        · rw [nI_m1 q] at e10
          exact ok_mono (mv_end g w hw2 hi (a := S.2 0 i - 1) (b := S.2 1 i) (by omega) (by omega) e10 (by rw [nI_add, Nat.add_zero]) _) (fun o ho => fin (by simp only [mvT, q, if_true]; rw [if_pos (by omega)]) ho)
        · have e0 : S.2 0 i = 0 := by omega
          rw [e0, nI_0m1] at e10
          exact ok_mono (mv_out g w hw2 hi (Or.inl (by rw [e10]; decide)) _) (fun o ho => non (by simp [mvT, q]) ho)
      · simp only [Nat.reduceEqDiff, if_false, if_true] at e10 ⊢
        rw [nI_add, Nat.add_zero] at e10
        exact ok_mono (mv_end g w hw2 hi (a := S.2 0 i) (b := S.2 1 i + 1) (by omega) (by omega) e10 (by rw [nI_add]) _) (fun o ho => fin (by simp only [mvT]; by_cases z : S.2 1 i + 1 + S.2 3 i ≤ S.1 1 <;> simp [z] <;> omega) ho)
      · simp only [Nat.reduceEqDiff, if_false, if_true] at e10 ⊢
        rw [nI_add] at e10
        exact ok_mono (mv_end g w hw2 hi (a := S.2 0 i + 1) (b := S.2 1 i) (by omega) (by omega) e10 (by rw [nI_add, Nat.add_zero]) _) (fun o ho => fin (by simp only [mvT]; by_cases z : S.2 0 i + 1 + S.2 2 i ≤ S.1 0 <;> simp [z] <;> omega) ho)
      · simp only [Nat.reduceEqDiff, if_false, if_true] at e10 ⊢
        rw [nI_add, Nat.add_zero] at e10
        by_cases q : 0 < S.2 1 i
        · exact ok_mono (mv_end g w hw2 hi (a := S.2 0 i) (b := S.2 1 i - 1) (by omega) (by omega) e10 (nI_m1 q) _) (fun o ho => fin (by simp only [mvT, q, if_true]; rw [if_pos (by omega)]) ho)
        · have e0 : S.2 1 i = 0 := by omega
          exact ok_mono (mv_out g w hw2 hi (Or.inr (by rw [e0, nI_0m1]; decide)) _) (fun o ho => non (by simp [mvT, q]) ho)
end MACTS
