theorem fo_and (q : Nat → Bool) : ∀ d b i, fo (fun (b : Bool) k => b && q k) b i d = (b && (ff (fun k => !(q k)) i d).isNone) := by
  intro d
  induction d with
  | zero => intro b i; simp [fo, ff]
  | succ d ih =>
    intro b i
    rw [fo, ih, ff]
    cases b <;> cases h : q i <;> simp
/-- does a camp fit a sound -/
def sndN (S : Fld) (k a v : Nat) : Bool := if a = 0 then decide (S.2 4 k ≤ v) else if a = 1 then ovr S k v else if a = 2 then ovc S k v else if a = 3 then decide (v ≤ S.2 6 k) else decide (nI v ≤ oth S k)
def ngt (S : Fld) (N : List T3) (k : Nat) : Bool := (ff (fun i => !(sndN S k (ix (N.getD i (0, 0, 0)).1) (ix (N.getD i (0, 0, 0)).2.1))) 0 N.length).isNone
def sp_fits (A : Ast) : Int32 × Ast := (bitsB (fun k => onb (aS A) k && ngt (aS A) (aN A) k) ((aS A).1 2), wT A [(bc32 (bitsB (fun k => onb (aS A) k && ngt (aS A) (aN A) k) ((aS A).1 2))).toInt64])
section FITS
variable {h h1 : Hp} {A : Ast} {m n : Nat} {S : Fld}
theorem p_fitsSound (c : RC h A) (hw : wfF (aS A)) {k a v : Nat} (hk : k < (aS A).1 2) (ha : a ≤ 4) (hv : v ≤ 99) : f_X9_fitsSound h 1 (nI k) (nI a) (nI v) = some (nB (sndN (aS A) k a v)) := by
  have b5 := hw.2.2.2.2.1
  have b8 := hw.2.2.2.2.2.2.2.1
  have := b8 4 k
  have := b8 6 k
  unfold f_X9_fitsSound
  rw [c.s.r1_2, c.n.r9, c.n.t5, c.n.r11, c.n.t7, ix_nI (by omega), c.n.v4 (by omega), c.n.v6 (by omega), p_isOverRow c.n hw (by omega) (by omega), bd_s, p_isOverColumn c.n hw (by omega) (by omega), bd_s, p_crossedBy c.n hw hk, bd_s, p_bc, bd_s, gd_t (show nz 6 = true by decide), gd_t (show nz 6 = true by decide), gd_t (show nz 6 = true by decide), gd_t (show nz 6 = true by decide), gd_t (show nz 6 = true by decide), gd_t (show nz (6 + 5) = true by decide), gd_t (show nz (6 + 7) = true by decide), gd_t (inb_nI (show k < 8 by omega) (by omega)), gd_t (inb_nI (show k < 8 by omega) (by omega))]
  rcases (show a = 0 ∨ a = 1 ∨ a = 2 ∨ a = 3 ∨ a = 4 by omega) with rfl | rfl | rfl | rfl | rfl
  · rw [if_pos (show nI 0 = 0 by decide)]
    show _ = some (nB (decide ((aS A).2 4 k ≤ v)))
    by_cases q : (aS A).2 4 k ≤ v
    · rw [if_neg (by rw [nI_ltI (by omega) (by omega)]; omega), decide_eq_true q]; rfl
    · rw [if_pos (by rw [nI_ltI (by omega) (by omega)]; omega), decide_eq_false q]; rfl
  · rw [if_neg (show ¬ nI 1 = 0 by decide), if_pos (show nI 1 = 1 by decide)]; rfl
  · rw [if_neg (show ¬ nI 2 = 0 by decide), if_neg (show ¬ nI 2 = 1 by decide), if_pos (show nI 2 = 2 by decide)]; rfl
  · rw [if_neg (show ¬ nI 3 = 0 by decide), if_neg (show ¬ nI 3 = 1 by decide), if_neg (show ¬ nI 3 = 2 by decide), if_pos (show nI 3 = 3 by decide)]
    show _ = some (nB (decide (v ≤ (aS A).2 6 k)))
    by_cases q : v ≤ (aS A).2 6 k
    · rw [if_neg (by rw [nI_ltI (by omega) (by omega)]; omega), decide_eq_true q]; rfl
    · rw [if_pos (by rw [nI_ltI (by omega) (by omega)]; omega), decide_eq_false q]; rfl
  · rw [if_neg (show ¬ nI 4 = 0 by decide), if_neg (show ¬ nI 4 = 1 by decide), if_neg (show ¬ nI 4 = 2 by decide), if_neg (show ¬ nI 4 = 3 by decide)]
    show (if oth (aS A) k < nI v then _ else _) = some (nB (decide (nI v ≤ oth (aS A) k)))
    by_cases q : nI v ≤ oth (aS A) k
    · rw [if_neg (Int32.not_lt.mpr q), decide_eq_true q]; rfl
    · rw [if_pos (Int32.not_le.mp q), decide_eq_false q]; rfl
theorem c_fits (c : RC h A) (a : WA A n) : Ok (f_X9_fits h 1) (fun o => o.1 = (sp_fits A).1 ∧ RC o.2 (sp_fits A).2 ∧ EqOff FX h o.2) := by
  have hF := FU_big
  have b5 := a.w.2.2.2.2.1
  obtain ⟨g1, g2, g3, g4, g5, g6⟩ := c.g
  have en : ∀ k, k < (aS A).1 2 → f_X9_fitsNight h 1 (nI k) = some (nB (ngt (aS A) (aN A) k)) := fun k hk => by
    have e := fo_ff (fun q i => f_X9_fitsNight_2 h 1 (nI k) q i) (aN A).length (fun i => !(sndN (aS A) k (ix ((aN A).getD i (0, 0, 0)).1) (ix ((aN A).getD i (0, 0, 0)).2.1))) (fun _ => some 0) (some 1) (fun q i hi => ?_) (fun q => ?_) (aN A).length FU 0 (by omega) (by omega)
    · rw [show f_X9_fitsNight h 1 (nI k) = _ from e]
      unfold ngt
      cases ff (fun i => !(sndN (aS A) k (ix ((aN A).getD i (0, 0, 0)).1) (ix ((aN A).getD i (0, 0, 0)).2.1))) 0 (aN A).length <;> rfl
    · show f_X9_fitsNight_2 h 1 (nI k) (q + 1) (nI i) = _
      obtain ⟨ka, kv, ek, z1, z2⟩ := a.2.2.2.2.1 i hi
      have g6 := g6 i hi
      rw [ek] at g6 ⊢
      simp only [f_X9_fitsNight_2, lt_u]
      rw [c.s.r1_12, g3, (g2 0 (by omega)).1, (g2 1 (by omega)).1, (g2 0 (by omega)).2, (g2 1 (by omega)).2, ix_nI (by omega), g6.1, g6.2.1, p_fitsSound c a.w hk z1 z2, bd_s, gd_t (by decide), if_neg (by rw [nI_leI (by omega) (by omega)]; omega), gd_t (by decide), gd_t (inb_nI (by omega) (by omega)), gd_t (by decide), gd_t (inb_nI (by omega) (by omega)), i1, nI_add, ix_nI (by omega), ix_nI (by omega)]
      simp only [nB_0]
      cases sndN (aS A) k ka kv <;> simp
    · show f_X9_fitsNight_2 h 1 (nI k) (q + 1) (nI (aN A).length) = _
      simp only [f_X9_fitsNight_2, lt_u]
      rw [c.s.r1_12, g3, gd_t (by decide), if_pos (Int32.le_refl _)]
  have e := fo_lp (fun q (b : Int32) i => f_X9_fits_4 1 q h b i) ((aS A).1 2) (stB (fun k => onb (aS A) k && ngt (aS A) (aN A) k)) (fun b => f_X9_fits_4 1 1 h b (nI ((aS A).1 2))) (fun q b i hi => ?_) (fun q b => ?_) ((aS A).1 2) FU (nI 0) 0 (by omega) (by omega)
  · rw [show f_X9_fits h 1 = f_X9_fits_4 1 1 h (bitsB (fun k => onb (aS A) k && ngt (aS A) (aN A) k) ((aS A).1 2)) (nI ((aS A).1 2)) from e]
    simp only [f_X9_fits_4]
    refine ok_lt (fun k ek => ?_)
    clear ek
    rw [c.s.r1_2, c.n.q2]
    simp only [p_bc, bd_s]
    exact ok_gd (by decide) (ok_t (Int32.le_refl _) (c_say1 c EqOff.rf))
  · show f_X9_fits_4 1 (q + 1) h b (nI i) = f_X9_fits_4 1 q h (stB (fun k => onb (aS A) k && ngt (aS A) (aN A) k) b i) (nI (i + 1))
    simp only [f_X9_fits_4, f_X9_fits_40, lt_u]
    rw [c.s.r1_2, c.n.q2, gd_t (by decide), if_neg (by rw [nI_leI (by omega) (by omega)]; omega), p_isOn c.n a.w (by omega), bd_s, en i hi, bd_s, i1, nI_add]
    simp only [nB_0, stB]
    rcases Bool.eq_false_or_eq_true (onb (aS A) i) with z1 | z1 <;> rcases Bool.eq_false_or_eq_true (ngt (aS A) (aN A) i) with z2 | z2 <;> simp [z1, z2]
  · show f_X9_fits_4 1 (q + 1) h b (nI ((aS A).1 2)) = f_X9_fits_4 1 1 h b (nI ((aS A).1 2))
    simp only [f_X9_fits_4, lt_u]
    rw [c.s.r1_2, c.n.q2, gd_t (show nz 6 = true by decide), if_pos (Int32.le_refl _), gd_t (show nz 6 = true by decide), if_pos (Int32.le_refl _)]
theorem m_isSo (g : atG h m S) (w : atW h (m + 2) S) (hw : wfF S) {k a v : Nat} (hk : k < S.1 2) (ha : a ≤ 4) (hv : v ≤ 99) : f_X10_isSo h m (nI k) (nI a) (nI v) = some (nB (sndN S k a v)) := by
  have s := g.1
  have nz := cols_nz g hw
  have b5 := hw.2.2.2.2.1
  have b8 := hw.2.2.2.2.2.2.2.1
  have e0 := fcl_dm hw hk
  have hb := ncl_le hw
  have b9 := hw.2.2.2.2.2.2.2.2 k hk
  have b3 := hw.2.2.1
  have b4 := hw.2.2.2.1
  have b2 := hw.2.1
  have := b8 4 k
  have := b8 6 k
  unfold f_X10_isSo
  rw [s.r6, s.t2, j24, j8, j16, j40, ix_nI (by omega), ix_nI (by omega), ix_nI (by omega), ix_nI (by omega), ix_nI (by omega), w.v4 hk, w.v0 hk, w.v2 hk, w.v3 hk, w.v6 hk, g.2.2, nz, pk_div (by omega) (by omega) (by omega), rm_nI (by omega) (by omega) (by omega), e0.1, e0.2.1, i1, z64_0, p_in, bd_s, lt_u, p_in, bd_s, m_crossing g w hw hk, bd_s, p_bc, bd_s]
  simp only [dif_in (show v < 1000 by omega) (show S.2 0 k < 1000 by omega) (show S.2 2 k < 1000 by omega), dif_in (show v < 1000 by omega) (show S.2 1 k < 1000 by omega) (show S.2 3 k < 1000 by omega)]
  rw [gd_t (nz_t (show m + 2 ≠ 0 by omega)), gd_t (nz_t (show m + 2 ≠ 0 by omega)), gd_t (nz_t (show m + 2 ≠ 0 by omega)), gd_t (nz_t (show m + 2 ≠ 0 by omega)), gd_t (nz_t (show m + 2 ≠ 0 by omega)), gd_t (inb_nI (show 24 + k < 51 by omega) (by omega)), gd_t (inb_nI (show k < 51 by omega) (by omega)), gd_t (inb_nI (show k < 51 by omega) (by omega)), gd_t (inb_nI (show 8 + k < 51 by omega) (by omega)), gd_t (inb_nI (show 16 + k < 51 by omega) (by omega)), gd_t (inb_nI (show 40 + k < 51 by omega) (by omega))]
  simp only [gdT]
  rcases (show a = 0 ∨ a = 1 ∨ a = 2 ∨ a = 3 ∨ a = 4 by omega) with rfl | rfl | rfl | rfl | rfl
  · rw [if_pos (show nI 0 = 0 by decide)]
    show _ = some (nB (decide (S.2 4 k ≤ v)))
    by_cases q : S.2 4 k ≤ v
    · rw [if_neg (by rw [nI_ltI (by omega) (by omega)]; omega), decide_eq_true q]; rfl
    · rw [if_pos (by rw [nI_ltI (by omega) (by omega)]; omega), decide_eq_false q]; rfl
  · rw [if_neg (show ¬ nI 1 = 0 by decide), if_pos (show nI 1 = nI 1 from rfl)]
    show _ = some (nB (ovr S k v))
    unfold ovr; simp [hk]
  · rw [if_neg (show ¬ nI 2 = 0 by decide), if_neg (show ¬ nI 2 = nI 1 by decide), if_pos (show nI 2 = 2 by decide)]
    show _ = some (nB (ovc S k v))
    unfold ovc; simp [hk]
  · rw [if_neg (show ¬ nI 3 = 0 by decide), if_neg (show ¬ nI 3 = nI 1 by decide), if_neg (show ¬ nI 3 = 2 by decide), if_pos (show nI 3 = 3 by decide)]
    show _ = some (nB (decide (v ≤ S.2 6 k)))
    by_cases q : v ≤ S.2 6 k
    · rw [if_neg (by rw [nI_ltI (by omega) (by omega)]; omega), decide_eq_true q]; rfl
    · rw [if_pos (by rw [nI_ltI (by omega) (by omega)]; omega), decide_eq_false q]; rfl
  · rw [if_neg (show ¬ nI 4 = 0 by decide), if_neg (show ¬ nI 4 = nI 1 by decide), if_neg (show ¬ nI 4 = 2 by decide), if_neg (show ¬ nI 4 = 3 by decide)]
    show (if oth S k < nI v then _ else _) = some (nB (decide (nI v ≤ oth S k)))
    by_cases q : nI v ≤ oth S k
    · rw [if_neg (Int32.not_lt.mpr q), decide_eq_true q]; rfl
    · rw [if_pos (Int32.not_le.mp q), decide_eq_false q]; rfl
theorem r_fits (c : RM h m A n) (a : WA A n) : Ok (f_X10_fits h m) (fun o => o.1 = (sp_fits A).1 ∧ RM o.2 m (sp_fits A).2 n ∧ EqOff (FM m) h o.2) := by
  have hF := FU_big
  have b5 := a.w.2.2.2.2.1
  rw [f_X10_fits]
  refine r_th c (fun h1 c1 o1 _ => ?_)
  obtain ⟨g1, g2, g3⟩ := c1.nn
  have s := c1.s
  have inn : ∀ (k9 : Hp → Int32 → Int32 → Option (Int32 × Hp)) (b : Int32) (i : Nat), i < (aS A).1 2 → f_X10_fits_32 m k9 FU h1 b (nI i) (nB (onb (aS A) i)) 0 = k9 h1 (stB (fun k => onb (aS A) k && ngt (aS A) (aN A) k) b i) (nI (i + 1)) := fun k9 b i hi => by
    have e := fo_lp (fun q (z : Bool) j => f_X10_fits_32 m k9 q h1 b (nI i) (nB z) j) (aN A).length (fun (z : Bool) j => z && sndN (aS A) i (ix ((aN A).getD j (0, 0, 0)).1) (ix ((aN A).getD j (0, 0, 0)).2.1)) (fun z => k9 h1 (if z = true then b ||| shl32 (nI 1) (nI i) else b) (nI (i + 1))) (fun q z j hj => ?_) (fun q z => ?_) (aN A).length FU (onb (aS A) i) 0 (by omega) (by omega)
    · rw [fo_and] at e
      rw [show f_X10_fits_32 m k9 FU h1 b (nI i) (nB (onb (aS A) i)) 0 = _ from e]; rfl
    · show f_X10_fits_32 m k9 (q + 1) h1 b (nI i) (nB z) (nI j) = f_X10_fits_32 m k9 q h1 b (nI i) (nB (z && sndN (aS A) i (ix ((aN A).getD j (0, 0, 0)).1) (ix ((aN A).getD j (0, 0, 0)).2.1))) (nI (j + 1))
      obtain ⟨ka, kv, ek, z1, z2⟩ := a.2.2.2.2.1 j hj
      have g3 := g3 j hj
      rw [ek] at g3 ⊢
      simp only [f_X10_fits_32, f_X10_fits_71, f_X10_fits_72, lt_u]
      rw [g1, s.r37, s.r38, s.t20, s.t21, ix_nI (by omega), g3.1, g3.2, m_isSo c1.g c1.w a.w hi z1 z2, bd_s, if_neg (by rw [nI_leI (by omega) (by omega)]; omega), gd_t (nz_t (by omega)), gd_t (inb_nI (by omega) (by omega)), gd_t (nz_t (by omega)), gd_t (inb_nI (by omega) (by omega)), i1, nI_add, ix_nI (by omega), ix_nI (by omega)]
      simp only [nB_0]
      cases z <;> cases sndN (aS A) i ka kv <;> simp [nB]
      · rfl
      · rfl
      · rfl
    · show f_X10_fits_32 m k9 (q + 1) h1 b (nI i) (nB z) (nI (aN A).length) = _
      simp only [f_X10_fits_32, f_X10_fits_91, lt_u]
      rw [g1, if_pos (Int32.le_refl _), i1, nI_add]
      simp only [nB_0]
      cases z <;> simp
  have e := fo_lp (fun q (b : Int32) i => f_X10_fits_9 m q h1 b i) ((aS A).1 2) (stB (fun k => onb (aS A) k && ngt (aS A) (aN A) k)) (fun b => f_X10_fits_9 m 1 h1 b (nI ((aS A).1 2))) (fun q b i hi => ?_) (fun q b => ?_) ((aS A).1 2) FU (nI 0) 0 (by omega) (by omega)
  · rw [show f_X10_fits_9 m FU h1 0 0 = f_X10_fits_9 m 1 h1 (bitsB (fun k => onb (aS A) k && ngt (aS A) (aN A) k) ((aS A).1 2)) (nI ((aS A).1 2)) from e]
    simp only [f_X10_fits_9]
    refine ok_lt (fun k ek => ?_)
    clear ek
    rw [s.r6, s.t2, show ix (48 : Int32) = 48 by decide, c1.w.n]
    simp only [p_bc, bd_s]
    exact ok_gd (nz_t (by omega)) (ok_gd (by decide) (ok_t (Int32.le_refl _) (r_say1 c1 o1.ofs)))
  · show f_X10_fits_9 m (q + 1) h1 b (nI i) = f_X10_fits_9 m q h1 (stB (fun k => onb (aS A) k && ngt (aS A) (aN A) k) b i) (nI (i + 1))
    conv => lhs; simp only [f_X10_fits_9, lt_u]
    rw [s.r6, s.t2, show ix (48 : Int32) = 48 by decide, c1.w.n, gd_t (nz_t (by omega)), gd_t (by decide), if_neg (by rw [nI_leI (by omega) (by omega)]; omega), m_isOn c1.w a.w (by omega), bd_s, inn _ _ _ hi]
  · show f_X10_fits_9 m (q + 1) h1 b (nI ((aS A).1 2)) = f_X10_fits_9 m 1 h1 b (nI ((aS A).1 2))
    simp only [f_X10_fits_9, lt_u]
    rw [s.r6, s.t2, show ix (48 : Int32) = 48 by decide, c1.w.n, gd_t (nz_t (show m + 2 ≠ 0 by omega)), gd_t (show inb 48 51 = true by decide), if_pos (Int32.le_refl _), gd_t (nz_t (show m + 2 ≠ 0 by omega)), gd_t (show inb 48 51 = true by decide), if_pos (Int32.le_refl _)]
end FITS
