/-! ways: the class's soft, and all three at once -/
theorem FAR_i : (268435456 : Int32) = nI 268435456 := by decide
section CSOFTB
variable {h h0 : Hp} {A : Ast} {D : Nat → Nat} {fr gc L : Nat}
theorem E64_le (hw : wfF (aS A)) (hg : gc < ncl (aS A)) (y : Yt (VU (aS A) 0) (nxU (aS A) 0) (wU (psf (aS A))) (gc * 256 + 0) D) {c : Nat} (hc : c < ncl (aS A)) : E64 D c ≤ 1000000 := by
  have := sf_lt hw hg y hc
  have := NVR_e
  unfold E64
  omega
theorem nB_z {b : Bool} (h : nB b = 0) : b = false := by
  cases b with
  | false => rfl
  | true => exact absurd h (by decide)
theorem nB_nz {b : Bool} (h : ¬ nB b = 0) : b = true := by
  cases b with
  | false => exact absurd rfl h
  | true => rfl
/-- the way is told -/
theorem so_139 (rc : RC h0 A) (hw : wfF (aS A)) (hf : fr < ncl (aS A)) (hg : gc < ncl (aS A)) (y : Yt (VU (aS A) 0) (nxU (aS A) 0) (wU (psf (aS A))) (gc * 256 + 0) D) (wa : Way (VU (aS A) 0) (nxU (aS A) 0) (wU (psf (aS A))) D (fr * 256) L) (sb : SfB h0 (aS A) D) : Ok (f_X8_softest_121 170 6 (nI fr) (nI gc) 4 h0 (nI (ncl (aS A)))) (fun o => o.1 = nI (sgC (aS A) fr + D (fr * 256) / 100) ∧ RC o.2 (wT A (rowW (aS A) 0 (psf (aS A)) D (fr * 256) (L + 1))) ∧ EqOff FX h0 o.2) := by
  have hF := FU_big
  have hb := ncl_le hw
  have gr := grU hw (al := 0) (pc := psf (aS A)) (by omega) (fun c _ => (psf_1 hw c).1)
  have ln := way_n hw (fun c _ => (psf_1 hw c).1) y wa
  have hE : ∀ c, c < ncl (aS A) → E64 D c ≤ 1000000 := fun c hc => E64_le hw hg y hc
  have keep : ∀ s, EqOff (F2 4) h0 s → SfB s (aS A) D := fun s os => ⟨fun c hc => by rw [os.1 _ _ (fun z => by unfold F2 at z; omega)]; exact sb.1 c hc, fun c hc => by rw [os.1 _ _ (fun z => by unfold F2 at z; omega)]; exact sb.2 c hc⟩
  rw [f_X8_softest_121]
  refine ok_bd (c_t0 rc) (fun h29 ⟨c29, o29⟩ => ok_bd (c_t1 c29 (by simp [aT, wT, mkA]) _) (fun h30 ⟨c30, o30⟩ => ?_))
  have fin : ∀ s, RC s (wT A (rowW (aS A) 0 (psf (aS A)) D (fr * 256) (L + 1))) → EqOff (F2 4) h0 s → Ok (f_X8_softest_175 170 6 (nI fr) (nI gc) 4 s) (fun o => o.1 = nI (sgC (aS A) fr + D (fr * 256) / 100) ∧ RC o.2 (wT A (rowW (aS A) 0 (psf (aS A)) D (fr * 256) (L + 1))) ∧ EqOff FX h0 o.2) := fun s cs os => by
    have s2 := keep s os
    have c1 := c64_le hw fr
    have l1 := hE fr hf
    obtain ⟨L2, _, l2, e2⟩ := sf_way hw hg y hf
    rw [f_X8_softest_175, cs.s.r170_4, cs.s.t175, ix_nI (by omega), s2.2 fr hf, show (64 : Int32) = nI 64 by decide, pk_div (by omega) (by omega) (by omega)]
    refine ok_gd (by decide) (ok_gd (inb_nI (by omega) (by omega)) (ok_some ⟨?_, cs, F24y os⟩))
    show nI ((E64 D fr + c64 (aS A) fr) / 64) = _
    congr 1
    unfold E64 c64
    omega
  have go : ∀ d f k s, k + d = L → d < f → RC s (wT A (rowW (aS A) 0 (psf (aS A)) D (fr * 256) (k + 1))) → EqOff (F2 4) h0 s → Ok (f_X8_softest_139 170 6 (nI fr) (nI gc) 4 f s (nI (ncl (aS A))) (nI (pth (nxU (aS A) 0) (wU (psf (aS A))) D (fr * 256) k / 256)) (nI k)) (fun o => o.1 = nI (sgC (aS A) fr + D (fr * 256) / 100) ∧ RC o.2 (wT A (rowW (aS A) 0 (psf (aS A)) D (fr * 256) (L + 1))) ∧ EqOff FX h0 o.2) := by
    intro d
    induction d with
    | zero =>
      intro f k s e1 e2 cs os
      obtain ⟨f, rfl⟩ : ∃ j, f = j + 1 := ⟨f - 1, by omega⟩
      have : k = L := by omega
      subst this
      have gl := wa.gl gr y
      simp only [f_X8_softest_139, lt_u]
      rw [gl, show (gc * 256 + 0) / 256 = gc by omega]
      exact ok_f (by rw [nI_leI (by omega) (by omega)]; omega) (ok_t rfl (fin s cs os))
    | succ d ih =>
      intro f k s e1 e2 cs os
      obtain ⟨f, rfl⟩ : ∃ j, f = j + 1 := ⟨f - 1, by omega⟩
      have hV := (wa.1 k (by omega)).1
      have h0 := wa.2.2 k (by omega)
      have m0 := VU_0 hV
      have rs := rowW_s (S := aS A) (al := 0) (pc := psf (aS A)) (D := D) (u := fr * 256) (k := k + 1)
      have ep : pth (nxU (aS A) 0) (wU (psf (aS A))) D (fr * 256) (k + 1) = nxt (nxU (aS A) 0) (wU (psf (aS A))) D (pth (nxU (aS A) 0) (wU (psf (aS A))) D (fr * 256) k) := rfl
      have ihh := ih f (k + 1)
      rw [ep] at rs ihh
      have hl := hV.1
      simp only [f_X8_softest_139, lt_u]
      generalize pth (nxU (aS A) 0) (wU (psf (aS A))) D (fr * 256) k = p at hV h0 m0 rs ihh hl ⊢
      have e3 : p / 256 * 256 = p := by omega
      have hne : D (p / 256 * 256) % 100 ≠ 0 := fun z => by
        have := sf_0 hw hg y hl z
        rw [e3] at z
        have e4 : p = gc * 256 + 0 := by omega
        rw [e4, y.1] at h0
        omega
      have hgc : ¬ p / 256 = gc := fun z => by
        have e4 : p = gc * 256 + 0 := by omega
        rw [e4, y.1] at h0
        omega
      have ew : nI k + (1 : Int32) = nI (k + 1) := by rw [i1, nI_add]
      have hn : f_X8_softStep s 170 6 (nI (p / 256)) = some (nI (nxt (nxU (aS A) 0) (wU (psf (aS A))) D p / 256)) := by
        have := p_softStep cs hw hg y (keep s os) hE hl hne
        rw [e3] at this
        exact this
      rw [hn, bd_s, ew]
      refine ok_f (by rw [nI_leI (by omega) (by omega)]; omega) (ok_f (by rw [nI_eq (by omega) (by omega)]; exact hgc) (ok_bd (c_t1 cs ?_ _) (fun h34 ⟨c34, o34⟩ => ihh h34 (by omega) (by omega) ?_ (os.tr o34))))
      · show (rowW (aS A) 0 (psf (aS A)) D (fr * 256) (k + 1)).length < 128
        rw [rowW_n]; omega
      · rw [rs]; exact c34
  have g0 := go L FU 0 h30 (by omega) (by omega) (by
    have : rowW (aS A) 0 (psf (aS A)) D (fr * 256) (0 + 1) = [(nI fr).toInt64] := by
      unfold rowW
      show [(nI (fr * 256 / 256)).toInt64] = _
      rw [show fr * 256 / 256 = fr by omega]
    rw [this]
    exact c30) (o29.tr o30)
  rw [show pth (nxU (aS A) 0) (wU (psf (aS A))) D (fr * 256) 0 = fr * 256 from rfl, show fr * 256 / 256 = fr by omega] at g0
  exact g0
/-- the rounds of improving -/
theorem so_94 (rc : RC h0 A) (hw : wfF (aS A)) (hf : fr < ncl (aS A)) (hg : gc < ncl (aS A)) (y : Yt (VU (aS A) 0) (nxU (aS A) 0) (wU (psf (aS A))) (gc * 256 + 0) D) {Q : Int32 × Hp → Prop} (k : ∀ s, EqOff FS2 h0 s → SfB s (aS A) D → Ok (f_X8_softest_121 170 6 (nI fr) (nI gc) 4 s (nI (ncl (aS A)))) Q) : ∀ d f r ch s b, r + d = ncl (aS A) → d < f → EqOff FS2 h0 s → cB s (aS A) → bB s (aS A) b → LBb (aS A) D b → (∀ c, c < ncl (aS A) → D (c * 256) % 100 ≤ r → b c = E64 D c + c64 (aS A) c) → (ch = false → ∀ c, c < ncl (aS A) → b c = E64 D c + c64 (aS A) c) → Ok (f_X8_softest_94 170 6 (nI fr) (nI gc) 4 f s (nI (ncl (aS A))) (nB ch) (nI r)) Q := by
  have hb := ncl_le hw
  have fn : ∀ s b, EqOff FS2 h0 s → cB s (aS A) → bB s (aS A) b → (∀ c, c < ncl (aS A) → b c = E64 D c + c64 (aS A) c) → Ok (f_X8_softest_121 170 6 (nI fr) (nI gc) 4 s (nI (ncl (aS A)))) Q := fun s b o1 o2 o3 o4 => k s o1 ⟨o2, fun c hc => by rw [o3 c hc, o4 c hc]⟩
  intro d
  induction d with
  | zero =>
    intro f r ch s b e1 e2 o1 o2 o3 o4 o5 o6
    obtain ⟨f, rfl⟩ : ∃ j, f = j + 1 := ⟨f - 1, by omega⟩
    simp only [f_X8_softest_94, lt_u]
    refine ok_t (by rw [nI_leI (by omega) (by omega)]; omega) (fn s b o1 o2 o3 (fun c hc => o5 c hc ?_))
    obtain ⟨L, _, l1, l2⟩ := sf_way hw hg y hc
    omega
  | succ d ih =>
    intro f r ch s b e1 e2 o1 o2 o3 o4 o5 o6
    obtain ⟨f, rfl⟩ : ∃ j, f = j + 1 := ⟨f - 1, by omega⟩
    have cs : RC s A := rc.scr (FS2_s o1)
    have ew : nI r + (1 : Int32) = nI (r + 1) := by rw [i1, nI_add]
    simp only [f_X8_softest_94, lt_u]
    rw [ew]
    refine ok_f (by rw [nI_leI (by omega) (by omega)]; omega) (ok_if (fun w => fn s b o1 o2 o3 (o6 (nB_z w))) (fun w => ok_bd (p_improve cs hw hg y o2 o3 o4) (fun o ⟨fl, z1, z2, z3, b1, z4, z5, z6, z7, z8⟩ => ?_)))
    rw [z1]
    -- a cell that is one step further
    have st : ∀ (b2 : Nat → Nat) r2 c, c < ncl (aS A) → D (c * 256) % 100 = r2 + 1 → (∀ c, c < ncl (aS A) → D (c * 256) % 100 ≤ r2 → b2 c = E64 D c + c64 (aS A) c) → b1 c ≤ b c → (∀ t s, s < 4 → bsd (aS A) c s = some t → b1 c ≤ c64 (aS A) c + b2 t) → b1 c = E64 D c + c64 (aS A) c := fun b2 r2 c hc he q1 _ q2 => by
      obtain ⟨s5, t5, g1, g2, _, g4, _⟩ := sf_5 hw hg y hc (by omega)
      obtain ⟨ht, _, g6, g7⟩ := sf_3 hw hg y hc g1 g2
      have e5 := g6.mp g4
      have e6 := g7 g4
      have e7 := q1 t5 ht (by omega)
      have e8 := q2 t5 s5 g1 g2
      have e9 := (z5 c hc).1
      omega
    refine ih f (r + 1) fl o.2 b1 (by omega) (by omega) (o1.tr z2) z3 z4 z5 (fun c hc hr => ?_) (fun e c hc => ?_)
    · by_cases q : D (c * 256) % 100 = r + 1
      · exact st b r c hc q o5 (z6 c hc) (fun t s hs hb => z7 c s t hc hs (Or.inl hc) hb)
      · have := o5 c hc (by omega)
        have := z6 c hc
        have := (z5 c hc).1
        omega
    · -- nothing has changed: all is as it must be
      have eq := z8 e
      have all : ∀ l c, c < ncl (aS A) → D (c * 256) % 100 ≤ l → b1 c = E64 D c + c64 (aS A) c := by
        intro l
        induction l with
        | zero =>
          intro c hc hl
          rw [eq c hc]
          exact o5 c hc (by omega)
        | succ l ihl =>
          intro c hc hl
          by_cases q : D (c * 256) % 100 = l + 1
          · refine st b1 l c hc q ihl (z6 c hc) (fun t s hs hb => ?_)
            have ht := bsd_lt hw hc hs hb
            rw [eq t ht]
            exact z7 c s t hc hs (Or.inl hc) hb
          · exact ihl c hc (by omega)
      exact all 100 c hc (by have := Nat.mod_lt (D (c * 256)) (show 0 < 100 by omega); omega)
theorem c_softest (rc : RC h A) (hw : wfF (aS A)) (hf : fr < ncl (aS A)) (hg : gc < ncl (aS A)) (y : Yt (VU (aS A) 0) (nxU (aS A) 0) (wU (psf (aS A))) (gc * 256 + 0) D) (wa : Way (VU (aS A) 0) (nxU (aS A) 0) (wU (psf (aS A))) D (fr * 256) L) : Ok (f_X8_softest h 170 6 (nI fr) (nI gc) 4) (fun o => o.1 = nI (sgC (aS A) fr + D (fr * 256) / 100) ∧ RC o.2 (wT A (rowW (aS A) 0 (psf (aS A)) D (fr * 256) (L + 1))) ∧ EqOff FX h o.2) := by
  have hF := FU_big
  have hb := ncl_le hw
  rw [f_X8_softest, p_cells rc.n, bd_s, show (36 : Int32) = nI 36 by decide, mn_9 (by omega) (by omega), Nat.min_eq_left hb.1, lt_u]
  refine ok_f (by rw [i0, nI_ltI (by omega) (by omega)]; omega) (ok_f (by rw [nI_leI (by omega) (by omega)]; omega) (ok_f (by rw [i0, nI_ltI (by omega) (by omega)]; omega) (ok_t (by rw [nI_ltI (by omega) (by omega)]; omega) ?_)))
  rw [i0]
  refine okl (fun q s i => f_X8_softest_36 170 6 (nI fr) (nI gc) 4 q s (nI (ncl (aS A))) i) (ncl (aS A)) (fun i s => EqOff FS2 h s ∧ (∀ j, j < i → hpI s 174 j = nI (c64 (aS A) j)) ∧ ∀ j, j < i → hpI s 175 j = nI 268435456) _ (fun q i s hi ⟨v1, v2, v3⟩ k => ?_) (fun q s ⟨v1, v2, v3⟩ => ?_) (ncl (aS A)) FU 0 h (by omega) (by omega) ⟨EqOff.rf, fun j hj => absurd hj (Nat.not_lt_zero j), fun j hj => absurd hj (Nat.not_lt_zero j)⟩
  · have cs : RC s A := rc.scr (FS2_s v1)
    have ew : nI i + (1 : Int32) = nI (i + 1) := by rw [i1, nI_add]
    have ec : nI (nsum (fun j => if cov (aS A) i j = true then (aS A).2 4 j else 0) ((aS A).1 2)) * (64 : Int32) + 1 = nI (c64 (aS A) i) := by
      rw [show (64 : Int32) = nI 64 by decide, pk_mul, i1, nI_add, Nat.mul_comm]
      rfl
    simp only [f_X8_softest_36, lt_u]
    rw [cs.s.r170_3, p_strengthOver cs.n hw (by omega), bd_s, sumB_n, cs.s.t174, ix_nI (n := gc) (by omega), ix_nI (n := i) (by omega), ec, ew, FAR_i]
    generalize e19 : upI s 174 i (nI (c64 (aS A) i)) = h19
    have e19 := e19.symm
    have R19 : hpR h19 = hpR s := by rw [e19]; rfl
    have T19 : hpT h19 = hpT s := by rw [e19]; rfl
    rw [R19, T19, cs.s.r170_4, cs.s.t175]
    refine ok_f (by rw [nI_leI (by omega) (by omega)]; omega) (ok_gd (by decide) (ok_gd (inb_nI (by omega) (by omega)) (ok_gd (by decide) (ok_gd (inb_nI (by omega) (by omega)) (k _ ⟨?_, fun j hj => ?_, fun j hj => ?_⟩)))))
    · exact v1.tr ((show EqOff FS2 s h19 by rw [e19]; exact EqOff.uI (Or.inl rfl)).tr (EqOff.uI (Or.inr rfl)))
    · rw [hpI_upI, if_neg (by omega), e19, hpI_upI]
      by_cases e : j = i
      · rw [if_pos ⟨rfl, e⟩, e]
      · rw [if_neg (fun z => e z.2)]; exact v2 j (by omega)
    · rw [hpI_upI]
      by_cases e : j = i
      · rw [if_pos ⟨rfl, e⟩]
      · rw [if_neg (fun z => e z.2), e19, hpI_upI, if_neg (by omega)]; exact v3 j (by omega)
  · have cs : RC s A := rc.scr (FS2_s v1)
    simp only [f_X8_softest_36, lt_u]
    rw [cs.s.r170_3, cs.s.r170_4, cs.s.t174, cs.s.t175, ix_nI (by omega), v2 gc hg]
    generalize e14 : upI s 175 gc (nI (c64 (aS A) gc)) = h14
    have e14 := e14.symm
    have o14 : EqOff FS2 s h14 := by rw [e14]; exact EqOff.uI (Or.inr rfl)
    have c14 : RC h14 A := cs.scr (FS2_s o14)
    have eg : E64 D gc = 0 := by
      have := y.1
      rw [Nat.add_zero] at this
      unfold E64
      rw [this]
    have c1 := c64_le hw
    refine ok_t (Int32.le_refl _) (ok_gd (by decide) (ok_gd (by decide) (ok_gd (inb_nI (by omega) (by omega)) (ok_gd (inb_nI (by omega) (by omega)) ?_))))
    have g := so_94 c14 hw hf hg y (fun s2 o2 sb => ok_mono (so_139 (c14.scr (FS2_s o2)) hw hf hg y wa sb) (fun o ⟨z1, z2, z3⟩ => (⟨z1, z2, ((FS2_s v1).mono Fs_FX).tr (((FS2_s o14).mono Fs_FX).tr (((FS2_s o2).mono Fs_FX).tr z3))⟩ : o.1 = nI (sgC (aS A) fr + D (fr * 256) / 100) ∧ RC o.2 (wT A (rowW (aS A) 0 (psf (aS A)) D (fr * 256) (L + 1))) ∧ EqOff FX h o.2))) (ncl (aS A)) FU 0 true h14 (fun c => if c = gc then c64 (aS A) gc else 268435456) (by omega) (by omega) EqOff.rf (fun c hc => by rw [e14, hpI_upI, if_neg (by omega)]; exact v2 c hc) (fun c hc => ?_) (fun c hc => ?_) (fun c hc hr => ?_) (fun e => by cases e)
    · rw [show nB true = (1 : Int32) from rfl, show nI 0 = (0 : Int32) from rfl] at g
      exact g
    · show hpI h14 175 c = nI (if c = gc then c64 (aS A) gc else 268435456)
      rw [e14, hpI_upI]
      by_cases e : c = gc
      · rw [if_pos ⟨rfl, e⟩, if_pos e]
      · rw [if_neg (fun z => e z.2), if_neg e]; exact v3 c hc
    · show E64 D c + c64 (aS A) c ≤ (if c = gc then c64 (aS A) gc else 268435456) ∧ (if c = gc then c64 (aS A) gc else 268435456) ≤ 268435456
      by_cases e : c = gc
      · rw [if_pos e, e, eg]; have := c1 gc; omega
      · rw [if_neg e]
        have := E64_le hw hg y hc
        have := c1 c
        omega
    · have := sf_0 hw hg y hc (by omega)
      show (if c = gc then c64 (aS A) gc else 268435456) = _
      rw [if_pos this, this, eg, Nat.zero_add]
theorem c_soft {n : Nat} (c : RC h A) (a : WA A n) (x y : Int32) {v : Int32} {B : Ast} (hR : Rsf A x y v B) : Ok (f_X9_soft h 1 x y) (fun o => o.1 = v ∧ RC o.2 B ∧ EqOff FX h o.2) := by
  have hw := a.w
  have hb := ncl_le hw
  unfold Rsf at hR
  rw [f_X9_soft, c.s.r1_2, p_hasCellx c.n, bd_s, p_hasCellx c.n, bd_s]
  refine ok_gd (by decide) ?_
  cases hx : cellOfI (aS A) x with
  | none => rw [hx] at hR; exact ok_t rfl (ok_some ⟨hR.1.symm, by rw [hR.2]; exact c, EqOff.rf⟩)
  | some fr =>
    obtain ⟨rfl, hf⟩ := cellOfI_s (by omega) hx
    refine ok_f (by show ¬ nB true = 0; decide) ?_
    cases hy : cellOfI (aS A) y with
    | none => rw [hx, hy] at hR; exact ok_t rfl (ok_some ⟨hR.1.symm, by rw [hR.2]; exact c, EqOff.rf⟩)
    | some gc =>
      obtain ⟨rfl, hg⟩ := cellOfI_s (by omega) hy
      rw [hx, hy] at hR
      simp only at hR
      refine ok_f (by show ¬ nB true = 0; decide) ?_
      obtain ⟨D, L, y1, w1, e1, e2⟩ := hR
      rw [ovA_0, Nat.add_zero] at w1 e1 e2
      rw [c.s.r1_13, c.s.r1_1]
      refine ok_gd (by decide) (ok_gd (by decide) (ok_bd (c_softest c hw hf hg y1 w1) (fun o ⟨z1, z2, z3⟩ => ok_some ⟨by rw [z1, e1], by rw [e2]; exact z2, z3⟩)))
end CSOFTB
section BOWAYS
variable {h : Hp} {A : Ast} {m n : Nat}
theorem bothR {R : Int32 → Ast → Prop} {f g : Hp → Option (Int32 × Hp)} {n1 : Nat} (uq : ∀ v B v2 B2, R v B → R v2 B2 → v = v2 ∧ B = B2) (b : Bo h m A n) (hc : ∀ v B, R v B → Ok (f h) (fun o => o.1 = v ∧ RC o.2 B ∧ EqOff FX h o.2)) (hr : ∀ h1, RM h1 m A n → Ok (g h1) (fun o => ∃ B, R o.1 B ∧ RM o.2 m B n1 ∧ EqOff (FM m) h1 o.2)) (hw : ∀ v B, R v B → WA B n1) : ∃ v B h1 h2, f h = some (v, h1) ∧ g h1 = some (v, h2) ∧ Bo h2 m B n1 := by
  obtain ⟨b1, b2, b3, b4, b5⟩ := b
  obtain ⟨o0, e0, B0, r0, _, _⟩ := hr h b2
  obtain ⟨o, e1, z1, z2, z3⟩ := hc o0.1 B0 r0
  obtain ⟨p, e2, B2, r2, y2, y3⟩ := hr o.2 (b2.fx z3 b4)
  obtain ⟨u1, u2⟩ := uq _ _ _ _ r0 r2
  subst u2
  refine ⟨o0.1, B0, o.2, p.2, ?_, ?_, z2.fm y3 b4, y2, hw _ _ r0, b4, ?_⟩
  · rw [e1, ← z1]
  · rw [e2, u1]
  · rw [y3.2.2.2.2, z3.2.2.2.2]; exact b5
theorem Rmt.wa {x y z v : Int32} {B : Ast} (u : WA A n) (r : Rmt A x y z v B) : WA B n := by
  unfold Rmt at r
  split at r
  · split at r
    · obtain ⟨D, L, _, _, _, e⟩ := r; rw [e]; exact u
    · rw [r.2]; exact u
  · rw [r.2]; exact u
theorem Rqt.wa {x y v : Int32} {B : Ast} (u : WA A n) (r : Rqt A x y v B) : WA B n := by
  unfold Rqt at r
  split at r
  · obtain ⟨D, _, r⟩ := r
    split at r
    · obtain ⟨L, _, _, e⟩ := r; rw [e]; exact u
    · rw [r.2]; exact u
  · rw [r.2]; exact u
theorem Rsf.wa {x y v : Int32} {B : Ast} (u : WA A n) (r : Rsf A x y v B) : WA B n := by
  unfold Rsf at r
  split at r
  · obtain ⟨D, L, _, _, _, e⟩ := r; rw [e]; exact u
  · rw [r.2]; exact u
theorem bo_meets (b : Bo h m A n) (hn : n < 1000) (x y z : Int32) : ∃ v B h1 h2, f_X9_meets h 1 x y z = some (v, h1) ∧ f_X10_meets h1 m x y z = some (v, h2) ∧ Bo h2 m B (n + 1) :=
  bothR (R := Rmt A x y z) (f := fun h => f_X9_meets h 1 x y z) (g := fun h => f_X10_meets h m x y z) (fun v B v2 B2 r r2 => Rmt.uq b.2.2.1.w r r2) b (fun v B r => c_meets b.1 b.2.2.1 x y z r) (fun h1 c => ok_mono (r_meets c b.2.2.1 x y z) (fun o ⟨B, z1, z2, z3⟩ => ⟨B, z1, z2.mono (by omega), z3⟩)) (fun v B r => r.wa (b.2.2.1.up hn))
theorem bo_quiet (b : Bo h m A n) (hn : n < 1000) (x y : Int32) : ∃ v B h1 h2, f_X9_quiet h 1 x y = some (v, h1) ∧ f_X10_quiet h1 m x y = some (v, h2) ∧ Bo h2 m B (n + 1) :=
  bothR (R := Rqt A x y) (f := fun h => f_X9_quiet h 1 x y) (g := fun h => f_X10_quiet h m x y) (fun v B v2 B2 r r2 => Rqt.uq b.2.2.1.w r r2) b (fun v B r => c_quiet b.1 b.2.2.1 x y r) (fun h1 c => ok_mono (r_quiet c b.2.2.1 x y) (fun o ⟨B, z1, z2, z3⟩ => ⟨B, z1, z2.mono (by omega), z3⟩)) (fun v B r => r.wa (b.2.2.1.up hn))
theorem bo_soft (b : Bo h m A n) (hn : n < 1000) (x y : Int32) : ∃ v B h1 h2, f_X9_soft h 1 x y = some (v, h1) ∧ f_X10_soft h1 m x y = some (v, h2) ∧ Bo h2 m B (n + 1) :=
  bothR (R := Rsf A x y) (f := fun h => f_X9_soft h 1 x y) (g := fun h => f_X10_soft h m x y) (fun v B v2 B2 r r2 => Rsf.uq b.2.2.1.w r r2) b (fun v B r => c_soft b.1 b.2.2.1 x y r) (fun h1 c => ok_mono (r_soft c b.2.2.1 x y) (fun o ⟨B, z1, z2, z3⟩ => ⟨B, z1, z2.mono (by omega), z3⟩)) (fun v B r => r.wa (b.2.2.1.up hn))
end BOWAYS
