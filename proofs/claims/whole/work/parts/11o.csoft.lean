/-! ways: the class's softest way -/
def FS2 (x : Nat) : Prop := x = 174 ∨ x = 175
theorem FS2_s {h h1 : Hp} (e : EqOff FS2 h h1) : EqOff Fs h h1 := e.mono (fun x z => by unfold FS2 at z; unfold Fs; omega)
def cB (h : Hp) (S : Fld) : Prop := ∀ c, c < ncl S → hpI h 174 c = nI (c64 S c)
def bB (h : Hp) (S : Fld) (b : Nat → Nat) : Prop := ∀ c, c < ncl S → hpI h 175 c = nI (b c)
def LBb (S : Fld) (D b : Nat → Nat) : Prop := ∀ c, c < ncl S → E64 D c + c64 S c ≤ b c ∧ b c ≤ 268435456
theorem c64_le {S : Fld} (hw : wfF S) (c : Nat) : c64 S c ≤ 4609 := by
  have := sgC_le hw c
  unfold c64
  omega
section CSOFT
variable {h h0 : Hp} {A : Ast} {D : Nat → Nat} {gc : Nat}
/-- one round of improving, begun with b -/
def IvI (h0 : Hp) (S : Fld) (D b : Nat → Nat) (c0 s0 : Nat) (fl : Bool) (h : Hp) : Prop := EqOff FS2 h0 h ∧ cB h S ∧ ∃ b1, bB h S b1 ∧ LBb S D b1 ∧ (∀ c, c < ncl S → b1 c ≤ b c) ∧ (∀ c s t, c < ncl S → s < 4 → (c < c0 ∨ (c = c0 ∧ s < s0)) → bsd S c s = some t → b1 c ≤ c64 S c + b t) ∧ (fl = false → ∀ c, c < ncl S → b1 c = b c)
theorem im_14 (rc : RC h0 A) (hw : wfF (aS A)) (hg : gc < ncl (aS A)) (y : Yt (VU (aS A) 0) (nxU (aS A) 0) (wU (psf (aS A))) (gc * 256 + 0) D) {b : Nat → Nat} {k5 : Hp → Int32 → Int32 → Option (Int32 × Hp)} {Q : Int32 × Hp → Prop} {x2 : Int32} {c : Nat} (hc : c < ncl (aS A)) (k : ∀ fl h3, IvI h0 (aS A) D b (c + 1) 0 fl h3 → Ok (k5 h3 (nB fl) (nI (c + 1))) Q) : ∀ d f s fl h2, s + d = 4 → d < f → IvI h0 (aS A) D b c s fl h2 → Ok (f_X8_improve_14 170 6 x2 k5 f h2 (nB fl) (nI c) (nI s)) Q := by
  have hb := ncl_le hw
  intro d
  induction d with
  | zero =>
    intro f s fl h2 e1 e2 iv
    obtain ⟨f, rfl⟩ : ∃ j, f = j + 1 := ⟨f - 1, by omega⟩
    have : s = 4 := by omega
    subst this
    simp only [f_X8_improve_14, lt_u]
    rw [i1, nI_add]
    obtain ⟨v1, v2, b1, v3, v4, v5, v6, v7⟩ := iv
    exact ok_t (by decide) (k fl h2 ⟨v1, v2, b1, v3, v4, v5, fun c2 s2 t2 q1 q2 q3 q4 => v6 c2 s2 t2 q1 q2 (by omega) q4, v7⟩)
  | succ d ih =>
    intro f s fl h2 e1 e2 iv
    obtain ⟨f, rfl⟩ : ∃ j, f = j + 1 := ⟨f - 1, by omega⟩
    obtain ⟨v1, v2, b1, v3, v4, v5, v6, v7⟩ := iv
    have c2 : RC h2 A := rc.scr (FS2_s v1)
    simp only [f_X8_improve_14, lt_u]
    rw [p_beside c2.n hw hc (by omega), bd_s]
    refine ok_f (by rw [show (4 : Int32) = nI 4 by decide, nI_leI (by omega) (by omega)]; omega) ?_
    have ew : nI s + (1 : Int32) = nI (s + 1) := by rw [i1, nI_add]
    have same : (∀ t, bsd (aS A) c s = some t → b1 c ≤ c64 (aS A) c + b1 t ∧ t < ncl (aS A)) → Ok (f_X8_improve_91 170 6 x2 k5 (f_X8_improve_14 170 6 x2 k5 f) h2 (nB fl) (nI c) (nI s)) Q := fun hs => by
      rw [f_X8_improve_91, lt_u, ew]
      refine ih f (s + 1) fl h2 (by omega) (by omega) ⟨v1, v2, b1, v3, v4, v5, fun c3 s3 t3 q1 q2 q3 q4 => ?_, v7⟩
      by_cases e : c3 = c ∧ s3 = s
      · obtain ⟨rfl, rfl⟩ := e
        have := hs t3 q4
        have := v5 t3 this.2
        omega
      · exact v6 c3 s3 t3 q1 q2 (by omega) q4
    cases hbs : bsd (aS A) c s with
    | none => exact ok_t (show oI none < 0 by decide) (same (fun t ht => by rw [hbs] at ht; cases ht))
    | some t =>
      obtain ⟨ht, g1, _, _⟩ := sf_3 hw hg y hc (show s < 4 by omega) hbs
      have c1 := c64_le hw c
      have l1 := v4 c hc
      have l2 := v4 t ht
      rw [show oI (some t) = nI t from rfl, c2.s.r170_3, c2.s.r170_4, c2.s.t174, c2.s.t175, ix_nI (by omega), ix_nI (by omega), v3 c hc, v3 t ht, v2 c hc, nI_add]
      refine ok_f (by rw [i0, nI_ltI (by omega) (by omega)]; omega) (ok_f (by rw [show (36 : Int32) = nI 36 by decide, nI_leI (by omega) (by omega)]; omega) (ok_gd (by decide) (ok_gd (inb_nI (by omega) (by omega)) (ok_gd (by decide) (ok_gd (inb_nI (by omega) (by omega)) (ok_gd (inb_nI (by omega) (by omega)) (ok_if (fun w => ?_) (fun w => ?_))))))))
      · rw [nI_leI (by omega) (by omega)] at w
        exact same (fun t2 q => by rw [hbs] at q; rw [← Option.some.inj q]; exact ⟨w, ht⟩)
      · rw [nI_leI (by omega) (by omega)] at w
        refine ok_gd (inb_nI (by omega) (by omega)) (ok_gd (inb_nI (by omega) (by omega)) (ok_gd (inb_nI (by omega) (by omega)) ?_))
        generalize e22 : upI h2 175 c (nI (c64 (aS A) c + b1 t)) = h22
        have e22 := e22.symm
        rw [f_X8_improve_91, lt_u, ew, show (1 : Int32) = nB true from rfl]
        have up : ∀ c2, upN b1 c (c64 (aS A) c + b1 t) c2 = if c2 = c then c64 (aS A) c + b1 t else b1 c2 := fun _ => rfl
        have ule : ∀ c2, upN b1 c (c64 (aS A) c + b1 t) c2 ≤ b1 c2 := fun c2 => by
          rw [up]
          by_cases e : c2 = c
          · rw [if_pos e, e]; omega
          · rw [if_neg e]; exact Nat.le_refl _
        refine ih f (s + 1) true h22 (by omega) (by omega) ⟨v1.tr (by rw [e22]; exact EqOff.uI (Or.inr rfl)), fun c3 h3 => by rw [e22, hpI_upI, if_neg (by omega)]; exact v2 c3 h3, upN b1 c (c64 (aS A) c + b1 t), fun c3 h3 => ?_, fun c3 h3 => ?_, fun c3 h3 => Nat.le_trans (ule c3) (v5 c3 h3), fun c3 s3 t3 q1 q2 q3 q4 => ?_, fun e => by cases e⟩
        · rw [e22, hpI_upI, up]
          by_cases e : c3 = c
          · rw [if_pos ⟨rfl, e⟩, if_pos e]
          · rw [if_neg (fun z => e z.2), if_neg e]; exact v3 c3 h3
        · rw [up]
          by_cases e : c3 = c
          · rw [if_pos e, e]; omega
          · rw [if_neg e]; exact v4 c3 h3
        · by_cases e : c3 = c ∧ s3 = s
          · obtain ⟨rfl, rfl⟩ := e
            rw [hbs] at q4
            rw [← Option.some.inj q4, up, if_pos rfl]
            have := v5 t ht
            omega
          · have := v6 c3 s3 t3 q1 q2 (by omega) q4
            have := ule c3
            omega
theorem p_improve (rc : RC h A) (hw : wfF (aS A)) (hg : gc < ncl (aS A)) (y : Yt (VU (aS A) 0) (nxU (aS A) 0) (wU (psf (aS A))) (gc * 256 + 0) D) {b : Nat → Nat} (hcB : cB h (aS A)) (hbB : bB h (aS A) b) (hL : LBb (aS A) D b) : Ok (f_X8_improve h 170 6 (nI (ncl (aS A)))) (fun o => ∃ fl, o.1 = nB fl ∧ IvI h (aS A) D b (ncl (aS A)) 0 fl o.2) := by
  have hF := FU_big
  have hb := ncl_le hw
  have go : ∀ d f c fl h2, c + d = ncl (aS A) → d < f → IvI h (aS A) D b c 0 fl h2 → Ok (f_X8_improve_5 170 6 (nI (ncl (aS A))) f h2 (nB fl) (nI c)) (fun o => ∃ fl, o.1 = nB fl ∧ IvI h (aS A) D b (ncl (aS A)) 0 fl o.2) := by
    intro d
    induction d with
    | zero =>
      intro f c fl h2 e1 e2 iv
      obtain ⟨f, rfl⟩ : ∃ j, f = j + 1 := ⟨f - 1, by omega⟩
      have : c = ncl (aS A) := by omega
      subst this
      simp only [f_X8_improve_5, lt_u]
      exact ok_t (Int32.le_refl _) (ok_some ⟨fl, rfl, iv⟩)
    | succ d ih =>
      intro f c fl h2 e1 e2 iv
      obtain ⟨f, rfl⟩ : ∃ j, f = j + 1 := ⟨f - 1, by omega⟩
      simp only [f_X8_improve_5, lt_u]
      refine ok_f (by rw [nI_leI (by omega) (by omega)]; omega) ?_
      exact im_14 rc hw hg y (show c < ncl (aS A) by omega) (fun fl h3 iv3 => ih f (c + 1) fl h3 (by omega) (by omega) iv3) 4 FU 0 fl h2 (by omega) (by omega) iv
  rw [f_X8_improve]
  exact go (ncl (aS A)) FU 0 false h (by omega) (by omega) ⟨EqOff.rf, hcB, b, hbB, hL, fun c _ => Nat.le_refl _, fun c s t _ _ q _ => by omega, fun _ c _ => rfl⟩
/-- what is laid out, once all is improved -/
def SfB (h : Hp) (S : Fld) (D : Nat → Nat) : Prop := cB h S ∧ ∀ c, c < ncl S → hpI h 175 c = nI (E64 D c + c64 S c)
theorem p_softStep (rc : RC h A) (hw : wfF (aS A)) (hg : gc < ncl (aS A)) (y : Yt (VU (aS A) 0) (nxU (aS A) 0) (wU (psf (aS A))) (gc * 256 + 0) D) (sb : SfB h (aS A) D) (hE : ∀ c, c < ncl (aS A) → E64 D c ≤ 1000000) {c : Nat} (hc : c < ncl (aS A)) (hne : D (c * 256) % 100 ≠ 0) : f_X8_softStep h 170 6 (nI c) = some (nI (nxt (nxU (aS A) 0) (wU (psf (aS A))) D (c * 256) / 256)) := by
  have hF := FU_big
  have hb := ncl_le hw
  obtain ⟨s, t, hs, hbs, et, hq, hf⟩ := sf_5 hw hg y hc hne
  have := fo_ff (fun q x => f_X8_softStep_2 h 170 6 (nI c) q x) 4 (stq (nxU (aS A) 0) (wU (psf (aS A))) D (c * 256)) (fun s => some (oI (bsd (aS A) c s))) (some (nI c)) (fun q i hi => ?_) (fun q => ?_) 4 FU 0 (by omega) (by omega)
  · have e : ff (stq (nxU (aS A) 0) (wU (psf (aS A))) D (c * 256)) 0 4 = some s := by
      cases e : ff (stq (nxU (aS A) 0) (wU (psf (aS A))) D (c * 256)) 0 4 with
      | none =>
        have := (ff_none 4 0).mp e s (by omega) (by omega)
        rw [hq] at this; cases this
      | some s2 =>
        obtain ⟨_, z1, z2⟩ := ff_s 4 0 s2 e
        have z3 := ff_f 4 0 s2 e
        rcases Nat.lt_trichotomy s s2 with q | q | q
        · have := z3 s (by omega) q
          rw [hq] at this; cases this
        · rw [q]
        · have := hf s2 q
          rw [z2] at this; cases this
    rw [e] at this
    rw [f_X8_softStep, i0, this]
    show some (oI (bsd (aS A) c s)) = _
    rw [hbs, ← et, show t * 256 / 256 = t by omega]
    rfl
  · show f_X8_softStep_2 h 170 6 (nI c) (q + 1) (nI i) = _
    simp only [f_X8_softStep_2, lt_u]
    rw [if_neg (by rw [show (4 : Int32) = nI 4 by decide, nI_leI (by omega) (by omega)]; omega), p_beside rc.n hw hc hi, bd_s]
    have ew : nI i + (1 : Int32) = nI (i + 1) := by rw [i1, nI_add]
    cases hb2 : bsd (aS A) c i with
    | none =>
      have hn : nxU (aS A) 0 (c * 256) i = none := by rw [nx0, hb2]; rfl
      have hs0 : stq (nxU (aS A) 0) (wU (psf (aS A))) D (c * 256) i = false := by unfold stq; rw [hn]
      rw [if_pos (show oI none < 0 by decide), f_X8_softStep_53, lt_u, ew, hs0]
      rfl
    | some t2 =>
      obtain ⟨ht, _, g2, _⟩ := sf_3 hw hg y hc hi hb2
      have c1 := c64_le hw c
      have c2 := c64_le hw t2
      have l1 := hE c hc
      have l2 := hE t2 ht
      rw [show oI (some t2) = nI t2 from rfl, if_neg (by rw [i0, nI_ltI (by omega) (by omega)]; omega), if_neg (by rw [show (36 : Int32) = nI 36 by decide, nI_leI (by omega) (by omega)]; omega), rc.s.r170_3, rc.s.r170_4, rc.s.t174, rc.s.t175, gd_t (by decide), gd_t (inb_nI (by omega) (by omega)), gd_t (by decide), gd_t (inb_nI (by omega) (by omega)), gd_t (inb_nI (by omega) (by omega)), ix_nI (by omega), ix_nI (by omega), sb.2 c hc, sb.2 t2 ht, sb.1 c hc, nI_add]
      by_cases w : stq (nxU (aS A) 0) (wU (psf (aS A))) D (c * 256) i = true
      · have := g2.mp w
        rw [if_pos (by rw [this]; congr 1; omega), if_pos w]
      · have w2 : ¬ E64 D c = E64 D t2 + c64 (aS A) t2 := fun z => w (g2.mpr z)
        rw [if_neg (fun z => w2 (by have := nI_inj (by omega) (by omega) z; omega)), if_neg w, f_X8_softStep_53, lt_u, ew]
  · show f_X8_softStep_2 h 170 6 (nI c) (q + 1) (nI 4) = _
    simp only [f_X8_softStep_2, lt_u]
    rw [if_pos (by decide)]
end CSOFT
