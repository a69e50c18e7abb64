/-! ways: the reference lays out what is yet to go -/
theorem NVR_e : NVR = 1000000 := rfl
theorem NVR_i : (1000000 : Int32) = nI NVR := by decide
def Dy (m x k : Nat) : Prop := x = m + 14
def wk3 (V : Nat → Prop) (nx : Nat → Nat → Option Nat) (w : Nat → Nat) (g : Nat) (D : Nat → Nat) : Prop := D g = 0 ∧ (∀ u, V u → D u ≤ NVR) ∧ ∀ u, V u → D u < NVR → u = g ∨ ∃ s v, s < 4 ∧ nx u s = some v ∧ D v + w v ≤ D u
theorem wk3.up {V : Nat → Prop} {nx : Nat → Nat → Option Nat} {w : Nat → Nat} {g : Nat} {D : Nat → Nat} (y : wk3 V nx w g D) {u s v : Nat} (hu : V u) (hs : s < 4) (hv : nx u s = some v) (hl : D v + w v < D u) : wk3 V nx w g (upN D u (D v + w v)) := by
  have le : ∀ x, upN D u (D v + w v) x ≤ D x := fun x => by
    unfold upN
    by_cases q : x = u
    · rw [if_pos q, q]; omega
    · rw [if_neg q]; exact Nat.le_refl _
  refine ⟨?_, fun x hx => Nat.le_trans (le x) (y.2.1 x hx), fun x hx hn => ?_⟩
  · have := le g
    rw [y.1] at this
    omega
  · by_cases q : x = u
    · subst q
      refine Or.inr ⟨s, v, hs, hv, ?_⟩
      rw [show upN D x (D v + w v) x = D v + w v by unfold upN; rw [if_pos rfl]]
      have := le v
      omega
    · rw [show upN D u (D v + w v) x = D x by unfold upN; rw [if_neg q]] at hn ⊢
      rcases y.2.2 x hx hn with e | ⟨t, z, h1, h2, h3⟩
      · exact Or.inl e
      · exact Or.inr ⟨t, z, h1, h2, by have := le z; omega⟩
section RLAYS
variable {h : Hp} {m : Nat} {S : Fld} {al gc : Nat} {pc : Nat → Nat}
/-- the row of what is yet to go -/
def yA (h : Hp) (m : Nat) (S : Fld) (al : Nat) (D : Nat → Nat) : Prop := ∀ u, VU S al u → hpI h (m + 14) u = nI (D u)
/-- what laying out rests on -/
def LyB (h : Hp) (m : Nat) (S : Fld) (al gc : Nat) (pc : Nat → Nat) : Prop := atG h m S ∧ atW h (m + 2) S ∧ wfF S ∧ al < 256 ∧ gc < ncl S ∧ (∀ c, c < ncl S → 1 ≤ pc c ∧ pc c ≤ NVR) ∧ ∀ c, c < ncl S → hpI h (m + 15) c = nI (pc c)
theorem LyB.ep {h1 : Hp} (b : LyB h m S al gc pc) (e : EqP (Dy m) h h1) : LyB h1 m S al gc pc := ⟨b.1.ep e (fun z => by unfold Dy at z; omega) (fun z => by unfold Dy at z; omega), b.2.1.ep e (fun k z => by unfold Dy at z; omega), b.2.2.1, b.2.2.2.1, b.2.2.2.2.1, b.2.2.2.2.2.1, fun c hc => by rw [e.1 _ _ (fun z => by unfold Dy at z; omega)]; exact b.2.2.2.2.2.2 c hc⟩
def yD0 (gc al u : Nat) : Nat := if u = gc * 256 + al then 0 else NVR
def FiY (h0 : Hp) (m gc al c M : Nat) (h : Hp) : Prop := EqP (Dy m) h0 h ∧ ∀ u, (u / 256 < c ∨ (u / 256 = c ∧ u % 256 < M)) → u % 256 ≤ al → hpI h (m + 14) u = nI (yD0 gc al u)
theorem fi_13 {h0 : Hp} (b : LyB h0 m S al gc pc) {k2 : Hp → Int32 → Option Hp} {Q : Hp → Prop} {c : Nat} (hc : c < ncl S) : ∀ d n M h2, M + d = al + 1 → d < n → FiY h0 m gc al c M h2 → (∀ h3, FiY h0 m gc al (c + 1) 0 h3 → Ok (k2 h3 (nI (c + 1))) Q) → Ok (f_X10_laysYet_13 m (nI gc) (nI al) k2 n h2 (nI c) (nI M)) Q := by
  have ha := b.2.2.2.1
  have hb := ncl_le b.2.2.1
  have hg := b.2.2.2.2.1
  intro d
  induction d with
  | zero =>
    intro n M h2 e1 e2 f k
    obtain ⟨n, rfl⟩ : ∃ j, n = j + 1 := ⟨n - 1, by omega⟩
    simp only [f_X10_laysYet_13, lt_u]
    rw [i1, nI_add]
    refine ok_t (by rw [nI_ltI (by omega) (by omega)]; omega) (k h2 ⟨f.1, fun u hu hl => f.2 u (by omega) hl⟩)
  | succ d ih =>
    intro n M h2 e1 e2 f k
    obtain ⟨n, rfl⟩ : ∃ j, n = j + 1 := ⟨n - 1, by omega⟩
    have b2 := b.ep f.1
    have s2 := b2.1.1
    simp only [f_X10_laysYet_13, lt_u]
    rw [s2.r29, m_state h2 (by omega) (by omega), bd_s]
    have fin : ∀ x : Int32, x = nI (yD0 gc al (c * 256 + M)) → Ok (f_X10_laysYet_47 m (nI gc) (nI al) k2 (f_X10_laysYet_13 m (nI gc) (nI al) k2 n) h2 (m + 14) (nI (c * 256 + M)) x (nI c) (nI M)) Q := fun x ex => by
      rw [f_X10_laysYet_47, s2.t14, ix_nI (by omega), i1, nI_add, ex]
      refine ok_gd (inb_nI (by omega) (by omega)) (ih n (M + 1) _ (by omega) (by omega) ⟨f.1.tr (EqP.uI rfl), fun u hu hl => ?_⟩ k)
      rw [hpI_upI]
      by_cases w : u = c * 256 + M
      · rw [if_pos ⟨rfl, w⟩, w]
      · rw [if_neg (fun z => w z.2)]
        exact f.2 u (by omega) hl
    refine ok_f (by rw [nI_ltI (by omega) (by omega)]; omega) (ok_gd (nz_t (by omega)) (ok_if (fun w1 => ok_if (fun w2 => fin 0 ?_) (fun w2 => ?_)) (fun w1 => ?_)))
    · have w1' := nI_inj (by omega) (by omega) w1
      have w2' := nI_inj (by omega) (by omega) w2
      unfold yD0
      rw [if_pos (by omega)]; rfl
    · have w2' : ¬ M = al := fun z => w2 (by rw [z])
      rw [f_X10_laysYet_44, NVR_i]
      refine fin _ ?_
      unfold yD0
      rw [if_neg (by omega)]
    · have w1' : ¬ c = gc := fun z => w1 (by rw [z])
      rw [f_X10_laysYet_44, NVR_i]
      refine fin _ ?_
      unfold yD0
      rw [if_neg (by omega)]
/-- one pass: it began with D0 -/
def PsY (h0 : Hp) (m : Nat) (S : Fld) (al gc : Nat) (pc D0 : Nat → Nat) (K u0 k : Nat) (mo : Bool) (h : Hp) : Prop := EqP (Dy m) h0 h ∧ ∃ D, yA h m S al D ∧ wk3 (VU S al) (nxU S al) (wU pc) (gc * 256 + al) D ∧ (mo = true → nsum D K < nsum D0 K) ∧ (mo = false → D = D0 ∧ ∀ u s v, VU S al u → s < 4 → (u < u0 ∨ (u = u0 ∧ ∃ w, w < k ∧ s = pw w)) → nxU S al u s = some v → D0 u ≤ D0 v + wU pc v)
theorem ps_92 {h0 : Hp} (b : LyB h0 m S al gc pc) {D0 : Nat → Nat} {k62 : Hp → Int32 → Option Hp} {k71 : Hp → Int32 → Int32 → Option Hp} {k83 : Hp → Int32 → Int32 → Int32 → Option Hp} {Q : Hp → Prop} {c M : Nat} (hc : c < ncl S) (hM : M ≤ al) {K : Nat} (hK : 9216 ≤ K) (k : ∀ mo h3, PsY h0 m S al gc pc D0 K (c * 256 + M + 1) 0 mo h3 → Ok (k83 h3 (nB mo) (nI c) (nI (M + 1))) Q) : ∀ d n w mo h2, w + d = 4 → d < n → PsY h0 m S al gc pc D0 K (c * 256 + M) w mo h2 → Ok (f_X10_laysYet_92 m (nI gc) (nI al) k62 k71 k83 n h2 (nB mo) (nI c) (nI M) (nI w)) Q := by
  have ha := b.2.2.2.1
  have hb := ncl_le b.2.2.1
  have hw := b.2.2.1
  have hN := NVR_e
  have dn : ∀ mo h3, (¬ VU S al (c * 256 + M) ∨ PsY h0 m S al gc pc D0 K (c * 256 + M) 4 mo h3) → (∃ w, PsY h0 m S al gc pc D0 K (c * 256 + M) w mo h3) → Ok (f_X10_laysYet_202 m (nI gc) (nI al) k62 k71 k83 h3 (nB mo) (nI c) (nI M)) Q := fun mo h3 hv p => by
    rw [f_X10_laysYet_202, lt_u, i1, nI_add]
    refine k mo h3 ?_
    rcases hv with hv | hv
    · obtain ⟨w, p1, D, p2, p3, p4, p5⟩ := p
      exact ⟨p1, D, p2, p3, p4, fun e => ⟨(p5 e).1, fun u s v hu hs hc2 hx => (p5 e).2 u s v hu hs (Or.inl (by
        by_cases q : u = c * 256 + M
        · rw [q] at hu; exact absurd hu hv
        · omega)) hx⟩⟩
    · obtain ⟨p1, D, p2, p3, p4, p5⟩ := hv
      exact ⟨p1, D, p2, p3, p4, fun e => ⟨(p5 e).1, fun u s v hu hs hc2 hx => by
        refine (p5 e).2 u s v hu hs ?_ hx
        by_cases q : u = c * 256 + M
        · obtain ⟨w, w1, w2⟩ := pw_on hs
          exact Or.inr ⟨q, w, w1, w2⟩
        · exact Or.inl (by omega)⟩⟩
  intro d
  induction d with
  | zero =>
    intro n w mo h2 e1 e2 p
    obtain ⟨n, rfl⟩ : ∃ j, n = j + 1 := ⟨n - 1, by omega⟩
    have : w = 4 := by omega
    subst this
    simp only [f_X10_laysYet_92, lt_u]
    exact ok_t (by decide) (dn mo h2 (Or.inr p) ⟨4, p⟩)
  | succ d ih =>
    intro n w mo h2 e1 e2 p
    obtain ⟨n, rfl⟩ : ∃ j, n = j + 1 := ⟨n - 1, by omega⟩
    simp only [f_X10_laysYet_92, lt_u]
    refine ok_f (by rw [show (4 : Int32) = nI 4 by decide, nI_leI (by omega) (by omega)]; omega) ?_
    by_cases wv : M &&& al = M
    · have hV : VU S al (c * 256 + M) := ⟨by rw [show (c * 256 + M) / 256 = c by omega]; exact hc, by rw [show (c * 256 + M) % 256 = M by omega]; exact wv⟩
      refine ok_t ((andN (by omega)).mpr wv) ?_
      have p0 := p
      obtain ⟨p1, D, p2, p3, p4, p5⟩ := p
      have b2 := b.ep p1
      have s2 := b2.1.1
      have du := p3.2.1 _ hV
      rw [m_beside b2.1 hw hc (by omega), bd_s]
      -- what comes out of one side
      have same : (∀ v, nxU S al (c * 256 + M) (pw w) = some v → D (c * 256 + M) ≤ D v + wU pc v) → Ok (f_X10_laysYet_196 m (nI gc) (nI al) k62 k71 k83 (f_X10_laysYet_92 m (nI gc) (nI al) k62 k71 k83 n) h2 (nB mo) (nI c) (nI M) (nI w)) Q := fun hv => by
        rw [f_X10_laysYet_196, lt_u, i1, nI_add]
        refine ih n (w + 1) mo h2 (by omega) (by omega) ⟨p1, D, p2, p3, p4, fun e => ⟨(p5 e).1, fun u s v hu hs hq hx => ?_⟩⟩
        rcases hq with q | ⟨q, w2, q2, q3⟩
        · exact (p5 e).2 u s v hu hs (Or.inl q) hx
        · by_cases q4 : w2 = w
          · subst q4
            subst q
            rw [q3] at hx
            have := hv v hx
            rw [(p5 e).1] at this
            exact this
          · exact (p5 e).2 u s v hu hs (Or.inr ⟨q, w2, by omega, q3⟩) hx
      cases hbs : bsd S c (pw w) with
      | none =>
        have hn : nxU S al (c * 256 + M) (pw w) = none := by unfold nxU; rw [show (c * 256 + M) / 256 = c by omega, hbs]
        refine ok_f (show ¬ (0 : Int32) ≤ -1 by decide) ?_
        rw [f_X10_laysYet_161, s2.r29, m_state h2 (by omega) (by omega), bd_s, s2.t14, ix_nI (by omega), p2 _ hV, NVR_i]
        refine ok_gd (nz_t (by omega)) (ok_gd (inb_nI (by omega) (by omega)) (ok_t (by rw [nI_leI (by omega) (by omega)]; exact du) (same (fun v hv => by rw [hn] at hv; cases hv))))
      | some t =>
        have ht := bsd_lt hw hc (pw_lt w) hbs
        have hM2 : M ||| ovA S al t < 256 := or_lt8 (by omega) (ovA_lt ha)
        have hn : nxU S al (c * 256 + M) (pw w) = some (t * 256 + (M ||| ovA S al t)) := by unfold nxU; rw [show (c * 256 + M) / 256 = c by omega, show (c * 256 + M) % 256 = M by omega, hbs]
        have hV2 := nxU_V hw ha hV (pw_lt w) hn
        have dv := p3.2.1 _ hV2
        have pt := b2.2.2.2.2.2.1 t ht
        have ew : wU pc (t * 256 + (M ||| ovA S al t)) = pc t := by unfold wU; rw [show (t * 256 + (M ||| ovA S al t)) / 256 = t by omega]
        rw [show oI (some t) = nI t from rfl]
        refine ok_t (by rw [i0, nI_leI (by omega) (by omega)]; omega) ?_
        rw [s2.r29, s2.r6, m_campsOver b2.1 b2.2.1 hw (by omega), bd_s, bitsB_nb _ _ (by have := hw.2.2.2.2.1; omega), nI_and, nI_or, show nb (ocv S t) (S.1 2) &&& al = ovA S al t from rfl, m_state h2 (by omega) hM2, bd_s, s2.t14, s2.r30, s2.t15]
        rw [ix_nI (by omega), ix_nI (by omega), p2 _ hV2, b2.2.2.2.2.2.2 t ht, nI_add]
        refine ok_gd (nz_t (by omega)) (ok_gd (nz_t (by omega)) (ok_gd (inb_nI (by omega) (by omega)) (ok_gd (nz_t (by omega)) (ok_gd (inb_nI (by omega) (by omega)) ?_))))
        rw [f_X10_laysYet_161, s2.r29, m_state h2 (by omega) (by omega), bd_s, s2.t14, ix_nI (by omega), p2 _ hV, bd_s]
        refine ok_gd (nz_t (by omega)) (ok_gd (inb_nI (by omega) (by omega)) (ok_if (fun w1 => ?_) (fun w1 => ?_)))
        · rw [nI_leI (by omega) (by omega)] at w1
          exact same (fun v hv => by rw [hn] at hv; rw [← Option.some.inj hv, ew]; exact w1)
        · rw [nI_leI (by omega) (by omega)] at w1
          rw [ix_nI (by omega)]
          have hl : D (t * 256 + (M ||| ovA S al t)) + wU pc (t * 256 + (M ||| ovA S al t)) < D (c * 256 + M) := by rw [ew]; omega
          have y2 := p3.up hV (pw_lt w) hn hl
          have ns := (nsum_u (f := D) (u := c * 256 + M) (x := D (t * 256 + (M ||| ovA S al t)) + wU pc (t * 256 + (M ||| ovA S al t))) K).2 (by omega)
          refine ok_gd (inb_nI (by omega) (by omega)) (ok_lt (fun h40 e40 => ?_))
          rw [f_X10_laysYet_196, lt_u, show nI w + (1 : Int32) = nI (w + 1) by rw [i1, nI_add], show (1 : Int32) = nB true from rfl]
          refine ih n (w + 1) true h40 (by omega) (by omega) ⟨p1.tr (by rw [e40]; exact EqP.uI rfl), _, fun u hu => ?_, y2, fun _ => ?_, fun e => by cases e⟩
          · rw [e40, hpI_upI]
            unfold upN
            by_cases q : u = c * 256 + M
            · rw [if_pos ⟨rfl, q⟩, if_pos q, ew]
            · rw [if_neg (fun z => q z.2), if_neg q]; exact p2 u hu
          · cases mo with
            | true => have := p4 rfl; omega
            | false => have := (p5 rfl).1; subst this; omega
    · have hV : ¬ VU S al (c * 256 + M) := fun z => wv (by have := z.2; rw [show (c * 256 + M) % 256 = M by omega] at this; exact this)
      exact ok_f (fun z => wv ((andN (by omega)).mp z)) (dn mo h2 (Or.inl hV) ⟨w, p⟩)
end RLAYS
