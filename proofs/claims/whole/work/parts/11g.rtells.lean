/-! ways: the reference tells the way -/
def mnO (o x : Option Nat) : Option Nat := match x with
  | none => o
  | some t => match o with
    | none => some t
    | some y => if t < y then some t else some y
theorem mnO_k {x : Nat} {c : Option Nat} (h : ∀ y, c = some y → x < y) : mnO (some x) c = some x := by
  cases c with
  | none => rfl
  | some t =>
    have := h t rfl
    show (if t < x then some t else some x) = some x
    rw [if_neg (by omega)]
theorem mnO_b {x : Nat} {o : Option Nat} (h : ∀ y, o = some y → x < y) : mnO o (some x) = some x := by
  cases o with
  | none => rfl
  | some t =>
    have := h t rfl
    show (if x < t then some x else some t) = some x
    rw [if_pos this]
theorem mnO_g {x : Nat} {o c : Option Nat} (h1 : ∀ y, o = some y → x < y) (h2 : ∀ y, c = some y → x < y) : ∀ y, mnO o c = some y → x < y := by
  intro y hy
  cases c with
  | none => exact h1 y hy
  | some t =>
    cases o with
    | none => exact h2 y hy
    | some z =>
      have hy : (if t < z then some t else some z) = some y := hy
      by_cases q : t < z
      · rw [if_pos q] at hy; exact h2 y hy
      · rw [if_neg q] at hy; exact h1 y hy
theorem mnO_4 {cd : Nat → Option Nat} {s x : Nat} (hs : s < 4) (e : cd s = some x) (lo : ∀ t, t < s → cd t = none) (hi : ∀ t y, s < t → t < 4 → cd t = some y → x < y) : mnO (mnO (mnO (mnO none (cd 0)) (cd 2)) (cd 3)) (cd 1) = some x := by
  rcases (show s = 0 ∨ s = 1 ∨ s = 2 ∨ s = 3 by omega) with rfl | rfl | rfl | rfl
  · rw [e, show mnO none (some x) = some x from rfl, mnO_k (fun y => hi 2 y (by omega) (by omega)), mnO_k (fun y => hi 3 y (by omega) (by omega)), mnO_k (fun y => hi 1 y (by omega) (by omega))]
  · rw [e, lo 0 (by omega)]
    exact mnO_b (mnO_g (mnO_g (fun y z => by cases z) (fun y => hi 2 y (by omega) (by omega))) (fun y => hi 3 y (by omega) (by omega)))
  · rw [e, lo 0 (by omega), lo 1 (by omega), show mnO (mnO none none) (some x) = some x from rfl, mnO_k (fun y => hi 3 y (by omega) (by omega))]
    rfl
  · rw [e, lo 0 (by omega), lo 1 (by omega), lo 2 (by omega)]
    rfl
/-- the cell of a side on which one goes on -/
def cdU (S : Fld) (al : Nat) (pc D : Nat → Nat) (u s : Nat) : Option Nat := if stq (nxU S al) (wU pc) D u s = true then (nxU S al u s).map (fun v => v / 256) else none
theorem cd_4 {S : Fld} (hw : wfF S) {al : Nat} {pc D : Nat → Nat} {u g : Nat} (ha : al < 256) (y : Yt (VU S al) (nxU S al) (wU pc) g D) (hu : VU S al u) (h0 : 0 < D u) (h1 : D u < NVR) : mnO (mnO (mnO (mnO none (cdU S al pc D u 0)) (cdU S al pc D u 2)) (cdU S al pc D u 3)) (cdU S al pc D u 1) = some (nxt (nxU S al) (wU pc) D u / 256) := by
  obtain ⟨s, hs, hv, _, he, hf⟩ := stp_s y hu h0 h1
  have hq : stq (nxU S al) (wU pc) D u s = true := by
    unfold stq; rw [hv]; exact decide_eq_true he
  refine mnO_4 hs (by unfold cdU; rw [if_pos hq, hv]; rfl) (fun t ht => by unfold cdU; rw [hf t ht]; rfl) (fun t y2 h2 h3 e => ?_)
  unfold cdU at e
  by_cases q : stq (nxU S al) (wU pc) D u t = true
  · rw [if_pos q] at e
    cases e2 : nxU S al u t with
    | none => rw [e2] at e; cases e
    | some z =>
      rw [e2] at e
      have e3 : z / 256 = y2 := Option.some.inj e
      rw [← e3]
      exact bsd_o hw hu.1 h2 h3 (nxU_s ha hv).1 (nxU_s ha e2).1
  · rw [if_neg q] at e; cases e
section RTELL
variable {h h1 : Hp} {A : Ast} {m n : Nat} {S : Fld} {al gc : Nat} {pc D : Nat → Nat}
theorem te_118 {k26 : Hp → Int32 → Int32 → Option (Int32 × Hp)} {k46 : Hp → Int32 → Int32 → Int32 → Int32 → Option (Int32 × Hp)} {x1 x2 s0 x3 x4 x5 x6 x7 : Int32} : f_X10_tellsWay_118 m x1 x2 k26 k46 h s0 x3 x4 x5 x6 x7 = if s0 = 0 then k46 h x3 x4 x5 (x6 + 1) else if x5 < 0 then k46 h x3 x4 x7 (x6 + 1) else if x5 ≤ x7 then k46 h x3 x4 x5 (x6 + 1) else k46 h x3 x4 x7 (x6 + 1) := rfl
theorem te_s {k26 : Hp → Int32 → Int32 → Option (Int32 × Hp)} {Q : Int32 × Hp → Prop} {x1 : Int32} (b : LyB h m S al gc pc) (ya : yA h m S al D) (dN : ∀ u, VU S al u → D u ≤ NVR) {c M : Nat} (hV : VU S al (c * 256 + M)) (hM : M < 256) {o : Option Nat} (ho : ∀ y, o = some y → y < 100) {w q : Nat} (hv : w < 4) (k : Ok (f_X10_tellsWay_46 m x1 (nI al) k26 q h (nI c) (nI M) (oI (mnO o (cdU S al pc D (c * 256 + M) (pw w)))) (nI (w + 1))) Q) : Ok (f_X10_tellsWay_46 m x1 (nI al) k26 (q + 1) h (nI c) (nI M) (oI o) (nI w)) Q := by
  have hw := b.2.2.1
  have ha := b.2.2.2.1
  have hb := ncl_le hw
  have hN := NVR_e
  have s2 := b.1.1
  have hc : c < ncl S := by have := hV.1; rw [show (c * 256 + M) / 256 = c by omega] at this; exact this
  simp only [f_X10_tellsWay_46, lt_u]
  refine ok_f (by rw [show (4 : Int32) = nI 4 by decide, nI_leI (by omega) (by omega)]; omega) ?_
  rw [m_beside b.1 hw hc hv, bd_s]
  have ew : nI w + (1 : Int32) = nI (w + 1) := by rw [i1, nI_add]
  cases hbs : bsd S c (pw w) with
  | none =>
    have hn : nxU S al (c * 256 + M) (pw w) = none := by unfold nxU; rw [show (c * 256 + M) / 256 = c by omega, hbs]
    have hcd : cdU S al pc D (c * 256 + M) (pw w) = none := by unfold cdU stq; rw [hn]; rfl
    rw [hcd] at k
    refine ok_t (show oI none < 0 by decide) ?_
    rw [f_X10_tellsWay_117, te_118, ew]
    exact ok_t rfl k
  | some t =>
    have ht := bsd_lt hw hc (pw_lt w) hbs
    have hM2 : M ||| ovA S al t < 256 := or_lt8 hM (ovA_lt ha)
    have hn : nxU S al (c * 256 + M) (pw w) = some (t * 256 + (M ||| ovA S al t)) := by unfold nxU; rw [show (c * 256 + M) / 256 = c by omega, show (c * 256 + M) % 256 = M by omega, hbs]
    have hV2 := nxU_V hw ha hV (pw_lt w) hn
    have dv := dN _ hV2
    have du := dN _ hV
    have pt := b.2.2.2.2.2.1 t ht
    have ew2 : wU pc (t * 256 + (M ||| ovA S al t)) = pc t := by unfold wU; rw [show (t * 256 + (M ||| ovA S al t)) / 256 = t by omega]
    rw [show oI (some t) = nI t from rfl]
    refine ok_f (by rw [i0, nI_ltI (by omega) (by omega)]; omega) ?_
    rw [s2.r29, s2.r6, m_campsOver b.1 b.2.1 hw (by omega), bd_s, bitsB_nb _ _ (by have := hw.2.2.2.2.1; omega), nI_and, nI_or, show nb (ocv S t) (S.1 2) &&& al = ovA S al t from rfl, m_state h (by omega) hM2, bd_s, s2.t14, s2.r30, s2.t15, m_state h (by omega) hM, bd_s, ix_nI (by omega), ix_nI (by omega), ix_nI (by omega), ya _ hV2, ya _ hV, b.2.2.2.2.2.2 t ht, nI_add]
    refine ok_gd (nz_t (by omega)) (ok_gd (nz_t (by omega)) (ok_gd (inb_nI (by omega) (by omega)) (ok_gd (nz_t (by omega)) (ok_gd (inb_nI (by omega) (by omega)) (ok_gd (inb_nI (by omega) (by omega)) ?_)))))
    have hq : stq (nxU S al) (wU pc) D (c * 256 + M) (pw w) = decide (D (t * 256 + (M ||| ovA S al t)) + pc t = D (c * 256 + M)) := by
      unfold stq; rw [hn]; simp only [ew2]
    refine ok_if (fun w1 => ?_) (fun w1 => ?_)
    · have w1' := nI_inj (by omega) (by omega) w1
      have hcd : cdU S al pc D (c * 256 + M) (pw w) = some t := by
        unfold cdU
        rw [if_pos (by rw [hq]; exact decide_eq_true w1'), hn]
        show some ((t * 256 + (M ||| ovA S al t)) / 256) = some t
        rw [show (t * 256 + (M ||| ovA S al t)) / 256 = t by omega]
      rw [hcd] at k
      rw [te_118, ew]
      refine ok_f (by decide) ?_
      cases o with
      | none => exact ok_t (show oI none < 0 by decide) k
      | some z =>
        have hz := ho z rfl
        rw [show oI (some z) = nI z from rfl]
        refine ok_f (by rw [i0, nI_ltI (by omega) (by omega)]; omega) ?_
        have k : Ok (f_X10_tellsWay_46 m x1 (nI al) k26 q h (nI c) (nI M) (oI (if t < z then some t else some z)) (nI (w + 1))) Q := k
        by_cases q2 : t < z
        · rw [if_pos q2] at k
          exact ok_f (by rw [nI_leI (by omega) (by omega)]; omega) k
        · rw [if_neg q2] at k
          exact ok_t (by rw [nI_leI (by omega) (by omega)]; omega) k
    · have w1' : ¬ D (t * 256 + (M ||| ovA S al t)) + pc t = D (c * 256 + M) := fun z => w1 (by rw [z])
      have hcd : cdU S al pc D (c * 256 + M) (pw w) = none := by
        unfold cdU
        rw [if_neg (by rw [hq, decide_eq_false w1']; decide)]
      rw [hcd] at k
      rw [f_X10_tellsWay_117, te_118, ew]
      exact ok_t rfl k
/-- the row of a way -/
def rowW (S : Fld) (al : Nat) (pc D : Nat → Nat) (u k : Nat) : List Int64 := (List.range k).map (fun i => (nI (pth (nxU S al) (wU pc) D u i / 256)).toInt64)
theorem rowW_s {u k : Nat} : rowW S al pc D u (k + 1) = rowW S al pc D u k ++ [(nI (pth (nxU S al) (wU pc) D u k / 256)).toInt64] := by
  unfold rowW; rw [List.range_succ, List.map_append]; rfl
theorem rowW_n {u k : Nat} : (rowW S al pc D u k).length = k := by unfold rowW; rw [List.length_map, List.length_range]
theorem Dt_y (e : EqP (Dt m) h h1) (b : LyB h m S al gc pc) : LyB h1 m S al gc pc := ⟨b.1.ep e (fun z => by unfold Dt at z; omega) (fun z => by unfold Dt at z; omega), b.2.1.ep e (fun k z => by unfold Dt at z; omega), b.2.2.1, b.2.2.2.1, b.2.2.2.2.1, b.2.2.2.2.2.1, fun c hc => by rw [e.1 _ _ (fun z => by unfold Dt at z; omega)]; exact b.2.2.2.2.2.2 c hc⟩
theorem yA.ep (e : EqP (Dt m) h h1) (y : yA h m S al D) : yA h1 m S al D := fun u hu => by rw [e.1 _ _ (fun z => by unfold Dt at z; omega)]; exact y u hu
theorem m_tellsWay (c : RM h m A n) (b : LyB h m (aS A) al gc pc) (ya : yA h m (aS A) al D) (y : Yt (VU (aS A) al) (nxU (aS A) al) (wU pc) (gc * 256 + al) D) {fr L : Nat} (hf : fr < ncl (aS A)) (a : Way (VU (aS A) al) (nxU (aS A) al) (wU pc) D (fr * 256 + ovA (aS A) al fr) L) (hL : L ≤ 127) : Ok (f_X10_tellsWay h m (nI fr) (nI al)) (fun o => o.1 = nI (L + 1) ∧ RM o.2 m (wT A (rowW (aS A) al pc D (fr * 256 + ovA (aS A) al fr) (L + 1))) n ∧ EqP (Dt m) h o.2) := by
  have hF := FU_big
  have hw := b.2.2.1
  have ha := b.2.2.2.1
  have hb := ncl_le hw
  have hN := NVR_e
  have b5 := hw.2.2.2.2.1
  have o256 := ovA_lt (S := aS A) (c := fr) ha
  rw [f_X10_tellsWay, c.s.r6, m_campsOver b.1 b.2.1 hw (by omega), bd_s, bitsB_nb _ _ (by omega), nI_and, show nb (ocv (aS A) fr) ((aS A).1 2) &&& al = ovA (aS A) al fr from rfl, lt_u]
  refine ok_gd (nz_t (by omega)) (r_t0 c (fun h5 c5 o5 => ok_bd (m_enters c5 (by simp [aT, wT, mkA]) _) (fun h6 ⟨c6, o6⟩ => ?_)))
  generalize hu0 : fr * 256 + ovA (aS A) al fr = u0 at a
  have e0 : fr = u0 / 256 := by omega
  have e1 : ovA (aS A) al fr = u0 % 256 := by omega
  rw [e1]
  have go : ∀ d q k h2, k + d = L → d < q → RM h2 m (wT A (rowW (aS A) al pc D u0 (k + 1))) n → EqP (Dt m) h h2 → Ok (f_X10_tellsWay_26 m (nI fr) (nI al) q h2 (nI (pth (nxU (aS A) al) (wU pc) D u0 k / 256)) (nI (pth (nxU (aS A) al) (wU pc) D u0 k % 256))) (fun o => o.1 = nI (L + 1) ∧ RM o.2 m (wT A (rowW (aS A) al pc D u0 (L + 1))) n ∧ EqP (Dt m) h o.2) := by
    intro d
    induction d with
    | zero =>
      intro q k h2 e1 e2 c2 o2
      obtain ⟨q, rfl⟩ : ∃ j, q = j + 1 := ⟨q - 1, by omega⟩
      have : k = L := by omega
      subst this
      have y2 := ya.ep o2
      have hV := (a.1 k (Nat.le_refl _)).1
      have h0 := a.2.1
      have hl := VU_lt hw hV
      simp only [f_X10_tellsWay_26, lt_u]
      generalize pth (nxU (aS A) al) (wU pc) D u0 k = v at hV h0 hl
      have hm := Nat.mod_lt v (show 0 < 256 by omega)
      rw [c2.s.r29, m_state h2 (by omega) hm, bd_s, c2.s.t14, ix_nI (by omega), Nat.div_add_mod' v 256, y2 v hV, h0]
      refine ok_gd (nz_t (by omega)) (ok_gd (inb_nI (by omega) (by omega)) (ok_t (by decide) (ok_some ⟨?_, c2, o2⟩)))
      have := c2.t.1
      rw [this]
      show nI (rowW (aS A) al pc D u0 (k + 1)).length = _
      rw [rowW_n]
    | succ d ih =>
      intro q k h2 e1 e2 c2 o2
      obtain ⟨q, rfl⟩ : ∃ j, q = j + 1 := ⟨q - 1, by omega⟩
      have y2 := ya.ep o2
      have b2 := Dt_y o2 b
      have hV := (a.1 k (by omega)).1
      have h1N := (a.1 k (by omega)).2
      have h0 := a.2.2 k (by omega)
      have hl := VU_lt hw hV
      obtain ⟨s, hs, hv, _, _, _⟩ := a.st y (k := k) (by omega)
      have hV3 := (a.1 (k + 1) (by omega)).1
      have hl3 := VU_lt hw hV3
      have cd := cd_4 hw ha y hV h0 h1N
      have nx2 := (nxU_s ha hv).2
      have ep1 : nxt (nxU (aS A) al) (wU pc) D (pth (nxU (aS A) al) (wU pc) D u0 k) = pth (nxU (aS A) al) (wU pc) D u0 (k + 1) := rfl
      rw [ep1] at cd
      have ihh := ih q (k + 1)
      simp only [f_X10_tellsWay_26, lt_u]
      have rs := rowW_s (S := aS A) (al := al) (pc := pc) (D := D) (u := u0) (k := k + 1)
      generalize pth (nxU (aS A) al) (wU pc) D u0 (k + 1) = z at *
      generalize pth (nxU (aS A) al) (wU pc) D u0 k = v at *
      have hm := Nat.mod_lt v (show 0 < 256 by omega)
      have ev : v / 256 * 256 + v % 256 = v := Nat.div_add_mod' v 256
      have dv := y.2.1 v hV
      rw [c2.s.r29, m_state h2 (by omega) hm, bd_s, c2.s.t14, ix_nI (by omega), ev, y2 v hV]
      refine ok_gd (nz_t (by omega)) (ok_gd (inb_nI (by omega) (by omega)) (ok_f (by rw [i0, nI_leI (by omega) (by omega)]; omega) ?_))
      obtain ⟨f5, hf5⟩ : ∃ f5, FU = f5 + 1 + 1 + 1 + 1 + 1 := ⟨FU - 5, by omega⟩
      rw [hf5, show (-1 : Int32) = oI none from rfl, i0]
      have hV' : VU (aS A) al (v / 256 * 256 + v % 256) := by rw [ev]; exact hV
      have hcd : ∀ s y, s < 4 → cdU (aS A) al pc D (v / 256 * 256 + v % 256) s = some y → y < 100 := fun s y hs e => by
        unfold cdU at e
        by_cases q : stq (nxU (aS A) al) (wU pc) D (v / 256 * 256 + v % 256) s = true
        · rw [if_pos q] at e
          cases e2 : nxU (aS A) al (v / 256 * 256 + v % 256) s with
          | none => rw [e2] at e; cases e
          | some x =>
            rw [e2] at e
            have e3 : x / 256 = y := Option.some.inj e
            have := nxU_V hw ha hV' hs e2
            have := this.1
            omega
        · rw [if_neg q] at e; cases e
      have mg : ∀ o s, s < 4 → (∀ y, o = some y → y < 100) → ∀ y, mnO o (cdU (aS A) al pc D (v / 256 * 256 + v % 256) s) = some y → y < 100 := fun o s hs h3 y hy => by
        cases e : cdU (aS A) al pc D (v / 256 * 256 + v % 256) s with
        | none => rw [e] at hy; exact h3 y hy
        | some t =>
          rw [e] at hy
          have ht := hcd s t hs e
          cases o with
          | none => have := Option.some.inj hy; omega
          | some x =>
            have hy : (if t < x then some t else some x) = some y := hy
            have hx := h3 x rfl
            by_cases q : t < x
            · rw [if_pos q] at hy; have := Option.some.inj hy; omega
            · rw [if_neg q] at hy; have := Option.some.inj hy; omega
      have g0 := mg none (pw 0) (pw_lt _) (fun y z => by cases z)
      have g1 := mg _ (pw 1) (pw_lt _) g0
      have g2 := mg _ (pw 2) (pw_lt _) g1
      refine te_s b2 y2 y.2.1 hV' hm (o := none) (fun y z => by cases z) (w := 0) (by omega) ?_
      refine te_s b2 y2 y.2.1 hV' hm g0 (w := 1) (by omega) ?_
      refine te_s b2 y2 y.2.1 hV' hm g1 (w := 2) (by omega) ?_
      refine te_s b2 y2 y.2.1 hV' hm g2 (w := 3) (by omega) ?_
      rw [show pw 0 = 0 from rfl, show pw 1 = 2 from rfl, show pw 2 = 3 from rfl, show pw 3 = 1 from rfl, ev, cd]
      clear g0 g1 g2 mg hcd hf5
      simp only [f_X10_tellsWay_46, lt_u]
      rw [show oI (some (z / 256)) = nI (z / 256) from rfl]
      refine ok_t (by decide) ?_
      rw [c2.s.r6, m_campsOver b2.1 b2.2.1 hw (by omega), bd_s, bitsB_nb _ _ (by omega), nI_and, nI_or, show nb (ocv (aS A) (z / 256)) ((aS A).1 2) &&& al = ovA (aS A) al (z / 256) from rfl, ← nx2]
      refine ok_gd (nz_t (by omega)) (ok_bd (m_enters c2 ?_ _) (fun h17 ⟨c17, o17⟩ => ?_))
      · show (rowW (aS A) al pc D u0 (k + 1)).length < 128
        rw [rowW_n]; omega
      · refine ihh h17 (by omega) (by omega) ?_ (o2.tr o17)
        rw [rs]
        exact c17
  have hp0 : pth (nxU (aS A) al) (wU pc) D u0 0 = u0 := rfl
  have g0 := go L FU 0 h6 (by omega) (by omega) (by
    have : rowW (aS A) al pc D u0 (0 + 1) = [(nI fr).toInt64] := by
      unfold rowW
      show [(nI (pth (nxU (aS A) al) (wU pc) D u0 0 / 256)).toInt64] = _
      rw [hp0, ← e0]
    rw [this]
    exact c6) (o5.tr o6)
  rw [hp0, ← e0] at g0
  exact g0
end RTELL
