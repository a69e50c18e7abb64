/-! ways: the class's shortest way, its loops -/
def ncU (S : Fld) (al : Nat) (ob : Nat → Bool) (u s : Nat) : Option Nat := match nxU S al u s with
  | some v => if ob (v / 256) = true then some v else none
  | none => none
theorem ncU_n {S : Fld} {al : Nat} {ob : Nat → Bool} {u s v : Nat} (h : ncU S al ob u s = some v) : nxU S al u s = some v ∧ ob (v / 256) = true := by
  unfold ncU at h
  cases e : nxU S al u s with
  | none => rw [e] at h; cases h
  | some x =>
    rw [e] at h
    simp only at h
    by_cases q : ob (x / 256) = true
    · rw [if_pos q] at h
      have := Option.some.inj h
      subst this
      exact ⟨rfl, q⟩
    · rw [if_neg q] at h; cases h
theorem Bq.n9 {S : Fld} (hw : wfF S) {al : Nat} {nc : Nat → Nat → Option Nat} {a n i s : Nat} {q pr dp : Nat → Nat} (b : Bq (VU S al) nc a q pr dp n i s) : n ≤ 9216 := inj_le 9216 n q (fun j hj => VU_lt hw (b.2.1 j hj)) (fun j k h1 h2 => b.2.2.1 j k h1 h2)
theorem Bq.full {S : Fld} (hw : wfF S) {al : Nat} {nc : Nat → Nat → Option Nat} {a n i s v : Nat} {q pr dp : Nat → Nat} (b : Bq (VU S al) nc a q pr dp n i s) (hv : VU S al v) (hn : n = 9216) : ∃ j, j < n ∧ q j = v := by
  cases e : qBit q n (v % 256) (v / 256) with
  | true =>
    obtain ⟨j, h1, h2⟩ := qBit_t.mp e
    exact ⟨j, h1, by rw [h2]; exact Nat.div_add_mod' v 256⟩
  | false =>
    exfalso
    have hf := qBit_f.mp e
    rw [Nat.div_add_mod' v 256] at hf
    have := inj_le 9216 (n + 1) (upN q n v) (fun j hj => ?_) (fun j k h1 h2 => ?_)
    · omega
    · unfold upN
      by_cases w : j = n
      · rw [if_pos w]; exact VU_lt hw hv
      · rw [if_neg w]; exact VU_lt hw (b.2.1 j (by omega))
    · unfold upN
      by_cases w : k = n
      · rw [if_neg (by omega), if_pos w]; exact hf j (by omega)
      · rw [if_neg (by omega), if_neg w]; exact b.2.2.1 j k h1 (by omega)
def IvQ (h0 : Hp) (S : Fld) (al : Nat) (ob : Nat → Bool) (u0 g : Nat) (h : Hp) (q pr dp : Nat → Nat) (n i s : Nat) : Prop := HQ h S al q pr n ∧ Bq (VU S al) (ncU S al ob) u0 q pr dp n i s ∧ (∀ j, j < i → q j ≠ g) ∧ EqOff FW h0 h ∧ pr 0 = 0
theorem FW_s {h h1 : Hp} (e : EqOff FW h h1) : EqOff Fs h h1 := e.mono (fun x z => by unfold FW at z; unfold Fs; omega)
section CSHORT
variable {h h0 : Hp} {A : Ast} {al u0 g : Nat} {ob : Nat → Bool} {op : Int64}
theorem sh_133 (rc : RC h0 A) (hw : wfF (aS A)) (ha : al < 256) (hob : ∀ c, c < ncl (aS A) → ((lg_cmp (shr64 op (nI c) &&& 1) 0 = 0) ↔ ob c = false)) {k62 : Hp → Int32 → Int32 → Option (Int32 × Hp)} {Q : Int32 × Hp → Prop} {x2 x3 x4 : Int32} {i c M : Nat} (hM : M < 256) (k : ∀ h3 q pr dp n, IvQ h0 (aS A) al ob u0 g h3 q pr dp n (i + 1) 0 → i + 1 ≤ n → Ok (k62 h3 (nI n) (nI (i + 1))) Q) : ∀ d f s h2 q pr dp n, s + d = 4 → d < f → IvQ h0 (aS A) al ob u0 g h2 q pr dp n i s → i < n → q i = c * 256 + M → q i ≠ g → Ok (f_X8_shortest_133 170 6 x2 x3 x4 op 4 k62 f h2 (nI n) (nI i) (nI c) (nI M) (nI s)) Q := by
  have hb := ncl_le hw
  intro d
  induction d with
  | zero =>
    intro f s h2 q pr dp n e1 e2 iv hi hq hg
    obtain ⟨f, rfl⟩ : ∃ j, f = j + 1 := ⟨f - 1, by omega⟩
    have : s = 4 := by omega
    subst this
    simp only [f_X8_shortest_133, lt_u]
    rw [i1, nI_add]
    refine ok_t (by decide) (k h2 q pr dp n ⟨iv.1, iv.2.1.up, fun j hj => ?_, iv.2.2.2⟩ hi)
    by_cases w : j = i
    · rw [w]; exact hg
    · exact iv.2.2.1 j (by omega)
  | succ d ih =>
    intro f s h2 q pr dp n e1 e2 iv hi hq hg
    obtain ⟨f, rfl⟩ : ∃ j, f = j + 1 := ⟨f - 1, by omega⟩
    have n9 := iv.2.1.n9 hw
    have V1 := iv.2.1.2.1 i hi
    have hc : c < ncl (aS A) := by
      have := V1.1
      rw [hq, show (c * 256 + M) / 256 = c by omega] at this
      exact this
    have c2 : RC h2 A := rc.scr (FW_s iv.2.2.2.1)
    simp only [f_X8_shortest_133, lt_u]
    rw [p_beside c2.n hw hc (by omega), bd_s]
    refine ok_f (by rw [show (4 : Int32) = nI 4 by decide, nI_leI (by omega) (by omega)]; omega) ?_
    have ew : nI s + (1 : Int32) = nI (s + 1) := by rw [i1, nI_add]
    have old : (∀ v, ncU (aS A) al ob (q i) s = some v → ∃ k, k < n ∧ q k = v) → Ok (f_X8_shortest_181 170 6 x2 x3 x4 op 4 k62 (f_X8_shortest_133 170 6 x2 x3 x4 op 4 k62 f) h2 (nI n) (nI i) (nI c) (nI M) (nI s)) Q := fun ho => by
      rw [f_X8_shortest_181, lt_u, ew]
      exact ih f (s + 1) h2 q pr dp n (by omega) (by omega) ⟨iv.1, iv.2.1.old ho, iv.2.2⟩ hi hq hg
    cases hbs : bsd (aS A) c s with
    | none =>
      refine ok_t (show oI none = (-1 : Int32) from rfl) (old (fun v hv => ?_))
      have := (ncU_n hv).1
      unfold nxU at this
      rw [hq, show (c * 256 + M) / 256 = c by omega, hbs] at this
      cases this
    | some t =>
      have ht := bsd_lt hw hc (show s < 4 by omega) hbs
      have hn : nxU (aS A) al (q i) s = some (t * 256 + (M ||| ovA (aS A) al t)) := by unfold nxU; rw [hq, show (c * 256 + M) / 256 = c by omega, show (c * 256 + M) % 256 = M by omega, hbs]
      have hM2 : M ||| ovA (aS A) al t < 256 := or_lt8 hM (ovA_lt ha)
      have V2 := nxU_V hw ha V1 (show s < 4 by omega) hn
      have et : (t * 256 + (M ||| ovA (aS A) al t)) / 256 = t := by omega
      rw [show oI (some t) = nI t from rfl]
      refine ok_f (nI_n1 (by omega)) (ok_if (fun w => ?_) (fun w => ?_))
      · rw [hob t ht] at w
        refine old (fun v hv => ?_)
        obtain ⟨z1, z2⟩ := ncU_n hv
        rw [hn] at z1
        rw [← Option.some.inj z1, et, w] at z2
        cases z2
      · rw [hob t ht] at w
        have ob1 : ob t = true := by
          cases e : ob t with
          | true => rfl
          | false => exact absurd e w
        have hnc : ncU (aS A) al ob (q i) s = some (t * 256 + (M ||| ovA (aS A) al t)) := by
          unfold ncU
          rw [hn]
          simp only [et]
          rw [if_pos ob1]
        refine ok_bd (c_reach c2.s hw ha iv.1 ht hM n9 (fun e => iv.2.1.full hw V2 e)) (fun o ho => ?_)
        rcases ho with ⟨hj, rfl⟩ | ⟨hne, hn2, o1, o2, o3⟩
        · exact old (fun v hv => by rw [hnc] at hv; rw [← Option.some.inj hv]; exact hj)
        · rw [f_X8_shortest_181, lt_u, ew, o1]
          have up : ∀ f j, j < n → ∀ x, upN f n x j = f j := fun f j hj x => by unfold upN; rw [if_neg (by omega)]
          have un : ∀ f x, upN f n x n = x := fun f x => by unfold upN; rw [if_pos rfl]
          refine ih f (s + 1) o.2 _ _ (upN dp n (dp i + 1)) (n + 1) (by omega) (by omega) ⟨o2, iv.2.1.new hi (by omega) hnc V2 hne (fun j hj => up q j hj _) (fun j hj => up pr j hj _) (fun j hj => up dp j hj _) (un q _) (un pr _) (un dp _), fun j hj => ?_, iv.2.2.2.1.tr o3, ?_⟩ (by omega) ?_ ?_
          · rw [up q j (by omega)]; exact iv.2.2.1 j hj
          · rw [up pr 0 (by omega)]; exact iv.2.2.2.2
          · rw [up q i hi]; exact hq
          · rw [up q i hi]; exact hg
theorem sh_62 (rc : RC h0 A) (hw : wfF (aS A)) (ha : al < 256) (hob : ∀ c, c < ncl (aS A) → ((lg_cmp (shr64 op (nI c) &&& 1) 0 = 0) ↔ ob c = false)) {Q : Int32 × Hp → Prop} {x2 : Int32} {gc : Nat} (hgc : gc < ncl (aS A)) (hg : g = gc * 256 + al) (hfound : ∀ h2 q pr dp n i, IvQ h0 (aS A) al ob u0 g h2 q pr dp n i 0 → i < n → q i = g → Ok ((f_X8_tellWay h2 170 (nI i) 4).bind fun q25 => some (q25.1, q25.2)) Q) (hnone : ∀ h2 q pr dp n, IvQ h0 (aS A) al ob u0 g h2 q pr dp n n 0 → Q (-2, h2)) : ∀ d f i h2 q pr dp n, i + d = 9217 → d < f → IvQ h0 (aS A) al ob u0 g h2 q pr dp n i 0 → i ≤ n → Ok (f_X8_shortest_62 170 6 x2 (nI gc) (nI al) op 4 f h2 (nI n) (nI i)) Q := by
  have hF := FU_big
  have hb := ncl_le hw
  intro d
  induction d with
  | zero =>
    intro f i h2 q pr dp n e1 e2 iv hi
    have n9 := iv.2.1.n9 hw
    omega
  | succ d ih =>
    intro f i h2 q pr dp n e1 e2 iv hi
    obtain ⟨f, rfl⟩ : ∃ j, f = j + 1 := ⟨f - 1, by omega⟩
    have n9 := iv.2.1.n9 hw
    have c2 : RC h2 A := rc.scr (FW_s iv.2.2.2.1)
    simp only [f_X8_shortest_62, lt_u]
    by_cases w : n ≤ i
    · have : i = n := by omega
      subst this
      exact ok_t (Int32.le_refl _) (ok_some (hnone h2 q pr dp i iv))
    · refine ok_f (by rw [nI_leI (by omega) (by omega)]; exact w) ?_
      have hi2 : i < n := by omega
      have V1 := iv.2.1.2.1 i hi2
      have l1 := VU_lt hw V1
      have hp : pr i < 9216 := by
        by_cases e : i = 0
        · rw [e, iv.2.2.2.2]; omega
        · have := (iv.2.1.2.2.2.1 i (by omega) hi2).1
          omega
      rw [c2.s.r170_0, c2.s.t171, ix_nI (by omega), iv.1.1 i hi2, show (16384 : Int32) = nI 16384 by decide, rm_nI (by omega) (by omega) (by omega), show (pr i * 16384 + q i) % 16384 = q i by omega, show (256 : Int32) = nI 256 by decide, pk_div (by omega) (by omega) (by omega), rm_nI (by omega) (by omega) (by omega)]
      refine ok_gd (by decide) (ok_f (by rw [nI_leI (by omega) (by omega)]; omega) (ok_gd (inb_nI (by omega) (by omega)) ?_))
      have hm := Nat.mod_lt (q i) (show 0 < 256 by omega)
      have go : q i ≠ g → Ok (f_X8_shortest_130 170 6 x2 (nI gc) (nI al) op 4 (f_X8_shortest_62 170 6 x2 (nI gc) (nI al) op 4 f) h2 (nI n) (nI i) (nI (q i / 256)) (nI (q i % 256))) Q := fun hne => by
        rw [f_X8_shortest_130, i0]
        exact sh_133 rc hw ha hob hm (fun h3 q3 pr3 dp3 n3 iv3 l3 => ih f (i + 1) h3 q3 pr3 dp3 n3 (by omega) (by omega) iv3 l3) 4 FU 0 h2 q pr dp n (by omega) (by omega) iv hi2 (Nat.div_add_mod' (q i) 256).symm hne
      refine ok_if (fun w1 => ok_if (fun w2 => ?_) (fun w2 => go ?_)) (fun w1 => go ?_)
      · have w1 := nI_inj (by omega) (by omega) w1
        have w2 := nI_inj (by omega) (by omega) w2
        exact hfound h2 q pr dp n i iv hi2 (by omega)
      · intro e
        exact w2 (by rw [show q i % 256 = al by omega])
      · intro e
        exact w1 (by rw [show q i / 256 = gc by omega])
theorem c_short (rc : RC h A) (hw : wfF (aS A)) (ha : al < 256) (hob : ∀ c, c < ncl (aS A) → ((lg_cmp (shr64 op (nI c) &&& 1) 0 = 0) ↔ ob c = false)) {Q : Int32 × Hp → Prop} {fr gc : Nat} (hfr : fr < ncl (aS A)) (hgc : gc < ncl (aS A)) (hfound : ∀ h0 h2 q pr dp n i, RC h0 A → EqOff Fs h h0 → IvQ h0 (aS A) al ob (fr * 256 + ovA (aS A) al fr) (gc * 256 + al) h2 q pr dp n i 0 → i < n → q i = gc * 256 + al → Ok ((f_X8_tellWay h2 170 (nI i) 4).bind fun q25 => some (q25.1, q25.2)) Q) (hnone : ∀ h0 h2 q pr dp n, RC h0 A → EqOff Fs h h0 → IvQ h0 (aS A) al ob (fr * 256 + ovA (aS A) al fr) (gc * 256 + al) h2 q pr dp n n 0 → Q (-2, h2)) : Ok (f_X8_shortest h 170 6 (nI fr) (nI gc) (nI al) op 4) Q := by
  have hF := FU_big
  have hb := ncl_le hw
  have b5 := hw.2.2.2.2.1
  rw [f_X8_shortest, rc.s.r170_1]
  refine ok_gd (by decide) (ok_bd (c_fill rc.s) (fun h3 ⟨z1, z2⟩ => ?_))
  have c3 : RC h3 A := rc.scr (FW_s z2)
  have fin : ∀ s, EqOff (fun x => x = 173) h3 s → (∀ j, j < ncl (aS A) → hpI s 173 j = nI (ovA (aS A) al j)) → Ok (f_X8_shortest_49 170 6 (nI fr) (nI gc) (nI al) op 4 s) Q := fun s v1 v2 => by
    have es : EqOff Fs h3 s := v1.mono (fun x z => by unfold Fs; omega)
    have cs : RC s A := c3.scr es
    have H0 : HQ s (aS A) al (fun _ => 0) (fun _ => 0) 0 := by
      refine ⟨fun j hj => absurd hj (Nat.not_lt_zero j), fun M hM => ?_, v2⟩
      rw [v1.2.1 _ _ (by omega), z1 M hM]
      have : nb (qBit (fun _ => 0) 0 M) 36 = 0 := by
        apply Nat.eq_of_testBit_eq
        intro k
        rw [nb_bit, Nat.zero_testBit, show qBit (fun _ => 0) 0 M k = false from qBit_f.mpr (fun j hj => absurd hj (Nat.not_lt_zero j)), Bool.and_false]
      rw [this]; rfl
    rw [f_X8_shortest_49, i0]
    refine ok_bd (c_reach cs.s hw ha H0 hfr (show 0 < 256 by omega) (by omega) (fun e => by omega)) (fun o ho => ?_)
    rcases ho with ⟨⟨j, hj, _⟩, _⟩ | ⟨_, _, o1, o2, o3⟩
    · exact absurd hj (Nat.not_lt_zero j)
    · rw [o1, Nat.zero_or] at *
      have V0 := (VU_st (S := aS A) (fr := fr) ha hfr).1
      refine sh_62 (h0 := s) cs hw ha hob hgc rfl (fun h2 q pr dp n i => hfound s h2 q pr dp n i cs ((FW_s z2).tr es)) (fun h2 q pr dp n => hnone s h2 q pr dp n cs ((FW_s z2).tr es)) 9217 FU 0 o.2 _ _ (fun _ => 0) (0 + 1) (by omega) (by omega) ⟨o2, Bq.ini V0 ?_ rfl, fun j hj => absurd hj (Nat.not_lt_zero j), o3, ?_⟩ (by omega)
      · unfold upN; rw [if_pos rfl]
      · unfold upN; rw [if_pos rfl]
  rw [i0]
  refine okl (fun q s i => f_X8_shortest_11 170 6 (nI fr) (nI gc) (nI al) op 4 q s i) (ncl (aS A)) (fun i s => EqOff (fun x => x = 173) h3 s ∧ ∀ j, j < i → hpI s 173 j = nI (ovA (aS A) al j)) _ (fun q i s hi ⟨v1, v2⟩ k => ?_) (fun q s ⟨v1, v2⟩ => ?_) (ncl (aS A)) FU 0 h3 (by omega) (by omega) ⟨EqOff.rf, fun j hj => absurd hj (Nat.not_lt_zero j)⟩
  · have cs : RC s A := c3.scr (v1.mono (fun x z => by unfold Fs; omega))
    simp only [f_X8_shortest_11, lt_u]
    rw [p_cells cs.n, bd_s, cs.s.r170_2, p_onOver cs.n hw (by omega), bd_s, bitsB_nb _ _ (by omega), nI_and, cs.s.t173, ix_nI (by omega), i1, nI_add]
    refine ok_f (by rw [nI_leI (by omega) (by omega)]; omega) (ok_f (by rw [show (36 : Int32) = nI 36 by decide, nI_leI (by omega) (by omega)]; omega) (ok_gd (by decide) (ok_gd (inb_nI (by omega) (by omega)) (k _ ⟨v1.tr (EqOff.uI rfl), fun j hj => ?_⟩))))
    rw [hpI_upI]
    by_cases e : j = i
    · rw [if_pos ⟨rfl, e⟩, e]; rfl
    · rw [if_neg (fun z => e z.2)]; exact v2 j (by omega)
  · have cs : RC s A := c3.scr (v1.mono (fun x z => by unfold Fs; omega))
    simp only [f_X8_shortest_11, lt_u]
    rw [p_cells cs.n, bd_s]
    exact ok_t (Int32.le_refl _) (fin s v1 v2)
end CSHORT
