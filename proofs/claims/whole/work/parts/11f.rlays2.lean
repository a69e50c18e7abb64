/-! ways: the reference lays out, to the end -/
theorem FU_huge : 9216000002 < FU := by decide
section RLAYT
variable {h : Hp} {m : Nat} {S : Fld} {al gc : Nat} {pc : Nat → Nat}
theorem PsY.go {h0 h2 : Hp} {D0 : Nat → Nat} {K u0 u1 : Nat} {mo : Bool} (p : PsY h0 m S al gc pc D0 K u0 0 mo h2) (hu : ∀ u, VU S al u → u < u1 → u < u0) : PsY h0 m S al gc pc D0 K u1 0 mo h2 := by
  obtain ⟨p1, D, p2, p3, p4, p5⟩ := p
  refine ⟨p1, D, p2, p3, p4, fun e => ⟨(p5 e).1, fun u s v h1 h2 h3 h4 => ?_⟩⟩
  rcases h3 with q | ⟨_, w, q, _⟩
  · exact (p5 e).2 u s v h1 h2 (Or.inl (hu u h1 q)) h4
  · exact absurd q (Nat.not_lt_zero _)
theorem ps_83 {h0 : Hp} (b : LyB h0 m S al gc pc) {D0 : Nat → Nat} {k62 : Hp → Int32 → Option Hp} {k71 : Hp → Int32 → Int32 → Option Hp} {Q : Hp → Prop} {c K : Nat} (hc : c < ncl S) (hK : 9216 ≤ K) (k : ∀ mo h3, PsY h0 m S al gc pc D0 K ((c + 1) * 256) 0 mo h3 → Ok (k71 h3 (nB mo) (nI (c + 1))) Q) : ∀ d n M mo h2, M + d = al + 1 → d < n → PsY h0 m S al gc pc D0 K (c * 256 + M) 0 mo h2 → Ok (f_X10_laysYet_83 m (nI gc) (nI al) k62 k71 n h2 (nB mo) (nI c) (nI M)) Q := by
  have hF := FU_big
  have ha := b.2.2.2.1
  have hb := ncl_le b.2.2.1
  intro d
  induction d with
  | zero =>
    intro n M mo h2 e1 e2 p
    obtain ⟨n, rfl⟩ : ∃ j, n = j + 1 := ⟨n - 1, by omega⟩
    simp only [f_X10_laysYet_83, lt_u]
    rw [i1, nI_add]
    refine ok_t (by rw [nI_ltI (by omega) (by omega)]; omega) (k mo h2 (p.go (fun u hu hl => ?_)))
    have : u % 256 ≤ al := by rw [← hu.2]; exact Nat.and_le_right
    omega
  | succ d ih =>
    intro n M mo h2 e1 e2 p
    obtain ⟨n, rfl⟩ : ∃ j, n = j + 1 := ⟨n - 1, by omega⟩
    simp only [f_X10_laysYet_83, lt_u]
    refine ok_f (by rw [nI_ltI (by omega) (by omega)]; omega) ?_
    exact ps_92 b hc (by omega) hK (fun mo h3 p3 => ih n (M + 1) mo h3 (by omega) (by omega) (by rw [← Nat.add_assoc]; exact p3)) 4 FU 0 mo h2 (by omega) (by omega) p
theorem ps_71 {h0 : Hp} (b : LyB h0 m S al gc pc) {D0 : Nat → Nat} {k62 : Hp → Int32 → Option Hp} {Q : Hp → Prop} {K : Nat} (hK : 9216 ≤ K) (k : ∀ mo h3, PsY h0 m S al gc pc D0 K (ncl S * 256) 0 mo h3 → Ok (k62 h3 (nB mo)) Q) : ∀ d n c mo h2, c + d = ncl S → d < n → PsY h0 m S al gc pc D0 K (c * 256) 0 mo h2 → Ok (f_X10_laysYet_71 m (nI gc) (nI al) k62 n h2 (nB mo) (nI c)) Q := by
  have hF := FU_big
  have ha := b.2.2.2.1
  have hb := ncl_le b.2.2.1
  intro d
  induction d with
  | zero =>
    intro n c mo h2 e1 e2 p
    obtain ⟨n, rfl⟩ : ∃ j, n = j + 1 := ⟨n - 1, by omega⟩
    simp only [f_X10_laysYet_71, lt_u]
    rw [m_cells (b.ep p.1).1, bd_s]
    have : c = ncl S := by omega
    subst this
    exact ok_t (Int32.le_refl _) (k mo h2 p)
  | succ d ih =>
    intro n c mo h2 e1 e2 p
    obtain ⟨n, rfl⟩ : ∃ j, n = j + 1 := ⟨n - 1, by omega⟩
    simp only [f_X10_laysYet_71, lt_u]
    rw [m_cells (b.ep p.1).1, bd_s]
    refine ok_f (by rw [nI_leI (by omega) (by omega)]; omega) ?_
    exact ps_83 b (show c < ncl S by omega) hK (fun mo h3 p3 => ih n (c + 1) mo h3 (by omega) (by omega) p3) (al + 1) FU 0 mo h2 (by omega) (by omega) (by rw [Nat.add_zero]; exact p)
theorem ps_one {h0 : Hp} (b : LyB h0 m S al gc pc) {K : Nat} (hK : 9216 ≤ K) {D : Nat → Nat} {h2 : Hp} {k62 : Hp → Int32 → Option Hp} {Q : Hp → Prop} (o2 : EqP (Dy m) h0 h2) (y2 : yA h2 m S al D) (k2 : wk3 (VU S al) (nxU S al) (wU pc) (gc * 256 + al) D) (k : ∀ mo h3, PsY h0 m S al gc pc D K (ncl S * 256) 0 mo h3 → Ok (k62 h3 (nB mo)) Q) : Ok (f_X10_laysYet_71 m (nI gc) (nI al) k62 FU h2 0 0) Q := by
  have hF := FU_big
  have hb := ncl_le b.2.2.1
  have := ps_71 b (D0 := D) hK k (ncl S) FU 0 false h2 (by omega) (by omega) ⟨o2, D, y2, k2, (fun e => by cases e), fun _ => ⟨rfl, fun u s v _ _ z _ => by rcases z with z | ⟨_, w, z, _⟩ <;> omega⟩⟩
  rw [show nB false = (0 : Int32) by decide, show nI 0 = (0 : Int32) by decide] at this
  exact this
theorem ps_end {h0 h3 : Hp} {K n : Nat} {D : Nat → Nat} (hn : 0 < n) (p : PsY h0 m S al gc pc D K (ncl S * 256) 0 false h3) : Ok (f_X10_laysYet_62 m (nI gc) (nI al) n h3 (nB false)) (fun h1 => EqP (Dy m) h0 h1 ∧ ∃ D, Yt (VU S al) (nxU S al) (wU pc) (gc * 256 + al) D ∧ yA h1 m S al D) := by
  obtain ⟨p1, D2, p2, p3, p4, p5⟩ := p
  obtain ⟨q1, q2⟩ := p5 rfl
  subst q1
  obtain ⟨n, rfl⟩ : ∃ j, n = j + 1 := ⟨n - 1, by omega⟩
  simp only [f_X10_laysYet_62, lt_u]
  have im : ∀ u s v, VU S al u → s < 4 → nxU S al u s = some v → D2 u ≤ D2 v + wU pc v := fun u s v hu hs hv => q2 u s v hu hs (Or.inl (by have := hu.1; omega)) hv
  refine ok_t (show nB false = 0 by decide) (ok_some ⟨p1, D2, ⟨p3.1, p3.2.1, im, fun u hu hl => ?_⟩, p2⟩)
  rcases p3.2.2 u hu hl with e | ⟨s, v, h1, h2, h3⟩
  · exact Or.inl e
  · exact Or.inr ⟨s, v, h1, h2, by have := im u s v hu h1 h2; omega⟩
theorem ps_62s {h2 : Hp} {n : Nat} {Q : Hp → Prop} {x : Int32} (hx : ¬ x = 0) (hk : Ok (f_X10_laysYet_71 m (nI gc) (nI al) (f_X10_laysYet_62 m (nI gc) (nI al) n) FU h2 0 0) Q) : Ok (f_X10_laysYet_62 m (nI gc) (nI al) (n + 1) h2 x) Q := by
  simp only [f_X10_laysYet_62, lt_u]
  exact ok_f hx hk
theorem ps_62 {h0 : Hp} (b : LyB h0 m S al gc pc) {K : Nat} (hK : 9216 ≤ K) : ∀ N n D h2, nsum D K ≤ N → N + 1 < n → EqP (Dy m) h0 h2 → yA h2 m S al D → wk3 (VU S al) (nxU S al) (wU pc) (gc * 256 + al) D → Ok (f_X10_laysYet_62 m (nI gc) (nI al) n h2 (nB true)) (fun h1 => EqP (Dy m) h0 h1 ∧ ∃ D, Yt (VU S al) (nxU S al) (wU pc) (gc * 256 + al) D ∧ yA h1 m S al D) := by
  intro N
  induction N with
  | zero =>
    intro n D h2 e1 e2 o2 y2 k2
    obtain ⟨n, rfl⟩ : ∃ j, n = j + 1 := ⟨n - 1, by omega⟩
    refine ps_62s (show ¬ nB true = 0 by decide) (ps_one b hK o2 y2 k2 (fun mo h3 p3 => ?_))
    cases mo with
    | true =>
      obtain ⟨p1, D2, p2, p3, p4, p5⟩ := p3
      have := p4 rfl
      omega
    | false => exact ps_end (by omega) p3
  | succ N ih =>
    intro n D h2 e1 e2 o2 y2 k2
    obtain ⟨n, rfl⟩ : ∃ j, n = j + 1 := ⟨n - 1, by omega⟩
    refine ps_62s (show ¬ nB true = 0 by decide) (ps_one b hK o2 y2 k2 (fun mo h3 p3 => ?_))
    cases mo with
    | true =>
      obtain ⟨p1, D2, p2, p3, p4, p5⟩ := p3
      have := p4 rfl
      exact ih n D2 h3 (by omega) (by omega) p1 p2 p3
    | false => exact ps_end (by omega) p3
theorem m_laysYet (b : LyB h m S al gc pc) : Ok (f_X10_laysYet h m (nI gc) (nI al)) (fun h1 => EqP (Dy m) h h1 ∧ ∃ D, Yt (VU S al) (nxU S al) (wU pc) (gc * 256 + al) D ∧ yA h1 m S al D) := by
  have hF := FU_huge
  have ha := b.2.2.2.1
  have hb := ncl_le b.2.2.1
  have hN := NVR_e
  rw [f_X10_laysYet]
  refine okl (fun q s i => f_X10_laysYet_2 m (nI gc) (nI al) q s i) (ncl S) (fun c s => FiY h m gc al c 0 s) _ (fun q c s2 hc f k => ?_) (fun q s2 f => ?_) (ncl S) FU 0 h (by omega) (by omega) ⟨EqP.rf, fun u hu _ => by omega⟩
  · simp only [f_X10_laysYet_2, lt_u]
    rw [m_cells (b.ep f.1).1, bd_s]
    refine ok_f (by rw [nI_leI (by omega) (by omega)]; omega) ?_
    exact fi_13 b hc (al + 1) FU 0 s2 (by omega) (by omega) f (fun h3 f3 => k h3 f3)
  · simp only [f_X10_laysYet_2, lt_u]
    rw [m_cells (b.ep f.1).1, bd_s]
    refine ok_t (Int32.le_refl _) ?_
    obtain ⟨K, hK⟩ : ∃ K, K = 9216 := ⟨_, rfl⟩
    have ns : nsum (yD0 gc al) K ≤ K * NVR := nsum_le K (fun u _ => by unfold yD0; split <;> omega)
    rw [hN, hK] at ns
    rw [← hK] at ns
    refine ps_62 b (K := K) (by omega) (nsum (yD0 gc al) K) FU (yD0 gc al) s2 (Nat.le_refl _) (by omega) f.1 (fun u hu => f.2 u (Or.inl hu.1) (by rw [← hu.2]; exact Nat.and_le_right)) ⟨by unfold yD0; rw [if_pos rfl], fun u _ => by unfold yD0; split <;> omega, fun u _ hl => Or.inl ?_⟩
    unfold yD0 at hl
    by_cases q : u = gc * 256 + al
    · exact q
    · rw [if_neg q] at hl; omega
end RLAYT
