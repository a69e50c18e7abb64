theorem fo_some {α : Type} {step : Option α → Nat → Option α} (hs : ∀ b i, step b i ≠ none) : ∀ d b i, 0 < d → fo step b i d ≠ none := by
  intro d
  induction d with
  | zero => intro b i z; omega
  | succ d ih =>
    intro b i _
    by_cases z : d = 0
    · subst z; exact hs b i
    · exact ih _ _ (by omega)
theorem wtY_s (A : Ast) (k : Nat) : ∀ b y, wtY A k b y ≠ none := by
  intro b y
  unfold wtY
  cases b with
  | none => simp
  | some p => simp only; split <;> simp
theorem wtK_s (A : Ast) : ∀ b k, wtK A b k ≠ none := fun b k => fo_some (wtY_s A k) 31 b 0 (by omega)
def wtB (b : Option (Nat × Nat)) : Prop := ∀ p, b = some p → p.1 < 1000 ∧ p.2 ≤ 16
theorem wtY_B {A : Ast} {k y : Nat} {b : Option (Nat × Nat)} (hk : k < 8) (hy : y < 31) (d : wtB b) : wtB (wtY A k b y) := by
  have h1 := (lf_le (A := A) (k := k) (y := y)).2
  intro p hp
  unfold wtY at hp
  cases b with
  | none => cases hp; exact ⟨by simp only; omega, h1⟩
  | some r =>
    simp only at hp
    split at hp
    · exact d p hp
    · cases hp; exact ⟨by simp only; omega, h1⟩
def w0 (b : Option (Nat × Nat)) : Int32 := match b with
  | none => 0
  | some p => nI p.1
theorem lsM : ls2 1000000 none = nI 1000000 := by show (1000000 : Int32) = nI 1000000; decide +kernel
theorem cnt_fo (p : Nat → Bool) (d : Nat) : fo (fun (b : Nat) k => if p k = true then b + 1 else b) 0 0 d = cntB p 0 d := rfl
section WATCH
variable {h h1 : Hp} {A : Ast} {m n : Nat}
theorem mx_lf {k y : Nat} : mx32 (nI (lfO A k y)) (nI (cntB (ftB A) 0 16) - nI (lfO A k y)) = nI (lfN A k y) := by
  have h1 := lf_le (A := A) (k := k) (y := y)
  have h2 := cnt_le (p := ftB A) 16 0
  rw [pk_sub h1.1, mx_nI (by omega) (by omega)]; rfl
theorem p_left (c : RC h A) (a : WA A n) (hl : lay h (aS A) 16) {k y : Nat} (hk : k < (aS A).1 2) (hy : y < 31) : f_X9_lawsLeft h 1 (bitsB (ftB A) 16) (nI k) (nI y) = some (nI (lfN A k y)) := by
  have hF := FU_big
  have b5 := a.w.2.2.2.2.1
  have e := fo_lp (fun q (b : Nat) i => f_X9_lawsLeft_6 h 1 (bitsB (ftB A) 16) (nI k) (nI y) q (nI b) i) 16 (fun (b : Nat) l => if (ftB A l && onb (yL (aS A) l y) k) = true then b + 1 else b) (fun b => some (mx32 (nI b) (nI (cntB (ftB A) 0 16) - nI b))) (fun q b l hl' => ?_) (fun q b => ?_) 16 FU 0 0 (by omega) (by omega)
  · rw [show f_X9_lawsLeft h 1 (bitsB (ftB A) 16) (nI k) (nI y) = _ from e, cnt_fo, ← mx_lf]; rfl
  · show f_X9_lawsLeft_6 h 1 (bitsB (ftB A) 16) (nI k) (nI y) (q + 1) (nI b) (nI l) = f_X9_lawsLeft_6 h 1 (bitsB (ftB A) 16) (nI k) (nI y) q (nI (if (ftB A l && onb (yL (aS A) l y) k) = true then b + 1 else b)) (nI (l + 1))
    simp only [f_X9_lawsLeft_6, f_X9_lawsLeft_44, lt_u]
    rw [if_neg (by rw [show (16 : Int32) = nI 16 by decide, nI_leI (by omega) (by omega)]; omega), p_isInB (by omega) (by omega), bd_s, c.s.r1_14, c.s.t176, show (31 : Int32) = nI 31 by decide, pk_mul, nI_add, ix_nI (by omega), hl l hl' y hy, show onL (aS A) l y = bitsB (onb (yL (aS A) l y)) ((aS A).1 2) from rfl, p_isInB (by omega) (by omega), bd_s, gd_t (by decide), gd_t (inb_nI (by omega) (by omega)), i1, nI_add, nI_add]
    simp only [nB_0]
    rcases Bool.eq_false_or_eq_true (ftB A l) with z1 | z1 <;> rcases Bool.eq_false_or_eq_true (onb (yL (aS A) l y) k) with z2 | z2 <;> simp [z1, z2, hk, hl']
  · show f_X9_lawsLeft_6 h 1 (bitsB (ftB A) 16) (nI k) (nI y) (q + 1) (nI b) (nI 16) = _
    simp only [f_X9_lawsLeft_6, lt_u]
    rw [if_pos (by decide), p_bc, bd_s, ft_cnt]
theorem c_watch (c : RC h A) (a : WA A n) : Ok (f_X9_watch h 1) (fun o => o.1 = (sp_watch A).1 ∧ RC o.2 (sp_watch A).2 ∧ EqOff FX h o.2) := by
  have hF := FU_big
  have b5 := a.w.2.2.2.2.1
  rw [f_X9_watch]
  refine ok_bd (c_fitting c a) (fun o ⟨z1, c1, hl, o1⟩ => ?_)
  have z1 : o.1 = bitsB (ftB A) 16 := z1
  rw [z1]
  unfold sp_watch
  cases hf : ff (ftB A) 0 16 with
  | none => exact ok_t ((ft_0 A).mpr hf) (ok_some ⟨rfl, c1, o1⟩)
  | some l0 =>
    refine ok_f (fun z => by rw [(ft_0 A).mp z] at hf; cases hf) ?_
    rw [c1.s.r1_2, c1.n.q2]
    refine ok_gd (by decide) (ok_if (fun z => ?_) (fun z => ?_))
    · rw [i0, nI_eq (by omega) (by omega)] at z
      have : wtV A = none := by unfold wtV; rw [z]; rfl
      rw [this]
      exact ok_some ⟨rfl, c1, o1⟩
    · have hn : 0 < (aS A).1 2 := by
        apply Nat.pos_of_ne_zero
        intro y; exact z (by rw [y]; rfl)
      refine okf (fun q (b : Option (Nat × Nat)) i => f_X9_watch_30 1 q o.2 (bitsB (ftB A) 16) (w0 b) (ls2 17 b) i) ((aS A).1 2) (wtK A) (fun _ b acc => b = acc ∧ wtB acc) _ 0 (fun q k b acc _ hk ⟨d1, d2⟩ kk => ?_) ((aS A).1 2) FU 0 none none (by omega) (by omega) (by omega) ⟨rfl, fun p z => by cases z⟩ (fun q b ⟨d1, d2⟩ => ?_)
      · subst d1
        show Ok (f_X9_watch_30 1 (q + 1) o.2 (bitsB (ftB A) 16) (w0 b) (ls2 17 b) (nI k)) _
        simp only [f_X9_watch_30]
        refine ok_lt (fun k2 ek2 => ?_)
        subst ek2
        rw [c1.s.r1_2, c1.n.q2]
        refine ok_gd (by decide) (ok_f (by rw [nI_leI (by omega) (by omega)]; omega) ?_)
        refine okf (fun q' (b : Option (Nat × Nat)) i => f_X9_watch_45 1 (f_X9_watch_30 1 q) q' o.2 (bitsB (ftB A) 16) (w0 b) (ls2 17 b) (nI k) i) 31 (wtY A k) (fun _ b acc => b = acc ∧ wtB acc) _ 0 (fun q' y b acc _ hy ⟨e1, e2⟩ jj => ?_) 31 FU 0 b b (by omega) (by omega) (by omega) ⟨rfl, d2⟩ (fun q' b ⟨e1, e2⟩ => ?_)
        · subst e1
          have hlf := (lf_le (A := A) (k := k) (y := y)).2
          show Ok (f_X9_watch_45 1 (f_X9_watch_30 1 q) (q' + 1) o.2 (bitsB (ftB A) 16) (w0 b) (ls2 17 b) (nI k) (nI y)) _
          simp only [f_X9_watch_45, f_X9_watch_81]
          refine ok_lt (fun k2 ek2 => ?_)
          subst ek2
          rw [p_left c1 a hl hk hy, bd_s, show (31 : Int32) = nI 31 by decide, pk_mul, nI_add]
          refine ok_f (by rw [nI_leI (by omega) (by omega)]; omega) ?_
          simp only [lt_u, i1, nI_add]
          have go : ∀ t, wtY A k b y = t → Ok (f_X9_watch_45 1 (f_X9_watch_30 1 q) q' o.2 (bitsB (ftB A) 16) (w0 t) (ls2 17 t) (nI k) (nI (y + 1))) _ := fun t et => jj t ⟨et.symm, wtY_B (by omega) hy e2⟩
          cases b with
          | none =>
            refine ok_f (by show ¬ nI 17 ≤ _; rw [nI_leI (by omega) (by omega)]; omega) (go (some (31 * k + y, lfN A k y)) rfl)
          | some p =>
            have := e2 p rfl
            refine ok_if (fun w => go (some p) ?_) (fun w => go (some (31 * k + y, lfN A k y)) ?_)
            · have w : nI p.2 ≤ nI (lfN A k y) := w
              rw [nI_leI (by omega) (by omega)] at w
              simp only [wtY, if_pos w]
            · have w : ¬ nI p.2 ≤ nI (lfN A k y) := w
              rw [nI_leI (by omega) (by omega)] at w
              simp only [wtY, if_neg w]
        · show Ok (f_X9_watch_45 1 (f_X9_watch_30 1 q) (q' + 1) o.2 (bitsB (ftB A) 16) (w0 b) (ls2 17 b) (nI k) (nI 31)) _
          simp only [f_X9_watch_45]
          refine ok_lt (fun k2 ek2 => ?_)
          clear ek2
          rw [lt_u, i1, nI_add]
          exact ok_t (by decide) (kk b ⟨e1, e2⟩)
      · show Ok (f_X9_watch_30 1 (q + 1) o.2 (bitsB (ftB A) 16) (w0 b) (ls2 17 b) (nI ((aS A).1 2))) _
        cases hv : wtV A with
        | none => exact absurd hv (fo_some (wtK_s A) _ _ _ hn)
        | some p =>
          have d1 : b = wtV A := d1
          rw [hv] at d1
          subst d1
          simp only [f_X9_watch_30]
          refine ok_lt (fun k2 ek2 => ?_)
          clear ek2
          rw [c1.s.r1_2, c1.n.q2]
          exact ok_gd (by decide) (ok_t (Int32.le_refl _) (c_say1 c1 o1))
theorem w81_s {h : Hp} {m q2 : Nat} {x1 x2 x3 x4 x5 x6 x7 : Int32} {k49 : Hp → Int32 → Int32 → Int32 → Int32 → Option (Int32 × Hp)} {k68 : Hp → Int32 → Int32 → Int32 → Int32 → Int32 → Option (Int32 × Hp)} : f_X10_watch_81 m k49 k68 (q2 + 1) h x1 x2 x3 x4 x5 x6 x7 = (
    lt (f_X10_watch_81 m k49 k68 q2) fun k81 =>
    if (16 : Int32) ≤ x7 then (
      (f_J6_bitCount_0f7a4 h x1).bind fun q16 =>
      lt (mx32 x6 (q16 - x6)) fun v17 =>
      f_X10_watch_171 m k49 k68 h (if x3 ≤ v17 then x2 else (((31 : Int32) * x4) + x5)) x1 x3 x4 x5 v17
    ) else (
      (f_X10_has h (x1.toInt64) x7).bind fun q19 =>
      if q19 = 0 then (
        f_X10_watch_126 m k49 k68 k81 h x6 x1 x2 x3 x4 x5 x7
      ) else (
        gd (nz (hpR h m 35)) <|
        gd (inb ((x7 * (31 : Int32)) + x5) (hpT h (hpR h m 35)).2) <|
        (f_X10_has h ((hpI h (hpR h m 35) (ix ((x7 * (31 : Int32)) + x5))).toInt64) x4).bind fun q24 =>
        if q24 = 0 then (
          f_X10_watch_126 m k49 k68 k81 h x6 x1 x2 x3 x4 x5 x7
        ) else (
          f_X10_watch_127 m k49 k68 k81 h x6 (1 : Int32) x1 x2 x3 x4 x5 x7
        )
      )
    )) := rfl
theorem w81_go {h : Hp} {m k y C : Nat} {F X2 X3 : Int32} {f g : Nat → Bool} {k49 : Hp → Int32 → Int32 → Int32 → Int32 → Option (Int32 × Hp)} {k68 : Hp → Int32 → Int32 → Int32 → Int32 → Int32 → Option (Int32 × Hp)} (s : shM h m) (hy : y < 31) (h1 : ∀ l, l < 16 → f_X10_has h F.toInt64 (nI l) = some (nB (f l))) (h2 : ∀ l, l < 16 → f_X10_has h (hpI h (m + 19) (l * 31 + y)).toInt64 (nI k) = some (nB (g l))) (h3 : bc32 F = nI C) : ∀ d q2 c i, i + d = 16 → d < q2 → f_X10_watch_81 m k49 k68 q2 h F X2 X3 (nI k) (nI y) (nI c) (nI i) = f_X10_watch_171 m k49 k68 h (if X3 ≤ mx32 (nI (c + cntB (fun l => f l && g l) i d)) (nI C - nI (c + cntB (fun l => f l && g l) i d)) then X2 else nI 31 * nI k + nI y) F X3 (nI k) (nI y) (mx32 (nI (c + cntB (fun l => f l && g l) i d)) (nI C - nI (c + cntB (fun l => f l && g l) i d))) := by
  intro d
  induction d with
  | zero =>
    intro q2 c i e1 e2
    obtain ⟨q, rfl⟩ : ∃ k, q2 = k + 1 := ⟨q2 - 1, by omega⟩
    have e : i = 16 := by omega
    subst e
    rw [w81_s, lt_u, if_pos (show (16 : Int32) ≤ nI 16 by decide), p_bc, bd_s, h3, lt_u, show (31 : Int32) = nI 31 by decide]
    rfl
  | succ d ih =>
    intro q2 c i e1 e2
    obtain ⟨q, rfl⟩ : ∃ k, q2 = k + 1 := ⟨q2 - 1, by omega⟩
    rw [w81_s, lt_u, if_neg (by rw [show (16 : Int32) = nI 16 by decide, nI_leI (by omega) (by omega)]; omega), h1 i (by omega), bd_s, s.r35, s.t19, show (31 : Int32) = nI 31 by decide, pk_mul, nI_add, ix_nI (by omega), h2 i (by omega), bd_s, gd_t (nz_t (by omega)), gd_t (inb_nI (by omega) (by omega)), cnt_cons]
    simp only [nB_0, f_X10_watch_126, f_X10_watch_127, lt_u, pf0, pf1, bd_s, Int32.add_zero]
    rw [show nI i + (1 : Int32) = nI (i + 1) by rw [i1, nI_add], show nI c + (1 : Int32) = nI (c + 1) by rw [i1, nI_add], ih q c (i + 1) (by omega) (by omega), ih q (c + 1) (i + 1) (by omega) (by omega)]
    rcases Bool.eq_false_or_eq_true (f i) with z1 | z1 <;> rcases Bool.eq_false_or_eq_true (g i) with z2 | z2 <;> simp [z1, z2, Nat.add_assoc]
theorem w171 {h : Hp} {m k y v : Nat} {F : Int32} {b : Option (Nat × Nat)} (hb : wtB b) (hv : v ≤ 16) {k49 : Hp → Int32 → Int32 → Int32 → Int32 → Option (Int32 × Hp)} {k68 : Hp → Int32 → Int32 → Int32 → Int32 → Int32 → Option (Int32 × Hp)} : f_X10_watch_171 m k49 k68 h (if ls2 1000000 b ≤ nI v then ls1 b else nI 31 * nI k + nI y) F (ls2 1000000 b) (nI k) (nI y) (nI v) = (match b with
    | none => k68 h F (nI (31 * k + y)) (nI v) (nI k) (nI (y + 1))
    | some p => if p.2 ≤ v then k68 h F (nI p.1) (nI p.2) (nI k) (nI (y + 1)) else k68 h F (nI (31 * k + y)) (nI v) (nI k) (nI (y + 1))) := by
  simp only [f_X10_watch_171, lt_u]
  rw [pk_mul, nI_add, i1, nI_add]
  cases b with
  | none =>
    have e0 : ¬ ls2 1000000 none ≤ nI v := by rw [lsM, nI_leI (by omega) (by omega)]; omega
    rw [if_neg e0, show mn32 (ls2 1000000 none) (nI v) = nI v by rw [lsM, mn_nI (by omega) (by omega), Nat.min_eq_right (by omega)]]
  | some p =>
    have hp := hb p rfl
    have e1 : (ls2 1000000 (some p) ≤ nI v) ↔ p.2 ≤ v := by
      show nI p.2 ≤ nI v ↔ _
      rw [nI_leI (by omega) (by omega)]
    have e2 : mn32 (ls2 1000000 (some p)) (nI v) = nI (min p.2 v) := mn_nI (by omega) (by omega)
    rw [e2]
    by_cases w : p.2 ≤ v
    · rw [if_pos (e1.mpr w), Nat.min_eq_left w]; simp only [if_pos w]; rfl
    · rw [if_neg (fun z => w (e1.mp z)), Nat.min_eq_right (by omega)]; simp only [if_neg w]
theorem r_watch (c : RM h m A n) (a : WA A n) : Ok (f_X10_watch h m) (fun o => o.1 = (sp_watch A).1 ∧ RM o.2 m (sp_watch A).2 n ∧ EqOff (FM m) h o.2) := by
  have hF := FU_big
  have b5 := a.w.2.2.2.2.1
  rw [f_X10_watch]
  refine r_th c (fun h1 c1 o1 _ => ?_)
  refine okf (fun q (s : Hp × Int32) i => f_X10_watch_9 m q s.1 s.2 i) 16 (stB (ftB A)) (fun i s acc => s.2 = acc ∧ RM s.1 m A n ∧ (∀ l, l < i → ∀ y, y < 31 → hpI s.1 (m + 19) (l * 31 + y) = onL (aS A) l y) ∧ EqOff (FM m) h s.1) _ 0 (fun q l s acc _ hl ⟨d1, d2, d3, d4⟩ kk => ?_) 16 FU 0 (h1, 0) (nI 0) (by omega) (by omega) (by omega) ⟨rfl, c1, (fun l hl => by omega), o1.ofs⟩ (fun q s ⟨d1, d2, d3, d4⟩ => ?_)
  · obtain ⟨h2, b⟩ := s
    have d1 : b = acc := d1
    subst d1
    have d2 : RM h2 m A n := d2
    show Ok (f_X10_watch_9 m (q + 1) h2 b (nI l)) _
    simp only [f_X10_watch_9, f_X10_watch_31]
    refine ok_lt (fun k2 ek2 => ?_)
    subst ek2
    refine ok_f (by rw [show (16 : Int32) = nI 16 by decide, nI_leI (by omega) (by omega)]; omega) (ok_bd (m_isLaw d2 a hl) (fun o ⟨z1, z2, z3, z4, z5⟩ => ?_))
    rw [z1]
    simp only [nB_0, lt_u, i1, nI_add]
    have ly : ∀ l', l' < l + 1 → ∀ y, y < 31 → hpI o.2 (m + 19) (l' * 31 + y) = onL (aS A) l' y := fun l' hl' y hy => by
      by_cases w : l' = l
      · rw [w]; exact z3 y hy
      · rw [z4 _ (by omega)]; exact d3 l' (by omega) y hy
    refine ok_if (fun z => kk (o.2, _) ⟨?_, z2, ly, EqOff.tr d4 z5.ofs⟩) (fun z => kk (o.2, _) ⟨?_, z2, ly, EqOff.tr d4 z5.ofs⟩)
    · show b ||| 0 = _
      rw [Int32.or_zero, stB, if_neg (by simp [z])]
    · rw [stB, if_pos (by simpa using z)]
  · obtain ⟨h2, b⟩ := s
    have d1 : b = bitsB (ftB A) 16 := d1
    subst d1
    have d2 : RM h2 m A n := d2
    have d3 : ∀ l, l < 16 → ∀ y, y < 31 → hpI h2 (m + 19) (l * 31 + y) = onL (aS A) l y := d3
    have d4 : EqOff (FM m) h h2 := d4
    have s := d2.s
    show Ok (f_X10_watch_9 m (q + 1) h2 (bitsB (ftB A) 16) (nI 16)) _
    simp only [f_X10_watch_9]
    refine ok_lt (fun k2 ek2 => ?_)
    clear ek2
    refine ok_t (by decide) ?_
    unfold sp_watch
    refine okf (fun q (b : Option (Nat × Nat)) i => f_X10_watch_49 m q h2 (bitsB (ftB A) 16) (ls1 b) (ls2 1000000 b) i) ((aS A).1 2) (wtK A) (fun i b acc => (i = 0 → b = none) ∧ ((∃ l, ff (ftB A) 0 16 = some l) ∨ i = 0) ∧ b = acc ∧ wtB acc) _ 0 (fun q k b acc _ hk ⟨d5, d6, d1, d2'⟩ kk => ?_) ((aS A).1 2) FU 0 none none (by omega) (by omega) (by omega) ⟨fun _ => rfl, Or.inr rfl, rfl, fun p z => by cases z⟩ (fun q b ⟨d5, d6, d1, d2'⟩ => ?_)
    · subst d1
      show Ok (f_X10_watch_49 m (q + 1) h2 (bitsB (ftB A) 16) (ls1 b) (ls2 1000000 b) (nI k)) _
      simp only [f_X10_watch_49, f_X10_watch_191]
      refine ok_lt (fun k2 ek2 => ?_)
      subst ek2
      rw [s.r6, s.t2, show ix (48 : Int32) = 48 by decide, d2.w.n]
      refine ok_gd (nz_t (by omega)) (ok_gd (by decide) (ok_f (by rw [nI_leI (by omega) (by omega)]; omega) ?_))
      cases hf : ff (ftB A) 0 16 with
      | none =>
        have z : k = 0 := by
          rcases d6 with ⟨l, z⟩ | z
          · rw [hf] at z; cases z
          · exact z
        have eb := d5 z
        subst eb
        exact ok_t ((ft_0 A).mpr hf) (ok_t (by decide) (ok_some ⟨rfl, d2, d4⟩))
      | some l0 =>
        rw [hf] at kk
        refine ok_f (fun z => by rw [(ft_0 A).mp z] at hf; cases hf) ?_
        refine okf (fun q' (b : Option (Nat × Nat)) i => f_X10_watch_68 m (f_X10_watch_49 m q) q' h2 (bitsB (ftB A) 16) (ls1 b) (ls2 1000000 b) (nI k) i) 31 (wtY A k) (fun _ b acc => b = acc ∧ wtB acc) _ 0 (fun q' y b acc _ hy ⟨e1, e2⟩ jj => ?_) 31 FU 0 b b (by omega) (by omega) (by omega) ⟨rfl, d2'⟩ (fun q' b ⟨e1, e2⟩ => ?_)
        · subst e1
          have hlf := lf_le (A := A) (k := k) (y := y)
          show Ok (f_X10_watch_68 m (f_X10_watch_49 m q) (q' + 1) h2 (bitsB (ftB A) 16) (ls1 b) (ls2 1000000 b) (nI k) (nI y)) _
          simp only [f_X10_watch_68]
          refine ok_lt (fun k2 ek2 => ?_)
          subst ek2
          refine ok_f (by rw [show (30 : Int32) = nI 30 by decide, nI_ltI (by omega) (by omega)]; omega) ?_
          have e := w81_go (k := k) (C := cntB (ftB A) 0 16) (X2 := ls1 b) (X3 := ls2 1000000 b) (f := ftB A) (g := fun l => onb (yL (aS A) l y) k) (k49 := f_X10_watch_49 m q) (k68 := f_X10_watch_68 m (f_X10_watch_49 m q) q') s hy (fun l hl => by rw [p_hasB h2 (by omega) (by omega)]; simp only [hl, decide_true, Bool.true_and]) (fun l hl => by rw [d3 l hl y hy, onL, p_hasB h2 (by omega) (by omega)]; simp only [hk, decide_true, Bool.true_and]) (ft_cnt A) 16 FU 0 0 (by omega) (by omega)
          rw [Nat.zero_add, show cntB (fun l => ftB A l && (fun l => onb (yL (aS A) l y) k) l) 0 16 = lfO A k y from rfl, mx_lf] at e
          rw [show (0 : Int32) = nI 0 from rfl, e, w171 e2 hlf.2]
          have go : ∀ t, wtY A k b y = t → Ok (f_X10_watch_68 m (f_X10_watch_49 m q) q' h2 (bitsB (ftB A) 16) (ls1 t) (ls2 1000000 t) (nI k) (nI (y + 1))) _ := fun t et => jj t ⟨et.symm, wtY_B (by omega) hy e2⟩
          cases b with
          | none => exact go (some (31 * k + y, lfN A k y)) (by simp only [wtY])
          | some p =>
            by_cases w : p.2 ≤ lfN A k y
            · simp only [if_pos w]; exact go (some p) (by simp only [wtY, if_pos w])
            · simp only [if_neg w]; exact go (some (31 * k + y, lfN A k y)) (by simp only [wtY, if_neg w])
        · show Ok (f_X10_watch_68 m (f_X10_watch_49 m q) (q' + 1) h2 (bitsB (ftB A) 16) (ls1 b) (ls2 1000000 b) (nI k) (nI 31)) _
          simp only [f_X10_watch_68]
          refine ok_lt (fun k2 ek2 => ?_)
          clear ek2
          rw [lt_u, i1, nI_add]
          exact ok_t (by decide) (kk b ⟨fun z => by omega, Or.inl ⟨l0, rfl⟩, e1, e2⟩)
    · show Ok (f_X10_watch_49 m (q + 1) h2 (bitsB (ftB A) 16) (ls1 b) (ls2 1000000 b) (nI ((aS A).1 2))) _
      have d1 : b = wtV A := d1
      simp only [f_X10_watch_49, f_X10_watch_191]
      refine ok_lt (fun k2 ek2 => ?_)
      clear ek2
      rw [s.r6, s.t2, show ix (48 : Int32) = 48 by decide, d2.w.n]
      refine ok_gd (nz_t (by omega)) (ok_gd (by decide) (ok_t (Int32.le_refl _) ?_))
      rw [← d1]
      cases b with
      | none =>
        refine ok_t (by decide) ?_
        cases ff (ftB A) 0 16 <;> exact ok_some ⟨rfl, d2, d4⟩
      | some p =>
        have hp := d2' p (d1 ▸ rfl)
        have hn : ¬ (aS A).1 2 = 0 := fun z => by cases d5 z
        obtain ⟨l, hf⟩ := d6.resolve_right hn
        rw [hf]
        exact ok_f (by show ¬ nI p.1 < 0; rw [i0, nI_ltI (by omega) (by omega)]; omega) (r_say1 d2 d4)
end WATCH
