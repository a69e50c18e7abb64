/-- with these camps away there is room -/
def mkV (S : Fld) (hg wd s : Nat) : Bool := (ff (rmp S (fun i => !(s.testBit i)) hg wd) 0 (ncl S)).isSome
def uN (S : Fld) (hg wd kc : Nat) : Nat := nb (und S kc hg wd) (S.1 2)
def sp_makes (A : Ast) (x y : Int32) : Int32 × Ast := match numIn (nI 1) (nI 3) x, numIn (nI 1) (nI 3) y with
  | some hg, some wd => match fo (stF (mkV (aS A) hg wd)) none 0 (2 ^ (aS A).1 2) with
    | some B => (bc32 (nI B), wT A [(nI B).toInt64])
    | none => (-2, A)
  | _, _ => (-1, A)
section MAKES
variable {h h1 : Hp} {A : Ast} {m n : Nat} {S : Fld}
theorem sb_lx {a b N : Nat} (hN : N ≤ 8) (hb : ∀ q, b.testBit q = true → q < N) (hs : sb a b) : lx a b := by
  have h1 : pc a ≤ pc b := cnt_mono hs 8 0
  by_cases e : a = b
  · rw [e]; exact lx.rf
  · left
    obtain ⟨q, z1, z2⟩ : ∃ q, b.testBit q = true ∧ a.testBit q = false := by
      apply Classical.byContradiction
      intro z
      refine e (sb.eq hs (fun q hq => ?_))
      cases y : a.testBit q with
      | true => rfl
      | false => exact absurd ⟨q, hq, y⟩ z
    exact cnt_lt hs z2 z1 8 0 (by omega) (by have := hb q z1; omega)
theorem mkV_iff {hg wd s : Nat} : mkV S hg wd s = true ↔ ∃ kc, kc < ncl S ∧ hld S kc hg wd = true ∧ sb (uN S hg wd kc) s := by
  have key : ∀ kc, rmp S (fun i => !(s.testBit i)) hg wd kc = true ↔ (hld S kc hg wd = true ∧ sb (uN S hg wd kc) s) := fun kc => by
    unfold rmp
    rw [Bool.and_eq_true, decide_eq_true_eq]
    refine and_congr_right (fun _ => ⟨fun z q hq => ?_, fun z i hi hp => ?_⟩)
    · unfold uN at hq
      rw [nb_bit] at hq
      simp only [Bool.and_eq_true, decide_eq_true_eq] at hq
      cases y : s.testBit q with
      | true => rfl
      | false =>
        have := z q hq.1 (by simp [y])
        rw [hq.2] at this; cases this
    · cases y : und S kc hg wd i with
      | false => rfl
      | true =>
        have := z i (by unfold uN; rw [nb_bit, y]; simp [hi])
        have hp : (!(s.testBit i)) = true := hp
        rw [this] at hp; cases hp
  unfold mkV
  cases e : ff (rmp S (fun i => !(s.testBit i)) hg wd) 0 (ncl S) with
  | none =>
    rw [ff_none] at e
    constructor
    · intro z; cases z
    · rintro ⟨kc, z1, z2⟩
      have := (key kc).mpr z2
      rw [e kc (by omega) (by omega)] at this; cases this
  | some kc =>
    obtain ⟨z1, z2, z3⟩ := ff_s _ _ _ e
    exact ⟨fun _ => ⟨kc, by omega, (key kc).mp z3⟩, fun _ => rfl⟩
def mkS (S : Fld) (hg wd : Nat) (b : Option Nat) (kc : Nat) : Option Nat := if hld S kc hg wd = true then (match b with
  | none => some (uN S hg wd kc)
  | some B => if pc (uN S hg wd kc) < pc B ∨ (pc (uN S hg wd kc) = pc B ∧ uN S hg wd kc < B) then some (uN S hg wd kc) else some B) else b
def mkI (S : Fld) (hg wd i : Nat) (b : Option Nat) : Prop := match b with
  | none => ∀ kc, kc < i → hld S kc hg wd = false
  | some B => (∃ kc, kc < i ∧ hld S kc hg wd = true ∧ B = uN S hg wd kc) ∧ ∀ kc, kc < i → hld S kc hg wd = true → lx B (uN S hg wd kc)
theorem mkI.next {hg wd i : Nat} {b : Option Nat} (d : mkI S hg wd i b) : mkI S hg wd (i + 1) (mkS S hg wd b i) := by
  unfold mkS
  cases hh : hld S i hg wd with
  | false =>
    rw [if_neg (by simp)]
    cases b with
    | none =>
      have d : ∀ kc, kc < i → hld S kc hg wd = false := d
      show ∀ kc, kc < i + 1 → hld S kc hg wd = false
      intro kc hk
      by_cases e : kc = i
      · rw [e]; exact hh
      · exact d kc (by omega)
    | some B =>
      obtain ⟨⟨kc, d1, d2⟩, d3⟩ := d
      refine ⟨⟨kc, by omega, d2⟩, fun k hk hv => ?_⟩
      by_cases e : k = i
      · rw [e, hh] at hv; cases hv
      · exact d3 k (by omega) hv
  | true =>
    rw [if_pos rfl]
    cases b with
    | none =>
      have d : ∀ kc, kc < i → hld S kc hg wd = false := d
      refine ⟨⟨i, by omega, hh, rfl⟩, fun k hk hv => ?_⟩
      by_cases e : k = i
      · rw [e]; exact lx.rf
      · rw [d k (by omega)] at hv; cases hv
    | some B =>
      obtain ⟨⟨kc, d1, d2⟩, d3⟩ := d
      simp only
      by_cases q : pc (uN S hg wd i) < pc B ∨ (pc (uN S hg wd i) = pc B ∧ uN S hg wd i < B)
      · rw [if_pos q]
        refine ⟨⟨i, by omega, hh, rfl⟩, fun k hk hv => ?_⟩
        by_cases e : k = i
        · rw [e]; exact lx.rf
        · have := d3 k (by omega) hv
          unfold lx at *; omega
      · rw [if_neg q]
        refine ⟨⟨kc, by omega, d2⟩, fun k hk hv => ?_⟩
        by_cases e : k = i
        · rw [e]; unfold lx; omega
        · exact d3 k (by omega) hv
theorem uN_lt {hg wd kc : Nat} (b5 : S.1 2 ≤ 8) : uN S hg wd kc < 2 ^ S.1 2 ∧ uN S hg wd kc < 256 := ⟨nb_lt _ _, Nat.lt_of_lt_of_le (nb_lt _ _) (Nat.pow_le_pow_right (n := 2) (by omega) b5)⟩
theorem tb_2p {x n q : Nat} (hx : x < 2 ^ n) (hq : x.testBit q = true) : q < n := by
  apply Classical.byContradiction
  intro z
  have := Nat.testBit_lt_two_pow (i := q) (Nat.lt_of_lt_of_le hx (Nat.pow_le_pow_right (n := 2) (by omega) (show n ≤ q by omega)))
  rw [this] at hq; cases hq
/-- a block of three by three finds a place -/
theorem hld_0 (hw : wfF S) {hg wd : Nat} (h1 : hg ≤ 3) (h2 : wd ≤ 3) : hld S 0 hg wd = true := by
  have hb := ncl_le hw
  obtain ⟨b1, b2, b3, b4, -⟩ := hw
  unfold hld
  rw [Nat.zero_div, Nat.zero_mod, decide_eq_true (show 0 < ncl S by omega), decide_eq_true (show 0 + hg ≤ S.1 0 by omega), decide_eq_true (show 0 + wd ≤ S.1 1 by omega)]; rfl
theorem mk_end (hw : wfF S) {hg wd B : Nat} (d : mkI S hg wd (ncl S) (some B)) : fo (stF (mkV S hg wd)) none 0 (2 ^ S.1 2) = some B := by
  have b5 := hw.2.2.2.2.1
  obtain ⟨⟨kc, d1, d2, d3⟩, d4⟩ := d
  refine st_uni (by rw [d3]; exact (uN_lt b5).1) (mkV_iff.mpr ⟨kc, d1, d2, by rw [d3]; exact sb.rf⟩) (fun s hs hv => ?_)
  obtain ⟨k, z1, z2, z3⟩ := mkV_iff.mp hv
  exact (d4 k z1 z2).tr (sb_lx b5 (fun q hq => tb_2p hs hq) z3)
def mk1 (b : Option Nat) : Int32 := match b with
  | none => 2147483647
  | some B => nI (pc B)
def mk2 (b : Option Nat) : Int32 := match b with
  | none => 0
  | some B => nI B
theorem c_makes (c : RC h A) (hw : wfF (aS A)) (x y : Int32) : Ok (f_X9_makes h 1 x y) (fun o => o.1 = (sp_makes A x y).1 ∧ RC o.2 (sp_makes A x y).2 ∧ EqOff FX h o.2) := by
  have hF := FU_big
  have hb := ncl_le hw
  have b5 := hw.2.2.2.2.1
  rw [f_X9_makes, p_areSides, bd_s]
  simp only [nB_0]
  unfold sp_makes
  cases hx : numIn (nI 1) (nI 3) x with
  | none => exact ok_t rfl (ok_some ⟨rfl, c, EqOff.rf⟩)
  | some hg =>
    obtain ⟨rfl, g1, g2⟩ := numIn_s (by omega) (by omega) hx
    cases hy : numIn (nI 1) (nI 3) y with
    | none => exact ok_t rfl (ok_some ⟨rfl, c, EqOff.rf⟩)
    | some wd =>
      obtain ⟨rfl, g3, g4⟩ := numIn_s (by omega) (by omega) hy
      refine ok_f (by simp) ?_
      refine okf (fun q (s : Option Nat) i => f_X9_makes_20 1 (nI hg) (nI wd) q h (mk1 s) (mk2 s) i) (ncl (aS A)) (mkS (aS A) hg wd) (fun i s acc => s = acc ∧ mkI (aS A) hg wd i acc) _ 0 (fun q i s acc _ hi ⟨d1, d2⟩ kk => ?_) (ncl (aS A)) FU 0 none none (by omega) (by omega) (by omega) ⟨rfl, fun s hs => by omega⟩ (fun q s ⟨d1, d2⟩ => ?_)
      · subst d1
        have go : ∀ t, mkS (aS A) hg wd s i = t → Ok (f_X9_makes_20 1 (nI hg) (nI wd) q h (mk1 t) (mk2 t) (nI (i + 1))) _ := fun t et => kk t ⟨et.symm, d2.next⟩
        have hu := (uN_lt (hg := hg) (wd := wd) (kc := i) b5).2
        have hp := pc_le (x := uN (aS A) hg wd i)
        show Ok (f_X9_makes_20 1 (nI hg) (nI wd) (q + 1) h (mk1 s) (mk2 s) (nI i)) _
        simp only [f_X9_makes_20, f_X9_makes_85, f_X9_makes_92]
        refine ok_lt (fun k2 ek2 => ?_)
        subst ek2
        rw [c.s.r1_2, p_cells c.n, bd_s, p_holds c.n hw (by omega) (by omega) (by omega), bd_s, p_onUnder c.n hw (by omega) (by omega) (by omega), bd_s, p_bc, bd_s, bitsB_nb _ _ (by omega), show nb (und (aS A) i hg wd) ((aS A).1 2) = uN (aS A) hg wd i from rfl, pc_bc hu]
        refine ok_gd (by decide) (ok_f (by rw [nI_leI (by omega) (by omega)]; omega) ?_)
        simp only [nB_0, lt_u, i1, nI_add]
        cases hh : hld (aS A) i hg wd with
        | false => exact ok_t rfl (go s (by simp [mkS, hh]))
        | true =>
          refine ok_f (by simp) ?_
          cases s with
          | none =>
            refine ok_t (by show nI _ < nI 2147483647; rw [nI_ltI (by omega) (by omega)]; omega) (go (some (uN (aS A) hg wd i)) (by simp only [mkS, if_pos hh]))
          | some B =>
            obtain ⟨⟨kc, e1, e2, e3⟩, -⟩ := d2
            have hB : B < 256 := by rw [e3]; exact (uN_lt b5).2
            have hpB := pc_le (x := B)
            have no : ¬ (pc (uN (aS A) hg wd i) < pc B ∨ (pc (uN (aS A) hg wd i) = pc B ∧ uN (aS A) hg wd i < B)) → mkS (aS A) hg wd (some B) i = some B := fun z => by simp only [mkS, if_pos hh, if_neg z]
            have ye : (pc (uN (aS A) hg wd i) < pc B ∨ (pc (uN (aS A) hg wd i) = pc B ∧ uN (aS A) hg wd i < B)) → mkS (aS A) hg wd (some B) i = some (uN (aS A) hg wd i) := fun z => by simp only [mkS, if_pos hh, if_pos z]
            show Ok (if nI (pc (uN (aS A) hg wd i)) < nI (pc B) then _ else if nI (pc (uN (aS A) hg wd i)) = nI (pc B) then (if nI B ≤ nI (uN (aS A) hg wd i) then _ else _) else _) _
            refine ok_if (fun z => ?_) (fun z => ok_if (fun w => ok_if (fun v => ?_) (fun v => ?_)) (fun w => ?_))
            · rw [nI_ltI (by omega) (by omega)] at z
              exact go (some (uN (aS A) hg wd i)) (ye (Or.inl z))
            · rw [nI_ltI (by omega) (by omega)] at z
              rw [nI_leI (by omega) (by omega)] at v
              exact go (some B) (no (by omega))
            · rw [nI_eq (by omega) (by omega)] at w
              rw [nI_leI (by omega) (by omega)] at v
              exact go (some (uN (aS A) hg wd i)) (ye (Or.inr ⟨w, by omega⟩))
            · rw [nI_ltI (by omega) (by omega)] at z
              rw [nI_eq (by omega) (by omega)] at w
              exact go (some B) (no (by omega))
      · show Ok (f_X9_makes_20 1 (nI hg) (nI wd) (q + 1) h (mk1 s) (mk2 s) (nI (ncl (aS A)))) _
        rw [d1]
        cases hf : fo (mkS (aS A) hg wd) none 0 (ncl (aS A)) with
        | none =>
          rw [hf] at d2
          have d2 : ∀ kc, kc < ncl (aS A) → hld (aS A) kc hg wd = false := d2
          have := hld_0 hw g2 g4
          rw [d2 0 (by omega)] at this; cases this
        | some B =>
          rw [hf] at d2
          have hB : B < 256 := by
            obtain ⟨⟨kc, e1, e2, e3⟩, -⟩ := d2
            rw [e3]; exact (uN_lt b5).2
          have hpB := pc_le (x := B)
          simp only [mk_end hw d2]
          simp only [f_X9_makes_20]
          refine ok_lt (fun k2 ek2 => ?_)
          clear ek2
          rw [c.s.r1_2, p_cells c.n, bd_s]
          refine ok_gd (by decide) (ok_t (Int32.le_refl _) (ok_t (by show nI (pc B) ≤ 8; rw [i8, nI_leI (by omega) (by omega)]; exact hpB) ?_))
          have := c_say1 (x := mk1 (some B)) (v := (mk2 (some B)).toInt64) c (EqOff.rf (F := FX))
          rw [pc_bc hB]
          exact this
theorem x255 : ∀ s, s < 256 → ((255 : Int32) &&& (nI s ^^^ (-1))) = nI (255 ^^^ s) := by decide +kernel
theorem x255b : ∀ s, s < 256 → ∀ i, i < 8 → (255 ^^^ s).testBit i = !(s.testBit i) := by decide +kernel
theorem x255c : ∀ s, s < 256 → 255 ^^^ s < 256 := by decide +kernel
theorem r_makes (c : RM h m A n) (a : WA A n) (x y : Int32) : Ok (f_X10_makes h m x y) (fun o => o.1 = (sp_makes A x y).1 ∧ RM o.2 m (sp_makes A x y).2 n ∧ EqOff (FM m) h o.2) := by
  have hF := FU_big
  have hw := a.w
  have hb := ncl_le a.w
  have b5 := a.w.2.2.2.2.1
  have hp : 2 ^ (aS A).1 2 ≤ 256 := Nat.pow_le_pow_right (n := 2) (by omega) b5
  have hp1 : 1 ≤ 2 ^ (aS A).1 2 := Nat.one_le_two_pow
  rw [f_X10_makes]
  refine r_th c (fun h1 c1 o1 _ => ?_)
  rw [m_isSize, bd_s]
  simp only [nB_0]
  unfold sp_makes
  cases hx : numIn (nI 1) (nI 3) x with
  | none => exact ok_t rfl (ok_some ⟨rfl, c1, o1.ofs⟩)
  | some hg =>
    obtain ⟨rfl, g1, g2⟩ := numIn_s (by omega) (by omega) hx
    cases hy : numIn (nI 1) (nI 3) y with
    | none => exact ok_t rfl (ok_some ⟨rfl, c1, o1.ofs⟩)
    | some wd =>
      obtain ⟨rfl, g3, g4⟩ := numIn_s (by omega) (by omega) hy
      refine ok_f (by simp) ?_
      refine okf (fun q (s : Hp × Option Nat) i => f_X10_makes_20 m (nI hg) (nI wd) q s.1 (oI s.2) i) (2 ^ (aS A).1 2) (stF (mkV (aS A) hg wd)) (fun i s acc => s.2 = acc ∧ stI (mkV (aS A) hg wd) i acc ∧ (∃ T, RM s.1 m (wT A T) n) ∧ EqOff (FM m) h s.1) _ 0 (fun q i s acc _ hi ⟨d1, d2, d3, d4⟩ kk => ?_) (2 ^ (aS A).1 2) FU 0 (h1, none) none (by omega) (by omega) (by omega) ⟨rfl, (fun s hs => by omega), ⟨aT A, c1⟩, o1.ofs⟩ (fun q s ⟨d1, d2, ⟨T, d3⟩, d4⟩ => ?_)
      · obtain ⟨h2, s⟩ := s
        have d1 : s = acc := d1
        subst d1
        obtain ⟨T, d3⟩ := d3
        have d3 : RM h2 m (wT A T) n := d3
        have d4 : EqOff (FM m) h h2 := d4
        have hbB := stF_lt d2
        show Ok (f_X10_makes_20 m (nI hg) (nI wd) (q + 1) h2 (oI s) (nI i)) _
        simp only [f_X10_makes_20, f_X10_makes_73, f_X10_makes_74]
        refine ok_lt (fun k2 ek2 => ?_)
        subst ek2
        have dn : hpI h2 (m + 2) 48 = nI ((aS A).1 2) := d3.w.n
        have x3 := x255c i (by omega)
        rw [d3.s.r6, d3.s.t2, show ix (48 : Int32) = 48 by decide, dn, i1, shl_1 _ (by omega), lt_u, m_isFewer h2 (by omega) (fun B hB => by have := hbB B hB; omega), bd_s, n1m, x255 i (by omega), m_sleptBy d3.g d3.w hw (by omega), bd_s]
        refine ok_gd (nz_t (by omega)) (ok_gd (by decide) (ok_f (by rw [nI_leI (by omega) (by omega)]; omega) ?_))
        simp only [nB_0, lt_u, nI_add]
        have ef : rmp (aS A) (fun j => (255 ^^^ i).testBit j) hg wd = rmp (aS A) (fun j => !(i.testBit j)) hg wd := by
          funext kc
          unfold rmp
          congr 1
          congr 1
          apply propext
          constructor
          · intro z j hj hq; exact z j hj ((x255b i (by omega) j (by omega)).trans hq)
          · intro z j hj hq; exact z j hj ((x255b i (by omega) j (by omega)).symm.trans hq)
        refine ok_if (fun z => kk (h2, s) ⟨?_, d2.next, ⟨T, d3⟩, d4⟩) (fun z => ok_bd (m_roomOf d3 d3.g hw g1 g2 g3 g4) (fun o ho => ?_))
        · cases s with
          | none => cases z
          | some B => simp only [fwB] at z; simp only [stF]; rw [if_neg (fun y => absurd y.2 (of_decide_eq_false z))]
        · have ho : match ff (rmp (aS A) (fun j => (255 ^^^ i).testBit j) hg wd) 0 (ncl (aS A)) with
            | some k => o.1 = nI k ∧ RM o.2 m (wT (wT A T) [(nI (cntB (rmp (aS A) (fun j => (255 ^^^ i).testBit j) hg wd) 0 (ncl (aS A)))).toInt64]) n ∧ EqP (Dt m) h2 o.2
            | none => o = (-2, h2) := ho
          rw [ef] at ho
          cases hf : ff (rmp (aS A) (fun j => !(i.testBit j)) hg wd) 0 (ncl (aS A)) with
          | none =>
            rw [hf] at ho
            have ho : o = (-2, h2) := ho
            have hv : mkV (aS A) hg wd i = false := by unfold mkV; rw [hf]; rfl
            rw [ho]
            refine ok_t (by show (-2 : Int32) < 0; decide) (kk (h2, s) ⟨?_, d2.next, ⟨T, d3⟩, d4⟩)
            cases s with
            | none => simp [stF, hv]
            | some B => simp [stF, hv]
          | some k =>
            rw [hf] at ho
            obtain ⟨y1, y2, y3⟩ := ho
            have hk := ff_s _ _ _ hf
            have hv : mkV (aS A) hg wd i = true := by unfold mkV; rw [hf]; rfl
            rw [y1]
            refine ok_f (by rw [i0, nI_ltI (by omega) (by omega)]; omega) (kk (o.2, some i) ⟨?_, d2.next, ⟨_, y2⟩, EqOff.tr d4 (Dt_FM y3)⟩)
            cases s with
            | none => simp [stF, hv]
            | some B => simp only [fwB] at z; simp only [stF]; rw [if_pos ⟨hv, by simpa using z⟩]
      · obtain ⟨h2, s⟩ := s
        have d1 : s = _ := d1
        subst d1
        have d3 : RM h2 m (wT A T) n := d3
        have d4 : EqOff (FM m) h h2 := d4
        have dn : hpI h2 (m + 2) 48 = nI ((aS A).1 2) := d3.w.n
        show Ok (f_X10_makes_20 m (nI hg) (nI wd) (q + 1) h2 (oI (fo (stF (mkV (aS A) hg wd)) none 0 (2 ^ (aS A).1 2))) (nI (2 ^ (aS A).1 2))) _
        simp only
        cases hf : fo (stF (mkV (aS A) hg wd)) none 0 (2 ^ (aS A).1 2) with
        | none =>
          rw [hf] at d2
          have d2 : ∀ s, s < 2 ^ (aS A).1 2 → mkV (aS A) hg wd s = false := d2
          have : mkV (aS A) hg wd (uN (aS A) hg wd 0) = true := mkV_iff.mpr ⟨0, by omega, hld_0 hw g2 g4, sb.rf⟩
          rw [d2 _ (uN_lt b5).1] at this; cases this
        | some B =>
          rw [hf] at d2
          have := stF_lt d2 B rfl
          simp only [f_X10_makes_20]
          refine ok_lt (fun k2 ek2 => ?_)
          clear ek2
          rw [d3.s.r6, d3.s.t2, show ix (48 : Int32) = 48 by decide, dn, i1, shl_1 _ (by omega), lt_u]
          refine ok_gd (nz_t (by omega)) (ok_gd (by decide) (ok_t (Int32.le_refl _) (ok_t (by show (0 : Int32) ≤ nI B; rw [i0, nI_leI (by omega) (by omega)]; omega) (r_t0 d3 (fun h10 c10 o10 => ok_bd (m_enters c10 (by simp [aT, wT, mkA]) _) (fun h11 ⟨c11, o11⟩ => ?_))))))
          rw [p_bc, bd_s]
          exact ok_some ⟨rfl, c11, d4.tr ((Dt_FM o10).tr (Dt_FM o11))⟩
end MAKES
