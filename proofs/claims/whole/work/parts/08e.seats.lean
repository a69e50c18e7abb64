def pc (x : Nat) : Nat := cntB (fun j => x.testBit j) 0 8
def lx (a b : Nat) : Prop := pc a < pc b ∨ (pc a = pc b ∧ a ≤ b)
theorem lx.rf {a : Nat} : lx a a := Or.inr ⟨rfl, Nat.le_refl _⟩
theorem lx.tr {a b c : Nat} (h1 : lx a b) (h2 : lx b c) : lx a c := by unfold lx at *; omega
theorem lx.eq {a b : Nat} (h1 : lx a b) (h2 : lx b a) : a = b := by unfold lx at *; omega
theorem pc_bc {x : Nat} (h : x < 256) : bc32 (nI x) = nI (pc x) := bc8 x h
theorem pc_le {x : Nat} : pc x ≤ 8 := cnt_le 8 0
/-- the least one by how many, then by number -/
def stS2 (V : Nat → Bool) (b : Option Nat) (s : Nat) : Option Nat := if V s = true ∧ (∀ B, b = some B → pc s < pc B) then some s else b
def stF (V : Nat → Bool) (b : Option Nat) (s : Nat) : Option Nat := match b with
  | none => if V s = true then some s else none
  | some B => if V s = true ∧ pc s < pc B then some s else some B
def stI (V : Nat → Bool) (i : Nat) (b : Option Nat) : Prop := match b with
  | none => ∀ s, s < i → V s = false
  | some B => B < i ∧ V B = true ∧ ∀ s, s < i → V s = true → lx B s
theorem stI.next {V : Nat → Bool} {i : Nat} {b : Option Nat} (d : stI V i b) : stI V (i + 1) (stF V b i) := by
  cases b with
  | none =>
    have d : ∀ s, s < i → V s = false := d
    unfold stF
    by_cases q : V i = true
    · simp only [q, if_true]
      refine ⟨by omega, q, fun s hs hv => ?_⟩
      by_cases e : s = i
      · rw [e]; exact lx.rf
      · rw [d s (by omega)] at hv; cases hv
    · simp only [q]
      show ∀ s, s < i + 1 → V s = false
      intro s hs
      by_cases e : s = i
      · rw [e]; simpa using q
      · exact d s (by omega)
  | some B =>
    obtain ⟨d1, d2, d3⟩ := (show B < i ∧ V B = true ∧ ∀ s, s < i → V s = true → lx B s from d)
    unfold stF
    by_cases q : V i = true ∧ pc i < pc B
    · simp only [q, and_self, if_true]
      refine ⟨by omega, q.1, fun s hs hv => ?_⟩
      by_cases e : s = i
      · rw [e]; exact lx.rf
      · have := d3 s (by omega) hv; unfold lx at *; omega
    · simp only [q, if_false]
      refine ⟨by omega, d2, fun s hs hv => ?_⟩
      by_cases e : s = i
      · subst e
        have : ¬ pc s < pc B := fun z => q ⟨hv, z⟩
        unfold lx; omega
      · exact d3 s (by omega) hv
theorem stI_fo (V : Nat → Bool) : ∀ N, stI V N (fo (stF V) none 0 N) := by
  intro N
  induction N with
  | zero => intro s hs; omega
  | succ N ih => rw [fo_snoc, Nat.zero_add]; exact ih.next
theorem st_uni {V : Nat → Bool} {N B : Nat} (h1 : B < N) (h2 : V B = true) (h3 : ∀ s, s < N → V s = true → lx B s) : fo (stF V) none 0 N = some B := by
  have h := stI_fo V N
  cases e : fo (stF V) none 0 N with
  | none =>
    rw [e] at h
    have h : ∀ s, s < N → V s = false := h
    rw [h B h1] at h2; cases h2
  | some C =>
    rw [e] at h
    obtain ⟨g1, g2, g3⟩ := (show C < N ∧ V C = true ∧ ∀ s, s < N → V s = true → lx C s from h)
    rw [lx.eq (g3 B h1 h2) (h3 C g1 g2)]
def snR (S : Fld) (x : Nat) : Int32 := orB (fun r => bitsB (snb S r) (S.1 2)) (fun r => x.testBit r) (S.1 0)
def seV (S : Fld) (x : Nat) : Bool := decide (snR S x = snR S (2 ^ S.1 0 - 1))
def sp_seats (A : Ast) : Int32 × Ast := match fo (stF (seV (aS A))) none 0 (2 ^ (aS A).1 0) with
  | some B => (bc32 (nI B), wT A [(nI B).toInt64, (bitsB (onb (aS A)) ((aS A).1 2) &&& (snR (aS A) (2 ^ (aS A).1 0 - 1) ^^^ (-1))).toInt64])
  | none => (-1, A)
section SEATS
variable {h h1 : Hp} {A : Ast} {m n : Nat} {S : Fld}
theorem pw6 {r : Nat} (hr : r ≤ 6) : 2 ^ r ≤ 64 ∧ 1 ≤ 2 ^ r := ⟨Nat.pow_le_pow_right (n := 2) (by omega) hr, Nat.one_le_two_pow⟩
theorem c_seats (c : RC h A) (hw : wfF (aS A)) : Ok (f_X9_seats h 1) (fun o => o.1 = (sp_seats A).1 ∧ RC o.2 (sp_seats A).2 ∧ EqOff FX h o.2) := by
  have hF := FU_big
  have b2 := hw.2.1
  have hp := pw6 b2
  rw [f_X9_seats, c.s.r1_2, c.n.q0, i1, shl_1 _ (by omega), lt_u, pk_sub (by omega), p_seenFromRows c.n hw (by omega), bd_s, lt_u, lt_u, pk_sub (by omega)]
  refine ok_gd (by decide) ?_
  show Ok (lt (nI (2 ^ (aS A).1 0 - 1) - nI 1) fun v9 => f_X9_seats_35 1 FU h (snR (aS A) (2 ^ (aS A).1 0 - 1)) (nI (2 ^ (aS A).1 0 - 1)) v9) _
  rw [lt_u]
  generalize hN : 2 ^ (aS A).1 0 = N at *
  have go : ∀ k q B, k < N → k < q → B < N → seV (aS A) B = true → k ≤ B → (∀ s, k ≤ s → s < N → seV (aS A) s = true → lx B s) → Ok (f_X9_seats_35 1 q h (snR (aS A) (N - 1)) (nI B) (nI k - nI 1)) (fun o => o.1 = (sp_seats A).1 ∧ RC o.2 (sp_seats A).2 ∧ EqOff FX h o.2) := by
    intro k
    induction k with
    | zero =>
      intro q B _ hq hB hv _ hl
      obtain ⟨q, rfl⟩ : ∃ k, q = k + 1 := ⟨q - 1, by omega⟩
      simp only [f_X9_seats_35]
      refine ok_lt (fun k2 ek2 => ?_)
      clear ek2
      refine ok_t (by decide) ?_
      have es : sp_seats A = (bc32 (nI B), wT A [(nI B).toInt64, (bitsB (onb (aS A)) ((aS A).1 2) &&& (snR (aS A) (N - 1) ^^^ (-1))).toInt64]) := by
        unfold sp_seats
        rw [hN, st_uni hB hv (fun s hs => hl s (by omega) hs)]
      rw [es, c.s.r1_1]
      refine ok_gd (by decide) (ok_bd (c_t0 c) (fun h13 ⟨c13, o13⟩ => ?_))
      rw [c13.s.r1_1]
      refine ok_gd (by decide) (ok_bd (c_t1 c13 (by simp [aT, wT, mkA]) _) (fun h16 ⟨c16, o16⟩ => ?_))
      rw [c16.s.r1_1, c16.s.r1_2, p_onBits c16.n hw, bd_s]
      refine ok_gd (by decide) (ok_gd (by decide) (ok_bd (c_t1 c16 (by simp [aT, wT, mkA]) _) (fun h22 ⟨c22, o22⟩ => ?_)))
      rw [p_bc, bd_s]
      exact ok_some ⟨rfl, c22, (F24y o13).tr ((F24y o16).tr (F24y o22))⟩
    | succ k ih =>
      intro q B hk hq hB hv hkB hl
      obtain ⟨q, rfl⟩ : ∃ k, q = k + 1 := ⟨q - 1, by omega⟩
      rw [pk_sub (by omega), Nat.add_sub_cancel]
      simp only [f_X9_seats_35, f_X9_seats_64]
      refine ok_lt (fun k2 ek2 => ?_)
      subst ek2
      have hpk := pc_le (x := k)
      have hpB := pc_le (x := B)
      rw [p_bc, bd_s, p_bc, bd_s, pc_bc (by omega), pc_bc (by omega), c.s.r1_2, p_seenFromRows c.n hw (by omega), bd_s]
      refine ok_f (by rw [i0, nI_ltI (by omega) (by omega)]; omega) ?_
      simp only [lt_u, show nI k + (-1 : Int32) = nI k - nI 1 by rw [Int32.sub_eq_add_neg, n1m]]
      have eV : seV (aS A) k = true ↔ snR (aS A) k = snR (aS A) (N - 1) := by unfold seV; rw [hN, decide_eq_true_eq]
      refine ok_if (fun z => ?_) (fun z => ok_gd (by decide) ?_)
      · rw [nI_ltI (by omega) (by omega)] at z
        refine ih q B (by omega) (by omega) hB hv (by omega) (fun s h1 h2 h3 => ?_)
        by_cases e : s = k
        · rw [e]; unfold lx; omega
        · exact hl s (by omega) h2 h3
      · rw [nI_ltI (by omega) (by omega)] at z
        show Ok (f_X9_seats_35 1 q h (snR (aS A) (N - 1)) (if snR (aS A) k = snR (aS A) (N - 1) then nI k else nI B) (nI k - nI 1)) _
        by_cases w : snR (aS A) k = snR (aS A) (N - 1)
        · rw [if_pos w]
          refine ih q k (by omega) (by omega) (by omega) (eV.mpr w) (by omega) (fun s h1 h2 h3 => ?_)
          by_cases e : s = k
          · rw [e]; exact lx.rf
          · have := hl s (by omega) h2 h3
            unfold lx at *; omega
        · rw [if_neg w]
          refine ih q B (by omega) (by omega) hB hv (by omega) (fun s h1 h2 h3 => ?_)
          by_cases e : s = k
          · rw [e] at h3; exact absurd (eV.mp h3) w
          · exact hl s (by omega) h2 h3
  refine go (N - 1) FU (N - 1) (by omega) (by omega) (by omega) (by unfold seV; rw [hN]; exact decide_eq_true rfl) (by omega) (fun s h1 h2 _ => ?_)
  rw [show s = N - 1 by omega]; exact lx.rf
theorem m_seenBy (g : atG h m S) (w : atW h (m + 2) S) (hw : wfF S) {x : Nat} (hx : x < 2 ^ 31) : f_X10_seenBy h m (nI x) = some (snR S x) := by
  have hF := FU_big
  have b2 := hw.2.1
  refine fo_lp (fun q (b : Int32) i => f_X10_seenBy_4 h m (nI x) q b i) (S.1 0) (orS (fun r => bitsB (snb S r) (S.1 2)) (fun r => x.testBit r)) some (fun q b i hi => ?_) (fun q b => ?_) (S.1 0) FU (nI 0) 0 (by omega) (by omega)
  · show f_X10_seenBy_4 h m (nI x) (q + 1) b (nI i) = f_X10_seenBy_4 h m (nI x) q (orS (fun r => bitsB (snb S r) (S.1 2)) (fun r => x.testBit r) b i) (nI (i + 1))
    simp only [f_X10_seenBy_4, f_X10_seenBy_31, lt_u]
    rw [g.2.1, if_neg (by rw [nI_leI (by omega) (by omega)]; omega), p_hasI h hx (by omega), bd_s, m_seenFrom g w hw hi, bd_s, i1, nI_add]
    simp only [nB_0, orS]
    cases x.testBit i <;> simp
  · show f_X10_seenBy_4 h m (nI x) (q + 1) b (nI (S.1 0)) = some b
    simp only [f_X10_seenBy_4, lt_u]
    rw [g.2.1, if_pos (Int32.le_refl _)]
def oN (o : Option Nat) : Int32 := oI o
def fwB (s : Nat) (b : Option Nat) : Bool := match b with
  | none => true
  | some B => decide (pc s < pc B)
theorem m_isFewer (h : Hp) {s : Nat} {b : Option Nat} (hs : s < 256) (hb : ∀ B, b = some B → B < 256) : f_X10_isFewer h (nI s) (oI b) = some (nB (fwB s b)) := by
  unfold f_X10_isFewer f_X10_isFewer_15
  cases b with
  | none => rw [if_pos (show oI none < 0 by decide)]; rfl
  | some B =>
    have h1 := hb B rfl
    have := pc_le (x := s)
    have := pc_le (x := B)
    show (if nI B < 0 then _ else _) = _
    rw [if_neg (by rw [i0, nI_ltI (by omega) (by omega)]; omega)]
    show ((f_J6_bitCount_0f7a4 h (nI s)).bind fun q2 => (f_J6_bitCount_0f7a4 h (nI B)).bind fun q3 => _) = _
    rw [p_bc, bd_s, p_bc, bd_s, pc_bc hs, pc_bc h1]
    show _ = some (nB (decide (pc s < pc B)))
    by_cases z : pc s < pc B
    · rw [if_neg (by rw [nI_leI (by omega) (by omega)]; omega), decide_eq_true z]; rfl
    · rw [if_pos (by rw [nI_leI (by omega) (by omega)]; omega), decide_eq_false z]; rfl
theorem stF_lt {V : Nat → Bool} {i : Nat} {b : Option Nat} (d : stI V i b) : ∀ B, b = some B → B < i := by
  intro B e; subst e; exact d.1
theorem r_seats (c : RM h m A n) (a : WA A n) : Ok (f_X10_seats h m) (fun o => o.1 = (sp_seats A).1 ∧ RM o.2 m (sp_seats A).2 n ∧ EqOff (FM m) h o.2) := by
  have hF := FU_big
  have hw := a.w
  have b2 := hw.2.1
  have hp := pw6 b2
  rw [f_X10_seats]
  refine r_th c (fun h1 c1 o1 _ => ?_)
  rw [c1.g.2.1, i1, shl_1 _ (by omega), lt_u, pk_sub (by omega), m_seenBy c1.g c1.w hw (by omega), bd_s]
  have h2 := hp.1
  have h3 := hp.2
  refine okf (fun q (s : Option Nat) i => f_X10_seats_22 m q h1 (snR (aS A) (2 ^ (aS A).1 0 - 1)) (oI s) i) (2 ^ (aS A).1 0) (stF (seV (aS A))) (fun i s acc => s = acc ∧ stI (seV (aS A)) i acc) _ 0 (fun q i s acc _ hi ⟨d1, d2⟩ kk => ?_) (2 ^ (aS A).1 0) FU 0 none none (by omega) (by omega) (by omega) ⟨rfl, fun s hs => by omega⟩ (fun q s ⟨d1, d2⟩ => ?_)
  · subst d1
    have hb := stF_lt d2
    show Ok (f_X10_seats_22 m (q + 1) h1 (snR (aS A) (2 ^ (aS A).1 0 - 1)) (oI s) (nI i)) _
    simp only [f_X10_seats_22, f_X10_seats_53, f_X10_seats_54]
    refine ok_lt (fun k2 ek2 => ?_)
    subst ek2
    rw [c1.g.2.1, i1, shl_1 _ (by omega), lt_u, m_isFewer h1 (by omega) (fun B hB => by have := hb B hB; omega), bd_s, m_seenBy c1.g c1.w hw (by omega), bd_s]
    refine ok_f (by rw [nI_leI (by omega) (by omega)]; omega) ?_
    simp only [nB_0, lt_u, nI_add]
    have eV : seV (aS A) i = true ↔ snR (aS A) i = snR (aS A) (2 ^ (aS A).1 0 - 1) := by unfold seV; rw [decide_eq_true_eq]
    have go : ∀ t, stF (seV (aS A)) s i = t → Ok (f_X10_seats_22 m q h1 (snR (aS A) (2 ^ (aS A).1 0 - 1)) (oI t) (nI (i + 1))) _ := fun t et => kk t ⟨et.symm, d2.next⟩
    refine ok_if (fun z => go s ?_) (fun z => ok_if (fun w => go (some i) ?_) (fun w => go s ?_))
    · cases s with
      | none => cases z
      | some B => simp only [fwB] at z; simp only [stF]; rw [if_neg (fun y => absurd y.2 (of_decide_eq_false z))]
    · cases s with
      | none => simp only [stF]; rw [if_pos (eV.mpr w)]
      | some B => simp only [fwB] at z; simp only [stF]; rw [if_pos ⟨eV.mpr w, by simpa using z⟩]
    · cases s with
      | none => simp only [stF]; rw [if_neg (fun y => w (eV.mp y))]
      | some B => simp only [stF]; rw [if_neg (fun y => w (eV.mp y.1))]
  · show Ok (f_X10_seats_22 m (q + 1) h1 (snR (aS A) (2 ^ (aS A).1 0 - 1)) (oI s) (nI (2 ^ (aS A).1 0))) _
    rw [d1]
    have ful : seV (aS A) (2 ^ (aS A).1 0 - 1) = true := by unfold seV; exact decide_eq_true rfl
    unfold sp_seats
    cases hf : fo (stF (seV (aS A))) none 0 (2 ^ (aS A).1 0) with
    | none =>
      rw [hf] at d2
      have d2 : ∀ s, s < 2 ^ (aS A).1 0 → seV (aS A) s = false := d2
      rw [d2 _ (by omega)] at ful; cases ful
    | some B =>
      rw [hf] at d2
      simp only [f_X10_seats_22]
      refine ok_lt (fun k2 ek2 => ?_)
      clear ek2
      rw [c1.g.2.1, i1, shl_1 _ (by omega), lt_u]
      refine ok_t (Int32.le_refl _) (r_t0 c1 (fun h6 c6 o6 => ok_bd (m_enters c6 (by simp [aT, wT, mkA]) _) (fun h7 ⟨c7, o7⟩ => ?_)))
      rw [c7.s.r6, m_on c7.w hw, bd_s]
      refine ok_gd (nz_t (by omega)) (ok_bd (m_enters c7 (by simp [aT, wT, mkA]) _) (fun h11 ⟨c11, o11⟩ => ?_))
      rw [p_bc, bd_s]
      exact ok_some ⟨rfl, c11, o1.ofs.tr ((Dt_FM o6).tr ((Dt_FM o7).tr (Dt_FM o11)))⟩
end SEATS
