def bLo (j : Nat) : Nat := if j = 2 ∨ j = 3 ∨ j = 4 then 1 else 0
def bHi (T : Fld) (j : Nat) : Nat := if j = 0 then T.1 0 - 1 else if j = 1 then T.1 1 - 1 else if j = 2 then min 3 (T.1 0 - T.2 0 (T.1 2)) else if j = 3 then min 3 (T.1 1 - T.2 1 (T.1 2)) else 9
/-- a camp more: its facts stand behind the last one -/
def endC (T : Fld) : Fld := setQ (setF T 6 (T.1 2) 0) 2 (T.1 2 + 1)
/-- reads a line from fact j on: the place of a fault, or the field with one camp more -/
def lnG (X : List Int32) (e a : Nat) (T : Fld) (j : Nat) : Nat → Nat ⊕ Fld
  | 0 => .inr (endC T)
  | d + 1 => match dgL X (a + j) e (bLo j) (bHi T j) with
    | none => .inl (a + j)
    | some x => lnG X e a (setF T j (T.1 2) x) (j + 1) d
def campsG (X : List Int32) (e : Nat) : Nat → Fld → Nat → Nat ⊕ Fld
  | 0, _, a => .inl a
  | f + 1, T, a => if 8 ≤ T.1 2 then .inl a else match lnG X e a T 0 6 with
    | .inl b => .inl b
    | .inr T' => if a + 6 < e then (if X.getD (a + 6) 0 = 59 then campsG X e f T' (a + 7) else .inl (a + 6)) else .inr T'
def sp_camps (A : Ast) : Int32 × Ast := if (aX A).length = 0 then (0, wX A []) else match campsG (aX A) (min (aX A).length 55) 9 (aS A) 0 with
  | .inl b => ((-1) - nI b, wX A [])
  | .inr T => if (aX A).length ≤ 55 then (nI (T.1 2) - nI ((aS A).1 2), wX (wK (wP (wS A T) []) noK) []) else (-56, wX A [])
/-- bounds that reading needs -/
def bF (S T : Fld) : Prop := 3 ≤ T.1 0 ∧ T.1 0 ≤ 6 ∧ 3 ≤ T.1 1 ∧ T.1 1 ≤ 6 ∧ T.1 2 ≤ 8 ∧ (∀ j i, T.2 j i ≤ 99) ∧ T.1 0 = S.1 0 ∧ T.1 1 = S.1 1 ∧ T.1 3 = S.1 3 ∧ T.1 4 = S.1 4 ∧ S.1 2 ≤ T.1 2
theorem bF.set {S T : Fld} (b : bF S T) {j i x : Nat} (hx : x ≤ 99) : bF S (setF T j i x) := by
  obtain ⟨b1, b2, b3, b4, b5, b6, b7⟩ := b
  exact ⟨b1, b2, b3, b4, b5, fun j' i' => by simp only [setF]; split; exact hx; exact b6 j' i', b7⟩
theorem bF.end {S T : Fld} (b : bF S T) (h8 : T.1 2 < 8) : bF S (endC T) := by
  obtain ⟨b1, b2, b3, b4, b5, b6, b7, b8, b9, b10, b11⟩ := b
  refine ⟨b1, b2, b3, b4, by show T.1 2 + 1 ≤ 8; omega, fun j i => ?_, b7, b8, b9, b10, by show S.1 2 ≤ T.1 2 + 1; omega⟩
  show (if j = 6 ∧ i = T.1 2 then 0 else T.2 j i) ≤ 99
  split
  · omega
  · exact b6 j i
theorem lnG_b {S : Fld} {X : List Int32} {e a : Nat} : ∀ d j T T', bF S T → T.1 2 < 8 → lnG X e a T j d = .inr T' → bF S T' ∧ T'.1 2 = T.1 2 + 1 := by
  intro d
  induction d with
  | zero => intro j T T' b h8 h; cases h; exact ⟨b.end h8, rfl⟩
  | succ d ih =>
    intro j T T' b h8 h
    rw [lnG] at h
    cases hd : dgL X (a + j) e (bLo j) (bHi T j) with
    | none => rw [hd] at h; cases h
    | some x =>
      rw [hd] at h
      have hx : x ≤ 9 := by
        unfold dgL at hd
        cases hq : dgA X (a + j) e with
        | none => rw [hq] at hd; cases hd
        | some y =>
          rw [hq] at hd
          simp only at hd
          split at hd
          · cases hd; exact (dgA_le hq).1
          · cases hd
      exact ih (j + 1) (setF T j (T.1 2) x) T' (b.set (by omega)) h8 h
section CAMPS
variable {h h1 : Hp} {A : Ast} {T : Fld} {S : Fld}
theorem p_takeDigit {a : Nat} (c : atC h a T) (b : bF S T) (h8 : T.1 2 < 8) {i d : Nat} (hi : i < 6) (hd : d ≤ 9) : Ok (f_X0_takeDigit h a (nI i) (nI d)) (fun o => o.1 = nB (decide (bLo i ≤ d ∧ d ≤ bHi T i)) ∧ atC o.2 a (setF T i (T.1 2) d) ∧ EqOff (FC a) h o.2) := by
  obtain ⟨b1, b2, b3, b4, b5, b6, b7⟩ := b
  have t0 := b6 0 (T.1 2)
  have t1 := b6 1 (T.1 2)
  have no : ∀ {h2 : Hp}, ¬ (bLo i ≤ d ∧ d ≤ bHi T i) → atC h2 a (setF T i (T.1 2) d) → EqOff (FC a) h h2 → Ok (some ((0 : Int32), h2)) (fun o => o.1 = nB (decide (bLo i ≤ d ∧ d ≤ bHi T i)) ∧ atC o.2 a (setF T i (T.1 2) d) ∧ EqOff (FC a) h o.2) := fun z1 z3 z4 => ok_some ⟨by rw [decide_eq_false z1]; rfl, z3, z4⟩
  have ye : ∀ {h2 : Hp}, (bLo i ≤ d ∧ d ≤ bHi T i) → atC h2 a (setF T i (T.1 2) d) → EqOff (FC a) h h2 → Ok (some ((1 : Int32), h2)) (fun o => o.1 = nB (decide (bLo i ≤ d ∧ d ≤ bHi T i)) ∧ atC o.2 a (setF T i (T.1 2) d) ∧ EqOff (FC a) h o.2) := fun z1 z3 z4 => ok_some ⟨by rw [decide_eq_true z1]; rfl, z3, z4⟩
  unfold f_X0_takeDigit
  rw [c.q2, i8]
  refine ok_t (by rw [nI_ltI (by omega) (by omega)]; exact h8) ?_
  rcases (show i = 0 ∨ i = 1 ∨ i = 2 ∨ i = 3 ∨ i = 4 ∨ i = 5 by omega) with rfl | rfl | rfl | rfl | rfl | rfl
  · refine ok_t (by decide) ?_
    rw [c.r5, c.t1, ix_nI (by omega)]
    refine ok_gd (nz_t (by omega)) (ok_gd (inb_nI (by omega) (by omega)) (ok_lt (fun h5 e5 => ?_)))
    have c5 : atC h5 a (setF T 0 (T.1 2) d) := by rw [e5]; exact c.w0
    have o5 : EqOff (FC a) h h5 := by rw [e5]; exact eoC (by omega)
    rw [c5.q0, show (setF T 0 (T.1 2) d).1 0 = T.1 0 from rfl]
    refine ok_if (fun z => no ?_ c5 o5) (fun z => ye ?_ c5 o5)
    · rw [nI_leI (by omega) (by omega)] at z; simp only [bLo, bHi]; simp; omega
    · rw [nI_leI (by omega) (by omega)] at z; simp only [bLo, bHi]; simp; omega
  · refine ok_f (by decide) (ok_t (by decide) ?_)
    rw [c.r6, c.t2, ix_nI (by omega)]
    refine ok_gd (nz_t (by omega)) (ok_gd (inb_nI (by omega) (by omega)) (ok_lt (fun h5 e5 => ?_)))
    have c5 : atC h5 a (setF T 1 (T.1 2) d) := by rw [e5]; exact c.w1
    have o5 : EqOff (FC a) h h5 := by rw [e5]; exact eoC (by omega)
    rw [c5.q1, show (setF T 1 (T.1 2) d).1 1 = T.1 1 from rfl]
    refine ok_if (fun z => no ?_ c5 o5) (fun z => ye ?_ c5 o5)
    · rw [nI_leI (by omega) (by omega)] at z; simp only [bLo, bHi]; simp; omega
    · rw [nI_leI (by omega) (by omega)] at z; simp only [bLo, bHi]; simp; omega
  · refine ok_f (by decide) (ok_f (by decide) (ok_t (by decide) ?_))
    rw [c.r7, c.t3, ix_nI (by omega)]
    refine ok_gd (nz_t (by omega)) (ok_gd (inb_nI (by omega) (by omega)) (ok_lt (fun h5 e5 => ?_)))
    have c5 : atC h5 a (setF T 2 (T.1 2) d) := by rw [e5]; exact c.w2
    have o5 : EqOff (FC a) h h5 := by rw [e5]; exact eoC (by omega)
    rw [c5.q0, c5.q2, c5.r5, c5.t1, show (setF T 2 (T.1 2) d).1 0 = T.1 0 from rfl, show (setF T 2 (T.1 2) d).1 2 = T.1 2 from rfl, ix_nI (by omega), c5.v0 (by omega), show (setF T 2 (T.1 2) d).2 0 (T.1 2) = T.2 0 (T.1 2) by simp [setF], nI_add, i1, i3]
    refine ok_if (fun z => no ?_ c5 o5) (fun z => ok_if (fun w => no ?_ c5 o5) (fun w => ok_gd (nz_t (by omega)) (ok_gd (inb_nI (by omega) (by omega)) (ok_if (fun v => no ?_ c5 o5) (fun v => ?_)))))
    · rw [nI_ltI (by omega) (by omega)] at z; simp only [bLo, bHi]; simp; omega
    · rw [nI_ltI (by omega) (by omega)] at w; simp only [bLo, bHi]; simp; omega
    · rw [nI_ltI (by omega) (by omega)] at v; simp only [bLo, bHi]; simp; omega
    · rw [nI_ltI (by omega) (by omega)] at z w v
      exact ye (by simp only [bLo, bHi]; simp; omega) c5 o5
  · refine ok_f (by decide) (ok_f (by decide) (ok_f (by decide) (ok_t (by decide) ?_)))
    rw [c.r8, c.t4, ix_nI (by omega)]
    refine ok_gd (nz_t (by omega)) (ok_gd (inb_nI (by omega) (by omega)) (ok_lt (fun h5 e5 => ?_)))
    have c5 : atC h5 a (setF T 3 (T.1 2) d) := by rw [e5]; exact c.w3
    have o5 : EqOff (FC a) h h5 := by rw [e5]; exact eoC (by omega)
    rw [c5.q1, c5.q2, c5.r6, c5.t2, show (setF T 3 (T.1 2) d).1 1 = T.1 1 from rfl, show (setF T 3 (T.1 2) d).1 2 = T.1 2 from rfl, ix_nI (by omega), c5.v1 (by omega), show (setF T 3 (T.1 2) d).2 1 (T.1 2) = T.2 1 (T.1 2) by simp [setF], nI_add, i1, i3]
    refine ok_if (fun z => no ?_ c5 o5) (fun z => ok_if (fun w => no ?_ c5 o5) (fun w => ok_gd (nz_t (by omega)) (ok_gd (inb_nI (by omega) (by omega)) (ok_if (fun v => no ?_ c5 o5) (fun v => ?_)))))
    · rw [nI_ltI (by omega) (by omega)] at z; simp only [bLo, bHi]; simp; omega
    · rw [nI_ltI (by omega) (by omega)] at w; simp only [bLo, bHi]; simp; omega
    · rw [nI_ltI (by omega) (by omega)] at v; simp only [bLo, bHi]; simp; omega
    · rw [nI_ltI (by omega) (by omega)] at z w v
      exact ye (by simp only [bLo, bHi]; simp; omega) c5 o5
  · refine ok_f (by decide) (ok_f (by decide) (ok_f (by decide) (ok_f (by decide) (ok_t (by decide) ?_))))
    rw [c.r9, c.t5, ix_nI (by omega)]
    refine ok_gd (nz_t (by omega)) (ok_gd (inb_nI (by omega) (by omega)) (ok_lt (fun h5 e5 => ?_)))
    have c5 : atC h5 a (setF T 4 (T.1 2) d) := by rw [e5]; exact c.w4
    have o5 : EqOff (FC a) h h5 := by rw [e5]; exact eoC (by omega)
    rw [i1]
    refine ok_if (fun z => no ?_ c5 o5) (fun z => ?_)
    · rw [nI_ltI (by omega) (by omega)] at z; simp only [bLo, bHi]; simp; omega
    · rw [nI_ltI (by omega) (by omega)] at z
      exact ye (by simp only [bLo, bHi]; simp; omega) c5 o5
  · refine ok_f (by decide) (ok_f (by decide) (ok_f (by decide) (ok_f (by decide) (ok_f (by decide) ?_))))
    rw [c.r10, c.t6, ix_nI (by omega)]
    refine ok_gd (nz_t (by omega)) (ok_gd (inb_nI (by omega) (by omega)) (ok_lt (fun h5 e5 => ?_)))
    have c5 : atC h5 a (setF T 5 (T.1 2) d) := by rw [e5]; exact c.w5
    have o5 : EqOff (FC a) h h5 := by rw [e5]; exact eoC (by omega)
    exact ye (by simp only [bLo, bHi]; simp; omega) c5 o5
/-- a line: where a sign can't stand, or one camp more -/
theorem p_readLine {a x e at_ : Nat} {X : List Int32} (cx : atX h x X) (hd : a + 7 < x ∨ x + 1 < a) (c : atC h a T) (b : bF S T) (h8 : T.1 2 < 8) (ha : at_ ≤ 100) (he : e ≤ 100) : Ok (f_X0_readLine h a x (nI at_) (nI e)) (fun o => (match lnG X e at_ T 0 6 with
    | .inl q => o.1 = nI q
    | .inr T' => o.1 = -1 ∧ atC o.2 a T') ∧ EqOff (FC a) h o.2) := by
  have hF := FU_big
  rw [f_X0_readLine, c.q2, i8]
  refine ok_t (by rw [nI_ltI (by omega) (by omega)]; exact h8) ?_
  have go : ∀ d q j h2 T2, j + d = 6 → d < q → atC h2 a T2 → bF S T2 → T2.1 2 = T.1 2 → EqOff (FC a) h h2 → Ok (f_X0_readLine_14 a x (nI at_) (nI e) q h2 (nI j)) (fun o => (match lnG X e at_ T2 j d with
      | .inl q => o.1 = nI q
      | .inr T' => o.1 = -1 ∧ atC o.2 a T') ∧ EqOff (FC a) h o.2) := by
    intro d
    induction d with
    | zero =>
      intro q j h2 T2 e1 e2 c2 b2 e3 o2
      obtain ⟨q, rfl⟩ : ∃ k, q = k + 1 := ⟨q - 1, by omega⟩
      have : j = 6 := by omega
      subst this
      simp only [f_X0_readLine_14, lnG]
      refine ok_lt (fun k3 ek => ?_)
      clear ek
      rw [c2.r11, c2.t7, c2.q2, ix_nI (by omega)]
      refine ok_t (by decide) (ok_gd (nz_t (by omega)) (ok_gd (inb_nI (by omega) (by omega)) (ok_lt (fun h6 e6 => ?_))))
      have c6 : atC h6 a (setF T2 6 (T2.1 2) 0) := by rw [e6]; exact c2.w6
      rw [c6.q2, show (setF T2 6 (T2.1 2) 0).1 2 = T2.1 2 from rfl, i1, nI_add]
      refine ok_lt (fun h7 e7 => ok_some ⟨⟨n1m, ?_⟩, o2.tr ?_⟩)
      · rw [e7]; exact c6.wq
      · rw [e7, e6]; exact (eoC (by omega)).tr eoC0
    | succ d ih =>
      intro q j h2 T2 e1 e2 c2 b2 e3 o2
      obtain ⟨q, rfl⟩ : ∃ k, q = k + 1 := ⟨q - 1, by omega⟩
      have cx2 : atX h2 x X := cx.keep o2 (fun y z1 z2 => by unfold F2 at z1; unfold FC at z2; omega)
      rw [lnG]
      simp only [f_X0_readLine_14, f_X0_readLine_49]
      refine ok_lt (fun k3 ek => ?_)
      subst ek
      rw [nI_add, p_digit cx2 (by omega) (by omega), bd_s]
      refine ok_f (by rw [show (6 : Int32) = nI 6 by decide, nI_leI (by omega) (by omega)]; omega) ?_
      unfold dgL
      cases hq : dgA X (at_ + j) e with
      | none => exact ok_t rfl (ok_some ⟨rfl, o2⟩)
      | some y =>
        have hy := (dgA_le hq).1
        refine ok_f (fun z => ?_) (ok_bd (p_takeDigit c2 b2 (by omega) (by omega) hy) (fun o ⟨z1, z2, z3⟩ => ?_))
        · have := nI_pos' (n := y) (by omega)
          have z : nI y = -1 := z
          rw [z] at this; exact absurd this (by decide)
        · rw [z1]
          simp only [nB_0]
          by_cases w : bLo j ≤ y ∧ y ≤ bHi T2 j
          · refine ok_f (by simp [w]) ?_
            simp only [if_pos w]
            rw [lt_u, i1, nI_add]
            exact ih q (j + 1) o.2 _ (by omega) (by omega) z2 (b2.set (by omega)) e3 (o2.tr z3)
          · refine ok_t (decide_eq_false w) ?_
            simp only [if_neg w]
            exact ok_some ⟨rfl, o2.tr z3⟩
  exact go 6 FU 0 h T (by omega) (by omega) c b rfl EqOff.rf
theorem lnG_at {X : List Int32} {e a : Nat} : ∀ d j T q, lnG X e a T j d = .inl q → a + j ≤ q ∧ q < a + j + d := by
  intro d
  induction d with
  | zero => intro j T q h; cases h
  | succ d ih =>
    intro j T q h
    rw [lnG] at h
    cases hd : dgL X (a + j) e (bLo j) (bHi T j) with
    | none => rw [hd] at h; cases h; omega
    | some x => rw [hd] at h; have := ih _ _ _ h; omega
theorem lnG_e {X : List Int32} {e a : Nat} : ∀ d j T T', lnG X e a T j d = .inr T' → d = 0 ∨ a + j + d ≤ e := by
  intro d
  induction d with
  | zero => intro j T T' _; exact Or.inl rfl
  | succ d ih =>
    intro j T T' h
    rw [lnG] at h
    cases hd : dgL X (a + j) e (bLo j) (bHi T j) with
    | none => rw [hd] at h; cases h
    | some x =>
      rw [hd] at h
      have := (dgL_s hd).2.2.1
      have := ih _ _ _ h
      omega
theorem ne_m1 {n : Nat} (h : n < 2 ^ 31) : ¬ nI n = (-1 : Int32) := fun z => by
  have := nI_pos' (n := n) h
  rw [z] at this; exact absurd this (by decide)
theorem c_camps (c : RC h A) (hw : wfF (aS A)) : Ok (f_X9_camps h 1) (fun o => o.1 = (sp_camps A).1 ∧ RC o.2 (sp_camps A).2 ∧ EqOff FX h o.2) := by
  have hF := FU_big
  have hx := c.x.2.2.2.1
  have hx2 := c.x.2.2.2.2.1
  have told : Ok (f_X9_campsTold h 1) (fun o => o.1 = (sp_camps A).1 ∧ (∃ X', (sp_camps A).2 = wX X' [] ∧ RC o.2 X') ∧ EqOff FX h o.2) := by
    rw [f_X9_campsTold, c.s.r1_0, hx, c.s.r1_4, c.s.r1_2, show (55 : Int32) = nI 55 by decide, mn_nI (by omega) (by omega), lt_u]
    refine ok_gd (by decide) ?_
    unfold sp_camps
    by_cases q0 : (aX A).length = 0
    · rw [if_pos q0]
      exact ok_t (by rw [q0]; rfl) (ok_some ⟨rfl, ⟨A, rfl, c⟩, EqOff.rf⟩)
    · rw [if_neg q0]
      refine ok_f (fun z => q0 (by rw [i0, nI_eq (by omega) (by omega)] at z; exact z)) (ok_gd (by decide) (ok_gd (by decide) (ok_bd (c_copy c (a := 22) (by omega)) (fun h10 ⟨c10, b10, o10⟩ => ?_))))
      have bS : bF (aS A) (aS A) := ⟨hw.1, hw.2.1, hw.2.2.1, hw.2.2.2.1, hw.2.2.2.2.1, hw.2.2.2.2.2.2.2.1, rfl, rfl, rfl, rfl, Nat.le_refl _⟩
      generalize he : min (aX A).length 55 = e at *
      have e55 : e ≤ 55 := by omega
      have e80 : e ≤ (aX A).length := by omega
      have e1 : 1 ≤ e := by omega
      have go : ∀ f q l T h2, 7 * l + 7 * f = 63 → f < q → 7 * l ≤ e → RC h2 A → atC h2 22 T → bF (aS A) T → EqOff FX h h2 → Ok (f_X9_campsTold_40 1 q h2 (nI e) (nI (7 * l)) (nI l)) (fun o => o.1 = (match campsG (aX A) e f T (7 * l) with
          | .inl b => ((-1 : Int32) - nI b, wX A [])
          | .inr T => if (aX A).length ≤ 55 then (nI (T.1 2) - nI ((aS A).1 2), wX (wK (wP (wS A T) []) noK) []) else (-56, wX A [])).1 ∧ (∃ X', (match campsG (aX A) e f T (7 * l) with
          | .inl b => ((-1 : Int32) - nI b, wX A [])
          | .inr T => if (aX A).length ≤ 55 then (nI (T.1 2) - nI ((aS A).1 2), wX (wK (wP (wS A T) []) noK) []) else (-56, wX A [])).2 = wX X' [] ∧ RC o.2 X') ∧ EqOff FX h o.2) := by
        intro f
        induction f with
        | zero => intro q l T h2 f1 f2 f3; omega
        | succ f ih =>
          intro q l T h2 f1 f2 f3 c2 t2 b2 o2
          obtain ⟨q, rfl⟩ : ∃ k, q = k + 1 := ⟨q - 1, by omega⟩
          have b5 := b2.2.2.2.2.1
          rw [campsG]
          simp only [f_X9_campsTold_40, f_X9_campsTold_102, f_X9_campsTold_111]
          refine ok_lt (fun k3 ek => ?_)
          subst ek
          refine ok_f (by rw [i8, nI_leI (by omega) (by omega)]; omega) ?_
          by_cases w : e ≤ 7 * l
          · have ew : 7 * l = e := by omega
            refine ok_t (by rw [nI_leI (by omega) (by omega)]; exact w) (ok_t (by rw [ew]) ?_)
            have ed : dgL (aX A) e e (bLo 0) (bHi T 0) = none := by
              have : dgA (aX A) e e = none := by unfold dgA; rw [if_neg (fun z => by omega)]
              unfold dgL; rw [this]
            have eg : (if 8 ≤ T.1 2 then Sum.inl (7 * l) else match lnG (aX A) e (7 * l) T 0 6 with
                | .inl b => .inl b
                | .inr T' => if 7 * l + 6 < e then (if (aX A).getD (7 * l + 6) 0 = 59 then campsG (aX A) e f T' (7 * l + 7) else .inl (7 * l + 6)) else .inr T') = (.inl e : Nat ⊕ Fld) := by
              by_cases v : 8 ≤ T.1 2
              · rw [if_pos v, ew]
              · rw [if_neg v, lnG, ew, Nat.add_zero, ed]
            rw [eg]
            exact ok_some ⟨rfl, ⟨A, rfl, c2⟩, o2⟩
          · refine ok_f (by rw [nI_leI (by omega) (by omega)]; exact w) ?_
            rw [c2.s.r1_4, c2.s.r1_0]
            refine ok_gd (by decide) (ok_gd (by decide) ?_)
            by_cases v : 8 ≤ T.1 2
            · rw [if_pos v]
              have er : f_X0_readLine h2 22 2 (nI (7 * l)) (nI e) = some (nI (7 * l), h2) := by
                rw [f_X0_readLine, t2.q2, if_neg (by rw [i8, nI_ltI (by omega) (by omega)]; omega)]
              rw [er, bd_s]
              exact ok_f (ne_m1 (by omega)) (ok_some ⟨rfl, ⟨A, rfl, c2⟩, o2⟩)
            · rw [if_neg v]
              refine ok_bd (p_readLine c2.x (by omega) t2 b2 (by omega) (by omega) (by omega)) (fun o ⟨z1, z2⟩ => ?_)
              have c3 : RC o.2 A := c2.scr (z2.mono (fun x z => by unfold FC at z; unfold Fs; omega))
              have o3 : EqOff FX h o.2 := o2.tr (z2.mono (FC_FX (by omega) (by omega)))
              cases hl : lnG (aX A) e (7 * l) T 0 6 with
              | inl b =>
                have hb := lnG_at _ _ _ _ hl
                rw [hl] at z1
                have z1 : o.1 = nI b := z1
                rw [z1]
                exact ok_f (ne_m1 (by omega)) (ok_some ⟨rfl, ⟨A, rfl, c3⟩, o3⟩)
              | inr T' =>
                rw [hl] at z1
                obtain ⟨y1, y2⟩ := (show o.1 = -1 ∧ atC o.2 22 T' from z1)
                obtain ⟨b3, n3⟩ := lnG_b _ _ _ _ b2 (by omega) hl
                have n4 := (lnG_e _ _ _ _ hl).resolve_left (by omega)
                rw [y1, show (6 : Int32) = nI 6 by decide, nI_add, lt_u]
                refine ok_t rfl ?_
                simp only
                by_cases w6 : 7 * l + 6 < e
                · refine ok_f (by rw [nI_leI (by omega) (by omega)]; omega) ?_
                  rw [c3.s.r1_0, p_get c3.x (by omega), bd_s, if_pos w6]
                  have es : sgA (aX A) (7 * l + 6) = (aX A).getD (7 * l + 6) 0 := by unfold sgA; rw [if_pos (by omega)]
                  rw [es]
                  refine ok_gd (by decide) (ok_if (fun z => ?_) (fun z => ?_))
                  · rw [if_pos z, lt_u, lt_u, i1, nI_add, nI_add]
                    have := ih q (l + 1) T' o.2 (by omega) (by omega) (by omega) c3 y2 b3 o3
                    rw [show 7 * (l + 1) = 7 * l + 7 by omega] at this
                    exact this
                  · rw [if_neg z]
                    exact ok_some ⟨rfl, ⟨A, rfl, c3⟩, o3⟩
                · rw [if_neg w6]
                  refine ok_t (by rw [nI_leI (by omega) (by omega)]; omega) ?_
                  rw [lt_u, lt_u, i1, nI_add, nI_add]
                  obtain ⟨q, rfl⟩ : ∃ k, q = k + 1 := ⟨q - 1, by omega⟩
                  simp only [f_X9_campsTold_40, f_X9_campsTold_111]
                  refine ok_lt (fun k3 ek => ?_)
                  clear ek
                  have fin : Ok (if nI (7 * l + 6 + 1) = nI e then some ((-1 : Int32) - nI e, o.2) else gd (nz (hpR o.2 1 0)) <| if hpI o.2 (hpR o.2 1 0) 1 ≤ 55 then gd (nz (hpR o.2 1 4)) <| gd (nz (hpR o.2 1 2)) <| lt (hpI o.2 (hpR o.2 1 4) 2 - hpI o.2 (hpR o.2 1 2) 2) fun v35 => (f_X0_copy o.2 (hpR o.2 1 2) (hpR o.2 1 4)).bind fun q38 => (f_X9_forgetStates q38 1).bind fun q39 => some (v35, q39) else some ((-56 : Int32), o.2)) (fun o => o.1 = (if (aX A).length ≤ 55 then (nI (T'.1 2) - nI ((aS A).1 2), wX (wK (wP (wS A T') []) noK) []) else (-56, wX A [])).1 ∧ (∃ X', (if (aX A).length ≤ 55 then (nI (T'.1 2) - nI ((aS A).1 2), wX (wK (wP (wS A T') []) noK) []) else ((-56 : Int32), wX A [])).2 = wX X' [] ∧ RC o.2 X') ∧ EqOff FX h o.2) := by
                    rw [c3.s.r1_0, c3.x.2.2.2.1, c3.s.r1_4, c3.s.r1_2, y2.q2, c3.n.q2, show (55 : Int32) = nI 55 by decide]
                    refine ok_f (by rw [nI_eq (by omega) (by omega)]; omega) (ok_gd (by decide) ?_)
                    by_cases w9 : (aX A).length ≤ 55
                    · rw [if_pos w9]
                      refine ok_t (by rw [nI_leI (by omega) (by omega)]; exact w9) (ok_gd (by decide) (ok_gd (by decide) ?_))
                      rw [lt_u]
                      refine ok_bd (p_copy c3.n.1 y2 (by omega)) (fun h38 ⟨r1, r2⟩ => ok_bd (c_forget (c3.now r1 r2)) (fun h39 ⟨r3, r4⟩ => ok_some ⟨rfl, ⟨_, rfl, r3⟩, o3.tr ((r2.mono (FC_FX (by omega) (by omega))).tr r4)⟩))
                    · rw [if_neg w9]
                      exact ok_f (by rw [nI_leI (by omega) (by omega)]; exact w9) (ok_some ⟨rfl, ⟨A, rfl, c3⟩, o3⟩)
                  refine ok_if (fun _ => fin) (fun _ => ok_t (by rw [nI_leI (by omega) (by omega)]; omega) fin)
      exact go 9 FU 0 (aS A) h10 (by omega) (by omega) (by omega) c10 b10 bS (o10.mono (FC_FX (by omega) (by omega)))
  rw [f_X9_camps]
  refine ok_bd told (fun o ⟨z1, ⟨X', z2, z3⟩, z4⟩ => ?_)
  have e2 := c_xclr z3
  rw [z3.s.r1_0]
  refine ok_gd (by decide) (ok_lt (fun h4 e4 => ok_some ⟨z1, ?_, z4.tr (by rw [e4]; exact e2.2)⟩))
  rw [e4, z2]
  exact e2.1
end CAMPS
