/-- the camp that a number tells -/
def campOf (S : Fld) (x : Int32) : Option Nat := if 0 ≤ x ∧ x < nI (S.1 2) then some (ix x) else none
/-- a number from lo to hi -/
def numIn (lo hi : Int32) (x : Int32) : Option Nat := if lo ≤ x ∧ x ≤ hi then some (ix x) else none
theorem nI_ix {x : Int32} (h : 0 ≤ x) : x = nI (ix x) ∧ ix x < 2 ^ 31 := by
  obtain ⟨j, hj, e⟩ := nI_of (x := x) (Int32.not_lt.mpr h)
  subst e
  rw [ix_nI hj]
  exact ⟨rfl, hj⟩
theorem campOf_s {S : Fld} {x : Int32} {i : Nat} (hn : S.1 2 < 2 ^ 31) (h : campOf S x = some i) : x = nI i ∧ i < S.1 2 := by
  unfold campOf at h
  split at h
  · rename_i g
    obtain ⟨e, h2⟩ := nI_ix g.1
    have hi : ix x = i := Option.some.inj h
    rw [hi] at e h2
    refine ⟨e, ?_⟩
    have := g.2
    rw [e, nI_ltI h2 hn] at this
    exact this
  · cases h
theorem campOf_nI {S : Fld} {i : Nat} (hn : S.1 2 < 2 ^ 31) (hi : i < 2 ^ 31) : campOf S (nI i) = if i < S.1 2 then some i else none := by
  simp only [campOf, i0, nI_le0 (show (0 : Nat) < 2 ^ 31 by omega) hi, nI_lt0 hi hn, ix_nI hi]
  simp
theorem numIn_s {lo hi : Nat} {x : Int32} {i : Nat} (h1 : lo < 2 ^ 31) (h2 : hi < 2 ^ 31) (h : numIn (nI lo) (nI hi) x = some i) : x = nI i ∧ lo ≤ i ∧ i ≤ hi := by
  unfold numIn at h
  split at h
  · rename_i g
    have g0 : 0 ≤ x := Int32.le_trans (nI_pos' h1) g.1
    obtain ⟨e, h3⟩ := nI_ix g0
    have hi : ix x = i := Option.some.inj h
    rw [hi] at e h3
    have q1 := g.1
    have q2 := g.2
    rw [e, nI_leI h1 h3] at q1
    rw [e, nI_leI h3 h2] at q2
    exact ⟨e, q1, q2⟩
  · cases h
section CAMPS4
variable {h : Hp} {a : Nat} {S : Fld}
theorem p_hasx (c : atC h a S) {x : Int32} : f_X0_has h a x = some (nB (campOf S x).isSome) := by
  rw [f_X0_has, c.q2, campOf]
  by_cases h1 : x < 0
  · rw [if_pos h1, if_neg (fun q => absurd q.1 (Int32.not_le.mpr h1))]; rfl
  · rw [if_neg h1]
    by_cases h2 : nI (S.1 2) ≤ x
    · rw [if_pos h2, if_neg (fun q => absurd q.2 (Int32.not_lt.mpr h2))]; rfl
    · rw [if_neg h2, if_pos ⟨Int32.not_lt.mp h1, Int32.not_le.mp h2⟩]; rfl
def treadS (S : Fld) (x y : Int32) : Int32 × Fld := match campOf S x, numIn (nI 1) (nI 9) y with
  | some i, some n => if onb S i = true then (nI (S.2 4 i - n), setF S 4 i (S.2 4 i - n)) else (-2, S)
  | _, _ => (-1, S)
theorem i9 : (9 : Int32) = nI 9 := by decide
theorem i8 : (8 : Int32) = nI 8 := by decide
theorem mx_sub {x n : Nat} (hx : x < 1000) (hn : n < 1000) : mx32 (nI 0) (nI x - nI n) = nI (x - n) := by
  unfold mx32
  by_cases q : n < x
  · rw [pk_sub (by omega)]
    simp (disch := omega) only [nI_lt0]
    rw [if_pos (by omega)]
  · have hn2 : ¬ nI 0 < nI x - nI n := by
      intro z
      by_cases e : x = n
      · subst e; rw [pk_sub (Nat.le_refl _), Nat.sub_self] at z; exact absurd z (by decide)
      · have := pk_sneg (a := x) (b := n) (by omega) (by omega)
        rw [i0] at this
        exact absurd (Int32.lt_trans z this) (by decide)
    simp only [hn2, if_false]
    rw [Nat.sub_eq_zero_of_le (by omega)]
theorem mn_9 {x k : Nat} (hx : x < 1000) (hk : k < 1000) : mn32 (nI k) (nI x) = nI (min k x) := by
  unfold mn32
  simp (disch := omega) only [nI_lt0]
  by_cases q : x < k
  · rw [if_pos q, Nat.min_eq_right (by omega)]
  · rw [if_neg q, Nat.min_eq_left (by omega)]
/-- a Camps' number that is told from 1 to 9 or not -/
theorem num19 (y : Int32) : (numIn (nI 1) (nI 9) y = none ∧ (y < 1 ∨ ¬ y ≤ 9)) ∨ ∃ n, numIn (nI 1) (nI 9) y = some n ∧ y = nI n ∧ 1 ≤ n ∧ n ≤ 9 ∧ ¬ y < 1 ∧ y ≤ 9 := by
  by_cases q : nI 1 ≤ y ∧ y ≤ nI 9
  · have e : numIn (nI 1) (nI 9) y = some (ix y) := by rw [numIn, if_pos q]
    obtain ⟨e1, e2, e3⟩ := numIn_s (by omega) (by omega) e
    exact Or.inr ⟨ix y, e, e1, e2, e3, by rw [i1]; exact Int32.not_lt.mpr q.1, by rw [i9]; exact q.2⟩
  · refine Or.inl ⟨by rw [numIn, if_neg q], ?_⟩
    rw [i1, i9]
    by_cases q1 : y < nI 1
    · exact Or.inl q1
    · exact Or.inr (fun q2 => q ⟨Int32.not_lt.mp q1, q2⟩)
theorem p_treadOn (c : atC h a S) (hw : wfF S) (x y : Int32) : Ok (f_X0_treadOn h a x y) (fun o => o.1 = (treadS S x y).1 ∧ atC o.2 a (treadS S x y).2 ∧ EqOff (FC a) h o.2) := by
  have hw2 := hw
  obtain ⟨b1, b2, b3, b4, b5, -, -, b8, b9⟩ := hw
  rw [f_X0_treadOn, p_hasx c]
  cases hx : campOf S x with
  | none => exact ok_some ⟨by simp [treadS, hx], by simp [treadS, hx]; exact c, EqOff.rf⟩
  | some i =>
    obtain ⟨rfl, hi⟩ := campOf_s (by omega) hx
    have h8 := b8 4 i
    rcases num19 y with ⟨hy, h1⟩ | ⟨n, hy, rfl, g1, g2, h1, h2⟩
    · simp only [bd_s, Option.isSome_some, nB_0, Bool.true_eq_false, if_false]
      refine ok_if (fun _ => ?_) (fun q => ok_f (h1.resolve_left q) ?_) <;> exact ok_some ⟨by simp [treadS, hx, hy], by simp [treadS, hx, hy]; exact c, EqOff.rf⟩
    · simp only [bd_s, Option.isSome_some, nB_0, Bool.true_eq_false, if_false, h1, h2, if_true, p_isOn c hw2 (i := i) (by omega)]
      cases ho : onb S i with
      | false =>
        simp only [if_true]
        exact ok_some ⟨by simp [treadS, hx, hy, ho], by simp [treadS, hx, hy, ho]; exact c, EqOff.rf⟩
      | true =>
        simp (disch := omega) only [bd_s, lt_u, nB_0, nB_00, nz_t, gdT, inb_nI, ix_nI, nI_le0, nI_lt0, nI_eq0, nI_add, pk_mul, i0, i1, i2, i3, c.q0, c.q1, c.q2, c.q3, c.q4, c.r5, c.r6, c.r7, c.r8, c.r9, c.r10, c.r11, c.t1, c.t2, c.t3, c.t4, c.t5, c.t6, c.t7, c.v0, c.v1, c.v2, c.v3, c.v4, c.v5, c.v6, Bool.true_eq_false, if_false, mx_sub, hpR_upI, hpT_upI, hpI_upI]
        exact ok_some ⟨by simp [treadS, hx, hy, ho], by simp only [treadS, hx, hy, ho, if_true]; exact c.w4, eoC (by omega)⟩
def singS (S : Fld) (x y : Int32) : Int32 × Fld := match campOf S x, numIn (nI 1) (nI 9) y with
  | some i, some n => (nI (min 9 (S.2 4 i + n)), setF S 4 i (min 9 (S.2 4 i + n)))
  | _, _ => (-1, S)
theorem p_singTo (c : atC h a S) (hw : wfF S) (x y : Int32) : Ok (f_X0_singTo h a x y) (fun o => o.1 = (singS S x y).1 ∧ atC o.2 a (singS S x y).2 ∧ EqOff (FC a) h o.2) := by
  obtain ⟨b1, b2, b3, b4, b5, -, -, b8, b9⟩ := hw
  rw [f_X0_singTo, p_hasx c]
  cases hx : campOf S x with
  | none => exact ok_some ⟨by simp [singS, hx], by simp [singS, hx]; exact c, EqOff.rf⟩
  | some i =>
    obtain ⟨rfl, hi⟩ := campOf_s (by omega) hx
    have h8 := b8 4 i
    rcases num19 y with ⟨hy, h1⟩ | ⟨n, hy, rfl, g1, g2, h1, h2⟩
    · simp only [bd_s, Option.isSome_some, nB_0, Bool.true_eq_false, if_false]
      refine ok_if (fun _ => ?_) (fun q => ok_f (h1.resolve_left q) ?_) <;> exact ok_some ⟨by simp [singS, hx, hy], by simp [singS, hx, hy]; exact c, EqOff.rf⟩
    · simp only [bd_s, Option.isSome_some, nB_0, Bool.true_eq_false, if_false, h1, h2, if_true]
      simp (disch := omega) only [bd_s, lt_u, nB_0, nB_00, nz_t, gdT, inb_nI, ix_nI, nI_le0, nI_lt0, nI_eq0, nI_add, pk_mul, i0, i1, i2, i3, c.q0, c.q1, c.q2, c.q3, c.q4, c.r5, c.r6, c.r7, c.r8, c.r9, c.r10, c.r11, c.t1, c.t2, c.t3, c.t4, c.t5, c.t6, c.t7, c.v0, c.v1, c.v2, c.v3, c.v4, c.v5, c.v6, i9, mn_9, hpR_upI, hpT_upI, hpI_upI]
      exact ok_some ⟨by simp [singS, hx, hy], by simp only [singS, hx, hy]; exact c.w4, eoC (by omega)⟩
end CAMPS4
