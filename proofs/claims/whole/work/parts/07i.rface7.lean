theorem cnt_congr {p q : Nat → Bool} : ∀ d i, (∀ k, i ≤ k → k < i + d → p k = q k) → cntB p i d = cntB q i d := by
  intro d
  induction d with
  | zero => intro i _; rfl
  | succ d ih => intro i hh; rw [cnt_cons, cnt_cons, hh i (by omega) (by omega), ih (i + 1) (fun k h1 h2 => hh k (by omega) (by omega))]
theorem cnt_add {p : Nat → Bool} (i d1 d2 : Nat) : cntB p i (d1 + d2) = cntB p i d1 + cntB p (i + d1) d2 := by
  conv => lhs; unfold cntB
  rw [fo_add, cnt_acc]; rfl
theorem cnt_0 {p : Nat → Bool} : ∀ d i, (∀ k, i ≤ k → k < i + d → p k = false) → cntB p i d = 0 := by
  intro d
  induction d with
  | zero => intro i _; rfl
  | succ d ih => intro i hh; rw [cnt_cons, hh i (by omega) (by omega), ih (i + 1) (fun k h1 h2 => hh k (by omega) (by omega))]; rfl
theorem cnt_mid {p q : Nat → Bool} {i d N : Nat} (hN : i + d ≤ N) (h1 : ∀ k, k < i → p k = false) (h2 : ∀ k, i ≤ k → k < i + d → p k = q k) (h3 : ∀ k, i + d ≤ k → p k = false) : cntB p 0 N = cntB q i d := by
  obtain ⟨e, rfl⟩ : ∃ e, N = i + (d + e) := ⟨N - i - d, by omega⟩
  rw [cnt_add, cnt_add, cnt_0 i 0 (fun k _ hk => h1 k (by omega)), cnt_0 e _ (fun k hk _ => h3 k (by omega))]
  simp only [Nat.zero_add, Nat.add_zero]
  exact cnt_congr d i h2
theorem ff_mid {p q : Nat → Bool} {i d N : Nat} (hN : i + d ≤ N) (h1 : ∀ k, k < i → p k = false) (h2 : ∀ k, i ≤ k → k < i + d → p k = q k) (h3 : ∀ k, i + d ≤ k → p k = false) : ff p 0 N = ff q i d := by
  cases e : ff q i d with
  | none =>
    rw [ff_none] at e ⊢
    intro j _ _
    by_cases z1 : j < i
    · exact h1 j z1
    · by_cases z2 : j < i + d
      · rw [h2 j (by omega) z2]; exact e j (by omega) z2
      · exact h3 j (by omega)
  | some k =>
    obtain ⟨y1, y2, y3⟩ := ff_s _ _ _ e
    have y4 := ff_f _ _ _ e
    have pk : p k = true := by rw [h2 k y1 y2]; exact y3
    cases e2 : ff p 0 N with
    | none => rw [ff_none] at e2; rw [e2 k (by omega) (by omega)] at pk; cases pk
    | some j =>
      obtain ⟨z1, z2, z3⟩ := ff_s _ _ _ e2
      have z4 := ff_f _ _ _ e2
      rcases Nat.lt_trichotomy j k with g | g | g
      · by_cases w1 : j < i
        · rw [h1 j w1] at z3; cases z3
        · rw [h2 j (by omega) (by omega), y4 j (by omega) g] at z3; cases z3
      · rw [g]
      · rw [z4 k (by omega) g] at pk; cases pk
theorem bc8 : ∀ x, x < 256 → bc32 (nI x) = nI (cntB (fun j => x.testBit j) 0 8) := by decide +kernel
def ntz (x : Int32) : Int32 := (f_J6_numberOfTrailingZeros_0f7a4 ((fun _ _ => 0), (fun _ _ => 0), (fun _ _ => 0), (fun _ => (0, 0)), 0) x).getD 0
theorem p_ntz (h : Hp) (x : Int32) : f_J6_numberOfTrailingZeros_0f7a4 h x = some (ntz x) := by
  have e : f_J6_numberOfTrailingZeros_0f7a4 h x = f_J6_numberOfTrailingZeros_0f7a4 ((fun _ _ => 0), (fun _ _ => 0), (fun _ _ => 0), (fun _ => (0, 0)), 0) x := rfl
  rw [e]
  refine som_g ?_
  simp only [f_J6_numberOfTrailingZeros_0f7a4, f_J6_numberOfTrailingZeros_0f7a4_34, f_J6_numberOfTrailingZeros_0f7a4_49, f_J6_numberOfTrailingZeros_0f7a4_62, f_J6_numberOfTrailingZeros_0f7a4_74, lt_u]
  repeat' with_reducible refine ite_som ?_ ?_
  all_goals rfl
theorem nt8 : ∀ x, x < 256 → ¬ x = 0 → ntz (nI x) = oI (ff (fun j => x.testBit j) 0 8) := by decide +kernel
theorem sh8 : ∀ x, x < 256 → ∀ k, k < 8 → shl32 (nI x) (nI k) = nI (x * 2 ^ k) := by decide +kernel
section RFACE7
variable {h h1 : Hp} {A : Ast} {m n : Nat} {S : Fld}
def cN (S : Fld) (k : Nat) : Nat := cntB (crb S k) (k + 1) (S.1 2 - (k + 1))
def fN (S : Fld) (k : Nat) : Option Nat := ff (crb S k) (k + 1) (S.1 2 - (k + 1))
def crN (S : Fld) (b : Nat × Option (Nat × Nat)) (k : Nat) : Nat × Option (Nat × Nat) := (b.1 + cN S k, match b.2 with
  | some p => some p
  | none => (fN S k).map (fun j => (k, j)))
theorem crI_e (i : Nat) : ∀ d b j, (b.1 = 0 ↔ b.2 = none) → fo (crI S i) b j d = (b.1 + cntB (crb S i) j d, match b.2 with
    | some p => some p
    | none => (ff (crb S i) j d).map (fun q => (i, q))) := by
  intro d
  induction d with
  | zero =>
    intro b j hb
    obtain ⟨b1, b2⟩ := b
    cases b2 <;> rfl
  | succ d ih =>
    intro b j hb
    obtain ⟨b1, b2⟩ := b
    rw [fo, cnt_cons, ff]
    by_cases q : crb S i j = true
    · have e : crI S i (b1, b2) j = (b1 + 1, if b1 = 0 then some (i, j) else b2) := by simp only [crI, if_pos q]
      rw [e, if_pos q, if_pos q]
      have hb' : b1 = 0 ↔ b2 = none := hb
      by_cases z : b1 = 0
      · have z2 : b2 = none := hb'.mp z
        rw [if_pos z, z2, ih _ _ (by simp), z]
        simp
      · rw [if_neg z]
        cases b2 with
        | none => exact absurd (hb'.mpr rfl) z
        | some p => rw [ih _ _ (by simp)]; simp; omega
    · have e : crI S i (b1, b2) j = (b1, b2) := by simp only [crI, if_neg q]
      rw [e, if_neg q, if_neg q, ih _ _ hb, Nat.zero_add]
theorem crO_e {b : Nat × Option (Nat × Nat)} {i : Nat} (hb : b.1 = 0 ↔ b.2 = none) : crO S b i = crN S b i := crI_e i _ _ _ hb
theorem crP_e : crP S = fo (crN S) (0, none) 0 (S.1 2) := by
  have : ∀ d b i, (b.1 = 0 ↔ b.2 = none) → fo (crO S) b i d = fo (crN S) b i d := by
    intro d
    induction d with
    | zero => intro b i _; rfl
    | succ d ih =>
      intro b i hb
      rw [fo, fo, ← crO_e hb]
      exact ih _ _ (crI_none i _ _ _ hb)
  exact this _ _ _ (by simp)
/-- who is crossed, later ones alone -/
def cbt (S : Fld) (k : Nat) : Nat := nb (crs S k) (S.1 2) / 2 ^ k * 2 ^ k
theorem cbt_bit {k j : Nat} : (cbt S k).testBit j = (decide (k < j) && (decide (j < S.1 2) && crb S k j)) := by
  unfold cbt
  rw [← Nat.shiftRight_eq_div_pow, ← Nat.shiftLeft_eq, Nat.testBit_shiftLeft, Nat.testBit_shiftRight, nb_bit]
  by_cases q : k ≤ j
  · rw [show k + (j - k) = j by omega]
    by_cases z : j = k
    · subst z; simp [crs]
    · simp [q, crs, z, show k < j by omega]
  · simp [q, show ¬ k < j by omega]
theorem cbt_lt {k : Nat} (b5 : S.1 2 ≤ 8) : cbt S k < 256 := tb_lt8 b5 (fun j z => by
  rw [cbt_bit] at z
  simp only [Bool.and_eq_true, decide_eq_true_eq] at z
  exact z.2.1)
theorem cbt_cnt {k : Nat} (b5 : S.1 2 ≤ 8) (hk : k < S.1 2) : bc32 (nI (cbt S k)) = nI (cN S k) := by
  rw [bc8 _ (cbt_lt b5)]
  congr 1
  refine cnt_mid (by omega) (fun j hj => ?_) (fun j h1 h2 => ?_) (fun j hj => ?_)
  · rw [cbt_bit]; simp [show ¬ k < j by omega]
  · rw [cbt_bit]; simp [show k < j by omega, show j < S.1 2 by omega]
  · rw [cbt_bit]; simp [show ¬ j < S.1 2 by omega]
theorem cbt_ff {k : Nat} (b5 : S.1 2 ≤ 8) (hk : k < S.1 2) : ff (fun j => (cbt S k).testBit j) 0 8 = fN S k := by
  refine ff_mid (by omega) (fun j hj => ?_) (fun j h1 h2 => ?_) (fun j hj => ?_)
  · rw [cbt_bit]; simp [show ¬ k < j by omega]
  · rw [cbt_bit]; simp [show k < j by omega, show j < S.1 2 by omega]
  · rw [cbt_bit]; simp [show ¬ j < S.1 2 by omega]
theorem cbt_0 {k : Nat} (b5 : S.1 2 ≤ 8) (hk : k < S.1 2) : cbt S k = 0 ↔ fN S k = none := by
  rw [← cbt_ff b5 hk, ff_none]
  constructor
  · intro z j _ _; rw [z]; simp
  · intro z
    apply Nat.eq_of_testBit_eq
    intro j
    rw [Nat.zero_testBit]
    by_cases q : j < 8
    · exact z j (by omega) (by omega)
    · rw [cbt_bit]; simp [show ¬ j < S.1 2 by omega]
def o1 (o : Option (Nat × Nat)) : Int32 := match o with
  | none => -1
  | some p => nI p.1
def o1b (o : Option (Nat × Nat)) : Int32 := match o with
  | none => -1
  | some p => nI p.2
theorem cN_le {k : Nat} : cN S k ≤ S.1 2 := by
  have := cnt_le (p := crb S k) (S.1 2 - (k + 1)) (k + 1)
  unfold cN; omega
theorem r_crosses (c : RM h m A n) (a : WA A n) : Ok (f_X10_crosses h m) (fun o => o.1 = (sp_crosses A).1 ∧ RM o.2 m (sp_crosses A).2 n ∧ EqOff (FM m) h o.2) := by
  have hF := FU_big
  have hb := ncl_le a.w
  have b5 := a.w.2.2.2.2.1
  rw [f_X10_crosses]
  refine r_th c (fun h1 c1 o1' _ => ?_)
  have s := c1.s
  have e := fo_lpI (fun k (b : Nat × Option (Nat × Nat)) i => f_X10_crosses_14 m k h1 (nI b.1) (o1 b.2) (o1b b.2) i) ((aS A).1 2) (crN (aS A)) (fun b => f_X10_crosses_101 m FU h1 (nI b.1) (o1 b.2) (o1b b.2) 0 0) (fun b i => b.1 ≤ 8 * i ∧ (b.1 = 0 ↔ b.2 = none) ∧ ∀ p, b.2 = some p → p.1 < i ∧ p.2 < 8) (fun b i hi ⟨g1, g2, g3⟩ => ?_) (fun k b i hi ⟨g1, g2, g3⟩ => ?_) (fun k b _ => ?_) ((aS A).1 2) FU (0, none) 0 ⟨by simp, by simp, fun p z => by cases z⟩ (by omega) (by omega)
  · rw [← crP_e] at e
    have e1 : f_X10_crosses_14 m FU h1 0 (-1) (-1) 0 = f_X10_crosses_101 m FU h1 (nI (crP (aS A)).1) (o1 (crP (aS A)).2) (o1b (crP (aS A)).2) 0 0 := e.1
    rw [e1]
    obtain ⟨g1, g2, g3⟩ := e.2
    have e2 := fo_lp (fun k (b : Int32) i => f_X10_crosses_101 m k h1 (nI (crP (aS A)).1) (o1 (crP (aS A)).2) (o1b (crP (aS A)).2) b i) (ncl (aS A)) (fun (b : Int32) kc => if ovN (aS A) kc ≤ 1 then b else b + 1) (fun b => f_X10_crosses_101 m 1 h1 (nI (crP (aS A)).1) (o1 (crP (aS A)).2) (o1b (crP (aS A)).2) b (nI (ncl (aS A)))) (fun k b i hi => ?_) (fun k b => ?_) (ncl (aS A)) FU 0 0 (by omega) (by omega)
    · rw [show f_X10_crosses_101 m FU h1 (nI (crP (aS A)).1) (o1 (crP (aS A)).2) (o1b (crP (aS A)).2) 0 0 = f_X10_crosses_101 m 1 h1 (nI (crP (aS A)).1) (o1 (crP (aS A)).2) (o1b (crP (aS A)).2) (shrd (aS A)) (nI (ncl (aS A))) from e2]
      simp only [f_X10_crosses_101]
      refine ok_lt (fun k ek => ?_)
      clear ek
      rw [m_cells c1.g, bd_s]
      refine ok_t (Int32.le_refl _) (r_t0 c1 (fun h20 c20 o20 => ok_bd (m_enters c20 (by simp [aT, wT, mkA]) _) (fun h21 ⟨c21, o21⟩ => ?_)))
      unfold sp_crosses
      rw [i0]
      simp (disch := omega) only [nI_le0]
      by_cases q : (crP (aS A)).1 = 0
      · have q2 := g2.mp q
        refine ok_t (by omega) (ok_some ⟨rfl, ?_, o1'.ofs.tr ((Dt_FM o20).tr (Dt_FM o21))⟩)
        rw [q2]
        exact c21
      · refine ok_f (by omega) (ok_bd (m_enters c21 (by simp [aT, wT, mkA]) _) (fun h23 ⟨c23, o23⟩ => ok_bd (m_enters c23 (by simp [aT, wT, mkA]) _) (fun h24 ⟨c24, o24⟩ => ok_some ⟨rfl, ?_, o1'.ofs.tr ((Dt_FM o20).tr ((Dt_FM o21).tr ((Dt_FM o23).tr (Dt_FM o24))))⟩)))
        cases hz : (crP (aS A)).2 with
        | none => exact absurd (g2.mpr hz) q
        | some p =>
          rw [hz] at c24
          exact c24
    · have e3 := m_campsOver c1.g c1.w a.w (kc := i) (by omega)
      show f_X10_crosses_101 m (k + 1) h1 (nI (crP (aS A)).1) (o1 (crP (aS A)).2) (o1b (crP (aS A)).2) b (nI i) = f_X10_crosses_101 m k h1 (nI (crP (aS A)).1) (o1 (crP (aS A)).2) (o1b (crP (aS A)).2) (if ovN (aS A) i ≤ 1 then b else b + 1) (nI (i + 1))
      simp only [f_X10_crosses_101, f_X10_crosses_134, lt_u]
      rw [m_cells c1.g, bd_s, if_neg (by rw [nI_leI (by omega) (by omega)]; omega), s.r6, e3, bd_s, p_bc, bd_s, gd_t (nz_t (by omega))]
      unfold ovN
      by_cases q : bc32 (bitsB (ocv (aS A) i) ((aS A).1 2)) ≤ 1
      · rw [if_pos q, if_pos q, pf0, bd_s, Int32.add_zero, i1, nI_add]
      · rw [if_neg q, if_neg q, pf1, bd_s, show nI i + 1 = nI (i + 1) by rw [i1, nI_add]]
    · show f_X10_crosses_101 m (k + 1) h1 (nI (crP (aS A)).1) (o1 (crP (aS A)).2) (o1b (crP (aS A)).2) b (nI (ncl (aS A))) = f_X10_crosses_101 m 1 h1 (nI (crP (aS A)).1) (o1 (crP (aS A)).2) (o1b (crP (aS A)).2) b (nI (ncl (aS A)))
      simp only [f_X10_crosses_101, lt_u]
      rw [m_cells c1.g, bd_s, if_pos (Int32.le_refl _), bd_s, if_pos (Int32.le_refl _)]
  · have hc := cN_le (S := aS A) (k := i)
    refine ⟨by simp only [crN]; omega, ?_, ?_⟩
    · have := crI_none (S := aS A) i ((aS A).1 2 - (i + 1)) b (i + 1) g2
      have e3 : crN (aS A) b i = crO (aS A) b i := (crO_e g2).symm
      rw [e3]; exact this
    · intro p hp
      simp only [crN] at hp
      cases hz : b.2 with
      | some q => have hq := g3 q hz; rw [hz] at hp; cases hp; omega
      | none =>
        rw [hz] at hp
        cases hf : fN (aS A) i with
        | none => rw [hf] at hp; cases hp
        | some j =>
          rw [hf] at hp
          cases hp
          have := ff_s _ _ _ hf
          show i < i + 1 ∧ j < 8
          omega
  · show f_X10_crosses_14 m (k + 1) h1 (nI b.1) (o1 b.2) (o1b b.2) (nI i) = f_X10_crosses_14 m k h1 (nI (crN (aS A) b i).1) (o1 (crN (aS A) b i).2) (o1b (crN (aS A) b i).2) (nI (i + 1))
    have hx : nb (crs (aS A) i) ((aS A).1 2) < 256 := Nat.lt_of_lt_of_le (nb_lt _ _) (Nat.pow_le_pow_right (n := 2) (by omega) b5)
    have hx2 : nb (crs (aS A) i) ((aS A).1 2) / 2 ^ i ≤ nb (crs (aS A) i) ((aS A).1 2) := Nat.div_le_self _ _
    simp only [f_X10_crosses_14, f_X10_crosses_58, f_X10_crosses_59, f_X10_crosses_79, f_X10_crosses_80, lt_u]
    rw [s.r6, s.t2, show ix (48 : Int32) = 48 by decide, c1.w.n, gd_t (nz_t (by omega)), gd_t (by decide), if_neg (by rw [nI_leI (by omega) (by omega)]; omega), m_crossing c1.g c1.w a.w hi, bd_s, bitsB_nb _ _ (by omega), shr_n i (by omega) _ (by omega), sh8 _ (by omega) i (by omega), show nb (crs (aS A) i) ((aS A).1 2) / 2 ^ i * 2 ^ i = cbt (aS A) i from rfl, show nI i + 1 = nI (i + 1) by rw [i1, nI_add]]
    simp only [p_bc, p_ntz, bd_s, cbt_cnt b5 hi, nI_add]
    have hl := cbt_lt (S := aS A) (k := i) b5
    have z0 : (nI (cbt (aS A) i) = 0) ↔ fN (aS A) i = none := by
      rw [i0, nI_eq (by omega) (by omega)]; exact cbt_0 b5 hi
    cases hz : b.2 with
    | some p =>
      have g := g3 p hz
      have e4 : crN (aS A) b i = (b.1 + cN (aS A) i, some p) := by simp only [crN, hz]
      rw [e4]
      rw [if_pos (show (0 : Int32) ≤ o1 (some p) by show (0 : Int32) ≤ nI p.1; rw [i0, nI_leI (by omega) (by omega)]; omega), if_neg (show ¬ o1 (some p) = nI i by show ¬ nI p.1 = nI i; rw [nI_eq (by omega) (by omega)]; omega)]
    | none =>
      rw [if_neg (show ¬ (0 : Int32) ≤ o1 none by decide)]
      cases hf : fN (aS A) i with
      | none =>
        have e4 : crN (aS A) b i = (b.1 + cN (aS A) i, none) := by simp only [crN, hz, hf]; rfl
        rw [e4, if_pos (z0.mpr hf)]
        have : ¬ o1 none = nI i := fun z => by
          have z : (-1 : Int32) = nI i := z
          have := nI_pos' (n := i) (by omega)
          rw [← z] at this; exact absurd this (by decide)
        rw [if_neg this]
      | some j =>
        have e4 : crN (aS A) b i = (b.1 + cN (aS A) i, some (i, j)) := by simp only [crN, hz, hf]; rfl
        have nz0 : ¬ nI (cbt (aS A) i) = 0 := fun z => by rw [z0.mp z] at hf; cases hf
        rw [e4, if_neg nz0, if_pos True.intro]
        have e5 : ntz (nI (cbt (aS A) i)) = nI j := by
          rw [nt8 _ hl (fun z => by rw [(cbt_0 b5 hi).mp z] at hf; cases hf), cbt_ff b5 hi, hf]; rfl
        rw [e5, if_neg nz0]; rfl
  · show f_X10_crosses_14 m (k + 1) h1 (nI b.1) (o1 b.2) (o1b b.2) (nI ((aS A).1 2)) = f_X10_crosses_101 m FU h1 (nI b.1) (o1 b.2) (o1b b.2) 0 0
    simp only [f_X10_crosses_14, lt_u]
    rw [s.r6, s.t2, show ix (48 : Int32) = 48 by decide, c1.w.n, gd_t (nz_t (by omega)), gd_t (by decide), if_pos (Int32.le_refl _)]
end RFACE7
