/-! rules: numbers -/
/-- at most d digits from a on: the number, and where it ends -/
def nuG (X : List Int32) (e : Nat) : Nat → Nat → Nat → Nat × Nat
  | 0, v, a => (v, a)
  | d + 1, v, a => match dgA X a e with
    | some x => nuG X e d (10 * v + x) (a + 1)
    | none => (v, a)
theorem nuG_le {X : List Int32} {e : Nat} : ∀ d v a, a ≤ (nuG X e d v a).2 ∧ (a ≤ e → (nuG X e d v a).2 ≤ e) ∧ ∀ k, v < k → (nuG X e d v a).1 < k * 10 ^ d := by
  intro d
  induction d with
  | zero => intro v a; exact ⟨Nat.le_refl _, fun h => h, fun k hk => by simp [nuG]; exact hk⟩
  | succ d ih =>
    intro v a
    rw [nuG]
    cases hd : dgA X a e with
    | none =>
      refine ⟨Nat.le_refl _, fun h => h, fun k hk => ?_⟩
      exact Nat.lt_of_lt_of_le hk (Nat.le_mul_of_pos_right k (Nat.pow_pos (by omega)))
    | some x =>
      have l := dgA_le hd
      have r := ih (10 * v + x) (a + 1)
      refine ⟨by have := r.1; simp only; omega, fun _ => r.2.1 (by omega), fun k hk => ?_⟩
      have := r.2.2 (10 * k) (by omega)
      rw [Nat.pow_succ, Nat.mul_comm (10 ^ d) 10, ← Nat.mul_assoc, Nat.mul_comm k 10]
      exact this
section RNUM
variable {h h1 : Hp} {m : Nat}
theorem m_isDigit (s : shM h m) {X : List Int32} {i t : Nat} (tp : mTp h m X) (ha : hpI h m 10 = nI i) (ht : hpI h m 11 = nI t) (h1 : t ≤ X.length) (hi8 : i ≤ 100) : f_X10_isDigit h m = some (nB (dgA X i t).isSome) := by
  have hX := tp.1
  rw [f_X10_isDigit, ha, ht, s.r8, s.t4]
  by_cases q : t ≤ i
  · have e : dgA X i t = none := by unfold dgA; rw [if_neg (fun z => by omega)]
    rw [if_pos (by rw [nI_leI (by omega) (by omega)]; exact q), e]; rfl
  · rw [if_neg (by rw [nI_leI (by omega) (by omega)]; exact q), gd_t (nz_t (by omega)), gd_t (inb_nI (by omega) (by omega)), ix_nI (by omega), tp.2 i (by omega), show (48 : Int64) = (48 : Int32).toInt64 by decide, show (57 : Int64) = (57 : Int32).toInt64 by decide, p_in, bd_s]
    unfold dgA
    by_cases w : (48 : Int32) ≤ X.getD i 0 ∧ X.getD i 0 ≤ 57
    · rw [decide_eq_true w, if_neg (by decide), if_pos ⟨by omega, by omega, w⟩]; rfl
    · rw [decide_eq_false w, if_pos (by decide), if_neg (fun z => w z.2.2)]; rfl
theorem m_number (s : shM h m) {X : List Int32} {a t : Nat} (tp : mTp h m X) (ha : hpI h m 10 = nI a) (ht : hpI h m 11 = nI t) (h1 : t ≤ X.length) (hat : a ≤ t) (hd : (dgA X a t).isSome = true) : Ok (f_X10_number h m (nI 3)) (fun o => o.1 = nI (nuG X t 3 0 a).1 ∧ hpI o.2 m 10 = nI (nuG X t 3 0 a).2 ∧ EqP (Da m) h o.2) := by
  have hF := FU_big
  have hX := tp.1
  rw [f_X10_number, m_isDigit s tp ha ht h1 (by omega), bd_s, hd]
  refine ok_f (by decide) ?_
  have go : ∀ d j q v a h2, j + d = 3 → d < q → a ≤ t → EqP (Da m) h h2 → hpI h2 m 10 = nI a → Ok (f_X10_number_13 m (nI 3) q h2 (nI v) (nI j)) (fun o => o.1 = nI (nuG X t d v a).1 ∧ hpI o.2 m 10 = nI (nuG X t d v a).2 ∧ EqP (Da m) h o.2) := by
    intro d
    induction d with
    | zero =>
      intro j q v a h2 e1 e2 e4 o2 a2
      obtain ⟨q, rfl⟩ : ∃ k, q = k + 1 := ⟨q - 1, by omega⟩
      simp only [f_X10_number_13, lt_u]
      exact ok_t (by rw [nI_leI (by omega) (by omega)]; omega) (ok_some ⟨rfl, a2, o2⟩)
    | succ d ih =>
      intro j q v a h2 e1 e2 e4 o2 a2
      obtain ⟨q, rfl⟩ : ∃ k, q = k + 1 := ⟨q - 1, by omega⟩
      have s2 := s.ep o2
      have tp2 := tp.ep o2 (fun k z => by unfold Da at z; omega)
      have t2 : hpI h2 m 11 = nI t := by rw [o2.1 _ _ (fun z => by unfold Da at z; omega)]; exact ht
      simp only [f_X10_number_13, lt_u]
      rw [m_isDigit s2 tp2 a2 t2 h1 (by omega), bd_s, nuG]
      refine ok_f (by rw [nI_leI (by omega) (by omega)]; omega) ?_
      cases hq : dgA X a t with
      | none => exact ok_t rfl (ok_some ⟨rfl, a2, o2⟩)
      | some x =>
        have l := dgA_le hq
        have ex : X.getD a 0 = nI (x + 48) := by
          unfold dgA at hq
          by_cases v : a < t ∧ a < X.length ∧ 48 ≤ X.getD a 0 ∧ X.getD a 0 ≤ 57
          · rw [if_pos v] at hq
            have := dgI v.2.2.1 v.2.2.2
            cases hq
            rw [show (48 : Int32) = nI 48 by decide] at this
            have e := congrArg (fun z => z + nI 48) this.1
            simp only [Int32.sub_add_cancel, nI_add] at e
            exact e
          · rw [if_neg v] at hq; cases hq
        rw [a2, s2.r8, s2.t4, ix_nI (by omega), tp2.2 a (by omega), ex, show (10 : Int32) = nI 10 by decide, show (48 : Int32) = nI 48 by decide, i1, pk_mul]
        simp only [nI_add]
        rw [pk_sub (by omega), show 10 * v + (x + 48) - 48 = 10 * v + x by omega]
        refine ok_f (show ¬ nB true = 0 by decide) (ok_gd (nz_t (by omega)) (ok_gd (inb_nI (by omega) (by omega)) ?_))
        exact ih (j + 1) q (10 * v + x) (a + 1) _ (by omega) (by omega) (by omega) (o2.tr (EqP.uI ⟨rfl, rfl⟩)) (by rw [hpI_upI, if_pos ⟨rfl, rfl⟩])
  exact go 3 0 FU 0 a h (by omega) (by omega) hat EqP.rf ha
/-- the code, and one number more -/
def mCd (h : Hp) (m p : Nat) (code : Nat → Int32) : Prop := hpI h m 18 = nI p ∧ ∀ k, k < p → hpI h (m + 7) k = code k
def Dd (m x k : Nat) : Prop := (x = m ∧ k = 18) ∨ x = m + 7
theorem m_codes (s : shM h m) {p : Nat} {code : Nat → Int32} (c : mCd h m p code) (hp : p < 80) (v : Int32) : Ok (f_X10_codes h m v) (fun h1 => mCd h1 m (p + 1) (fun k => if k = p then v else code k) ∧ EqP (Dd m) h h1) := by
  rw [f_X10_codes, c.1, s.r16, s.t7, ix_nI (by omega)]
  refine ok_gd (nz_t (by omega)) (ok_gd (inb_nI (by omega) (by omega)) (ok_lt (fun h4 e4 => ?_)))
  have c4 : hpI h4 m 18 = nI p := by rw [e4, hpI_upI, if_neg (by omega)]; exact c.1
  rw [c4, i1, nI_add]
  refine ok_lt (fun h5 e5 => ok_some ⟨⟨by rw [e5, hpI_upI, if_pos ⟨rfl, rfl⟩], fun k hk => ?_⟩, ?_⟩)
  · rw [e5, hpI_upI, if_neg (by omega), e4, hpI_upI]
    by_cases w : k = p
    · simp [w]
    · rw [if_neg (fun z => w z.2)]; simp only [if_neg w]; exact c.2 k (by omega)
  · rw [e5, e4]
    exact (EqP.uI (Or.inr rfl)).tr (EqP.uI (Or.inl ⟨rfl, rfl⟩))
end RNUM
