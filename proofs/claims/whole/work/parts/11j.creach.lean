/-! ways: the class's row of places -/
theorem sh_bit (x : Int64) {k : Nat} (hk : k < 63) : (lg_cmp (shr64 x (nI k) &&& 1) 0 = 0) ↔ x.toBitVec.getLsbD k = false := by
  have hs : ∀ k, k < 63 → (((nI k).toInt64 &&& 63).toBitVec.smod 64).toNat = k := by decide +kernel
  have e : (shr64 x (nI k)).toBitVec = x.toBitVec.sshiftRight k := by
    show x.toBitVec.sshiftRight (((nI k).toInt64 &&& 63).toBitVec.smod 64).toNat = _
    rw [hs k hk]
  rw [lg_cmp_eq, ← Int64.toBitVec_inj, Int64.toBitVec_and, e, show (1 : Int64).toBitVec = 1#64 by decide, show (0 : Int64).toBitVec = 0#64 by decide]
  constructor
  · intro h
    have := congrArg (fun z => BitVec.getLsbD z 0) h
    simp only [BitVec.getLsbD_and, BitVec.getLsbD_sshiftRight, BitVec.getLsbD_zero, Nat.add_zero, if_pos (show k < 64 by omega)] at this
    simpa using this
  · intro h
    apply BitVec.eq_of_getLsbD_eq
    intro i hi
    rw [BitVec.getLsbD_and, BitVec.getLsbD_zero]
    by_cases q : i = 0
    · subst q
      rw [BitVec.getLsbD_sshiftRight, Nat.add_zero, if_pos (show k < 64 by omega), h]
      simp
    · have : (1#64).getLsbD i = false := by
        rw [BitVec.getLsbD_ofNat, show (1 : Nat).testBit i = false from Nat.testBit_lt_two_pow (Nat.one_lt_two_pow q), Bool.and_false]
      rw [this, Bool.and_false]
theorem lN_bit {X k : Nat} (hk : k < 64) : (lN X).toBitVec.getLsbD k = X.testBit k := by
  show (BitVec.ofNat 64 X).getLsbD k = _
  rw [BitVec.getLsbD_ofNat, decide_eq_true hk, Bool.true_and]
def qBit (q : Nat → Nat) (n M c : Nat) : Bool := decide (∃ j, j < n ∧ q j = c * 256 + M)
theorem qBit_t {q : Nat → Nat} {n M c : Nat} : qBit q n M c = true ↔ ∃ j, j < n ∧ q j = c * 256 + M := decide_eq_true_iff
theorem qBit_f {q : Nat → Nat} {n M c : Nat} : qBit q n M c = false ↔ ∀ j, j < n → q j ≠ c * 256 + M := by
  unfold qBit
  rw [decide_eq_false_iff_not]
  exact ⟨fun h j hj e => h ⟨j, hj, e⟩, fun h ⟨j, hj, e⟩ => h j hj e⟩
theorem qBit_up {q : Nat → Nat} {n M c c2 M2 : Nat} (hM : M < 256) (hM2 : M2 < 256) : qBit (upN q n (c * 256 + M)) (n + 1) M2 c2 = (qBit q n M2 c2 || (decide (c2 = c) && decide (M2 = M))) := by
  by_cases e : c2 = c ∧ M2 = M
  · rw [decide_eq_true e.1, decide_eq_true e.2, Bool.and_true, Bool.or_true, qBit_t]
    exact ⟨n, Nat.lt_succ_self _, by unfold upN; rw [if_pos rfl, e.1, e.2]⟩
  · have r : (decide (c2 = c) && decide (M2 = M)) = false := by
      by_cases e1 : c2 = c
      · rw [decide_eq_false (fun z => e ⟨e1, z⟩), Bool.and_false]
      · rw [decide_eq_false e1, Bool.false_and]
    rw [r, Bool.or_false]
    cases hq : qBit q n M2 c2 with
    | true =>
      obtain ⟨j, h1, h2⟩ := qBit_t.mp hq
      exact qBit_t.mpr ⟨j, by omega, by unfold upN; rw [if_neg (by omega)]; exact h2⟩
    | false =>
      have hf := qBit_f.mp hq
      refine qBit_f.mpr (fun j hj => ?_)
      unfold upN
      by_cases w : j = n
      · rw [if_pos w]; omega
      · rw [if_neg w]; exact hf j (by omega)
def HQ (h : Hp) (S : Fld) (al : Nat) (q pr : Nat → Nat) (n : Nat) : Prop := (∀ j, j < n → hpI h 171 j = nI (pr j * 16384 + q j)) ∧ (∀ M, M < 256 → hpL h 172 M = lN (nb (qBit q n M) 36)) ∧ ∀ c, c < ncl S → hpI h 173 c = nI (ovA S al c)
def FW (x : Nat) : Prop := x = 171 ∨ x = 172
section CREACH
variable {h h1 : Hp} {S : Fld} {al : Nat} {q pr : Nat → Nat} {n : Nat}
theorem c_reach (sx : shX h) (hw : wfF S) (ha : al < 256) (H : HQ h S al q pr n) {c M i : Nat} (hc : c < ncl S) (hM : M < 256) (hn : n ≤ 9216) (hfull : n = 9216 → ∃ j, j < n ∧ q j = c * 256 + (M ||| ovA S al c)) : Ok (f_X8_reach h 170 (nI c) (nI M) (nI i) (nI n)) (fun o => ((∃ j, j < n ∧ q j = c * 256 + (M ||| ovA S al c)) ∧ o = (nI n, h)) ∨ ((∀ j, j < n → q j ≠ c * 256 + (M ||| ovA S al c)) ∧ n < 9216 ∧ o.1 = nI (n + 1) ∧ HQ o.2 S al (upN q n (c * 256 + (M ||| ovA S al c))) (upN pr n i) (n + 1) ∧ EqOff FW h o.2)) := by
  obtain ⟨H1, H2, H3⟩ := H
  have hb := ncl_le hw
  have o8 : M ||| ovA S al c < 256 := or_lt8 hM (ovA_lt ha)
  rw [f_X8_reach, sx.r170_0, sx.r170_1, sx.r170_2, sx.t171, sx.t172, sx.t173, ix_nI (by omega), H3 c hc, nI_or]
  refine ok_f (by rw [i0, nI_ltI (by omega) (by omega)]; omega) (ok_f (by rw [show (36 : Int32) = nI 36 by decide, nI_leI (by omega) (by omega)]; omega) (ok_gd (by decide) ?_))
  rw [show (256 : Int32) = nI 256 by decide, rm_nI (by omega) (by omega) (by omega), Nat.mod_eq_of_lt o8, lt_u, ix_nI (by omega), H2 _ o8]
  by_cases w : n < 9216
  · refine ok_t (by rw [nI_ltI (by omega) (by omega)]; exact w) (ok_gd (by decide) (ok_gd (inb_nI (by omega) (by omega)) (ok_gd (by decide) (ok_gd (inb_nI (by omega) (by omega)) ?_))))
    rw [lt_u]
    have bit : (lN (nb (qBit q n (M ||| ovA S al c)) 36)).toBitVec.getLsbD c = qBit q n (M ||| ovA S al c) c := by
      rw [lN_bit (by omega), nb_bit, decide_eq_true (by omega), Bool.true_and]
    refine ok_if (fun w1 => ?_) (fun w1 => ?_)
    · rw [sh_bit _ (by omega), bit] at w1
      have hne := qBit_f.mp w1
      refine ok_gd (inb_nI (by omega) (by omega)) ?_
      rw [shl_1L c (by omega), lt_u, lN_or]
      refine ok_gd (inb_nI (by omega) (by omega)) (ok_lt (fun h19 e19 => ?_))
      have R19 : hpR h19 = hpR h := by rw [e19]; rfl
      have T19 : hpT h19 = hpT h := by rw [e19]; rfl
      rw [R19, T19, sx.r170_0, sx.t171, ix_nI (by omega)]
      refine ok_gd (by decide) (ok_gd (inb_nI (by omega) (by omega)) (ok_lt (fun h23 e23 => ok_some (Or.inr ⟨hne, w, ?_, ⟨fun j hj => ?_, fun M2 hM2 => ?_, fun c2 hc2 => ?_⟩, ?_⟩))))
      · show nI n + 1 = _
        rw [i1, nI_add]
      · show hpI h23 171 j = _
        rw [e23, hpI_upI, e19, hpI_upL]
        unfold upN
        by_cases e : j = n
        · rw [if_pos ⟨rfl, e⟩, if_pos e, if_pos e, show (16384 : Int32) = nI 16384 by decide, pk_mul, pk_mul, nI_add, nI_add, Nat.add_assoc]
        · rw [if_neg (fun z => e z.2), if_neg e, if_neg e]; exact H1 j (by omega)
      · show hpL h23 172 M2 = _
        rw [e23, hpL_upI, e19, hpL_upL]
        have ext : ∀ k, (nb (qBit (upN q n (c * 256 + (M ||| ovA S al c))) (n + 1) M2) 36).testBit k = (decide (k < 36) && (qBit q n M2 k || (decide (k = c) && decide (M2 = M ||| ovA S al c)))) := fun k => by rw [nb_bit, qBit_up o8 hM2]
        by_cases e : M2 = M ||| ovA S al c
        · rw [if_pos ⟨rfl, e⟩]
          congr 1
          apply Nat.eq_of_testBit_eq
          intro k
          rw [ext, Nat.testBit_or, nb_bit, e, Nat.testBit_two_pow, decide_eq_true rfl, Bool.and_true]
          by_cases e2 : c = k
          · subst e2
            rw [decide_eq_true rfl, Bool.or_true, Bool.or_true, decide_eq_true (show c < 36 by omega)]; rfl
          · rw [decide_eq_false e2, decide_eq_false (show ¬ k = c from fun z => e2 z.symm), Bool.or_false, Bool.or_false]
        · rw [if_neg (fun z => e z.2), H2 M2 hM2]
          congr 1
          apply Nat.eq_of_testBit_eq
          intro k
          rw [ext, nb_bit, decide_eq_false e, Bool.and_false, Bool.or_false]
      · show hpI h23 173 c2 = _
        rw [e23, hpI_upI, if_neg (by omega), e19, hpI_upL]; exact H3 c2 hc2
      · show EqOff FW h h23
        rw [e23, e19]
        exact (EqOff.uL (Or.inr rfl)).tr (EqOff.uI (Or.inl rfl))
    · rw [sh_bit _ (by omega), bit] at w1
      have hT : qBit q n (M ||| ovA S al c) c = true := by
        cases e : qBit q n (M ||| ovA S al c) c with
        | true => rfl
        | false => exact absurd e w1
      exact ok_some (Or.inl ⟨qBit_t.mp hT, rfl⟩)
  · exact ok_f (by rw [nI_ltI (by omega) (by omega)]; exact w) (ok_some (Or.inl ⟨hfull (by omega), rfl⟩))
theorem c_fill (sx : shX h) : Ok (f_J7_fill_d0a16 h 172 0) (fun h1 => (∀ M, M < 256 → hpL h1 172 M = 0) ∧ EqOff FW h h1) := by
  have hF := FU_big
  rw [f_J7_fill_d0a16, sx.t172, lt_u]
  refine okl (fun q s i => f_J7_fill_d0a16_6 172 0 q s i (nI 256)) 256 (fun i s => (∀ M, M < i → hpL s 172 M = 0) ∧ EqOff FW h s) _ (fun q i s hi ⟨v1, v2⟩ k => ?_) (fun q s ⟨v1, v2⟩ => ?_) 256 FU 0 h (by omega) (by omega) ⟨fun M hM => absurd hM (Nat.not_lt_zero M), EqOff.rf⟩
  · have t2 : hpT s 172 = (3, 256) := by rw [v2.2.2.2.1]; exact sx.t172
    simp only [f_J7_fill_d0a16_6, lt_u]
    rw [t2, ix_nI (by omega), i1, nI_add]
    refine ok_f (by rw [nI_leI (by omega) (by omega)]; omega) (ok_gd (inb_nI (by omega) (by omega)) (k _ ⟨fun M hM => ?_, v2.tr (EqOff.uL (Or.inr rfl))⟩))
    rw [hpL_upL]
    by_cases e : M = i
    · rw [if_pos ⟨rfl, e⟩]
    · rw [if_neg (fun z => e z.2)]; exact v1 M (by omega)
  · simp only [f_J7_fill_d0a16_6, lt_u]
    exact ok_t (Int32.le_refl _) (ok_some ⟨v1, v2⟩)
end CREACH
