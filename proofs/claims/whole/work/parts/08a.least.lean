theorem nsum_congr {f g : Nat → Nat} : ∀ n, (∀ i, i < n → f i = g i) → nsum f n = nsum g n := by
  intro n
  induction n with
  | zero => intro _; rfl
  | succ n ih => intro hh; rw [nsum, nsum, hh n (by omega), ih (fun i hi => hh i (by omega))]
theorem nsum_add (f : Nat → Nat) (a : Nat) : ∀ b, nsum f (a + b) = nsum f a + nsum (fun j => f (a + j)) b := by
  intro b
  induction b with
  | zero => rfl
  | succ b ih => rw [← Nat.add_assoc, nsum, ih, nsum, Nat.add_assoc]
theorem nsum_mul (c : Nat) (f : Nat → Nat) : ∀ n, nsum (fun i => c * f i) n = c * nsum f n := by
  intro n
  induction n with
  | zero => rfl
  | succ n ih => rw [nsum, nsum, ih, Nat.mul_add]
theorem nsum_plus (f g : Nat → Nat) : ∀ n, nsum (fun i => f i + g i) n = nsum f n + nsum g n := by
  intro n
  induction n with
  | zero => rfl
  | succ n ih => rw [nsum, nsum, nsum, ih]; omega
theorem nsum_0 : ∀ n, nsum (fun _ => 0) n = 0 := by
  intro n
  induction n with
  | zero => rfl
  | succ n ih => rw [nsum, ih]
theorem nsum_swap (f : Nat → Nat → Nat) (n : Nat) : ∀ k, nsum (fun i => nsum (f i) k) n = nsum (fun j => nsum (fun i => f i j) n) k := by
  intro k
  induction k with
  | zero => exact nsum_0 n
  | succ k ih =>
    rw [nsum, ← ih, ← nsum_plus]; rfl
theorem nsum_rc (f g : Nat → Nat) {C : Nat} (hC : 0 < C) : ∀ R, nsum (fun d => f (d / C) * g (d % C)) (R * C) = nsum f R * nsum g C := by
  intro R
  induction R with
  | zero => rw [Nat.zero_mul, nsum, nsum, Nat.zero_mul]
  | succ R ih =>
    rw [Nat.succ_mul, nsum_add, ih, nsum, Nat.add_mul]
    congr 1
    rw [← nsum_mul]
    refine nsum_congr C (fun j hj => ?_)
    obtain ⟨e1, e2⟩ := dm_1 (r := R) hj
    simp only [e1, e2]
theorem nsum_iv (lo hi : Nat) : ∀ R, nsum (fun r => if lo ≤ r ∧ r < hi then 1 else 0) R = min hi R - lo := by
  intro R
  induction R with
  | zero => rw [nsum]; omega
  | succ R ih =>
    rw [nsum, ih]
    split <;> omega
theorem nsum_le {f : Nat → Nat} {c : Nat} : ∀ n, (∀ i, i < n → f i ≤ c) → nsum f n ≤ n * c := by
  intro n
  induction n with
  | zero => intro _; rw [nsum]; omega
  | succ n ih =>
    intro hh
    have := ih (fun i hi => hh i (by omega))
    have := hh n (by omega)
    rw [nsum, Nat.succ_mul]; omega
section LEAST
variable {S : Fld}
/-- the cells that a block and a camp have in common, counted -/
theorem cmc_cnt (hw : wfF S) {i kc hg wd : Nat} (hi : i < S.1 2) (hh : hld S kc hg wd = true) : nsum (fun d => if ovB S kc hg wd d = true ∧ cov S d i = true then 1 else 0) (ncl S) = cmc S i kc hg wd := by
  have b3 := hw.2.2.1
  have b9 := hw.2.2.2.2.2.2.2.2 i hi
  unfold hld at hh
  simp only [Bool.and_eq_true, decide_eq_true_eq] at hh
  have hC : 0 < S.1 1 := by omega
  have key : ∀ F G : Nat → Nat, (∀ d, (if ovB S kc hg wd d = true ∧ cov S d i = true then 1 else 0) = F (d / S.1 1) * G (d % S.1 1)) → nsum (fun d => if ovB S kc hg wd d = true ∧ cov S d i = true then 1 else 0) (ncl S) = nsum F (S.1 0) * nsum G (S.1 1) := fun F G hFG => (nsum_congr _ (fun d _ => hFG d)).trans (nsum_rc F G hC _)
  rw [key (fun r => if max (S.2 0 i) (kc / S.1 1) ≤ r ∧ r < min (S.2 0 i + S.2 2 i) (kc / S.1 1 + hg) then 1 else 0) (fun k => if max (S.2 1 i) (kc % S.1 1) ≤ k ∧ k < min (S.2 1 i + S.2 3 i) (kc % S.1 1 + wd) then 1 else 0) (fun d => by
    unfold ovB cov ovr ovc
    simp only [hi, decide_true, Bool.true_and, Bool.and_eq_true, decide_eq_true_eq]
    by_cases q1 : max (S.2 0 i) (kc / S.1 1) ≤ d / S.1 1 ∧ d / S.1 1 < min (S.2 0 i + S.2 2 i) (kc / S.1 1 + hg)
    · by_cases q2 : max (S.2 1 i) (kc % S.1 1) ≤ d % S.1 1 ∧ d % S.1 1 < min (S.2 1 i + S.2 3 i) (kc % S.1 1 + wd)
      · rw [if_pos q1, if_pos q2, if_pos (by omega)]
      · rw [if_neg q2, if_neg (by omega), Nat.mul_zero]
    · rw [if_neg q1, if_neg (by omega), Nat.zero_mul]), nsum_iv, nsum_iv]
  unfold cmc cmn
  congr 1 <;> omega
/-- the strength under a block, cell by cell -/
def stD (S : Fld) (kc hg wd : Nat) : Nat := nsum (fun d => if ovB S kc hg wd d = true then nsum (fun i => if cov S d i = true then S.2 4 i else 0) (S.1 2) else 0) (ncl S)
theorem stD_e (hw : wfF S) {kc hg wd : Nat} (hh : hld S kc hg wd = true) : stD S kc hg wd = stU2 S hg wd kc := by
  unfold stD stU2
  have e : nsum (fun d => if ovB S kc hg wd d = true then nsum (fun i => if cov S d i = true then S.2 4 i else 0) (S.1 2) else 0) (ncl S) = nsum (fun d => nsum (fun i => S.2 4 i * (if ovB S kc hg wd d = true ∧ cov S d i = true then 1 else 0)) (S.1 2)) (ncl S) := by
    refine nsum_congr _ (fun d _ => ?_)
    by_cases q : ovB S kc hg wd d = true
    · rw [if_pos q]
      refine nsum_congr _ (fun i _ => ?_)
      by_cases q2 : cov S d i = true
      · rw [if_pos q2, if_pos ⟨q, q2⟩, Nat.mul_one]
      · rw [if_neg q2, if_neg (fun z => q2 z.2), Nat.mul_zero]
    · rw [if_neg q]
      refine (nsum_0 (S.1 2)).symm.trans (nsum_congr _ (fun i _ => ?_))
      rw [if_neg (fun z => q z.1), Nat.mul_zero]
  rw [e, nsum_swap]
  refine nsum_congr _ (fun i hi => ?_)
  rw [nsum_mul, cmc_cnt hw hi hh]
theorem stU2_le (hw : wfF S) {hg wd kc : Nat} : stU2 S hg wd kc ≤ 1000 := by
  have b5 := hw.2.2.2.2.1
  have : stU2 S hg wd kc ≤ S.1 2 * (9 * 9) := nsum_le _ (fun i hi => by
    have b9 := hw.2.2.2.2.2.2.2.2 i hi
    have h1 : cmn (S.2 0 i) (S.2 2 i) (kc / S.1 1) hg ≤ 3 := Nat.le_trans cmn_le b9.2.1
    have h2 : cmn (S.2 1 i) (S.2 3 i) (kc % S.1 1) wd ≤ 3 := Nat.le_trans cmn_le b9.2.2.2.1
    have h3 : cmc S i kc hg wd ≤ 3 * 3 := Nat.mul_le_mul h1 h2
    exact Nat.mul_le_mul b9.2.2.2.2.2.2.1 h3)
  have : S.1 2 * (9 * 9) ≤ 8 * (9 * 9) := Nat.mul_le_mul_right _ b5
  omega
theorem lsB_lt (hg wd : Nat) : ∀ d b i, (∀ p, b = some p → p.1 < 1000) → i + d ≤ 500 → ∀ p, fo (lsF S hg wd) b i d = some p → p.1 < 1000 := by
  intro d
  induction d with
  | zero => intro b i hb _ p hp; exact hb p hp
  | succ d ih =>
    intro b i hb hd p hp
    refine ih _ _ ?_ (by omega) p hp
    intro p hp
    unfold lsF at hp
    split at hp
    · cases b with
      | none => cases hp; simp only; omega
      | some q =>
        simp only at hp
        split at hp
        · exact hb p hp
        · cases hp; simp only; omega
    · exact hb p hp
/-- what holds of the least one by now -/
def lsP (S : Fld) (hg wd N : Nat) (b : Option (Nat × Nat)) : Prop := ∀ p, b = some p → p.1 < N ∧ p.2 ≤ 1000 ∧ hld S p.1 hg wd = true
theorem lsF_P (hw : wfF S) {hg wd i : Nat} {b : Option (Nat × Nat)} (hb : lsP S hg wd i b) : lsP S hg wd (i + 1) (lsF S hg wd b i) := by
  intro p hp
  unfold lsF at hp
  split at hp
  · rename_i q
    have := stU2_le hw (hg := hg) (wd := wd) (kc := i)
    cases b with
    | none => cases hp; exact ⟨by simp only; omega, this, q⟩
    | some r =>
      simp only at hp
      split at hp
      · cases hp; have := hb _ rfl; exact ⟨by omega, this.2.1, this.2.2⟩
      · cases hp; exact ⟨by simp only; omega, this, q⟩
  · have := hb p hp; exact ⟨by omega, this.2⟩
end LEAST
def ls1 (b : Option (Nat × Nat)) : Int32 := match b with
  | none => -2
  | some p => nI p.1
def ls2 (K : Int32) (b : Option (Nat × Nat)) : Int32 := match b with
  | none => K
  | some p => nI p.2
theorem nI_nm (n : Nat) (h : n < 2 ^ 31) : ¬ nI n = (-2 : Int32) := fun z => by
  have := nI_pos' (n := n) h
  rw [z] at this; exact absurd this (by decide)
section LEAST2
variable {h h1 : Hp} {A : Ast} {m n : Nat} {S : Fld}
theorem c_least (c : RC h A) (hw : wfF (aS A)) (x y : Int32) : Ok (f_X9_least h 1 x y) (fun o => o.1 = (sp_least A x y).1 ∧ RC o.2 (sp_least A x y).2 ∧ EqOff FX h o.2) := by
  have hF := FU_big
  have hb := ncl_le hw
  rw [f_X9_least, p_areSides, bd_s]
  simp only [nB_0]
  unfold sp_least
  cases hx : numIn (nI 1) (nI 3) x with
  | none => exact ok_t rfl (ok_some ⟨rfl, c, EqOff.rf⟩)
  | some hg =>
    obtain ⟨rfl, g1, g2⟩ := numIn_s (by omega) (by omega) hx
    cases hy : numIn (nI 1) (nI 3) y with
    | none => exact ok_t rfl (ok_some ⟨rfl, c, EqOff.rf⟩)
    | some wd =>
      obtain ⟨rfl, g3, g4⟩ := numIn_s (by omega) (by omega) hy
      refine ok_f (by simp) ?_
      have e := fo_lpI (fun n (b : Option (Nat × Nat)) i => f_X9_least_21 1 (nI hg) (nI wd) n h (ls1 b) (ls2 2147483647 b) i) (ncl (aS A)) (lsF (aS A) hg wd) (fun b => f_X9_least_21 1 (nI hg) (nI wd) 1 h (ls1 b) (ls2 2147483647 b) (nI (ncl (aS A)))) (fun b i => lsP (aS A) hg wd i b) (fun b i _ hp => lsF_P hw hp) (fun n b i hi hp => ?_) (fun n b _ => ?_) (ncl (aS A)) FU none 0 (fun p z => by cases z) (by omega) (by omega)
      · rw [show f_X9_least_21 1 (nI hg) (nI wd) FU h (-2) 2147483647 0 = f_X9_least_21 1 (nI hg) (nI wd) 1 h (ls1 (lsB (aS A) hg wd)) (ls2 2147483647 (lsB (aS A) hg wd)) (nI (ncl (aS A))) from e.1]
        have hp : lsP (aS A) hg wd (ncl (aS A)) (lsB (aS A) hg wd) := e.2
        simp only [f_X9_least_21]
        refine ok_lt (fun k ek => ?_)
        clear ek
        rw [c.s.r1_2, p_cells c.n, bd_s, c.s.r1_1]
        refine ok_gd (by decide) (ok_t (Int32.le_refl _) ?_)
        cases hz : lsB (aS A) hg wd with
        | none => exact ok_t rfl (ok_some ⟨rfl, c, EqOff.rf⟩)
        | some p =>
          have hq := hp p hz
          refine ok_f (nI_nm _ (by omega)) (ok_gd (by decide) (ok_bd (c_t0 c) (fun h10 ⟨c10, o10⟩ => ?_)))
          rw [c10.s.r1_1]
          refine ok_gd (by decide) (ok_bd (c_t1 c10 (by simp [aT, wT, mkA]) _) (fun h13 ⟨c13, o13⟩ => ?_))
          rw [c13.s.r1_1, c13.s.r1_2, show ls1 (some p) = nI p.1 from rfl, p_onUnder c13.n hw (by omega) (by omega) (by omega), bd_s]
          refine ok_gd (by decide) (ok_gd (by decide) (ok_bd (c_t1 c13 (by simp [aT, wT, mkA]) _) (fun h19 ⟨c19, o19⟩ => ok_some ⟨rfl, c19, (F24y o10).tr ((F24y o13).tr (F24y o19))⟩)))
      · show f_X9_least_21 1 (nI hg) (nI wd) (n + 1) h (ls1 b) (ls2 2147483647 b) (nI i) = f_X9_least_21 1 (nI hg) (nI wd) n h (ls1 (lsF (aS A) hg wd b i)) (ls2 2147483647 (lsF (aS A) hg wd b i)) (nI (i + 1))
        simp only [f_X9_least_21, f_X9_least_74, lt_u]
        rw [c.s.r1_2, p_cells c.n, bd_s, gd_t (by decide), if_neg (by rw [nI_leI (by omega) (by omega)]; omega), p_holds c.n hw (by omega) (by omega) (by omega), bd_s, p_strengthUnder c.n hw (by omega) (by omega) (by omega), bd_s, show nI i + 1 = nI (i + 1) by rw [i1, nI_add], sumB_n]
        have hs := stU2_le hw (hg := hg) (wd := wd) (kc := i)
        simp only [nB_0]
        unfold lsF
        cases hh : hld (aS A) i hg wd with
        | false => simp
        | true =>
          rw [if_neg (by simp)]
          simp only [if_true]
          show (f_X9_least_21 1 (nI hg) (nI wd) n h (if ls2 2147483647 b ≤ nI (stU2 (aS A) hg wd i) then ls1 b else nI i) (if ls2 2147483647 b ≤ nI (stU2 (aS A) hg wd i) then ls2 2147483647 b else nI (stU2 (aS A) hg wd i)) (nI (i + 1))) = _
          cases b with
          | none =>
            have : ¬ ls2 2147483647 none ≤ nI (stU2 (aS A) hg wd i) := by
              show ¬ nI 2147483647 ≤ nI (stU2 (aS A) hg wd i)
              rw [nI_leI (by omega) (by omega)]; omega
            rw [if_neg this, if_neg this]; rfl
          | some p =>
            have hq := hp p rfl
            have : (ls2 2147483647 (some p) ≤ nI (stU2 (aS A) hg wd i)) ↔ p.2 ≤ stU2 (aS A) hg wd i := by
              show nI p.2 ≤ nI (stU2 (aS A) hg wd i) ↔ _
              rw [nI_leI (by omega) (by omega)]
            by_cases q : p.2 ≤ stU2 (aS A) hg wd i
            · rw [if_pos (this.mpr q), if_pos (this.mpr q)]
              simp only [q, if_true]
            · rw [if_neg (fun z => q (this.mp z)), if_neg (fun z => q (this.mp z))]
              simp only [q, if_false]; rfl
      · show f_X9_least_21 1 (nI hg) (nI wd) (n + 1) h (ls1 b) (ls2 2147483647 b) (nI (ncl (aS A))) = f_X9_least_21 1 (nI hg) (nI wd) 1 h (ls1 b) (ls2 2147483647 b) (nI (ncl (aS A)))
        simp only [f_X9_least_21, lt_u]
        rw [c.s.r1_2, p_cells c.n, bd_s, gd_t (show nz 6 = true by decide), if_pos (Int32.le_refl _), bd_s, gd_t (show nz 6 = true by decide), if_pos (Int32.le_refl _)]
theorem mn_nI {a b : Nat} (ha : a < 2 ^ 31) (hb : b < 2 ^ 31) : mn32 (nI a) (nI b) = nI (min a b) := by
  unfold mn32
  simp only [nI_lt0 hb ha]
  by_cases q : b < a
  · rw [if_pos q, Nat.min_eq_right (by omega)]
  · rw [if_neg q, Nat.min_eq_left (by omega)]
theorem r_least (c : RM h m A n) (a : WA A n) (x y : Int32) : Ok (f_X10_least h m x y) (fun o => o.1 = (sp_least A x y).1 ∧ RM o.2 m (sp_least A x y).2 n ∧ EqOff (FM m) h o.2) := by
  have hF := FU_big
  have hb := ncl_le a.w
  have b5 := a.w.2.2.2.2.1
  rw [f_X10_least]
  refine r_th c (fun h1 c1 o1 _ => ?_)
  have s := c1.s
  rw [m_isSize, bd_s]
  simp only [nB_0]
  unfold sp_least
  cases hx : numIn (nI 1) (nI 3) x with
  | none => exact ok_t rfl (ok_some ⟨rfl, c1, o1.ofs⟩)
  | some hg =>
    obtain ⟨rfl, g1, g2⟩ := numIn_s (by omega) (by omega) hx
    cases hy : numIn (nI 1) (nI 3) y with
    | none => exact ok_t rfl (ok_some ⟨rfl, c1, o1.ofs⟩)
    | some wd =>
      obtain ⟨rfl, g3, g4⟩ := numIn_s (by omega) (by omega) hy
      refine ok_f (by simp) ?_
      have e := fo_lpI (fun k (b : Option (Nat × Nat)) i => f_X10_least_26 m (nI hg) (nI wd) k h1 (ls1 b) (ls2 1000000 b) i) (ncl (aS A)) (lsF (aS A) hg wd) (fun b => f_X10_least_26 m (nI hg) (nI wd) 1 h1 (ls1 b) (ls2 1000000 b) (nI (ncl (aS A)))) (fun b i => lsP (aS A) hg wd i b) (fun b i _ hp => lsF_P a.w hp) (fun k b i hi hp => ?_) (fun k b _ => ?_) (ncl (aS A)) FU none 0 (fun p z => by cases z) (by omega) (by omega)
      · rw [show f_X10_least_26 m (nI hg) (nI wd) FU h1 (-2) 1000000 0 = f_X10_least_26 m (nI hg) (nI wd) 1 h1 (ls1 (lsB (aS A) hg wd)) (ls2 1000000 (lsB (aS A) hg wd)) (nI (ncl (aS A))) from e.1]
        have hp : lsP (aS A) hg wd (ncl (aS A)) (lsB (aS A) hg wd) := e.2
        simp only [f_X10_least_26]
        refine ok_lt (fun k ek => ?_)
        clear ek
        rw [m_cells c1.g, bd_s]
        refine ok_t (Int32.le_refl _) ?_
        cases hz : lsB (aS A) hg wd with
        | none => exact ok_f (by decide) (ok_some ⟨rfl, c1, o1.ofs⟩)
        | some p =>
          obtain ⟨q1, q2, q3⟩ := hp p hz
          refine ok_t (by show (0 : Int32) ≤ nI p.1; rw [i0, nI_leI (by omega) (by omega)]; omega) ?_
          show Ok (f_X10_least_141 m (nI hg) (nI wd) FU h1 (nI p.1) (nI p.2) 0 0) _
          have e := fo_lp (fun k (b : Int32) i => f_X10_least_141 m (nI hg) (nI wd) k h1 (nI p.1) (nI p.2) b i) ((aS A).1 2) (stB (und (aS A) p.1 hg wd)) (fun b => f_X10_least_141 m (nI hg) (nI wd) 1 h1 (nI p.1) (nI p.2) b (nI ((aS A).1 2))) (fun k b i hi => ?_) (fun k b => ?_) ((aS A).1 2) FU (nI 0) 0 (by omega) (by omega)
          · rw [show f_X10_least_141 m (nI hg) (nI wd) FU h1 (nI p.1) (nI p.2) 0 0 = f_X10_least_141 m (nI hg) (nI wd) 1 h1 (nI p.1) (nI p.2) (bitsB (und (aS A) p.1 hg wd) ((aS A).1 2)) (nI ((aS A).1 2)) from e]
            simp only [f_X10_least_141]
            refine ok_lt (fun k ek => ?_)
            clear ek
            rw [s.r6, s.t2, show ix (48 : Int32) = 48 by decide, c1.w.n]
            refine ok_gd (nz_t (by omega)) (ok_gd (by decide) (ok_t (Int32.le_refl _) (r_t0 c1 (fun h25 c25 o25 => ok_bd (m_enters c25 (by simp [aT, wT, mkA]) _) (fun h26 ⟨c26, o26⟩ => ok_bd (m_enters c26 (by simp [aT, wT, mkA]) _) (fun h27 ⟨c27, o27⟩ => ok_some ⟨rfl, c27, o1.ofs.tr ((Dt_FM o25).tr ((Dt_FM o26).tr (Dt_FM o27)))⟩))))))
          · show f_X10_least_141 m (nI hg) (nI wd) (k + 1) h1 (nI p.1) (nI p.2) b (nI i) = f_X10_least_141 m (nI hg) (nI wd) k h1 (nI p.1) (nI p.2) (stB (und (aS A) p.1 hg wd) b i) (nI (i + 1))
            simp only [f_X10_least_141, f_X10_least_197, f_X10_least_198, lt_u]
            rw [s.r6, s.t2, show ix (48 : Int32) = 48 by decide, c1.w.n, gd_t (nz_t (by omega)), gd_t (by decide), if_neg (by rw [nI_leI (by omega) (by omega)]; omega), m_isOn c1.w a.w (by omega), bd_s, m_areaOf c1.g c1.w a.w hi, bd_s, m_area c1.g a.w (by omega) (by omega) (by omega), bd_s, show nI i + 1 = nI (i + 1) by rw [i1, nI_add]]
            simp only [nB_0, and_0 (show ncl (aS A) ≤ 62 by omega), Int32.or_zero]
            have hu : (∃ k, k < ncl (aS A) ∧ cov (aS A) k i = true ∧ ovB (aS A) p.1 hg wd k = true) ↔ 0 < cmc (aS A) i p.1 hg wd := by
              rw [← und_cell a.w hi q3 g1 g3]
              constructor
              · rintro ⟨k, z1, z2, z3⟩; exact ⟨k, z1, z3, z2⟩
              · rintro ⟨k, z1, z2, z3⟩; exact ⟨k, z1, z3, z2⟩
            simp only [hu]
            unfold stB und
            rw [onb_4 hi]
            by_cases z1 : 0 < (aS A).2 4 i
            · by_cases z2 : 0 < cmc (aS A) i p.1 hg wd
              · simp [z1, z2, i1]
              · simp [z1, z2]
            · simp [z1]
          · show f_X10_least_141 m (nI hg) (nI wd) (k + 1) h1 (nI p.1) (nI p.2) b (nI ((aS A).1 2)) = f_X10_least_141 m (nI hg) (nI wd) 1 h1 (nI p.1) (nI p.2) b (nI ((aS A).1 2))
            simp only [f_X10_least_141, lt_u]
            rw [s.r6, s.t2, show ix (48 : Int32) = 48 by decide, c1.w.n, gd_t (nz_t (show m + 2 ≠ 0 by omega)), gd_t (show inb 48 51 = true by decide), if_pos (Int32.le_refl _), gd_t (nz_t (show m + 2 ≠ 0 by omega)), gd_t (show inb 48 51 = true by decide), if_pos (Int32.le_refl _)]
      · show f_X10_least_26 m (nI hg) (nI wd) (k + 1) h1 (ls1 b) (ls2 1000000 b) (nI i) = f_X10_least_26 m (nI hg) (nI wd) k h1 (ls1 (lsF (aS A) hg wd b i)) (ls2 1000000 (lsF (aS A) hg wd b i)) (nI (i + 1))
        have eh : (decide (i / (aS A).1 1 + hg ≤ (aS A).1 0) && decide (i % (aS A).1 1 + wd ≤ (aS A).1 1)) = hld (aS A) i hg wd := by simp [hld, hi]
        simp only [f_X10_least_26, f_X10_least_122, lt_u]
        rw [m_cells c1.g, bd_s, if_neg (by rw [nI_leI (by omega) (by omega)]; omega), m_isIn c1.g a.w (by omega) (by omega) (by omega), bd_s, eh, show nI i + 1 = nI (i + 1) by rw [i1, nI_add]]
        simp only [nB_0]
        cases hh : hld (aS A) i hg wd with
        | false => simp [lsF, hh]
        | true =>
          rw [if_neg (by simp)]
          have hs := stU2_le a.w (hg := hg) (wd := wd) (kc := i)
          have e := fo_lp (fun q (b' : Nat) d => f_X10_least_52 m (nI hg) (nI wd) (f_X10_least_26 m (nI hg) (nI wd) k) q h1 (ls1 b) (ls2 1000000 b) (nI i) (nI b') d) (ncl (aS A)) (fun (b' : Nat) d => b' + (if ovB (aS A) i hg wd d = true then nsum (fun j => if cov (aS A) d j = true then (aS A).2 4 j else 0) ((aS A).1 2) else 0)) (fun b' => f_X10_least_112 m (nI hg) (nI wd) (f_X10_least_26 m (nI hg) (nI wd) k) h1 (if ls2 1000000 b ≤ nI b' then ls1 b else nI i) (ls2 1000000 b) (nI i) (nI b')) (fun q b' d hd => ?_) (fun q b' => ?_) (ncl (aS A)) FU 0 0 (by omega) (by omega)
          · have es : fo (fun (b' : Nat) d => b' + (if ovB (aS A) i hg wd d = true then nsum (fun j => if cov (aS A) d j = true then (aS A).2 4 j else 0) ((aS A).1 2) else 0)) 0 0 (ncl (aS A)) = stU2 (aS A) hg wd i := by
              rw [← stD_e a.w hh]
              unfold stD
              have : ∀ f : Nat → Nat, ∀ k, fo (fun (b' : Nat) d => b' + f d) 0 0 k = nsum f k := by
                intro f k
                induction k with
                | zero => rfl
                | succ k ih => rw [fo_snoc, ih, nsum, Nat.zero_add]
              exact this _ _
            rw [es] at e
            rw [show f_X10_least_52 m (nI hg) (nI wd) (f_X10_least_26 m (nI hg) (nI wd) k) FU h1 (ls1 b) (ls2 1000000 b) (nI i) 0 0 = _ from e]
            simp only [f_X10_least_112, f_X10_least_122, lt_u]
            rw [show nI i + 1 = nI (i + 1) by rw [i1, nI_add]]
            unfold lsF
            rw [if_pos hh]
            cases b with
            | none =>
              have : ¬ ls2 1000000 none ≤ nI (stU2 (aS A) hg wd i) := by
                show ¬ nI 1000000 ≤ nI (stU2 (aS A) hg wd i)
                rw [nI_leI (by omega) (by omega)]; omega
              rw [if_neg this]
              show f_X10_least_26 m (nI hg) (nI wd) k h1 (nI i) (mn32 (nI 1000000) (nI (stU2 (aS A) hg wd i))) (nI (i + 1)) = _
              rw [mn_nI (by omega) (by omega), Nat.min_eq_right (by omega)]; rfl
            | some p =>
              have hq := hp p rfl
              have this : (ls2 1000000 (some p) ≤ nI (stU2 (aS A) hg wd i)) ↔ p.2 ≤ stU2 (aS A) hg wd i := by
                show nI p.2 ≤ nI (stU2 (aS A) hg wd i) ↔ _
                rw [nI_leI (by omega) (by omega)]
              have em : mn32 (ls2 1000000 (some p)) (nI (stU2 (aS A) hg wd i)) = nI (min p.2 (stU2 (aS A) hg wd i)) := mn_nI (by omega) (by omega)
              rw [em]
              by_cases q : p.2 ≤ stU2 (aS A) hg wd i
              · rw [if_pos (this.mpr q), Nat.min_eq_left q]
                simp only [q, if_true]; rfl
              · rw [if_neg (fun z => q (this.mp z)), Nat.min_eq_right (by omega)]
                simp only [q, if_false]; rfl
          · show f_X10_least_52 m (nI hg) (nI wd) (f_X10_least_26 m (nI hg) (nI wd) k) (q + 1) h1 (ls1 b) (ls2 1000000 b) (nI i) (nI b') (nI d) = f_X10_least_52 m (nI hg) (nI wd) (f_X10_least_26 m (nI hg) (nI wd) k) q h1 (ls1 b) (ls2 1000000 b) (nI i) (nI (b' + (if ovB (aS A) i hg wd d = true then nsum (fun j => if cov (aS A) d j = true then (aS A).2 4 j else 0) ((aS A).1 2) else 0))) (nI (d + 1))
            simp only [f_X10_least_52, f_X10_least_90, lt_u]
            rw [m_cells c1.g, bd_s, if_neg (by rw [nI_leI (by omega) (by omega)]; omega), m_isOver c1.g a.w (by omega) (by omega) (by omega) (by omega), bd_s, s.r6, m_strengthOn c1.g c1.w a.w (by omega), bd_s, sumB_n, gd_t (nz_t (by omega)), show nI d + 1 = nI (d + 1) by rw [i1, nI_add], nI_add]
            simp only [nB_0]
            cases ovB (aS A) i hg wd d with
            | false => simp
            | true => simp
          · show f_X10_least_52 m (nI hg) (nI wd) (f_X10_least_26 m (nI hg) (nI wd) k) (q + 1) h1 (ls1 b) (ls2 1000000 b) (nI i) (nI b') (nI (ncl (aS A))) = _
            simp only [f_X10_least_52, lt_u]
            rw [m_cells c1.g, bd_s, if_pos (Int32.le_refl _)]
      · show f_X10_least_26 m (nI hg) (nI wd) (k + 1) h1 (ls1 b) (ls2 1000000 b) (nI (ncl (aS A))) = f_X10_least_26 m (nI hg) (nI wd) 1 h1 (ls1 b) (ls2 1000000 b) (nI (ncl (aS A)))
        simp only [f_X10_least_26, lt_u]
        rw [m_cells c1.g, bd_s, if_pos (Int32.le_refl _), bd_s, if_pos (Int32.le_refl _)]
end LEAST2
