section READS
variable {h : Hp} {a : Nat} {S : Fld}
theorem p_onCount (c : atC h a S) (hw : wfF S) : f_X0_onCount h a = some (bc32 (bitsB (onb S) (S.1 2))) := by
  rw [f_X0_onCount, p_onBits c hw, bd_s, p_bc, bd_s]
/-- the strongest so far -/
def stgS (S : Fld) (kc : Nat) (b : Option Nat) (i : Nat) : Option Nat := if ocv S kc i = true then (match b with
  | none => some i
  | some j => if S.2 4 i ≤ S.2 4 j then some j else some i) else b
def stg (S : Fld) (kc : Nat) : Option Nat := fo (stgS S kc) none 0 (S.1 2)
theorem p_strongestOver (c : atC h a S) (hw : wfF S) {kc : Nat} (hc : kc < 100) : f_X0_strongestOver h a (nI kc) = some (oI (stg S kc)) := by
  have hF := FU_big
  have b5 := hw.2.2.2.2.1
  have b8 := hw.2.2.2.2.2.2.2.1
  rw [f_X0_strongestOver, p_onOver c hw hc, bd_s]
  have := fo_lpI (fun n (b : Option Nat) i => f_X0_strongestOver_11 h a (nI kc) n (bitsB (ocv S kc) (S.1 2)) (oI b) i) (S.1 2) (stgS S kc) (fun b => some (oI b)) (fun b i => ∀ j, b = some j → j < i) (fun b i hi hb => ?_) (fun n b i hi hb => ?_) (fun n b hb => ?_) (S.1 2) FU none 0 (fun j hj => by cases hj) (by omega) (by omega)
  · exact this.1
  · intro j hj
    unfold stgS at hj
    split at hj
    · cases b with
      | none => cases hj; omega
      | some k =>
        have := hb k rfl
        simp only at hj
        split at hj <;> (cases hj; omega)
    · have := hb j hj; omega
  · show f_X0_strongestOver_11 h a (nI kc) (n + 1) (bitsB (ocv S kc) (S.1 2)) (oI b) (nI i) = f_X0_strongestOver_11 h a (nI kc) n (bitsB (ocv S kc) (S.1 2)) (oI (stgS S kc b i)) (nI (i + 1))
    simp (disch := omega) only [f_X0_strongestOver_11, f_X0_strongestOver_50, f_X0_strongestOver_53, lt_u, c.q2, nI_le0, p_isInB, bd_s, nB_0, i1, nI_add, n1m]
    rw [if_neg (by omega)]
    cases ho : ocv S kc i with
    | false => simp [hi, stgS, ho]
    | true =>
      simp only [hi, decide_true, Bool.and_self, Bool.true_eq_false, if_false, stgS, ho, if_true]
      cases b with
      | none => simp [oI]
      | some j =>
        have hj := hb j rfl
        have g1 := b8 4 i; have g2 := b8 4 j
        have en : ¬ (nI j = (-1 : Int32)) := by
          intro z
          have := nI_pos' (n := j) (by omega)
          rw [z] at this; exact absurd this (by decide)
        simp (disch := omega) only [oI, en, if_false, c.q0, c.q1, c.q2, c.q3, c.q4, c.r5, c.r6, c.r7, c.r8, c.r9, c.r10, c.r11, c.t1, c.t2, c.t3, c.t4, c.t5, c.t6, c.t7, c.v0, c.v1, c.v2, c.v3, c.v4, c.v5, c.v6, nz_t, gdT, inb_nI, ix_nI, nI_le0]
        by_cases q : S.2 4 i ≤ S.2 4 j
        · simp [q]
        · simp [q]
  · show f_X0_strongestOver_11 h a (nI kc) (n + 1) (bitsB (ocv S kc) (S.1 2)) (oI b) (nI (S.1 2)) = _
    simp only [f_X0_strongestOver_11, lt_u, c.q2]
    rw [if_pos (Int32.le_refl _)]
/-- camps seen from some rows -/
def orS (f : Nat → Int32) (p : Nat → Bool) (acc : Int32) (i : Nat) : Int32 := if p i = true then acc ||| f i else acc
def orB (f : Nat → Int32) (p : Nat → Bool) (n : Nat) : Int32 := fo (orS f p) (nI 0) 0 n
theorem p_seenFromRows (c : atC h a S) (hw : wfF S) {x : Nat} (hx : x < 2 ^ 31) : f_X0_seenFromRows h a (nI x) = some (orB (fun r => bitsB (snb S r) (S.1 2)) (fun r => x.testBit r) (S.1 0)) := by
  have hF := FU_big
  have b2 := hw.2.1
  refine fo_lp (f_X0_seenFromRows_4 h a (nI x)) (S.1 0) (orS (fun r => bitsB (snb S r) (S.1 2)) (fun r => x.testBit r)) some (fun n acc i hi => ?_) (fun n acc => ?_) (S.1 0) FU (nI 0) 0 (by omega) (by omega)
  · have e1 := p_isIn (h := h) hx (show i < 31 by omega)
    have e2 := p_seenFrom c hw (r := i) (by omega)
    simp (disch := omega) only [f_X0_seenFromRows_4, f_X0_seenFromRows_28, e1, e2, bd_s, lt_u, nB_0, nB_00, nz_t, gdT, inb_nI, ix_nI, nI_le0, nI_lt0, nI_eq0, nI_add, pk_mul, i0, i1, i2, i3, c.q0]
    simp only [orS]
    grind
  · simp (disch := omega) only [f_X0_seenFromRows_4, bd_s, lt_u, nB_0, nB_00, nz_t, gdT, inb_nI, ix_nI, nI_le0, nI_lt0, nI_eq0, nI_add, pk_mul, i0, i1, i2, i3, c.q0]
    simp
/-- a round of hanging together; p is who hangs, as bits -/
def hgS (S : Fld) (acc : Nat) (i : Nat) : Nat := if acc.testBit i = true then acc ||| nb (crs S i) (S.1 2) else acc
def hgR (S : Fld) (acc : Nat) : Nat := fo (hgS S) acc 0 (S.1 2)
def hang (S : Fld) (i : Nat) : Nat := fo (fun acc _ => hgR S acc) (2 ^ i) 0 (S.1 2)
theorem hgS_lt {acc i : Nat} (h5 : S.1 2 ≤ 8) (ha : acc < 2 ^ 8) : hgS S acc i < 2 ^ 8 := by
  unfold hgS
  split
  · exact Nat.or_lt_two_pow ha (Nat.lt_of_lt_of_le (nb_lt _ _) (Nat.pow_le_pow_right (by omega) h5))
  · exact ha
theorem fo_inv {α : Type} {step : α → Nat → α} {P : α → Prop} (hs : ∀ x i, P x → P (step x i)) : ∀ d x i, P x → P (fo step x i d) := by
  intro d
  induction d with
  | zero => intro x i h; exact h
  | succ d ih => intro x i h; exact ih _ _ (hs x i h)
theorem hgR_lt {acc : Nat} (h5 : S.1 2 ≤ 8) (ha : acc < 2 ^ 8) : hgR S acc < 2 ^ 8 := fo_inv (P := fun x => x < 2 ^ 8) (step := hgS S) (fun x i hx => hgS_lt h5 hx) _ _ _ ha
theorem p_hangTogether (c : atC h a S) (hw : wfF S) {i : Nat} (hi : i < S.1 2) : f_X0_hangTogether h a (nI i) = some (nI (hang S i)) := by
  have hF := FU_big
  have b5 := hw.2.2.2.2.1
  have h2 : 2 ^ i < 2 ^ 8 := Nat.pow_lt_pow_right (by omega) (by omega)
  rw [f_X0_hangTogether, i1, shl_1 i (by omega), lt_u]
  have := fo_lpI (fun n (b : Nat) j => f_X0_hangTogether_6 h a (nI i) n (nI b) j) (S.1 2) (fun acc _ => hgR S acc) (fun b => some (nI b)) (fun b j => b < 2 ^ 8) (fun b j hj hb => hgR_lt b5 hb) (fun n b j hj hb => ?_) (fun n b hb => ?_) (S.1 2) FU (2 ^ i) 0 h2 (by omega) (by omega)
  · exact this.1
  · show f_X0_hangTogether_6 h a (nI i) (n + 1) (nI b) (nI j) = f_X0_hangTogether_6 h a (nI i) n (nI (hgR S b)) (nI (j + 1))
    simp (disch := omega) only [f_X0_hangTogether_6, lt_u, c.q2, nI_le0]
    rw [if_neg (by omega), i0]
    have := fo_lpI (fun n2 (b : Nat) k => f_X0_hangTogether_17 h a (nI i) (f_X0_hangTogether_6 h a (nI i) n) n2 (nI b) (nI j) k) (S.1 2) (hgS S) (fun b => f_X0_hangTogether_6 h a (nI i) n (nI b) (nI (j + 1))) (fun b k => b < 2 ^ 8) (fun b k hk hb => hgS_lt b5 hb) (fun n2 b k hk hb => ?_) (fun n2 b hb => ?_) (S.1 2) FU b 0 hb (by omega) (by omega)
    · exact this.1
    · show f_X0_hangTogether_17 h a (nI i) (f_X0_hangTogether_6 h a (nI i) n) (n2 + 1) (nI b) (nI j) (nI k) = f_X0_hangTogether_17 h a (nI i) (f_X0_hangTogether_6 h a (nI i) n) n2 (nI (hgS S b k)) (nI j) (nI (k + 1))
      simp (disch := omega) only [f_X0_hangTogether_17, f_X0_hangTogether_44, lt_u, c.q2, nI_le0, p_isIn, bd_s, nB_0, i1, nI_add, p_crossedBy c hw hk, bitsB_nb, nI_or]
      rw [if_neg (by omega)]
      cases ht : b.testBit k <;> simp [hgS, ht]
    · show f_X0_hangTogether_17 h a (nI i) (f_X0_hangTogether_6 h a (nI i) n) (n2 + 1) (nI b) (nI j) (nI (S.1 2)) = _
      simp only [f_X0_hangTogether_17, lt_u, c.q2, i1, nI_add]
      rw [if_pos (Int32.le_refl _)]
  · show f_X0_hangTogether_6 h a (nI i) (n + 1) (nI b) (nI (S.1 2)) = _
    simp only [f_X0_hangTogether_6, lt_u, c.q2]
    rw [if_pos (Int32.le_refl _)]
/-- the cell beside one -/
def bsd (S : Fld) (kc s : Nat) : Option Nat := if s = 0 then (if 0 < kc / S.1 1 then some (kc - S.1 1) else none) else if s = 1 then (if 0 < kc % S.1 1 then some (kc - 1) else none) else if s = 2 then (if kc % S.1 1 + 1 < S.1 1 then some (kc + 1) else none) else (if kc / S.1 1 + 1 < S.1 0 then some (kc + S.1 1) else none)
theorem p_beside (c : atC h a S) (hw : wfF S) {kc s : Nat} (hc : kc < ncl S) (hs : s < 4) : f_X0_beside h a (nI kc) (nI s) = some (oI (bsd S kc s)) := by
  have hb := ncl_le hw
  have b1 := hw.1; have b2 := hw.2.1; have b3 := hw.2.2.1; have b4 := hw.2.2.2.1
  have g1 : kc / S.1 1 ≤ kc := Nat.div_le_self _ _
  have g2 : kc % S.1 1 < S.1 1 := Nat.mod_lt _ (by omega)
  have g3 : kc / S.1 1 < S.1 0 := Nat.div_lt_of_lt_mul (by rw [Nat.mul_comm]; exact hc)
  have g4 : kc / S.1 1 * S.1 1 + kc % S.1 1 = kc := Nat.div_add_mod' kc (S.1 1)
  simp (disch := omega) only [f_X0_beside, p_rowOf c hw, p_columnOf c hw, bd_s, i0, i1, i2, nI_eq0, nI_add]
  generalize hr : kc / S.1 1 = r at *
  generalize hk : kc % S.1 1 = k at *
  have m1 : nI 0 - nI 1 = (-1 : Int32) := by decide
  rcases (show s = 0 ∨ s = 1 ∨ s = 2 ∨ s = 3 by omega) with rfl | rfl | rfl | rfl
  · simp only [if_true, bsd, hr, Nat.reduceEqDiff]
    by_cases q : 0 < r
    · rw [pk_sub (by omega), p_cellAt c hw (by omega) (by omega), bd_s, if_pos ⟨by omega, by omega⟩, if_pos q]
      have : (r - 1) * S.1 1 + k = kc - S.1 1 := by
        obtain ⟨t, rfl⟩ : ∃ t, r = t + 1 := ⟨r - 1, by omega⟩
        rw [Nat.succ_mul] at g4
        simp only [Nat.add_sub_cancel]; omega
      rw [this]; rfl
    · have e : r = 0 := by omega
      rw [e, m1, p_cellAt_n1 c (by decide), if_neg (by omega)]; rfl
  · simp only [if_true, if_false, bsd, hk, Nat.reduceEqDiff, Nat.succ_ne_zero]
    by_cases q : 0 < k
    · rw [pk_sub (by omega), p_cellAt c hw (by omega) (by omega), bd_s, if_pos ⟨by omega, by omega⟩, if_pos q]
      have : r * S.1 1 + (k - 1) = kc - 1 := by omega
      rw [this]; rfl
    · have e : k = 0 := by omega
      rw [e, m1, p_cellAt_n2 c (by decide), if_neg (by omega)]; rfl
  · simp only [if_true, if_false, bsd, hk, Nat.reduceEqDiff, Nat.succ_ne_zero]
    rw [p_cellAt c hw (by omega) (by omega), bd_s]
    by_cases q : k + 1 < S.1 1
    · rw [if_pos ⟨by omega, by omega⟩, if_pos q]
      have : r * S.1 1 + (k + 1) = kc + 1 := by omega
      rw [this]; rfl
    · rw [if_neg (fun z => q z.2), if_neg q]; rfl
  · simp only [if_false, bsd, hr, Nat.reduceEqDiff, Nat.succ_ne_zero]
    rw [p_cellAt c hw (by omega) (by omega), bd_s]
    by_cases q : r + 1 < S.1 0
    · rw [if_pos ⟨by omega, by omega⟩, if_pos q]
      have : (r + 1) * S.1 1 + k = kc + S.1 1 := by rw [Nat.succ_mul]; omega
      rw [this]; rfl
    · rw [if_neg (fun z => q z.1), if_neg q]; rfl
/-- from camp n on none has strength -/
def weakS (S : Fld) (n : Nat) : Fld := (S.1, fun j i => if j = 4 ∧ n ≤ i ∧ i < S.1 2 then 0 else S.2 j i)
theorem p_weaken (c : atC h a S) (b5 : S.1 2 ≤ 8) {n : Nat} (hn : n ≤ 8) : Ok (f_X0_weaken h a (nI n)) (fun h1 => atC h1 a (weakS S n) ∧ EqOff (FC a) h h1) := by
  have hF := FU_big
  rw [f_X0_weaken, i0]
  have em : mx32 (nI 0) (nI n) = nI n := by
    unfold mx32
    simp (disch := omega) only [nI_lt0]
    by_cases q : 0 < n
    · rw [if_pos q]
    · have : n = 0 := by omega
      subst this; simp
  rw [em, lt_u]
  by_cases q : n ≤ S.1 2
  · refine okl (fun k h2 i => f_X0_weaken_6 a (nI n) k h2 i) (S.1 2) (fun i h2 => atC h2 a (S.1, fun j k => if j = 4 ∧ n ≤ k ∧ k < i then 0 else S.2 j k) ∧ EqOff (FC a) h h2 ∧ n ≤ i) _ (fun k i h2 hi ⟨d1, d2, d3⟩ kk => ?_) (fun k h2 ⟨d1, d2, d3⟩ => ?_) (S.1 2 - n) FU n h (by omega) (by omega) ⟨c.ext (fun _ _ => rfl) (fun j k _ _ => by
      show S.2 j k = if j = 4 ∧ n ≤ k ∧ k < n then 0 else S.2 j k
      rw [if_neg (by omega)]), EqOff.rf, Nat.le_refl _⟩
    · show Ok (f_X0_weaken_6 a (nI n) (k + 1) h2 (nI i)) _
      have q2 : hpI h2 a 2 = nI (S.1 2) := d1.q2
      simp (disch := omega) only [f_X0_weaken_6, lt_u, q2, nI_le0, d1.r9, d1.t5, nz_t, gdT, inb_nI, ix_nI, i0, i1, nI_add]
      rw [if_neg (by omega)]
      refine kk _ ⟨(d1.w4 (i := i) (v := 0)).ext (fun _ _ => rfl) (fun j k _ _ => ?_), d2.tr (eoC (by omega)), by omega⟩
      simp only [setF]
      grind
    · show Ok (f_X0_weaken_6 a (nI n) (k + 1) h2 (nI (S.1 2))) _
      have q2 : hpI h2 a 2 = nI (S.1 2) := d1.q2
      simp only [f_X0_weaken_6, lt_u, q2]
      rw [if_pos (Int32.le_refl _)]
      exact ok_some ⟨d1, d2⟩
  · obtain ⟨k, hk⟩ : ∃ k, FU = k + 1 := ⟨FU - 1, by omega⟩
    rw [hk]
    simp (disch := omega) only [f_X0_weaken_6, lt_u, c.q2, nI_le0]
    rw [if_pos (by omega)]
    refine ok_some ⟨c.ext (fun _ _ => rfl) (fun j k _ _ => ?_), EqOff.rf⟩
    show S.2 j k = if j = 4 ∧ n ≤ k ∧ k < S.1 2 then 0 else S.2 j k
    rw [if_neg (by omega)]
end READS
