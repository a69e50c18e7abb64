section MODEL2
variable {h : Hp} {m r : Nat} {S : Fld}
theorem fcl_dm (hw : wfF S) {i : Nat} (hi : i < S.1 2) : fcl S i / S.1 1 = S.2 0 i ∧ fcl S i % S.1 1 = S.2 1 i ∧ fcl S i < ncl S := by
  obtain ⟨b1, b2, b3, b4, b5, -, -, b8, b9⟩ := hw
  obtain ⟨g1, g2, g3, g4, g5, g6, -⟩ := b9 i hi
  obtain ⟨d1, d2⟩ := dm_1 (r := S.2 0 i) (k := S.2 1 i) (m := S.1 1) (by omega)
  refine ⟨d1, d2, ?_⟩
  have : S.2 0 i * S.1 1 + S.1 1 ≤ S.1 0 * S.1 1 := by
    rw [← Nat.succ_mul]; exact Nat.mul_le_mul_right _ (by omega)
  unfold fcl ncl; omega
theorem ovB_cov (hw : wfF S) {i kc : Nat} (hi : i < S.1 2) : ovB S (fcl S i) (S.2 2 i) (S.2 3 i) kc = cov S kc i := by
  obtain ⟨d1, d2, -⟩ := fcl_dm hw hi
  simp only [ovB, cov, ovr, ovc, d1, d2, hi, decide_true, Bool.true_and]
  grind
theorem m_isLyingOver (g : atG h m S) (w : atW h r S) (hw : wfF S) {i kc : Nat} (hi : i < S.1 2) (hc : kc < 1000) : f_X10_isLyingOver h m r (nI i) (nI kc) = some (nB (cov S kc i)) := by
  have b5 := hw.2.2.2.2.1
  have hb := ncl_le hw
  have g2 := hw.2.2.2.2.2.2.2.1 2 i
  have g3 := hw.2.2.2.2.2.2.2.1 3 i
  obtain ⟨-, -, d3⟩ := fcl_dm hw hi
  simp (disch := omega) only [f_X10_isLyingOver, w.t, gdT, inb_nI, ix_nI, j8, j16, w.v0 hi, w.v2 hi, w.v3 hi]
  have e := m_isOver g hw (f := fcl S i) (hg := S.2 2 i) (wd := S.2 3 i) (kc := kc) (by omega) hc (by omega) (by omega)
  rw [e, bd_s, ovB_cov hw hi]
theorem m_areaOf (g : atG h m S) (w : atW h r S) (hw : wfF S) {i : Nat} (hi : i < S.1 2) : f_X10_areaOf h m r (nI i) = some (bitsL (fun kc => cov S kc i) (ncl S)) := by
  have b5 := hw.2.2.2.2.1
  have hb := ncl_le hw
  have g2 := hw.2.2.2.2.2.2.2.1 2 i
  have g3 := hw.2.2.2.2.2.2.2.1 3 i
  obtain ⟨-, -, d3⟩ := fcl_dm hw hi
  simp (disch := omega) only [f_X10_areaOf, w.t, gdT, inb_nI, ix_nI, j8, j16, w.v0 hi, w.v2 hi, w.v3 hi]
  have e := m_area g hw (f := fcl S i) (hg := S.2 2 i) (wd := S.2 3 i) (by omega) (by omega) (by omega)
  rw [e, bd_s, bitsL_congr (fun kc _ => ovB_cov hw hi)]
theorem m_on (w : atW h r S) (hw : wfF S) : f_X10_on h r = some (bitsB (onb S) (S.1 2)) := by
  have hF := FU_big
  have b5 := hw.2.2.2.2.1
  refine fo_lp (f_X10_on_4 h r) (S.1 2) (stB (onb S)) some (fun n acc i hi => ?_) (fun n acc => ?_) (S.1 2) FU (nI 0) 0 (by omega) (by omega)
  · simp (disch := omega) only [f_X10_on_4, f_X10_on_28, w.t, gdT, j48, inb_nI, ix_nI, w.n, m_isOn w hw, lt_u, bd_s, nB_0, i1, nI_add, nI_le0]
    rw [if_neg (by omega)]
    simp only [stB]
    cases onb S i <;> simp
  · simp (disch := omega) only [f_X10_on_4, w.t, gdT, j48, inb_nI, ix_nI, w.n, lt_u, nI_le0]
    simp
theorem m_sumOf (w : atW h r S) (hw : wfF S) : f_X10_sumOf h r (24 : Int32) = some (sumB (S.2 4) (S.1 2)) := by
  have hF := FU_big
  have b5 := hw.2.2.2.2.1
  refine fo_lp (f_X10_sumOf_4 h r (24 : Int32)) (S.1 2) (stS (S.2 4)) some (fun n acc i hi => ?_) (fun n acc => ?_) (S.1 2) FU (nI 0) 0 (by omega) (by omega)
  · simp (disch := omega) only [f_X10_sumOf_4, w.t, gdT, j24, j48, inb_nI, ix_nI, w.n, w.v4 hi, lt_u, i1, nI_add, nI_le0]
    rw [if_neg (by omega)]
    simp only [stS]
  · simp (disch := omega) only [f_X10_sumOf_4, w.t, gdT, j48, inb_nI, ix_nI, w.n, lt_u, nI_le0]
    simp
theorem m_campsOver (g : atG h m S) (w : atW h r S) (hw : wfF S) {kc : Nat} (hc : kc < 1000) : f_X10_campsOver h m r (nI kc) = some (bitsB (ocv S kc) (S.1 2)) := by
  have hF := FU_big
  have b5 := hw.2.2.2.2.1
  refine fo_lp (f_X10_campsOver_5 h m r (nI kc)) (S.1 2) (stB (ocv S kc)) some (fun n acc i hi => ?_) (fun n acc => ?_) (S.1 2) FU (nI 0) 0 (by omega) (by omega)
  · have e := m_isLyingOver g w hw (i := i) (kc := kc) hi hc
    simp (disch := omega) only [f_X10_campsOver_5, f_X10_campsOver_42, f_X10_campsOver_43, w.t, gdT, j48, inb_nI, ix_nI, w.n, m_isOn w hw, e, lt_u, bd_s, nB_0, i1, nI_add, nI_le0]
    rw [if_neg (by omega)]
    have e2 : ocv S kc i = (onb S i && cov S kc i) := by simp only [ocv, cov, Bool.and_assoc]
    simp only [stB, e2]
    cases onb S i <;> cases cov S kc i <;> simp
  · simp (disch := omega) only [f_X10_campsOver_5, w.t, gdT, j48, inb_nI, ix_nI, w.n, lt_u, nI_le0]
    simp
theorem m_strengthOn (g : atG h m S) (w : atW h r S) (hw : wfF S) {kc : Nat} (hc : kc < 1000) : f_X10_strengthOn h m r (nI kc) = some (sumB (fun i => if cov S kc i = true then S.2 4 i else 0) (S.1 2)) := by
  have hF := FU_big
  have b5 := hw.2.2.2.2.1
  refine fo_lp (f_X10_strengthOn_5 h m r (nI kc)) (S.1 2) (stS (fun i => if cov S kc i = true then S.2 4 i else 0)) some (fun n acc i hi => ?_) (fun n acc => ?_) (S.1 2) FU (nI 0) 0 (by omega) (by omega)
  · have e := m_isLyingOver g w hw (i := i) (kc := kc) hi hc
    simp (disch := omega) only [f_X10_strengthOn_5, f_X10_strengthOn_37, w.t, gdT, j24, j48, inb_nI, ix_nI, w.n, w.v4 hi, e, lt_u, bd_s, nB_0, i1, nI_add, nI_le0]
    rw [if_neg (by omega)]
    simp only [stS]
    cases cov S kc i <;> simp [i0]
  · simp (disch := omega) only [f_X10_strengthOn_5, w.t, gdT, j48, inb_nI, ix_nI, w.n, lt_u, nI_le0]
    simp
/-- cells over which some camp, of those for which p, is on -/
def slp (S : Fld) (p : Nat → Bool) (kc : Nat) : Bool := decide (∃ i, i < S.1 2 ∧ onb S i = true ∧ p i = true ∧ cov S kc i = true)
def slN (S : Fld) (p : Nat → Bool) : Nat → Nat
  | 0 => 0
  | n + 1 => if onb S n = true ∧ p n = true then slN S p n ||| nb (fun kc => cov S kc n) (ncl S) else slN S p n
theorem slN_bit (p : Nat → Bool) : ∀ n k, (slN S p n).testBit k = (decide (k < ncl S) && decide (∃ i, i < n ∧ onb S i = true ∧ p i = true ∧ cov S k i = true)) := by
  intro n
  induction n with
  | zero => intro k; simp [slN]
  | succ n ih =>
    intro k
    have hs : (∃ i, i < n + 1 ∧ onb S i = true ∧ p i = true ∧ cov S k i = true) ↔ ((∃ i, i < n ∧ onb S i = true ∧ p i = true ∧ cov S k i = true) ∨ (onb S n = true ∧ p n = true ∧ cov S k n = true)) := by
      constructor
      · rintro ⟨i, z1, z2⟩
        by_cases e : i = n
        · subst e; exact Or.inr z2
        · exact Or.inl ⟨i, by omega, z2⟩
      · rintro (⟨i, z1, z2⟩ | z)
        · exact ⟨i, by omega, z2⟩
        · exact ⟨n, by omega, z⟩
    rw [slN]
    by_cases q : onb S n = true ∧ p n = true
    · rw [if_pos q, Nat.testBit_or, ih, nb_bit]
      simp only [hs, q.1, q.2, true_and]
      by_cases c1 : (∃ i, i < n ∧ onb S i = true ∧ p i = true ∧ cov S k i = true)
      · simp [c1]; intro z _; exact z
      · simp only [c1, false_or, decide_false, Bool.and_false, Bool.false_or]
        cases cov S k n <;> simp
    · rw [if_neg q, ih]
      simp only [hs]
      have : ¬ (onb S n = true ∧ p n = true ∧ cov S k n = true) := fun z => q ⟨z.1, z.2.1⟩
      simp only [this, or_false]
theorem slN_lt (p : Nat → Bool) (n : Nat) : slN S p n < 2 ^ ncl S := by
  apply Nat.lt_pow_two_of_testBit
  intro i hi
  rw [slN_bit]
  simp [show ¬ i < ncl S by omega]
theorem slN_nb (p : Nat → Bool) : slN S p (S.1 2) = nb (slp S p) (ncl S) := by
  apply Nat.eq_of_testBit_eq
  intro k
  rw [slN_bit, nb_bit, slp]
theorem m_sleptBy (g : atG h m S) (w : atW h r S) (hw : wfF S) {x : Nat} (hx : x < 2 ^ 31) : f_X10_sleptBy h m r (nI x) = some (bitsL (slp S (fun i => x.testBit i)) (ncl S)) := by
  have hF := FU_big
  have hb := ncl_le hw
  have b5 := hw.2.2.2.2.1
  rw [f_X10_sleptBy, show (0 : Int64) = lN (slN S (fun i => x.testBit i) 0) from rfl, i0]
  have := fo_lpI (fun n (b : Nat) k => f_X10_sleptBy_5 h m r (nI x) n (lN b) k) (S.1 2) (fun b i => if onb S i = true ∧ x.testBit i = true then b ||| nb (fun kc => cov S kc i) (ncl S) else b) (fun b => some (lN b)) (fun b k => b = slN S (fun i => x.testBit i) k) (fun b k hk hb => by rw [hb, slN]) (fun n b k hk hb => ?_) (fun n b hb => ?_) (S.1 2) FU (slN S (fun i => x.testBit i) 0) 0 rfl (by omega) (by omega)
  · rw [this.1, this.2, slN_nb, bitsL_nb _ _ (by omega)]
  · show f_X10_sleptBy_5 h m r (nI x) (n + 1) (lN b) (nI k) = f_X10_sleptBy_5 h m r (nI x) n (lN _) (nI (k + 1))
    simp (disch := omega) only [f_X10_sleptBy_5, f_X10_sleptBy_44, f_X10_sleptBy_45, w.t, gdT, j48, inb_nI, ix_nI, w.n, m_isOn w hw, p_hasI, m_areaOf g w hw hk, lt_u, bd_s, nB_0, i1, nI_add, nI_le0, bitsL_nb, lN_or]
    rw [if_neg (by omega)]
    cases onb S k <;> cases x.testBit k <;> simp
  · show f_X10_sleptBy_5 h m r (nI x) (n + 1) (lN b) (nI (S.1 2)) = _
    simp (disch := omega) only [f_X10_sleptBy_5, w.t, gdT, j48, inb_nI, ix_nI, w.n, lt_u, nI_le0]
    simp
theorem lN_pos {n : Nat} (h : n < 2 ^ 63) : (lN n = 0) ↔ n = 0 := by
  rw [show (0 : Int64) = lN 0 by decide]; exact pk_lEQ h (by decide)
/-- two sets of cells have one in common -/
theorem and_0 {p q : Nat → Bool} {n : Nat} (hn : n ≤ 62) : (lg_cmp (bitsL p n &&& bitsL q n) (0 : Int64) = 0) ↔ ¬ ∃ k, k < n ∧ p k = true ∧ q k = true := by
  rw [lg_cmp_eq, bitsL_nb p n (by omega), bitsL_nb q n (by omega), lN_and]
  have h1 : nb p n < 2 ^ n := nb_lt p n
  have h2 : 2 ^ n ≤ 2 ^ 62 := Nat.pow_le_pow_right (by omega) hn
  have h3 : nb p n &&& nb q n ≤ nb p n := Nat.and_le_left
  rw [lN_pos (by omega)]
  constructor
  · rintro e ⟨k, k1, k2, k3⟩
    have : (nb p n &&& nb q n).testBit k = true := by rw [Nat.testBit_and, nb_bit, nb_bit]; simp [k1, k2, k3]
    rw [e] at this; simp at this
  · intro e
    apply Nat.eq_of_testBit_eq
    intro k
    rw [Nat.testBit_and, nb_bit, nb_bit, Nat.zero_testBit]
    by_cases k1 : k < n
    · cases k2 : p k <;> cases k3 : q k <;> simp
      exact absurd ⟨k, k1, k2, k3⟩ e
    · simp [k1]
/-- camps of which one cell is common are those that cross -/
theorem cell_lt {r k : Nat} (hr : r < S.1 0) (hk : k < S.1 1) : r * S.1 1 + k < ncl S := by
  have : r * S.1 1 + S.1 1 ≤ S.1 0 * S.1 1 := by rw [← Nat.succ_mul]; exact Nat.mul_le_mul_right _ hr
  unfold ncl; omega
theorem crb_cell (hw : wfF S) {i j : Nat} (hi : i < S.1 2) (hj : j < S.1 2) (h1 : 0 < S.2 4 i) (h2 : 0 < S.2 4 j) : (∃ k, k < ncl S ∧ cov S k j = true ∧ cov S k i = true) ↔ crb S i j = true := by
  obtain ⟨b1, b2, b3, b4, b5, -, -, b8, b9⟩ := hw
  obtain ⟨g1, g2, g3, g4, g5, g6, -⟩ := b9 i hi
  obtain ⟨k1, k2, k3, k4, k5, k6, -⟩ := b9 j hj
  simp only [cov, ovr, ovc, crb, hi, hj, h1, h2, decide_true, Bool.true_and, Bool.and_eq_true, decide_eq_true_eq]
  constructor
  · rintro ⟨k, z⟩; omega
  · intro z
    refine ⟨max (S.2 0 i) (S.2 0 j) * S.1 1 + max (S.2 1 i) (S.2 1 j), cell_lt (by omega) (by omega), ?_⟩
    obtain ⟨d1, d2⟩ := dm_1 (r := max (S.2 0 i) (S.2 0 j)) (k := max (S.2 1 i) (S.2 1 j)) (m := S.1 1) (by omega)
    rw [d1, d2]; omega
theorem m_crossing (g : atG h m S) (w : atW h r S) (hw : wfF S) {i : Nat} (hi : i < S.1 2) : f_X10_crossing h m r (nI i) = some (bitsB (crs S i) (S.1 2)) := by
  have hF := FU_big
  have hb := ncl_le hw
  have b5 := hw.2.2.2.2.1
  refine fo_lp (f_X10_crossing_5 h m r (nI i)) (S.1 2) (stB (crs S i)) some (fun n acc j hj => ?_) (fun n acc => ?_) (S.1 2) FU (nI 0) 0 (by omega) (by omega)
  · simp (disch := omega) only [f_X10_crossing_5, f_X10_crossing_41, f_X10_crossing_42, f_X10_crossing_76, f_X10_crossing_77, w.t, gdT, j48, inb_nI, ix_nI, w.n, m_isOn w hw, m_areaOf g w hw hj, m_areaOf g w hw hi, lt_u, bd_s, nB_0, i1, nI_add, nI_le0, nI_eq0, and_0]
    rw [if_neg (by omega)]
    simp only [stB, crs]
    by_cases e : j = i
    · subst e; simp
    · have o1 : onb S j = decide (0 < S.2 4 j) := by simp [onb, hj]
      have o2 : onb S i = decide (0 < S.2 4 i) := by simp [onb, hi]
      rw [o1, o2]
      by_cases p1 : 0 < S.2 4 j
      · by_cases p2 : 0 < S.2 4 i
        · have := crb_cell hw hi hj p2 p1
          have n1 : ¬ (nI 1 = 0) := by decide
          simp only [this]
          by_cases q : crb S i j = true <;> simp [q, e, p1, p2, n1]
        · have : crb S i j = false := by simp [crb, p2]
          simp [e, p1, p2, this]
      · have : crb S i j = false := by simp [crb, p1]
        simp [e, p1, this]
  · simp (disch := omega) only [f_X10_crossing_5, w.t, gdT, j48, inb_nI, ix_nI, w.n, lt_u, nI_le0]
    simp
theorem m_strongest (w : atW h r S) (hw : wfF S) {kc : Nat} : f_X10_strongest h r (bitsB (ocv S kc) (S.1 2)) = some (oI (stg S kc)) := by
  have hF := FU_big
  have b5 := hw.2.2.2.2.1
  have b8 := hw.2.2.2.2.2.2.2.1
  rw [f_X10_strongest, i0]
  have := fo_lpI (fun n (b : Option Nat) i => f_X10_strongest_4 h r (bitsB (ocv S kc) (S.1 2)) n (oI b) i) 8 (fun b i => if i < S.1 2 then stgS S kc b i else b) (fun b => some (oI b)) (fun b i => ∀ j, b = some j → j < i ∧ j < S.1 2) (fun b i hi hb => ?_) (fun n b i hi hb => ?_) (fun n b hb => ?_) 8 FU none 0 (fun j hj => by cases hj) (by omega) (by omega)
  · have e : ∀ d b i, i + d = 8 → i ≤ S.1 2 → fo (fun b i => if i < S.1 2 then stgS S kc b i else b) b i d = fo (stgS S kc) b i (S.1 2 - i) := by
      intro d
      induction d with
      | zero => intro b i z1 z2; rw [show S.1 2 - i = 0 by omega]; rfl
      | succ d ih =>
        intro b i z1 z2
        rw [fo]
        by_cases q : i < S.1 2
        · rw [if_pos q, ih _ _ (by omega) (by omega)]
          obtain ⟨t, ht⟩ : ∃ t, S.1 2 - i = t + 1 := ⟨S.1 2 - i - 1, by omega⟩
          rw [ht, show S.1 2 - (i + 1) = t by omega]; rfl
        · rw [if_neg q]
          have : S.1 2 - i = 0 := by omega
          rw [this]
          have stay : ∀ d b j, S.1 2 ≤ j → fo (fun b i => if i < S.1 2 then stgS S kc b i else b) b j d = b := by
            intro d
            induction d with
            | zero => intro b j _; rfl
            | succ d ih2 => intro b j hj; rw [fo, if_neg (by omega), ih2 _ _ (by omega)]
          exact stay d b (i + 1) (by omega)
    have e2 := e 8 none 0 (by omega) (by omega)
    rw [Nat.sub_zero] at e2
    rw [e2] at this
    exact this.1
  · intro j hj
    by_cases q : i < S.1 2
    · rw [if_pos q] at hj
      unfold stgS at hj
      split at hj
      · cases b with
        | none => cases hj; omega
        | some k =>
          have := hb k rfl
          simp only at hj
          split at hj <;> (cases hj; omega)
      · have := hb j hj; omega
    · rw [if_neg q] at hj
      have := hb j hj; omega
  · show f_X10_strongest_4 h r (bitsB (ocv S kc) (S.1 2)) (n + 1) (oI b) (nI i) = f_X10_strongest_4 h r (bitsB (ocv S kc) (S.1 2)) n (oI (if i < S.1 2 then stgS S kc b i else b)) (nI (i + 1))
    simp (disch := omega) only [f_X10_strongest_4, f_X10_strongest_38, f_X10_strongest_42, f_X10_strongest_43, lt_u, i8, nI_le0, p_hasB, bd_s, nB_0, i1, nI_add]
    rw [if_neg (by omega)]
    by_cases hi2 : i < S.1 2
    · rw [if_pos hi2]
      cases ho : ocv S kc i with
      | false => simp [stgS, ho]
      | true =>
        simp only [hi2, decide_true, Bool.and_self, Bool.true_eq_false, if_false, stgS, ho, if_true]
        cases b with
        | none => simp [oI, show (-1 : Int32) < 0 by decide]
        | some j =>
          have hj := hb j rfl
          have g1 := b8 4 i; have g2 := b8 4 j
          have en : ¬ (nI j < 0) := by rw [i0, nI_ltI (by omega) (by omega)]; omega
          simp (disch := omega) only [oI, en, if_false, w.t, gdT, inb_nI, ix_nI, j24, w.v4 hi2, w.v4 hj.2, nI_le0]
          by_cases q : S.2 4 i ≤ S.2 4 j
          · simp [q]
          · simp [q]
    · simp [hi2]
  · show f_X10_strongest_4 h r (bitsB (ocv S kc) (S.1 2)) (n + 1) (oI b) (nI 8) = _
    simp only [f_X10_strongest_4, lt_u, i8]
    rw [if_pos (Int32.le_refl _)]
end MODEL2
