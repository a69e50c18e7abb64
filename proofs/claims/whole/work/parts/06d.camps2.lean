/-- the first of d numbers from i on for which p -/
def ff (p : Nat → Bool) (i : Nat) : Nat → Option Nat
  | 0 => none
  | d + 1 => if p i = true then some i else ff p (i + 1) d
def oI (o : Option Nat) : Int32 := match o with
  | none => -1
  | some j => nI j
theorem fo_ff {β : Type} (L : Nat → Int32 → Option β) (N : Nat) (p : Nat → Bool) (fnd : Nat → Option β) (fin : Option β) (hL : ∀ n i, i < N → L (n + 1) (nI i) = if p i = true then fnd i else L n (nI (i + 1))) (hE : ∀ n, L (n + 1) (nI N) = fin) : ∀ d n i, i + d = N → d < n → L n (nI i) = match ff p i d with | some j => fnd j | none => fin := by
  intro d
  induction d with
  | zero =>
    intro n i h1 h2
    obtain ⟨k, rfl⟩ : ∃ k, n = k + 1 := ⟨n - 1, by omega⟩
    have e : i = N := by omega
    subst e
    exact hE k
  | succ d ih =>
    intro n i h1 h2
    obtain ⟨k, rfl⟩ : ∃ k, n = k + 1 := ⟨n - 1, by omega⟩
    rw [hL k i (by omega), ff]
    by_cases hp : p i = true
    · rw [if_pos hp, if_pos hp]
    · rw [if_neg hp, if_neg hp]
      exact ih k (i + 1) (by omega) (by omega)
theorem ff_congr {p q : Nat → Bool} : ∀ d i, (∀ j, i ≤ j → j < i + d → p j = q j) → ff p i d = ff q i d := by
  intro d
  induction d with
  | zero => intro i _; rfl
  | succ d ih =>
    intro i h
    rw [ff, ff, h i (by omega) (by omega), ih (i + 1) (fun j h1 h2 => h j (by omega) (by omega))]
theorem fo_lpI {α β : Type} (L : Nat → α → Int32 → Option β) (N : Nat) (step : α → Nat → α) (fin : α → Option β) (Inv : α → Nat → Prop) (hI : ∀ acc i, i < N → Inv acc i → Inv (step acc i) (i + 1)) (hL : ∀ n acc i, i < N → Inv acc i → L (n + 1) acc (nI i) = L n (step acc i) (nI (i + 1))) (hE : ∀ n acc, Inv acc N → L (n + 1) acc (nI N) = fin acc) : ∀ d n acc i, Inv acc i → i + d = N → d < n → L n acc (nI i) = fin (fo step acc i d) ∧ Inv (fo step acc i d) N := by
  intro d
  induction d with
  | zero =>
    intro n acc i h0 h1 h2
    obtain ⟨k, rfl⟩ : ∃ k, n = k + 1 := ⟨n - 1, by omega⟩
    have e : i = N := by omega
    subst e
    exact ⟨hE k acc h0, h0⟩
  | succ d ih =>
    intro n acc i h0 h1 h2
    obtain ⟨k, rfl⟩ : ∃ k, n = k + 1 := ⟨n - 1, by omega⟩
    rw [hL k acc i (by omega) h0]
    exact ih k (step acc i) (i + 1) (hI acc i (by omega) h0) (by omega) (by omega)
/-- camp i is on and lies over a cell -/
def ocv (S : Fld) (cell i : Nat) : Bool := onb S i && ovr S i (cell / S.1 1) && ovc S i (cell % S.1 1)
theorem cmn_1 {x m y : Nat} : 0 < cmn x m y 1 ↔ x ≤ y ∧ y < x + m := by unfold cmn; omega
theorem und_1 {S : Fld} {cell i : Nat} (hi : i < S.1 2) : und S cell 1 1 i = ocv S cell i := by
  have e : (0 < cmc S i cell 1 1) ↔ ((S.2 0 i ≤ cell / S.1 1 ∧ cell / S.1 1 < S.2 0 i + S.2 2 i) ∧ S.2 1 i ≤ cell % S.1 1 ∧ cell % S.1 1 < S.2 1 i + S.2 3 i) := by
    rw [cmc, ← cmn_1, ← cmn_1]
    refine ⟨fun q => ⟨?_, ?_⟩, fun q => Nat.mul_pos q.1 q.2⟩
    · rcases Nat.eq_zero_or_pos (cmn (S.2 0 i) (S.2 2 i) (cell / S.1 1) 1) with z | z
      · rw [z, Nat.zero_mul] at q; exact absurd q (by decide)
      · exact z
    · rcases Nat.eq_zero_or_pos (cmn (S.2 1 i) (S.2 3 i) (cell % S.1 1) 1) with z | z
      · rw [z, Nat.mul_zero] at q; exact absurd q (by decide)
      · exact z
  simp [und, ocv, onb, ovr, ovc, hi, e]
  grind
section CAMPS2
variable {h : Hp} {a : Nat} {S : Fld}
theorem p_onOver (c : atC h a S) (hw : wfF S) {cell : Nat} (hc : cell < 100) : f_X0_onOver h a (nI cell) = some (bitsB (ocv S cell) (S.1 2)) := by
  rw [f_X0_onOver, i1, p_onUnder c hw hc (by omega) (by omega), bd_s, bitsB_congr (fun i hi => und_1 hi)]
/-- camp i, on or not, lies over a cell -/
def cov (S : Fld) (cell i : Nat) : Bool := ovr S i (cell / S.1 1) && ovc S i (cell % S.1 1)
theorem cmc_1 {S : Fld} {cell i : Nat} (hi : i < S.1 2) : cmc S i cell 1 1 = if cov S cell i = true then 1 else 0 := by
  have e : ∀ x m y, cmn x m y 1 = if x ≤ y ∧ y < x + m then 1 else 0 := by
    intro x m y; unfold cmn; split <;> omega
  rw [cmc, e, e]
  simp only [cov, ovr, ovc, hi, decide_true, Bool.true_and]
  grind
theorem p_strengthOver (c : atC h a S) (hw : wfF S) {cell : Nat} (hc : cell < 100) : f_X0_strengthOver h a (nI cell) = some (sumB (fun i => if cov S cell i = true then S.2 4 i else 0) (S.1 2)) := by
  rw [f_X0_strengthOver, i1, p_strengthUnder c hw hc (by omega) (by omega), bd_s]
  congr 1
  exact sumB_congr (fun i hi => by rw [cmc_1 hi]; split <;> simp)
/-- there is room -/
def rmb (S : Fld) (hg wd cell : Nat) : Bool := hld S cell hg wd && decide (∀ i, i < S.1 2 → und S cell hg wd i = false)
theorem p_isRoom (c : atC h a S) (hw : wfF S) {cell hg wd : Nat} (hc : cell < 100) (hh : hg < 100) (hd : wd < 100) : f_X0_isRoom h a (nI cell) (nI hg) (nI wd) = some (nB (rmb S hg wd cell)) := by
  have b5 := hw.2.2.2.2.1
  rw [f_X0_isRoom, p_holds c hw hc hh hd, bd_s, p_onUnder c hw hc hh hd, bd_s]
  simp only [nB_0, i0, i1, bitsB_0 (show S.1 2 ≤ 31 by omega)]
  grind [rmb, nB]
theorem p_firstRoom (c : atC h a S) (hw : wfF S) {hg wd : Nat} (hh : hg < 100) (hd : wd < 100) : f_X0_firstRoom h a (nI hg) (nI wd) = some (oI (ff (rmb S hg wd) 0 (ncl S))) := by
  have hF := FU_big
  have hb := ncl_le hw
  rw [f_X0_firstRoom, i0, fo_ff (f_X0_firstRoom_2 h a (nI hg) (nI wd)) (ncl S) (rmb S hg wd) (fun j => some (nI j)) (some (-1)) (fun n i hi => ?_) (fun n => ?_) (ncl S) FU 0 (by omega) (by omega)]
  · cases ff (rmb S hg wd) 0 (ncl S) <;> rfl
  · have e := p_isRoom c hw (cell := i) (by omega) hh hd
    simp (disch := omega) only [f_X0_firstRoom_2, p_cells c, e, bd_s, lt_u, nB_0, nB_00, nz_t, gdT, inb_nI, ix_nI, nI_le0, nI_lt0, nI_eq0, nI_add, pk_mul, i0, i1, i2, i3]
    grind
  · simp (disch := omega) only [f_X0_firstRoom_2, p_cells c, bd_s, lt_u, nB_0, nB_00, nz_t, gdT, inb_nI, ix_nI, nI_le0, nI_lt0, nI_eq0, nI_add, pk_mul, i0, i1, i2, i3]
    simp
theorem p_sleptCells (c : atC h a S) (hw : wfF S) : f_X0_sleptCells h a = some (bitsL (fun cell => decide (∃ i, i < S.1 2 ∧ ocv S cell i = true)) (ncl S)) := by
  have hF := FU_big
  have hb := ncl_le hw
  have b5 := hw.2.2.2.2.1
  refine fo_lp (f_X0_sleptCells_4 h a) (ncl S) (stL (fun cell => decide (∃ i, i < S.1 2 ∧ ocv S cell i = true))) some (fun n acc i hi => ?_) (fun n acc => ?_) (ncl S) FU 0 0 (by omega) (by omega)
  · have e := p_onOver c hw (cell := i) (by omega)
    simp (disch := omega) only [f_X0_sleptCells_4, f_X0_sleptCells_26, p_cells c, e, bd_s, lt_u, nB_0, nB_00, nz_t, gdT, inb_nI, ix_nI, nI_le0, nI_lt0, nI_eq0, nI_add, pk_mul, i0, i1, i2, i3, bitsB_0 (show S.1 2 ≤ 31 by omega)]
    simp only [stL]
    grind
  · simp (disch := omega) only [f_X0_sleptCells_4, p_cells c, bd_s, lt_u, nB_0, nB_00, nz_t, gdT, inb_nI, ix_nI, nI_le0, nI_lt0, nI_eq0, nI_add, pk_mul, i0, i1, i2, i3]
    simp
theorem p_cellsOf (c : atC h a S) (hw : wfF S) {i : Nat} (hi : i < 8) : f_X0_cellsOf h a (nI i) = some (bitsL (fun cell => cov S cell i) (ncl S)) := by
  have hF := FU_big
  have hb := ncl_le hw
  refine fo_lp (f_X0_cellsOf_5 h a (nI i)) (ncl S) (stL (fun cell => cov S cell i)) some (fun n acc j hj => ?_) (fun n acc => ?_) (ncl S) FU 0 0 (by omega) (by omega)
  · have g1 : j / S.1 1 ≤ j := Nat.div_le_self _ _
    have g2 : j % S.1 1 ≤ j := Nat.mod_le _ _
    have e1 := p_rowOf c hw (i := j) (by omega)
    have e2 := p_columnOf c hw (i := j) (by omega)
    have e3 := p_isOverRow c hw (i := i) (r := j / S.1 1) (by omega) (by omega)
    have e4 := p_isOverColumn c hw (i := i) (r := j % S.1 1) (by omega) (by omega)
    simp (disch := omega) only [f_X0_cellsOf_5, f_X0_cellsOf_49, p_cells c, e1, e2, e3, e4, bd_s, lt_u, nB_0, nB_00, nz_t, gdT, inb_nI, ix_nI, nI_le0, nI_lt0, nI_eq0, nI_add, pk_mul, i0, i1, i2, i3]
    simp only [stL, cov]
    grind
  · simp (disch := omega) only [f_X0_cellsOf_5, p_cells c, bd_s, lt_u, nB_0, nB_00, nz_t, gdT, inb_nI, ix_nI, nI_le0, nI_lt0, nI_eq0, nI_add, pk_mul, i0, i1, i2, i3]
    simp
/-- camp i is hidden at a row -/
def hid (S : Fld) (i r : Nat) : Bool := decide (∃ j, j < S.1 2 ∧ ovr S j r = true ∧ S.2 1 j < S.2 1 i ∧ S.2 4 i < S.2 4 j)
theorem ff_none {p : Nat → Bool} : ∀ d i, ff p i d = none ↔ ∀ j, i ≤ j → j < i + d → p j = false := by
  intro d
  induction d with
  | zero => intro i; simp [ff]; intro j h1 h2; omega
  | succ d ih =>
    intro i
    rw [ff]
    by_cases hp : p i = true
    · rw [if_pos hp]
      simp
      exact ⟨i, by omega, by omega, hp⟩
    · rw [if_neg hp, ih (i + 1)]
      constructor
      · intro h j h1 h2
        by_cases e : j = i
        · subst e; simpa using hp
        · exact h j (by omega) (by omega)
      · intro h j h1 h2
        exact h j (by omega) (by omega)
theorem p_isHidden (c : atC h a S) (hw : wfF S) {i r : Nat} (hi : i < S.1 2) (hr : r < 1000) : f_X0_isHidden h a (nI i) (nI r) = some (nB (hid S i r)) := by
  have hF := FU_big
  have hw2 := hw
  obtain ⟨b1, b2, b3, b4, b5, -, -, b8, -⟩ := hw
  rw [f_X0_isHidden, i0, fo_ff (f_X0_isHidden_2 h a (nI i) (nI r)) (S.1 2) (fun j => ovr S j r && decide (S.2 1 j < S.2 1 i) && decide (S.2 4 i < S.2 4 j)) (fun _ => some (nI 1)) (some (nI 0)) (fun n j hj => ?_) (fun n => ?_) (S.1 2) FU 0 (by omega) (by omega)]
  · cases hff : ff (fun j => ovr S j r && decide (S.2 1 j < S.2 1 i) && decide (S.2 4 i < S.2 4 j)) 0 (S.1 2) with
    | none =>
      have := (ff_none _ _).mp hff
      have e : hid S i r = false := by
        apply decide_eq_false
        rintro ⟨j, h1, h2, h3, h4⟩
        have := this j (by omega) (by omega)
        simp [h2, h3, h4] at this
      rw [e]; rfl
    | some j =>
      have hn : ¬ ff (fun j => ovr S j r && decide (S.2 1 j < S.2 1 i) && decide (S.2 4 i < S.2 4 j)) 0 (S.1 2) = none := by rw [hff]; simp
      rw [ff_none] at hn
      have e : hid S i r = true := by
        apply decide_eq_true
        apply Classical.byContradiction
        intro q
        apply hn
        intro k _ hk
        by_cases z : (ovr S k r && decide (S.2 1 k < S.2 1 i) && decide (S.2 4 i < S.2 4 k)) = true
        · simp at z
          exact absurd ⟨k, by omega, z.1.1, z.1.2, z.2⟩ q
        · simpa using z
      rw [e]; rfl
  · have g1 := b8 1 i; have g2 := b8 1 j; have g3 := b8 4 i; have g4 := b8 4 j
    have e := p_isOverRow c hw2 (i := j) (r := r) (by omega) (by omega)
    simp (disch := omega) only [f_X0_isHidden_2, f_X0_isHidden_51, e, bd_s, lt_u, nB_0, nB_00, nz_t, gdT, inb_nI, ix_nI, nI_le0, nI_lt0, nI_eq0, nI_add, pk_mul, i0, i1, i2, i3, c.q0, c.q1, c.q2, c.q3, c.q4, c.r5, c.r6, c.r7, c.r8, c.r9, c.r10, c.r11, c.t1, c.t2, c.t3, c.t4, c.t5, c.t6, c.t7, c.v0, c.v1, c.v2, c.v3, c.v4, c.v5, c.v6]
    grind
  · simp (disch := omega) only [f_X0_isHidden_2, bd_s, lt_u, nB_0, nB_00, nz_t, gdT, inb_nI, ix_nI, nI_le0, nI_lt0, nI_eq0, nI_add, pk_mul, i0, i1, i2, i3, c.q0, c.q1, c.q2, c.q3, c.q4, c.r5, c.r6, c.r7, c.r8, c.r9, c.r10, c.r11, c.t1, c.t2, c.t3, c.t4, c.t5, c.t6, c.t7, c.v0, c.v1, c.v2, c.v3, c.v4, c.v5, c.v6]
    simp
def snb (S : Fld) (r i : Nat) : Bool := onb S i && ovr S i r && !(hid S i r)
theorem p_seenFrom (c : atC h a S) (hw : wfF S) {r : Nat} (hr : r < 1000) : f_X0_seenFrom h a (nI r) = some (bitsB (snb S r) (S.1 2)) := by
  have hF := FU_big
  have hw2 := hw
  obtain ⟨b1, b2, b3, b4, b5, -, -, b8, -⟩ := hw
  refine fo_lp (f_X0_seenFrom_4 h a (nI r)) (S.1 2) (stB (snb S r)) some (fun n acc j hj => ?_) (fun n acc => ?_) (S.1 2) FU (nI 0) 0 (by omega) (by omega)
  · have e1 := p_isOn c hw2 (i := j) (by omega)
    have e2 := p_isOverRow c hw2 (i := j) (r := r) (by omega) (by omega)
    have e3 := p_isHidden c hw2 (i := j) (r := r) hj hr
    simp (disch := omega) only [f_X0_seenFrom_4, f_X0_seenFrom_44, e1, e2, e3, bd_s, lt_u, nB_0, nB_00, nz_t, gdT, inb_nI, ix_nI, nI_le0, nI_lt0, nI_eq0, nI_add, pk_mul, i0, i1, i2, i3, c.q0, c.q1, c.q2, c.q3, c.q4, c.r5, c.r6, c.r7, c.r8, c.r9, c.r10, c.r11, c.t1, c.t2, c.t3, c.t4, c.t5, c.t6, c.t7, c.v0, c.v1, c.v2, c.v3, c.v4, c.v5, c.v6]
    simp only [stB, snb]
    grind
  · simp (disch := omega) only [f_X0_seenFrom_4, bd_s, lt_u, nB_0, nB_00, nz_t, gdT, inb_nI, ix_nI, nI_le0, nI_lt0, nI_eq0, nI_add, pk_mul, i0, i1, i2, i3, c.q0, c.q1, c.q2, c.q3, c.q4, c.r5, c.r6, c.r7, c.r8, c.r9, c.r10, c.r11, c.t1, c.t2, c.t3, c.t4, c.t5, c.t6, c.t7, c.v0, c.v1, c.v2, c.v3, c.v4, c.v5, c.v6]
    simp
end CAMPS2
