def nB (b : Bool) : Int32 := if b = true then nI 1 else nI 0
theorem nB_0 (b : Bool) : (nB b = 0) = (b = false) := by cases b <;> decide
theorem nB_00 (b : Bool) : (nB b = nI 0) = (b = false) := by cases b <;> decide
theorem nB_t : nB true = 1 := rfl
theorem nB_f : nB false = 0 := rfl
theorem i0 : (0 : Int32) = nI 0 := by decide
theorem i1 : (1 : Int32) = nI 1 := by decide
theorem i2 : (2 : Int32) = nI 2 := by decide
theorem i3 : (3 : Int32) = nI 3 := by decide
theorem gdT {α : Type} {x : Option α} : gd true x = x := rfl
theorem m1_lt : (-1 : Int32) < 0 := by decide
/-- acc, and one step for each of d numbers from i on -/
def fo {α : Type} (step : α → Nat → α) (acc : α) (i : Nat) : Nat → α
  | 0 => acc
  | d + 1 => fo step (step acc i) (i + 1) d
theorem fo_lp {α β : Type} (L : Nat → α → Int32 → Option β) (N : Nat) (step : α → Nat → α) (fin : α → Option β) (hL : ∀ n acc i, i < N → L (n + 1) acc (nI i) = L n (step acc i) (nI (i + 1))) (hE : ∀ n acc, L (n + 1) acc (nI N) = fin acc) : ∀ d n acc i, i + d = N → d < n → L n acc (nI i) = fin (fo step acc i d) := by
  intro d
  induction d with
  | zero =>
    intro n acc i h1 h2
    obtain ⟨k, rfl⟩ : ∃ k, n = k + 1 := ⟨n - 1, by omega⟩
    have e : i = N := by omega
    subst e
    exact hE k acc
  | succ d ih =>
    intro n acc i h1 h2
    obtain ⟨k, rfl⟩ : ∃ k, n = k + 1 := ⟨n - 1, by omega⟩
    rw [hL k acc i (by omega)]
    exact ih k (step acc i) (i + 1) (by omega) (by omega)
/-- the same for a loop that may end early -/
theorem fo_find {β : Type} (L : Nat → Int32 → Option β) (N : Nat) (p : Nat → Bool) (fnd : Nat → Option β) (fin : Option β) (hL : ∀ n i, i < N → L (n + 1) (nI i) = if p i = true then fnd i else L n (nI (i + 1))) (hE : ∀ n, L (n + 1) (nI N) = fin) : ∀ d n i, i + d = N → d < n → (∀ j, j < i → p j = false) → (∃ j, j < N ∧ p j = true ∧ (∀ k, k < j → p k = false) ∧ L n (nI i) = fnd j) ∨ ((∀ j, j < N → p j = false) ∧ L n (nI i) = fin) := by
  intro d
  induction d with
  | zero =>
    intro n i h1 h2 h3
    obtain ⟨k, rfl⟩ : ∃ k, n = k + 1 := ⟨n - 1, by omega⟩
    have e : i = N := by omega
    subst e
    exact Or.inr ⟨h3, hE k⟩
  | succ d ih =>
    intro n i h1 h2 h3
    obtain ⟨k, rfl⟩ : ∃ k, n = k + 1 := ⟨n - 1, by omega⟩
    rw [hL k i (by omega)]
    by_cases hp : p i = true
    · exact Or.inl ⟨i, by omega, hp, h3, by rw [if_pos hp]⟩
    · rw [if_neg hp]
      exact ih k (i + 1) (by omega) (by omega) (fun j hj => by
        by_cases e : j = i
        · subst e; simpa using hp
        · exact h3 j (by omega))
theorem FU_big : 100000000 < FU := by decide
def ncl (S : Fld) : Nat := S.1 0 * S.1 1
theorem ncl_le {S : Fld} (hw : wfF S) : ncl S ≤ 36 ∧ 9 ≤ ncl S := by
  obtain ⟨b1, b2, b3, b4, -⟩ := hw
  exact ⟨Nat.mul_le_mul b2 b4, Nat.mul_le_mul b1 b3⟩
def onb (S : Fld) (i : Nat) : Bool := decide (i < S.1 2) && decide (0 < S.2 4 i)
def ovr (S : Fld) (i r : Nat) : Bool := decide (i < S.1 2) && decide (S.2 0 i ≤ r) && decide (r < S.2 0 i + S.2 2 i)
def ovc (S : Fld) (i c : Nat) : Bool := decide (i < S.1 2) && decide (S.2 1 i ≤ c) && decide (c < S.2 1 i + S.2 3 i)
def crb (S : Fld) (i j : Nat) : Bool := decide (0 < S.2 4 i) && decide (0 < S.2 4 j) && decide (S.2 0 i < S.2 0 j + S.2 2 j) && decide (S.2 0 j < S.2 0 i + S.2 2 i) && decide (S.2 1 i < S.2 1 j + S.2 3 j) && decide (S.2 1 j < S.2 1 i + S.2 3 i)
section CAMPS
variable {h : Hp} {a : Nat} {S : Fld}
theorem p_cells (c : atC h a S) : f_X0_cells h a = some (nI (ncl S)) := by
  rw [f_X0_cells, c.q0, c.q1, pk_mul]; rfl
theorem p_has (c : atC h a S) (hw : wfF S) {i : Nat} (hi : i < 1000) : f_X0_has h a (nI i) = some (nB (decide (i < S.1 2))) := by
  obtain ⟨b1, b2, b3, b4, b5, -⟩ := hw
  simp (disch := omega) only [f_X0_has, c.q2, i0, nI_lt0, nI_le0]
  by_cases h1 : i < S.1 2
  · rw [if_neg (by omega), if_neg (by omega)]; simp [h1, nB, i1]
  · rw [if_neg (by omega), if_pos (by omega)]; simp [h1, nB, i0]
theorem p_isOn (c : atC h a S) (hw : wfF S) {i : Nat} (hi : i < 1000) : f_X0_isOn h a (nI i) = some (nB (onb S i)) := by
  rw [f_X0_isOn, p_has c hw hi]
  obtain ⟨b1, b2, b3, b4, b5, -, -, b8, -⟩ := hw
  have h8 := b8 4 i
  by_cases h1 : i < S.1 2
  · simp (disch := omega) only [bd_s, lt_u, nB_0, nB_00, nz_t, gdT, inb_nI, ix_nI, nI_le0, nI_lt0, nI_eq0, nI_add, pk_mul, i0, i1, i2, i3, c.q0, c.q1, c.q2, c.q3, c.q4, c.r5, c.r6, c.r7, c.r8, c.r9, c.r10, c.r11, c.t1, c.t2, c.t3, c.t4, c.t5, c.t6, c.t7, c.v0, c.v1, c.v2, c.v3, c.v4, c.v5, c.v6, h1, decide_true, Bool.true_eq_false, if_false]
    by_cases h2 : 0 < S.2 4 i
    · rw [if_neg (by omega)]; simp [onb, h1, h2, nB, i1]
    · rw [if_pos (by omega)]; simp [onb, h1, h2, nB, i0]
  · simp [h1, onb, nB_f, nB_0, bd_s]
theorem p_hasCell (c : atC h a S) (hw : wfF S) {i : Nat} (hi : i < 100000) : f_X0_hasCell h a (nI i) = some (nB (decide (i < ncl S))) := by
  have hb := ncl_le hw
  rw [f_X0_hasCell, p_cells c]
  simp (disch := omega) only [bd_s, lt_u, nB_0, nB_00, nz_t, gdT, inb_nI, ix_nI, nI_le0, nI_lt0, nI_eq0, nI_add, pk_mul, i0, i1, i2, i3]
  by_cases h1 : i < ncl S
  · rw [if_neg (by omega), if_neg (by omega)]; simp [h1, nB, i1]
  · rw [if_neg (by omega), if_pos (by omega)]; simp [h1, nB, i0]
theorem p_rowOf (c : atC h a S) (hw : wfF S) {i : Nat} (hi : i < 100000) : f_X0_rowOf h a (nI i) = some (nI (i / S.1 1)) := by
  obtain ⟨b1, b2, b3, b4, b5, -⟩ := hw
  have e : nz32 (nI (S.1 1)) = true := decide_eq_true (nI_ne0 (by omega) (by omega))
  simp (disch := omega) only [f_X0_rowOf, bd_s, lt_u, nB_0, nB_00, nz_t, gdT, inb_nI, ix_nI, nI_le0, nI_lt0, nI_eq0, nI_add, pk_mul, i0, i1, i2, i3, c.q1, e, pk_div]
  rw [if_neg (by omega)]
theorem p_columnOf (c : atC h a S) (hw : wfF S) {i : Nat} (hi : i < 100000) : f_X0_columnOf h a (nI i) = some (nI (i % S.1 1)) := by
  obtain ⟨b1, b2, b3, b4, b5, -⟩ := hw
  have e : nz32 (nI (S.1 1)) = true := decide_eq_true (nI_ne0 (by omega) (by omega))
  simp (disch := omega) only [f_X0_columnOf, bd_s, lt_u, nB_0, nB_00, nz_t, gdT, inb_nI, ix_nI, nI_le0, nI_lt0, nI_eq0, nI_add, pk_mul, i0, i1, i2, i3, c.q1, e, rm32, pk_rem]
  rw [if_neg (by omega)]
theorem p_cellAt (c : atC h a S) (hw : wfF S) {r k : Nat} (hr : r < 1000) (hk : k < 1000) : f_X0_cellAt h a (nI r) (nI k) = some (if r < S.1 0 ∧ k < S.1 1 then nI (r * S.1 1 + k) else -1) := by
  obtain ⟨b1, b2, b3, b4, b5, -⟩ := hw
  simp (disch := omega) only [f_X0_cellAt, f_X0_cellAt_28, f_X0_cellAt_29, bd_s, lt_u, nB_0, nB_00, nz_t, gdT, inb_nI, ix_nI, nI_le0, nI_lt0, nI_eq0, nI_add, pk_mul, i0, i1, i2, i3, c.q0, c.q1]
  by_cases h1 : r < S.1 0 <;> by_cases h2 : k < S.1 1 <;> simp [h1, h2, Nat.not_le.mpr, Nat.not_lt.mp] <;> (try omega)
theorem p_cellAt_n1 (c : atC h a S) {x y : Int32} (hx : x < 0) : f_X0_cellAt h a x y = some (-1) := by
  simp [f_X0_cellAt, f_X0_cellAt_28, f_X0_cellAt_29, hx]
theorem p_cellAt_n2 (c : atC h a S) {x y : Int32} (hy : y < 0) : f_X0_cellAt h a x y = some (-1) := by
  simp only [f_X0_cellAt, f_X0_cellAt_28, f_X0_cellAt_29, if_pos hy, if_true, ite_self]
theorem p_isOverRow (c : atC h a S) (hw : wfF S) {i r : Nat} (hi : i < 1000) (hr : r < 1000) : f_X0_isOverRow h a (nI i) (nI r) = some (nB (ovr S i r)) := by
  rw [f_X0_isOverRow, p_has c hw hi]
  obtain ⟨b1, b2, b3, b4, b5, -, -, b8, -⟩ := hw
  have h0 := b8 0 i; have h2 := b8 2 i
  by_cases h1 : i < S.1 2
  · simp (disch := omega) only [bd_s, lt_u, nB_0, nB_00, nz_t, gdT, inb_nI, ix_nI, nI_le0, nI_lt0, nI_eq0, nI_add, pk_mul, i0, i1, i2, i3, c.q0, c.q1, c.q2, c.q3, c.q4, c.r5, c.r6, c.r7, c.r8, c.r9, c.r10, c.r11, c.t1, c.t2, c.t3, c.t4, c.t5, c.t6, c.t7, c.v0, c.v1, c.v2, c.v3, c.v4, c.v5, c.v6, h1, decide_true, Bool.true_eq_false, if_false]
    grind [ovr, nB]
  · simp [h1, ovr, nB_f, nB_0, bd_s]
theorem p_isOverColumn (c : atC h a S) (hw : wfF S) {i r : Nat} (hi : i < 1000) (hr : r < 1000) : f_X0_isOverColumn h a (nI i) (nI r) = some (nB (ovc S i r)) := by
  rw [f_X0_isOverColumn, p_has c hw hi]
  obtain ⟨b1, b2, b3, b4, b5, -, -, b8, -⟩ := hw
  have h0 := b8 1 i; have h2 := b8 3 i
  by_cases h1 : i < S.1 2
  · simp (disch := omega) only [bd_s, lt_u, nB_0, nB_00, nz_t, gdT, inb_nI, ix_nI, nI_le0, nI_lt0, nI_eq0, nI_add, pk_mul, i0, i1, i2, i3, c.q0, c.q1, c.q2, c.q3, c.q4, c.r5, c.r6, c.r7, c.r8, c.r9, c.r10, c.r11, c.t1, c.t2, c.t3, c.t4, c.t5, c.t6, c.t7, c.v0, c.v1, c.v2, c.v3, c.v4, c.v5, c.v6, h1, decide_true, Bool.true_eq_false, if_false]
    grind [ovc, nB]
  · simp [h1, ovc, nB_f, nB_0, bd_s]
theorem p_cross (c : atC h a S) (hw : wfF S) {i j : Nat} (hi : i < 8) (hj : j < 8) : f_X0_cross h a (nI i) (nI j) = some (nB (crb S i j)) := by
  obtain ⟨b1, b2, b3, b4, b5, -, -, b8, -⟩ := hw
  have h0 := b8 0 i; have h1 := b8 1 i; have h2 := b8 2 i; have h3 := b8 3 i; have h4 := b8 4 i
  have k0 := b8 0 j; have k1 := b8 1 j; have k2 := b8 2 j; have k3 := b8 3 j; have k4 := b8 4 j
  simp (disch := omega) only [f_X0_cross, bd_s, lt_u, nB_0, nB_00, nz_t, gdT, inb_nI, ix_nI, nI_le0, nI_lt0, nI_eq0, nI_add, pk_mul, i0, i1, i2, i3, c.q0, c.q1, c.q2, c.q3, c.q4, c.r5, c.r6, c.r7, c.r8, c.r9, c.r10, c.r11, c.t1, c.t2, c.t3, c.t4, c.t5, c.t6, c.t7, c.v0, c.v1, c.v2, c.v3, c.v4, c.v5, c.v6]
  grind [crb, nB]
/-- one bit more, where p -/
def stB (p : Nat → Bool) (acc : Int32) (i : Nat) : Int32 := if p i = true then acc ||| shl32 (nI 1) (nI i) else acc
def bitsB (p : Nat → Bool) (n : Nat) : Int32 := fo (stB p) (nI 0) 0 n
def stL (p : Nat → Bool) (acc : Int64) (i : Nat) : Int64 := if p i = true then acc ||| shl64 1 (nI i) else acc
def bitsL (p : Nat → Bool) (n : Nat) : Int64 := fo (stL p) 0 0 n
def stS (f : Nat → Nat) (acc : Int32) (i : Nat) : Int32 := acc + nI (f i)
def sumB (f : Nat → Nat) (n : Nat) : Int32 := fo (stS f) (nI 0) 0 n
theorem p_onBits (c : atC h a S) (hw : wfF S) : f_X0_onBits h a = some (bitsB (onb S) (S.1 2)) := by
  have hw2 := hw
  obtain ⟨b1, b2, b3, b4, b5, -, -, b8, -⟩ := hw
  have hF := FU_big
  refine fo_lp (f_X0_onBits_4 h a) (S.1 2) (stB (onb S)) some (fun n acc i hi => ?_) (fun n acc => ?_) (S.1 2) FU (nI 0) 0 (by omega) (by omega)
  · have h8 := b8 4 i
    simp (disch := omega) only [f_X0_onBits_4, f_X0_onBits_27, bd_s, lt_u, nB_0, nB_00, nz_t, gdT, inb_nI, ix_nI, nI_le0, nI_lt0, nI_eq0, nI_add, pk_mul, i0, i1, i2, i3, c.q0, c.q1, c.q2, c.q3, c.q4, c.r5, c.r6, c.r7, c.r8, c.r9, c.r10, c.r11, c.t1, c.t2, c.t3, c.t4, c.t5, c.t6, c.t7, c.v0, c.v1, c.v2, c.v3, c.v4, c.v5, c.v6]
    grind [stB, onb]
  · simp (disch := omega) only [f_X0_onBits_4, bd_s, lt_u, nB_0, nB_00, nz_t, gdT, inb_nI, ix_nI, nI_le0, nI_lt0, nI_eq0, nI_add, pk_mul, i0, i1, i2, i3, c.q0, c.q1, c.q2, c.q3, c.q4, c.r5, c.r6, c.r7, c.r8, c.r9, c.r10, c.r11, c.t1, c.t2, c.t3, c.t4, c.t5, c.t6, c.t7, c.v0, c.v1, c.v2, c.v3, c.v4, c.v5, c.v6]
    simp
theorem p_strengthOfAll (c : atC h a S) (hw : wfF S) : f_X0_strengthOfAll h a = some (sumB (S.2 4) (S.1 2)) := by
  obtain ⟨b1, b2, b3, b4, b5, -, -, b8, -⟩ := hw
  have hF := FU_big
  refine fo_lp (f_X0_strengthOfAll_4 h a) (S.1 2) (stS (S.2 4)) some (fun n acc i hi => ?_) (fun n acc => ?_) (S.1 2) FU (nI 0) 0 (by omega) (by omega)
  · have h8 := b8 4 i
    simp (disch := omega) only [f_X0_strengthOfAll_4, bd_s, lt_u, nB_0, nB_00, nz_t, gdT, inb_nI, ix_nI, nI_le0, nI_lt0, nI_eq0, nI_add, pk_mul, i0, i1, i2, i3, c.q0, c.q1, c.q2, c.q3, c.q4, c.r5, c.r6, c.r7, c.r8, c.r9, c.r10, c.r11, c.t1, c.t2, c.t3, c.t4, c.t5, c.t6, c.t7, c.v0, c.v1, c.v2, c.v3, c.v4, c.v5, c.v6]
    grind [stS]
  · simp (disch := omega) only [f_X0_strengthOfAll_4, bd_s, lt_u, nB_0, nB_00, nz_t, gdT, inb_nI, ix_nI, nI_le0, nI_lt0, nI_eq0, nI_add, pk_mul, i0, i1, i2, i3, c.q0, c.q1, c.q2, c.q3, c.q4, c.r5, c.r6, c.r7, c.r8, c.r9, c.r10, c.r11, c.t1, c.t2, c.t3, c.t4, c.t5, c.t6, c.t7, c.v0, c.v1, c.v2, c.v3, c.v4, c.v5, c.v6]
    simp
def crs (S : Fld) (i j : Nat) : Bool := decide (j ≠ i) && crb S i j
theorem p_crossedBy (c : atC h a S) (hw : wfF S) {i : Nat} (hi : i < S.1 2) : f_X0_crossedBy h a (nI i) = some (bitsB (crs S i) (S.1 2)) := by
  have hw2 := hw
  obtain ⟨b1, b2, b3, b4, b5, -, -, b8, -⟩ := hw
  have hF := FU_big
  rw [f_X0_crossedBy, p_has c hw2 (by omega)]
  simp only [bd_s, nB_0, hi, decide_true, Bool.true_eq_false, if_false]
  refine fo_lp (f_X0_crossedBy_14 h a (nI i)) (S.1 2) (stB (crs S i)) some (fun n acc j hj => ?_) (fun n acc => ?_) (S.1 2) FU (nI 0) 0 (by omega) (by omega)
  · have e := p_cross c hw2 (i := i) (j := j) (by omega) (by omega)
    simp (disch := omega) only [f_X0_crossedBy_14, f_X0_crossedBy_42, bd_s, lt_u, nB_0, nB_00, nz_t, gdT, inb_nI, ix_nI, nI_le0, nI_lt0, nI_eq0, nI_add, pk_mul, i0, i1, i2, i3, c.q2, e]
    grind [stB, crs]
  · simp (disch := omega) only [f_X0_crossedBy_14, bd_s, lt_u, nB_0, nB_00, nz_t, gdT, inb_nI, ix_nI, nI_le0, nI_lt0, nI_eq0, nI_add, pk_mul, i0, i1, i2, i3, c.q2]
    simp
/-- how much of two stretches is common -/
def cmn (x m y n : Nat) : Nat := min (x + m) (y + n) - max x y
theorem p_common {x m y n : Nat} (hx : x < 1000) (hm : m < 1000) (hy : y < 1000) (hn : n < 1000) : f_X0_common h a (nI x) (nI m) (nI y) (nI n) = some (nI (cmn x m y n)) := by
  simp (disch := omega) only [f_X0_common, mn32, mx32, bd_s, lt_u, nB_0, nB_00, nz_t, gdT, inb_nI, ix_nI, nI_le0, nI_lt0, nI_eq0, nI_add, pk_mul, i0, i1, i2, i3]
  have e1 : (if y + n < x + m then nI (y + n) else nI (x + m)) = nI (min (x + m) (y + n)) := by
    by_cases q : y + n < x + m
    · rw [if_pos q, Nat.min_eq_right (by omega)]
    · rw [if_neg q, Nat.min_eq_left (by omega)]
  have e2 : (if x < y then nI y else nI x) = nI (max x y) := by
    by_cases q : x < y
    · rw [if_pos q, Nat.max_eq_right (by omega)]
    · rw [if_neg q, Nat.max_eq_left (by omega)]
  rw [e1, e2]
  generalize hA : min (x + m) (y + n) = A
  generalize hB : max x y = B
  have hA2 : A < 2000 := by omega
  have hB2 : B < 2000 := by omega
  by_cases q : B < A
  · rw [pk_sub (by omega)]
    simp (disch := omega) only [nI_lt0]
    rw [if_pos (by omega), cmn, hA, hB]
  · have hn2 : ¬ nI 0 < nI A - nI B := by
      intro z
      by_cases e : A = B
      · subst e; rw [pk_sub (Nat.le_refl _), Nat.sub_self] at z; exact absurd z (by decide)
      · have := pk_sneg (a := A) (b := B) (by omega) (by omega)
        rw [i0] at this
        exact absurd (Int32.lt_trans z this) (by decide)
    rw [if_neg hn2, cmn, hA, hB, Nat.sub_eq_zero_of_le (by omega)]
def cmc (S : Fld) (i cell hg wd : Nat) : Nat := cmn (S.2 0 i) (S.2 2 i) (cell / S.1 1) hg * cmn (S.2 1 i) (S.2 3 i) (cell % S.1 1) wd
theorem cmn_le {x m y n : Nat} : cmn x m y n ≤ m := by unfold cmn; omega
theorem p_commonCells (c : atC h a S) (hw : wfF S) {i cell hg wd : Nat} (hi : i < 8) (hc : cell < 100) (hh : hg < 100) (hd : wd < 100) : f_X0_commonCells h a (nI i) (nI cell) (nI hg) (nI wd) = some (nI (cmc S i cell hg wd)) := by
  have e1 := p_rowOf c hw (i := cell) (by omega)
  have e2 := p_columnOf c hw (i := cell) (by omega)
  obtain ⟨b1, b2, b3, b4, b5, -, -, b8, -⟩ := hw
  have h0 := b8 0 i; have h1 := b8 1 i; have h2 := b8 2 i; have h3 := b8 3 i
  have g1 : cell / S.1 1 ≤ cell := Nat.div_le_self _ _
  have g2 : cell % S.1 1 ≤ cell := Nat.mod_le _ _
  have e3 := p_common (h := h) (a := a) (x := S.2 0 i) (m := S.2 2 i) (y := cell / S.1 1) (n := hg) (by omega) (by omega) (by omega) (by omega)
  have e4 := p_common (h := h) (a := a) (x := S.2 1 i) (m := S.2 3 i) (y := cell % S.1 1) (n := wd) (by omega) (by omega) (by omega) (by omega)
  simp (disch := omega) only [f_X0_commonCells, bd_s, lt_u, nB_0, nB_00, nz_t, gdT, inb_nI, ix_nI, nI_le0, nI_lt0, nI_eq0, nI_add, pk_mul, i0, i1, i2, i3, c.q0, c.q1, c.q2, c.q3, c.q4, c.r5, c.r6, c.r7, c.r8, c.r9, c.r10, c.r11, c.t1, c.t2, c.t3, c.t4, c.t5, c.t6, c.t7, c.v0, c.v1, c.v2, c.v3, c.v4, c.v5, c.v6, e1, e2, e3, e4]
  rfl
def und (S : Fld) (cell hg wd i : Nat) : Bool := decide (0 < S.2 4 i) && decide (0 < cmc S i cell hg wd)
theorem cmc_le {S : Fld} (hw : wfF S) {i cell hg wd : Nat} : cmc S i cell hg wd ≤ 9801 := by
  obtain ⟨b1, b2, b3, b4, b5, -, -, b8, -⟩ := hw
  exact Nat.mul_le_mul (Nat.le_trans cmn_le (b8 2 i)) (Nat.le_trans cmn_le (b8 3 i))
theorem p_onUnder (c : atC h a S) (hw : wfF S) {cell hg wd : Nat} (hc : cell < 100) (hh : hg < 100) (hd : wd < 100) : f_X0_onUnder h a (nI cell) (nI hg) (nI wd) = some (bitsB (und S cell hg wd) (S.1 2)) := by
  have hw2 := hw
  obtain ⟨b1, b2, b3, b4, b5, -, -, b8, -⟩ := hw
  have hF := FU_big
  refine fo_lp (f_X0_onUnder_6 h a (nI cell) (nI hg) (nI wd)) (S.1 2) (stB (und S cell hg wd)) some (fun n acc i hi => ?_) (fun n acc => ?_) (S.1 2) FU (nI 0) 0 (by omega) (by omega)
  · have h8 := b8 4 i
    have e := p_commonCells c hw2 (i := i) (by omega) hc hh hd
    have g := cmc_le hw2 (i := i) (cell := cell) (hg := hg) (wd := wd)
    simp (disch := omega) only [f_X0_onUnder_6, f_X0_onUnder_46, bd_s, lt_u, nB_0, nB_00, nz_t, gdT, inb_nI, ix_nI, nI_le0, nI_lt0, nI_eq0, nI_add, pk_mul, i0, i1, i2, i3, c.q0, c.q1, c.q2, c.q3, c.q4, c.r5, c.r6, c.r7, c.r8, c.r9, c.r10, c.r11, c.t1, c.t2, c.t3, c.t4, c.t5, c.t6, c.t7, c.v0, c.v1, c.v2, c.v3, c.v4, c.v5, c.v6, e]
    grind [stB, und]
  · simp (disch := omega) only [f_X0_onUnder_6, bd_s, lt_u, nB_0, nB_00, nz_t, gdT, inb_nI, ix_nI, nI_le0, nI_lt0, nI_eq0, nI_add, pk_mul, i0, i1, i2, i3, c.q0, c.q1, c.q2, c.q3, c.q4, c.r5, c.r6, c.r7, c.r8, c.r9, c.r10, c.r11, c.t1, c.t2, c.t3, c.t4, c.t5, c.t6, c.t7, c.v0, c.v1, c.v2, c.v3, c.v4, c.v5, c.v6]
    simp
theorem p_strengthUnder (c : atC h a S) (hw : wfF S) {cell hg wd : Nat} (hc : cell < 100) (hh : hg < 100) (hd : wd < 100) : f_X0_strengthUnder h a (nI cell) (nI hg) (nI wd) = some (sumB (fun i => S.2 4 i * cmc S i cell hg wd) (S.1 2)) := by
  have hw2 := hw
  obtain ⟨b1, b2, b3, b4, b5, -, -, b8, -⟩ := hw
  have hF := FU_big
  refine fo_lp (f_X0_strengthUnder_6 h a (nI cell) (nI hg) (nI wd)) (S.1 2) (stS (fun i => S.2 4 i * cmc S i cell hg wd)) some (fun n acc i hi => ?_) (fun n acc => ?_) (S.1 2) FU (nI 0) 0 (by omega) (by omega)
  · have h8 := b8 4 i
    have e := p_commonCells c hw2 (i := i) (by omega) hc hh hd
    simp (disch := omega) only [f_X0_strengthUnder_6, bd_s, lt_u, nB_0, nB_00, nz_t, gdT, inb_nI, ix_nI, nI_le0, nI_lt0, nI_eq0, nI_add, pk_mul, i0, i1, i2, i3, c.q0, c.q1, c.q2, c.q3, c.q4, c.r5, c.r6, c.r7, c.r8, c.r9, c.r10, c.r11, c.t1, c.t2, c.t3, c.t4, c.t5, c.t6, c.t7, c.v0, c.v1, c.v2, c.v3, c.v4, c.v5, c.v6, e]
    grind [stS]
  · simp (disch := omega) only [f_X0_strengthUnder_6, bd_s, lt_u, nB_0, nB_00, nz_t, gdT, inb_nI, ix_nI, nI_le0, nI_lt0, nI_eq0, nI_add, pk_mul, i0, i1, i2, i3, c.q0, c.q1, c.q2, c.q3, c.q4, c.r5, c.r6, c.r7, c.r8, c.r9, c.r10, c.r11, c.t1, c.t2, c.t3, c.t4, c.t5, c.t6, c.t7, c.v0, c.v1, c.v2, c.v3, c.v4, c.v5, c.v6]
    simp
def hld (S : Fld) (cell hg wd : Nat) : Bool := decide (cell < ncl S) && decide (cell / S.1 1 + hg ≤ S.1 0) && decide (cell % S.1 1 + wd ≤ S.1 1)
theorem p_holds (c : atC h a S) (hw : wfF S) {cell hg wd : Nat} (hc : cell < 100) (hh : hg < 100) (hd : wd < 100) : f_X0_holds h a (nI cell) (nI hg) (nI wd) = some (nB (hld S cell hg wd)) := by
  have e1 := p_rowOf c hw (i := cell) (by omega)
  have e2 := p_columnOf c hw (i := cell) (by omega)
  have e3 := p_hasCell c hw (i := cell) (by omega)
  obtain ⟨b1, b2, b3, b4, b5, -, -, b8, -⟩ := hw
  have g1 : cell / S.1 1 ≤ cell := Nat.div_le_self _ _
  have g2 : cell % S.1 1 ≤ cell := Nat.mod_le _ _
  simp (disch := omega) only [f_X0_holds, bd_s, lt_u, nB_0, nB_00, nz_t, gdT, inb_nI, ix_nI, nI_le0, nI_lt0, nI_eq0, nI_add, pk_mul, i0, i1, i2, i3, c.q0, c.q1, c.q2, c.q3, c.q4, c.r5, c.r6, c.r7, c.r8, c.r9, c.r10, c.r11, c.t1, c.t2, c.t3, c.t4, c.t5, c.t6, c.t7, c.v0, c.v1, c.v2, c.v3, c.v4, c.v5, c.v6, e1, e2, e3]
  grind [hld, nB]
end CAMPS
