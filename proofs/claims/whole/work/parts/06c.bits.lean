theorem nI_and (a b : Nat) : nI a &&& nI b = nI (a &&& b) := by
  apply Int32.toBitVec_inj.1
  show BitVec.ofNat 32 a &&& BitVec.ofNat 32 b = BitVec.ofNat 32 (a &&& b)
  apply BitVec.eq_of_getLsbD_eq
  intro i hi
  simp [hi]
theorem nI_or (a b : Nat) : nI a ||| nI b = nI (a ||| b) := by
  apply Int32.toBitVec_inj.1
  show BitVec.ofNat 32 a ||| BitVec.ofNat 32 b = BitVec.ofNat 32 (a ||| b)
  apply BitVec.eq_of_getLsbD_eq
  intro i hi
  simp [hi]
theorem nI_xor (a b : Nat) : nI a ^^^ nI b = nI (a ^^^ b) := by
  apply Int32.toBitVec_inj.1
  show BitVec.ofNat 32 a ^^^ BitVec.ofNat 32 b = BitVec.ofNat 32 (a ^^^ b)
  apply BitVec.eq_of_getLsbD_eq
  intro i hi
  simp [hi]
theorem lN_and (a b : Nat) : lN a &&& lN b = lN (a &&& b) := by
  apply Int64.toBitVec_inj.1
  show BitVec.ofNat 64 a &&& BitVec.ofNat 64 b = BitVec.ofNat 64 (a &&& b)
  apply BitVec.eq_of_getLsbD_eq
  intro i hi
  simp [hi]
theorem lN_or (a b : Nat) : lN a ||| lN b = lN (a ||| b) := by
  apply Int64.toBitVec_inj.1
  show BitVec.ofNat 64 a ||| BitVec.ofNat 64 b = BitVec.ofNat 64 (a ||| b)
  apply BitVec.eq_of_getLsbD_eq
  intro i hi
  simp [hi]
theorem shl_1 : ∀ k, k < 31 → shl32 (nI 1) (nI k) = nI (2 ^ k) := by decide +kernel
theorem shl_1L : ∀ k, k < 63 → shl64 1 (nI k) = lN (2 ^ k) := by decide +kernel
theorem fo_snoc {α : Type} (step : α → Nat → α) : ∀ d acc i, fo step acc i (d + 1) = step (fo step acc i d) (i + d) := by
  intro d
  induction d with
  | zero => intro acc i; rfl
  | succ d ih =>
    intro acc i
    rw [fo, ih, fo, show i + 1 + d = i + (d + 1) by omega]
theorem fo_congr {α : Type} {s1 s2 : α → Nat → α} : ∀ d acc i, (∀ x j, i ≤ j → j < i + d → s1 x j = s2 x j) → fo s1 acc i d = fo s2 acc i d := by
  intro d
  induction d with
  | zero => intro acc i _; rfl
  | succ d ih =>
    intro acc i h
    rw [fo, fo, h acc i (by omega) (by omega)]
    exact ih _ _ (fun x j h1 h2 => h x j (by omega) (by omega))
/-- the number whose bits are p -/
def nb (p : Nat → Bool) : Nat → Nat
  | 0 => 0
  | n + 1 => nb p n ||| (if p n = true then 2 ^ n else 0)
theorem nb_bit (p : Nat → Bool) : ∀ n k, (nb p n).testBit k = (decide (k < n) && p k) := by
  intro n
  induction n with
  | zero => intro k; simp [nb]
  | succ n ih =>
    intro k
    rw [nb, Nat.testBit_or, ih]
    by_cases hp : p n = true
    · rw [if_pos hp, Nat.testBit_two_pow]
      by_cases e : n = k
      · subst e; simp [hp]
      · simp [e]
        by_cases q : k < n
        · simp [q, Nat.lt_succ_of_lt q]
        · simp [q, show ¬ k < n + 1 by omega]
    · rw [if_neg hp, Nat.zero_testBit]
      by_cases e : k = n
      · subst e; simp [hp]
      · by_cases q : k < n
        · simp [q, Nat.lt_succ_of_lt q]
        · simp [q, show ¬ k < n + 1 by omega]
theorem nb_lt (p : Nat → Bool) (n : Nat) : nb p n < 2 ^ n := by
  apply Nat.lt_pow_two_of_testBit
  intro i hi
  rw [nb_bit]
  simp [show ¬ i < n by omega]
theorem nb_congr {p q : Nat → Bool} {n : Nat} (h : ∀ i, i < n → p i = q i) : nb p n = nb q n := by
  apply Nat.eq_of_testBit_eq
  intro k
  rw [nb_bit, nb_bit]
  by_cases hk : k < n
  · simp [hk, h k hk]
  · simp [hk]
theorem bitsB_nb (p : Nat → Bool) : ∀ n, n ≤ 31 → bitsB p n = nI (nb p n) := by
  intro n
  induction n with
  | zero => intro _; rfl
  | succ n ih =>
    intro hn
    rw [bitsB, fo_snoc, ← bitsB, ih (by omega), Nat.zero_add, stB, nb]
    by_cases hp : p n = true
    · rw [if_pos hp, if_pos hp, shl_1 n (by omega), nI_or]
    · rw [if_neg hp, if_neg hp, Nat.or_zero]
theorem bitsL_nb (p : Nat → Bool) : ∀ n, n ≤ 63 → bitsL p n = lN (nb p n) := by
  intro n
  induction n with
  | zero => intro _; rfl
  | succ n ih =>
    intro hn
    rw [bitsL, fo_snoc, ← bitsL, ih (by omega), Nat.zero_add, stL, nb]
    by_cases hp : p n = true
    · rw [if_pos hp, if_pos hp, shl_1L n (by omega), lN_or]
    · rw [if_neg hp, if_neg hp, Nat.or_zero]
theorem bitsB_congr {p q : Nat → Bool} {n : Nat} (h : ∀ i, i < n → p i = q i) : bitsB p n = bitsB q n := fo_congr n _ _ (fun x j _ hj => by simp only [stB, h j (by omega)])
theorem bitsL_congr {p q : Nat → Bool} {n : Nat} (h : ∀ i, i < n → p i = q i) : bitsL p n = bitsL q n := fo_congr n _ _ (fun x j _ hj => by simp only [stL, h j (by omega)])
theorem sumB_congr {p q : Nat → Nat} {n : Nat} (h : ∀ i, i < n → p i = q i) : sumB p n = sumB q n := fo_congr n _ _ (fun x j _ hj => by simp only [stS, h j (by omega)])
def nsum (f : Nat → Nat) : Nat → Nat
  | 0 => 0
  | n + 1 => nsum f n + f n
theorem sumB_n (f : Nat → Nat) : ∀ n, sumB f n = nI (nsum f n) := by
  intro n
  induction n with
  | zero => rfl
  | succ n ih => rw [sumB, fo_snoc, ← sumB, ih, Nat.zero_add, stS, nsum, nI_add]
theorem shr_n : ∀ k, k < 31 → ∀ n, n < 2 ^ 31 → shr32 (nI n) (nI k) = nI (n / 2 ^ k) := by
  intro k hk n hn
  have e : ∀ k, k < 31 → ((nI k &&& 31).toBitVec.smod 32).toNat = k := by decide +kernel
  exact pk_shrN hn _ k (e k hk)
theorem and_1 (n : Nat) : nI n &&& nI 1 = nI (n % 2) := by rw [nI_and, Nat.and_one_is_mod]
theorem tb_mod (n k : Nat) : n.testBit k = decide (n / 2 ^ k % 2 = 1) := by rw [Nat.testBit_eq_decide_div_mod_eq]
theorem p_isIn {h : Hp} {x k : Nat} (hx : x < 2 ^ 31) (hk : k < 31) : f_X9_isIn h (nI x) (nI k) = some (nB (x.testBit k)) := by
  rw [f_X9_isIn]
  simp only [lt_u, shr_n k hk x hx, i1, i0, and_1]
  have h2 : x / 2 ^ k % 2 < 2 := Nat.mod_lt _ (by omega)
  rw [tb_mod]
  simp (disch := omega) only [nI_eq0]
  grind [nB]
theorem bitsB_0 {p : Nat → Bool} {n : Nat} (hn : n ≤ 31) : (bitsB p n = nI 0) ↔ ∀ i, i < n → p i = false := by
  rw [bitsB_nb p n hn]
  have h1 := nb_lt p n
  have h2 : 2 ^ n ≤ 2 ^ 31 := Nat.pow_le_pow_right (by omega) hn
  rw [nI_eq (by omega) (by omega)]
  constructor
  · intro h i hi
    have := nb_bit p n i
    rw [h] at this
    simpa [hi] using this.symm
  · intro h
    apply Nat.eq_of_testBit_eq
    intro k
    rw [nb_bit]
    by_cases hk : k < n
    · simp [hk, h k hk]
    · simp [hk]
theorem p_isInB {h : Hp} {p : Nat → Bool} {n k : Nat} (hn : n ≤ 31) (hk : k < 31) : f_X9_isIn h (bitsB p n) (nI k) = some (nB (decide (k < n) && p k)) := by
  rw [bitsB_nb p n hn, p_isIn (Nat.lt_of_lt_of_le (nb_lt p n) (Nat.pow_le_pow_right (by omega) hn)) hk, nb_bit]
