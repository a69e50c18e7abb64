theorem ush_n : ∀ k, k < 31 → ∀ n, n < 2 ^ 31 → ush32 (nI n) (nI k) = nI (n / 2 ^ k) := by
  intro k hk n hn
  have h1 : ∀ k, k < 31 → (((nI k).toUInt32 &&& Int32.toUInt32 31).toBitVec.toNat % 32) = k := by decide +kernel
  apply Int32.toBitVec_inj.mp
  apply BitVec.eq_of_toNat_eq
  have e1 : (ush32 (nI n) (nI k)).toBitVec.toNat = (nI n).toBitVec.toNat >>> (((nI k).toUInt32 &&& Int32.toUInt32 31).toBitVec.toNat % 32) := rfl
  have e2 : ∀ a, a < 2 ^ 31 → (nI a).toBitVec.toNat = a := fun a ha => by
    show (BitVec.ofNat 32 a).toNat = a
    rw [BitVec.toNat_ofNat, Nat.mod_eq_of_lt (by omega)]
  have h3 : n / 2 ^ k ≤ n := Nat.div_le_self _ _
  rw [e1, h1 k hk, e2 n hn, e2 _ (by omega), Nat.shiftRight_eq_div_pow]
def bcN (x : Nat) : Nat :=
  let v2 := x - (x / 2 ^ 1 &&& 1431655765)
  let v4 := (v2 &&& 858993459) + (v2 / 2 ^ 2 &&& 858993459)
  let v6 := (v4 + v4 / 2 ^ 4) &&& 252645135
  let v8 := v6 + v6 / 2 ^ 8
  (v8 + v8 / 2 ^ 16) &&& 63
theorem bcN_ok {x : Nat} (hx : x < 65536) : bc32 (nI x) = nI (bcN x) := by
  have e : bc32 (nI x) = (let v2 := nI x - (ush32 (nI x) (nI 1) &&& nI 1431655765); let v4 := (v2 &&& nI 858993459) + (ush32 v2 (nI 2) &&& nI 858993459); let v6 := (v4 + ush32 v4 (nI 4)) &&& nI 252645135; let v8 := v6 + ush32 v6 (nI 8); (v8 + ush32 v8 (nI 16)) &&& nI 63) := rfl
  rw [e]
  have a1 : (x / 2 ^ 1 &&& 1431655765) ≤ x / 2 ^ 1 := Nat.and_le_left
  have a2 : x / 2 ^ 1 ≤ x := Nat.div_le_self _ _
  simp only
  rw [ush_n 1 (by omega) x (by omega), nI_and, pk_sub (by omega)]
  generalize ev2 : x - (x / 2 ^ 1 &&& 1431655765) = v2
  have b1 : v2 / 2 ^ 2 ≤ v2 := Nat.div_le_self _ _
  have b2 : (v2 &&& 858993459) ≤ v2 := Nat.and_le_left
  have b3 : (v2 / 2 ^ 2 &&& 858993459) ≤ v2 / 2 ^ 2 := Nat.and_le_left
  rw [ush_n 2 (by omega) v2 (by omega), nI_and, nI_and, nI_add]
  generalize ev4 : (v2 &&& 858993459) + (v2 / 2 ^ 2 &&& 858993459) = v4
  have c1 : v4 / 2 ^ 4 ≤ v4 := Nat.div_le_self _ _
  rw [ush_n 4 (by omega) v4 (by omega), nI_add, nI_and]
  have c2 : ((v4 + v4 / 2 ^ 4) &&& 252645135) ≤ v4 + v4 / 2 ^ 4 := Nat.and_le_left
  generalize ev6 : ((v4 + v4 / 2 ^ 4) &&& 252645135) = v6 at c2
  have d1 : v6 / 2 ^ 8 ≤ v6 := Nat.div_le_self _ _
  rw [ush_n 8 (by omega) v6 (by omega), nI_add, ush_n 16 (by omega) _ (by omega), nI_add, nI_and]
  unfold bcN
  simp only [ev2, ev4, ev6]
theorem bcA0 : ∀ a, a < 16 → ∀ b, b < 256 → bcN ((0 + a) * 256 + b) = bcN (0 + a) + bcN b := by decide +kernel
theorem bcA1 : ∀ a, a < 16 → ∀ b, b < 256 → bcN ((16 + a) * 256 + b) = bcN (16 + a) + bcN b := by decide +kernel
theorem bcA2 : ∀ a, a < 16 → ∀ b, b < 256 → bcN ((32 + a) * 256 + b) = bcN (32 + a) + bcN b := by decide +kernel
theorem bcA3 : ∀ a, a < 16 → ∀ b, b < 256 → bcN ((48 + a) * 256 + b) = bcN (48 + a) + bcN b := by decide +kernel
theorem bcA4 : ∀ a, a < 16 → ∀ b, b < 256 → bcN ((64 + a) * 256 + b) = bcN (64 + a) + bcN b := by decide +kernel
theorem bcA5 : ∀ a, a < 16 → ∀ b, b < 256 → bcN ((80 + a) * 256 + b) = bcN (80 + a) + bcN b := by decide +kernel
theorem bcA6 : ∀ a, a < 16 → ∀ b, b < 256 → bcN ((96 + a) * 256 + b) = bcN (96 + a) + bcN b := by decide +kernel
theorem bcA7 : ∀ a, a < 16 → ∀ b, b < 256 → bcN ((112 + a) * 256 + b) = bcN (112 + a) + bcN b := by decide +kernel
theorem bcA8 : ∀ a, a < 16 → ∀ b, b < 256 → bcN ((128 + a) * 256 + b) = bcN (128 + a) + bcN b := by decide +kernel
theorem bcA9 : ∀ a, a < 16 → ∀ b, b < 256 → bcN ((144 + a) * 256 + b) = bcN (144 + a) + bcN b := by decide +kernel
theorem bcA10 : ∀ a, a < 16 → ∀ b, b < 256 → bcN ((160 + a) * 256 + b) = bcN (160 + a) + bcN b := by decide +kernel
theorem bcA11 : ∀ a, a < 16 → ∀ b, b < 256 → bcN ((176 + a) * 256 + b) = bcN (176 + a) + bcN b := by decide +kernel
theorem bcA12 : ∀ a, a < 16 → ∀ b, b < 256 → bcN ((192 + a) * 256 + b) = bcN (192 + a) + bcN b := by decide +kernel
theorem bcA13 : ∀ a, a < 16 → ∀ b, b < 256 → bcN ((208 + a) * 256 + b) = bcN (208 + a) + bcN b := by decide +kernel
theorem bcA14 : ∀ a, a < 16 → ∀ b, b < 256 → bcN ((224 + a) * 256 + b) = bcN (224 + a) + bcN b := by decide +kernel
theorem bcA15 : ∀ a, a < 16 → ∀ b, b < 256 → bcN ((240 + a) * 256 + b) = bcN (240 + a) + bcN b := by decide +kernel
theorem bcA : ∀ a, a < 256 → ∀ b, b < 256 → bcN (a * 256 + b) = bcN a + bcN b := by
  intro a ha b hb
  have e := Nat.div_add_mod a 16
  have h2 : a % 16 < 16 := Nat.mod_lt _ (by omega)
  have h1 : a / 16 < 16 := by omega
  generalize a / 16 = k at e h1
  rcases (show k = 0 ∨ k = 1 ∨ k = 2 ∨ k = 3 ∨ k = 4 ∨ k = 5 ∨ k = 6 ∨ k = 7 ∨ k = 8 ∨ k = 9 ∨ k = 10 ∨ k = 11 ∨ k = 12 ∨ k = 13 ∨ k = 14 ∨ k = 15 by omega) with rfl | rfl | rfl | rfl | rfl | rfl | rfl | rfl | rfl | rfl | rfl | rfl | rfl | rfl | rfl | rfl
  · have := bcA0 (a % 16) h2 b hb; rw [show 0 + a % 16 = a by omega] at this; exact this
  · have := bcA1 (a % 16) h2 b hb; rw [show 16 + a % 16 = a by omega] at this; exact this
  · have := bcA2 (a % 16) h2 b hb; rw [show 32 + a % 16 = a by omega] at this; exact this
  · have := bcA3 (a % 16) h2 b hb; rw [show 48 + a % 16 = a by omega] at this; exact this
  · have := bcA4 (a % 16) h2 b hb; rw [show 64 + a % 16 = a by omega] at this; exact this
  · have := bcA5 (a % 16) h2 b hb; rw [show 80 + a % 16 = a by omega] at this; exact this
  · have := bcA6 (a % 16) h2 b hb; rw [show 96 + a % 16 = a by omega] at this; exact this
  · have := bcA7 (a % 16) h2 b hb; rw [show 112 + a % 16 = a by omega] at this; exact this
  · have := bcA8 (a % 16) h2 b hb; rw [show 128 + a % 16 = a by omega] at this; exact this
  · have := bcA9 (a % 16) h2 b hb; rw [show 144 + a % 16 = a by omega] at this; exact this
  · have := bcA10 (a % 16) h2 b hb; rw [show 160 + a % 16 = a by omega] at this; exact this
  · have := bcA11 (a % 16) h2 b hb; rw [show 176 + a % 16 = a by omega] at this; exact this
  · have := bcA12 (a % 16) h2 b hb; rw [show 192 + a % 16 = a by omega] at this; exact this
  · have := bcA13 (a % 16) h2 b hb; rw [show 208 + a % 16 = a by omega] at this; exact this
  · have := bcA14 (a % 16) h2 b hb; rw [show 224 + a % 16 = a by omega] at this; exact this
  · have := bcA15 (a % 16) h2 b hb; rw [show 240 + a % 16 = a by omega] at this; exact this
theorem bcB : ∀ a, a < 256 → bcN a = cntB (fun j => a.testBit j) 0 8 := by decide +kernel
theorem bc16 {x : Nat} (hx : x < 65536) : bc32 (nI x) = nI (cntB (fun j => x.testBit j) 0 16) := by
  rw [bcN_ok hx]
  congr 1
  have e := bcA (x / 256) (by omega) (x % 256) (by omega)
  rw [show x / 256 * 256 + x % 256 = x by omega] at e
  rw [e, bcB _ (by omega), bcB _ (by omega), show (16 : Nat) = 8 + 8 from rfl, cnt_add, Nat.add_comm]
  congr 1
  · refine cnt_congr 8 0 (fun k _ hk => ?_)
    rw [show (256 : Nat) = 2 ^ 8 from rfl, Nat.testBit_mod_two_pow]
    simp [show k < 8 by omega]
  · have : ∀ d i, cntB (fun j => (x / 256).testBit j) i d = cntB (fun j => x.testBit j) (8 + i) d := by
      intro d
      induction d with
      | zero => intro i; rfl
      | succ d ih =>
        intro i
        rw [cnt_cons, cnt_cons, ih (i + 1), show 8 + (i + 1) = 8 + i + 1 by omega]
        simp only [show (256 : Nat) = 2 ^ 8 from rfl, ← Nat.shiftRight_eq_div_pow, Nat.testBit_shiftRight]
    exact this 8 0
