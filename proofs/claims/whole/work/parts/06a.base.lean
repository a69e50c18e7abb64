/-! Numbers: nI of a Nat is the usual form; what is negative is written out. -/
theorem ix_nI {n : Nat} (h : n < 2 ^ 31) : ix (nI n) = n := nI_clamp h
theorem inb_nI {n N : Nat} (h : n < N) (hN : N < 2 ^ 31) : inb (nI n) N = true := by
  have h1 := vp_in_nI h hN
  simp only [inb, Bool.not_eq_true', Bool.or_eq_false_iff, decide_eq_false_iff_not]
  exact ⟨fun q => h1 (Or.inl q), fun q => h1 (Or.inr q)⟩
theorem nz_t {r : Nat} (h : r ≠ 0) : nz r = true := decide_eq_true h
theorem lit_nI (n : Nat) : (OfNat.ofNat n : Int32) = nI n := rfl
theorem nI_le0 {a b : Nat} (ha : a < 2 ^ 31) (hb : b < 2 ^ 31) : (nI a ≤ nI b) = (a ≤ b) := propext (nI_leI ha hb)
theorem nI_lt0 {a b : Nat} (ha : a < 2 ^ 31) (hb : b < 2 ^ 31) : (nI a < nI b) = (a < b) := propext (nI_ltI ha hb)
theorem nI_eq0 {a b : Nat} (ha : a < 2 ^ 31) (hb : b < 2 ^ 31) : (nI a = nI b) = (a = b) := propext (nI_eq ha hb)
theorem bd_s {α β : Type} {x : α} {f : α → Option β} : (some x).bind f = f x := rfl
theorem lt_u {α β : Type} (x : α) (f : α → β) : lt x f = f x := rfl
/-- all but some cells are as they were -/
def EqOff (F : Nat → Prop) (h h1 : Hp) : Prop := (∀ a k, ¬ F a → hpI h1 a k = hpI h a k) ∧ (∀ a k, ¬ F a → hpL h1 a k = hpL h a k) ∧ hpR h1 = hpR h ∧ hpT h1 = hpT h ∧ hpN h1 = hpN h
theorem EqOff.rf {F : Nat → Prop} {h : Hp} : EqOff F h h := ⟨fun _ _ _ => rfl, fun _ _ _ => rfl, rfl, rfl, rfl⟩
theorem EqOff.tr {F : Nat → Prop} {h h1 h2 : Hp} (a : EqOff F h h1) (b : EqOff F h1 h2) : EqOff F h h2 := ⟨fun x k q => (b.1 x k q).trans (a.1 x k q), fun x k q => (b.2.1 x k q).trans (a.2.1 x k q), b.2.2.1.trans a.2.2.1, b.2.2.2.1.trans a.2.2.2.1, b.2.2.2.2.trans a.2.2.2.2⟩
theorem EqOff.mono {F F1 : Nat → Prop} {h h1 : Hp} (a : EqOff F h h1) (hF : ∀ x, F x → F1 x) : EqOff F1 h h1 := ⟨fun x k q => a.1 x k (fun z => q (hF x z)), fun x k q => a.2.1 x k (fun z => q (hF x z)), a.2.2⟩
theorem EqOff.uI {F : Nat → Prop} {h : Hp} {a k : Nat} {v : Int32} (hF : F a) : EqOff F h (upI h a k v) := ⟨fun x j q => by
  have e : ¬ (x = a ∧ j = k) := fun z => q (z.1 ▸ hF)
  simp only [hpI, upI, up2]; rw [if_neg e], fun _ _ _ => rfl, rfl, rfl, rfl⟩
theorem EqOff.uL {F : Nat → Prop} {h : Hp} {a k : Nat} {v : Int64} (hF : F a) : EqOff F h (upL h a k v) := ⟨fun _ _ _ => rfl, fun x j q => by
  have e : ¬ (x = a ∧ j = k) := fun z => q (z.1 ▸ hF)
  simp only [hpL, upL, up2]; rw [if_neg e], rfl, rfl, rfl⟩
theorem EqOff.cp {F : Nat → Prop} {h : Hp} {a sp d dp n : Nat} (hF : F d) : EqOff F h (cpI h a sp d dp n) := ⟨fun x j q => by
  have e : ¬ (x = d ∧ dp ≤ j ∧ j < dp + n) := fun z => q (z.1 ▸ hF)
  simp only [hpI, cpI]; rw [if_neg e], fun _ _ _ => rfl, rfl, rfl, rfl⟩
theorem hpI_upI {h : Hp} {a k x y : Nat} {v : Int32} : hpI (upI h a k v) x y = if x = a ∧ y = k then v else hpI h x y := rfl
theorem hpI_upL {h : Hp} {a k x y : Nat} {v : Int64} : hpI (upL h a k v) x y = hpI h x y := rfl
theorem hpI_upR {h : Hp} {a k x y v : Nat} : hpI (upR h a k v) x y = hpI h x y := rfl
theorem hpL_upI {h : Hp} {a k x y : Nat} {v : Int32} : hpL (upI h a k v) x y = hpL h x y := rfl
theorem hpL_upL {h : Hp} {a k x y : Nat} {v : Int64} : hpL (upL h a k v) x y = if x = a ∧ y = k then v else hpL h x y := rfl
theorem hpL_upR {h : Hp} {a k x y v : Nat} : hpL (upR h a k v) x y = hpL h x y := rfl
theorem hpR_upI {h : Hp} {a k x y : Nat} {v : Int32} : hpR (upI h a k v) x y = hpR h x y := rfl
theorem hpR_upL {h : Hp} {a k x y : Nat} {v : Int64} : hpR (upL h a k v) x y = hpR h x y := rfl
theorem hpR_upR {h : Hp} {a k x y v : Nat} : hpR (upR h a k v) x y = if x = a ∧ y = k then v else hpR h x y := rfl
theorem hpT_upI {h : Hp} {a k x : Nat} {v : Int32} : hpT (upI h a k v) x = hpT h x := rfl
theorem hpT_upL {h : Hp} {a k x : Nat} {v : Int64} : hpT (upL h a k v) x = hpT h x := rfl
theorem hpT_upR {h : Hp} {a k x v : Nat} : hpT (upR h a k v) x = hpT h x := rfl
theorem hpI_cpI {h : Hp} {a sp d dp n x y : Nat} : hpI (cpI h a sp d dp n) x y = if x = d ∧ dp ≤ y ∧ y < dp + n then hpI h a (sp + (y - dp)) else hpI h x y := rfl
theorem hpR_cpI {h : Hp} {a sp d dp n x y : Nat} : hpR (cpI h a sp d dp n) x y = hpR h x y := rfl
theorem hpL_cpI {h : Hp} {a sp d dp n x y : Nat} : hpL (cpI h a sp d dp n) x y = hpL h x y := rfl
theorem hpT_cpI {h : Hp} {a sp d dp n x : Nat} : hpT (cpI h a sp d dp n) x = hpT h x := rfl
/-! The field with its camps: numbers q (rows, columns, how many, year, lost), of camp i the facts f 0 .. f 6 (top, left, height, width, strength, slip, age) -/
abbrev Fld : Type := (Nat → Nat) × (Nat → Nat → Nat)
def wfF (S : Fld) : Prop := 3 ≤ S.1 0 ∧ S.1 0 ≤ 6 ∧ 3 ≤ S.1 1 ∧ S.1 1 ≤ 6 ∧ S.1 2 ≤ 8 ∧ S.1 3 < 1000000 ∧ S.1 4 ≤ 999 ∧ (∀ j i, S.2 j i ≤ 99) ∧ ∀ i, i < S.1 2 → 1 ≤ S.2 2 i ∧ S.2 2 i ≤ 3 ∧ 1 ≤ S.2 3 i ∧ S.2 3 i ≤ 3 ∧ S.2 0 i + S.2 2 i ≤ S.1 0 ∧ S.2 1 i + S.2 3 i ≤ S.1 1 ∧ S.2 4 i ≤ 9 ∧ S.2 5 i ≤ 9
/-- a Camps at cell a: the object and its seven rows behind it -/
def shC (h : Hp) (a : Nat) : Prop := hpT h a = (1, 0) ∧ ∀ j, j < 7 → hpR h a (5 + j) = a + 1 + j ∧ hpT h (a + 1 + j) = (2, 8)
def atC (h : Hp) (a : Nat) (S : Fld) : Prop := shC h a ∧ (∀ k, k < 5 → hpI h a k = nI (S.1 k)) ∧ ∀ j i, j < 7 → i < 8 → hpI h (a + 1 + j) i = nI (S.2 j i)
theorem atC.keep {h h1 : Hp} {a : Nat} {S : Fld} {F : Nat → Prop} (c : atC h a S) (e : EqOff F h h1) (hF : ∀ x, a ≤ x → x ≤ a + 7 → ¬ F x) : atC h1 a S := by
  obtain ⟨⟨s1, s2⟩, c2, c3⟩ := c
  refine ⟨⟨by rw [e.2.2.2.1]; exact s1, fun j hj => ⟨by rw [e.2.2.1]; exact (s2 j hj).1, by rw [e.2.2.2.1]; exact (s2 j hj).2⟩⟩, fun k hk => by rw [e.1 _ _ (hF a (by omega) (by omega))]; exact c2 k hk, fun j i hj hi => by rw [e.1 _ _ (hF _ (by omega) (by omega))]; exact c3 j i hj hi⟩
section CREAD
variable {h : Hp} {a : Nat} {S : Fld}
theorem atC.q0 (c : atC h a S) : hpI h a 0 = nI (S.1 0) := c.2.1 0 (by omega)
theorem atC.q1 (c : atC h a S) : hpI h a 1 = nI (S.1 1) := c.2.1 1 (by omega)
theorem atC.q2 (c : atC h a S) : hpI h a 2 = nI (S.1 2) := c.2.1 2 (by omega)
theorem atC.q3 (c : atC h a S) : hpI h a 3 = nI (S.1 3) := c.2.1 3 (by omega)
theorem atC.q4 (c : atC h a S) : hpI h a 4 = nI (S.1 4) := c.2.1 4 (by omega)
theorem atC.r5 (c : atC h a S) : hpR h a 5 = a + 1 := (c.1.2 0 (by omega)).1
theorem atC.r6 (c : atC h a S) : hpR h a 6 = a + 2 := (c.1.2 1 (by omega)).1
theorem atC.r7 (c : atC h a S) : hpR h a 7 = a + 3 := (c.1.2 2 (by omega)).1
theorem atC.r8 (c : atC h a S) : hpR h a 8 = a + 4 := (c.1.2 3 (by omega)).1
theorem atC.r9 (c : atC h a S) : hpR h a 9 = a + 5 := (c.1.2 4 (by omega)).1
theorem atC.r10 (c : atC h a S) : hpR h a 10 = a + 6 := (c.1.2 5 (by omega)).1
theorem atC.r11 (c : atC h a S) : hpR h a 11 = a + 7 := (c.1.2 6 (by omega)).1
theorem atC.t1 (c : atC h a S) : hpT h (a + 1) = (2, 8) := (c.1.2 0 (by omega)).2
theorem atC.t2 (c : atC h a S) : hpT h (a + 2) = (2, 8) := (c.1.2 1 (by omega)).2
theorem atC.t3 (c : atC h a S) : hpT h (a + 3) = (2, 8) := (c.1.2 2 (by omega)).2
theorem atC.t4 (c : atC h a S) : hpT h (a + 4) = (2, 8) := (c.1.2 3 (by omega)).2
theorem atC.t5 (c : atC h a S) : hpT h (a + 5) = (2, 8) := (c.1.2 4 (by omega)).2
theorem atC.t6 (c : atC h a S) : hpT h (a + 6) = (2, 8) := (c.1.2 5 (by omega)).2
theorem atC.t7 (c : atC h a S) : hpT h (a + 7) = (2, 8) := (c.1.2 6 (by omega)).2
theorem atC.v0 (c : atC h a S) {i : Nat} (hi : i < 8) : hpI h (a + 1) i = nI (S.2 0 i) := c.2.2 0 i (by omega) hi
theorem atC.v1 (c : atC h a S) {i : Nat} (hi : i < 8) : hpI h (a + 2) i = nI (S.2 1 i) := c.2.2 1 i (by omega) hi
theorem atC.v2 (c : atC h a S) {i : Nat} (hi : i < 8) : hpI h (a + 3) i = nI (S.2 2 i) := c.2.2 2 i (by omega) hi
theorem atC.v3 (c : atC h a S) {i : Nat} (hi : i < 8) : hpI h (a + 4) i = nI (S.2 3 i) := c.2.2 3 i (by omega) hi
theorem atC.v4 (c : atC h a S) {i : Nat} (hi : i < 8) : hpI h (a + 5) i = nI (S.2 4 i) := c.2.2 4 i (by omega) hi
theorem atC.v5 (c : atC h a S) {i : Nat} (hi : i < 8) : hpI h (a + 6) i = nI (S.2 5 i) := c.2.2 5 i (by omega) hi
theorem atC.v6 (c : atC h a S) {i : Nat} (hi : i < 8) : hpI h (a + 7) i = nI (S.2 6 i) := c.2.2 6 i (by omega) hi
end CREAD
