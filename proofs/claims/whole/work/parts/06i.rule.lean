theorem okl {σ β : Type} (L : Nat → σ → Int32 → Option β) (N : Nat) (Inv : Nat → σ → Prop) (Q : β → Prop) (hs : ∀ n i s, i < N → Inv i s → (∀ s1, Inv (i + 1) s1 → Ok (L n s1 (nI (i + 1))) Q) → Ok (L (n + 1) s (nI i)) Q) (he : ∀ n s, Inv N s → Ok (L (n + 1) s (nI N)) Q) : ∀ d n i s, i + d = N → d < n → Inv i s → Ok (L n s (nI i)) Q := by
  intro d
  induction d with
  | zero =>
    intro n i s h1 h2 h3
    obtain ⟨k, rfl⟩ : ∃ k, n = k + 1 := ⟨n - 1, by omega⟩
    have e : i = N := by omega
    subst e
    exact he k s h3
  | succ d ih =>
    intro n i s h1 h2 h3
    obtain ⟨k, rfl⟩ : ∃ k, n = k + 1 := ⟨n - 1, by omega⟩
    exact hs k i s (by omega) h3 (fun s1 h4 => ih k (i + 1) s1 (by omega) (by omega) h4)
def bc32 (x : Int32) : Int32 := (f_J6_bitCount_0f7a4 ((fun _ _ => 0), (fun _ _ => 0), (fun _ _ => 0), (fun _ => (0, 0)), 0) x).getD 0
theorem p_bc (h : Hp) (x : Int32) : f_J6_bitCount_0f7a4 h x = some (bc32 x) := rfl
def dg (v : Int32) : Int32 := mx32 0 (mn32 9 v)
theorem p_digitOf (h : Hp) (v : Int32) : f_X9_digitOf h v = some (dg v) := rfl
theorem dg_rng (v : Int32) : dg v = nI (ix (dg v)) ∧ ix (dg v) ≤ 9 := by
  have h1 : 0 ≤ dg v ∧ dg v ≤ 9 := by
    unfold dg mx32 mn32
    constructor <;> grind
  obtain ⟨e, h2⟩ := nI_ix h1.1
  refine ⟨e, ?_⟩
  have := h1.2
  rw [e, i9, nI_leI h2 (by omega)] at this
  exact this
/-- the stack: how many, and which -/
abbrev Stk : Type := Nat × (Nat → Int32)
def stU (f : Nat → Int32) (k : Nat) (x : Int32) : Nat → Int32 := fun j => if j = k then x else f j
def psh (x : Int32) (s : Stk) : Stk := if s.1 < 40 then (s.1 + 1, stU s.2 s.1 x) else s
def pp1 (s : Stk) : Int32 := if 0 < s.1 then s.2 (s.1 - 1) else 0
def pp2 (s : Stk) : Stk := if 0 < s.1 then (s.1 - 1, s.2) else s
def isOp (x : Int32) : Int32 := (f_X4_isOperator ((fun _ _ => 0), (fun _ _ => 0), (fun _ _ => 0), (fun _ => (0, 0)), 0) x).getD 0
def jnd (o x y : Int32) : Int32 := (f_X4_joined ((fun _ _ => 0), (fun _ _ => 0), (fun _ _ => 0), (fun _ => (0, 0)), 0) o x y).getD 0
/-- what a step of a rule does -/
def cst (env : Int32 → Int32) (v : Int32) (s : Stk) : Stk := if v < 0 then (if v = -126 then psh (-(pp1 s)) (pp2 s) else if isOp (-v) = 0 then psh (env (-v)) s else psh (jnd (-v) (pp1 (pp2 s)) (pp1 s)) (pp2 (pp2 s))) else psh v s
def crn (env : Int32 → Int32) (st : Nat → Int32) (s : Stk) : Nat → Stk
  | 0 => s
  | n + 1 => cst env (st n) (crn env st s n)
/-- a Rule at cell r -/
def shR (h : Hp) (r : Nat) : Prop := hpT h r = (1, 4) ∧ hpR h r 0 = r + 1 ∧ hpR h r 1 = r + 2 ∧ hpR h r 2 = r + 3 ∧ hpT h (r + 1) = (2, 40) ∧ hpT h (r + 2) = (2, 40) ∧ hpT h (r + 3) = (2, 8)
def atR (h : Hp) (r sz : Nat) (st : Nat → Int32) : Prop := shR h r ∧ hpI h r 3 = nI sz ∧ sz ≤ 40 ∧ ∀ i, i < sz → hpI h (r + 1) i = st i
/-- its stack holds s -/
def atS (h : Hp) (r : Nat) (s : Stk) : Prop := s.1 ≤ 40 ∧ hpI h r 4 = nI s.1 ∧ ∀ i, i < s.1 → hpI h (r + 2) i = s.2 i
/-- what it writes: its own numbers, the stack -/
def FS (r x : Nat) : Prop := x = r ∨ x = r + 2
/-- but for its numbers 4 and 5, cell r is as it was -/
def kpR (h h1 : Hp) (r : Nat) : Prop := (∀ k, k ≠ 4 → hpI h1 r k = hpI h r k) ∧ hpR h1 = hpR h
theorem isOp_h (h : Hp) (x : Int32) : f_X4_isOperator h x = some (isOp x) := by
  simp only [isOp, f_X4_isOperator]
  repeat' split
  all_goals rfl
theorem jnd_h (h : Hp) (o x y : Int32) : f_X4_joined h o x y = some (jnd o x y) := by
  simp only [jnd, f_X4_joined]
  sorry
