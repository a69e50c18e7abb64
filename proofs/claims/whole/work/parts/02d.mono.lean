def gd {α : Type} (c : Bool) (x : Option α) : Option α := if c = true then x else none
theorem gd_e {α : Type} {c : Bool} {x : Option α} {o : α} (h : gd c x = some o) : c = true ∧ x = some o := by
  unfold gd at h
  by_cases e : c = true
  · rw [if_pos e] at h; exact ⟨e, h⟩
  · rw [if_neg e] at h; cases h
theorem gd_t {α : Type} {c : Bool} {x : Option α} (h : c = true) : gd c x = x := by rw [gd, if_pos h]
def lt {α β : Type} (x : α) (f : α → β) : β := f x
theorem lt_e {α β : Type} {x y : α} {f : α → β} {o : β} (h : lt x f = o) (e : y = x) : f y = o := by subst e; exact h
theorem it_t {α : Type} {c : Prop} [Decidable c] {a b o : α} (h : (if c then a else b) = o) (hc : c) : a = o := by rw [if_pos hc] at h; exact h
theorem it_f {α : Type} {c : Prop} [Decidable c] {a b o : α} (h : (if c then a else b) = o) (hc : ¬ c) : b = o := by rw [if_neg hc] at h; exact h
theorem bd_e {α β : Type} {x : Option α} {f : α → Option β} {o : β} (h : x.bind f = some o) : ∃ q, x = some q ∧ f q = some o := by
  cases x with
  | none => cases h
  | some q => exact ⟨q, rfl, h⟩
theorem so_e {α : Type} {x y : α} (h : some x = some y) : y = x := (Option.some.inj h).symm
def FU : Nat := 1000000000000
def rm32 (x y : Int32) : Int32 := x - x / y * y
def rm64 (x y : Int64) : Int64 := x - x / y * y
def shl32 (x y : Int32) : Int32 := x <<< (y &&& 31)
def shr32 (x y : Int32) : Int32 := x >>> (y &&& 31)
def ush32 (x y : Int32) : Int32 := (x.toUInt32 >>> (y.toUInt32 &&& Int32.toUInt32 31)).toInt32
def shl64 (x : Int64) (y : Int32) : Int64 := x <<< (y.toInt64 &&& 63)
def shr64 (x : Int64) (y : Int32) : Int64 := x >>> (y.toInt64 &&& 63)
def mx32 (x y : Int32) : Int32 := if x < y then y else x
def mn32 (x y : Int32) : Int32 := if y < x then y else x
def nz (r : Nat) : Bool := decide (r ≠ 0)
theorem nz_e {r : Nat} (h : nz r = true) : r ≠ 0 := of_decide_eq_true h
def nz32 (r : Int32) : Bool := decide (¬ r = 0)
theorem nz32_e {r : Int32} (h : nz32 r = true) : ¬ r = 0 := of_decide_eq_true h
def nz64 (r : Int64) : Bool := decide (¬ r = 0)
theorem nz64_e {r : Int64} (h : nz64 r = true) : ¬ r = 0 := of_decide_eq_true h
theorem okO {q t : Nat × Nat} {c : Nat} (h : okT q t) (e : q = (1, c)) : t = (1, c) := by
  subst e; exact Prod.ext h.1 (h.2 rfl)
theorem okA {q t : Nat × Nat} {k c : Nat} (h : okT q t) (e : q = (k, c)) : t.1 = k := by subst e; exact h.1
theorem okT_o {t : Nat × Nat} {q : Nat × Nat} {c : Nat} (ht : t = (1, c)) (e : q = (1, c)) : okT q t := by subst e; subst ht; exact ⟨rfl, fun _ => rfl⟩
theorem okT_a {t : Nat × Nat} {q : Nat × Nat} {k : Nat} (ht : t.1 = k) (e : q.1 = k) (hk : k ≠ 1) : okT q t := ⟨ht.trans e.symm, fun h => absurd (e.symm.trans h) hk⟩
section TRANS
variable {h h0 h1 : Hp} {a k x : Nat} {v : Int32} {w : Int64} {r : Nat} {t : Nat × Nat} {n : Nat}
theorem tI (e : h1 = upI h a k v) (ht : hpT h x = t) : hpT h1 x = t := by subst e; exact ht
theorem tIk (e : h1 = upI h a k v) (ht : (hpT h x).1 = n) : (hpT h1 x).1 = n := by subst e; exact ht
theorem eI (e : h1 = upI h a k v) (ht : Ext h0 h) : Ext h0 h1 := by subst e; exact ht
theorem tL (e : h1 = upL h a k w) (ht : hpT h x = t) : hpT h1 x = t := by subst e; exact ht
theorem tLk (e : h1 = upL h a k w) (ht : (hpT h x).1 = n) : (hpT h1 x).1 = n := by subst e; exact ht
theorem eL (e : h1 = upL h a k w) (ht : Ext h0 h) : Ext h0 h1 := by subst e; exact ht
theorem tR (e : h1 = upR h a k r) (ht : hpT h x = t) : hpT h1 x = t := by subst e; exact ht
theorem tRk (e : h1 = upR h a k r) (ht : (hpT h x).1 = n) : (hpT h1 x).1 = n := by subst e; exact ht
theorem eR (e : h1 = upR h a k r) (ht : Ext h0 h) : Ext h0 h1 := by subst e; exact ht
theorem tC {sp d dp m : Nat} (e : h1 = cpI h a sp d dp m) (ht : hpT h x = t) : hpT h1 x = t := by subst e; exact ht
theorem tCk {sp d dp m : Nat} (e : h1 = cpI h a sp d dp m) (ht : (hpT h x).1 = n) : (hpT h1 x).1 = n := by subst e; exact ht
theorem eC {sp d dp m : Nat} (e : h1 = cpI h a sp d dp m) (ht : Ext h0 h) : Ext h0 h1 := by subst e; exact ht
end TRANS
theorem z_0 : narrow .boolean (.int 0) = .int 0 := rfl
theorem z_1 : narrow .boolean (.int 1) = .int 1 := rfl
theorem tb_out {x : Int32} {lo hi : Int} (n : Nat) (hn : hi = lo + n - 1) (h : ∀ j : Nat, j < n → ¬ x = Int32.ofInt (lo + j)) : x.toInt < lo ∨ hi < x.toInt := by
  by_cases h1 : x.toInt < lo
  · exact Or.inl h1
  · by_cases h2 : hi < x.toInt
    · exact Or.inr h2
    · exfalso
      refine h (x.toInt - lo).toNat (by omega) ?_
      have e : lo + ((x.toInt - lo).toNat : Int) = x.toInt := by omega
      rw [e, Int32.ofInt_toInt]
def ush64 (x : Int64) (y : Int32) : Int64 := (x.toUInt64 >>> (y.toInt64.toUInt64 &&& Int64.toUInt64 63)).toInt64
theorem ne0 {G : Gt} {h : Hp} {H : Heap} {x c : Nat} (hR : Rel G h H) (ht : hpT h x = (1, c)) : x ≠ 0 := by
  obtain ⟨ws, -, -, -, -, hb, -⟩ := hR
  have := hb x (by rw [ht]; exact Nat.zero_lt_one)
  omega
theorem ne0k {G : Gt} {h : Hp} {H : Heap} {x k : Nat} (hR : Rel G h H) (ht : (hpT h x).1 = k) (hk : 0 < k) : x ≠ 0 := by
  obtain ⟨ws, -, -, -, -, hb, -⟩ := hR
  have := hb x (by rw [ht]; exact hk)
  omega
theorem vz_0 : vp_nar .boolean 0 = 0 := rfl
theorem vz_1 : vp_nar .boolean 1 = 1 := rfl
