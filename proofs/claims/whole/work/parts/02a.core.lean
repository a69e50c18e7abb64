/-! The heap that the proofs speak of: ints, longs, references by (cell, slot), the cells' kinds, how many cells. Cell i lies at the address b + i; 0 is null. Kinds: (1, class), (2, n) ints, (3, n) longs, (4, n) booleans, (5, n) Camps; (0, _) none, or unknown. -/
abbrev Hp : Type := (Nat → Nat → Int32) × (Nat → Nat → Int64) × (Nat → Nat → Nat) × (Nat → Nat × Nat) × Nat
def hpI (h : Hp) (a k : Nat) : Int32 := h.1 a k
def hpL (h : Hp) (a k : Nat) : Int64 := h.2.1 a k
def hpR (h : Hp) (a k : Nat) : Nat := h.2.2.1 a k
def hpT (h : Hp) (a : Nat) : Nat × Nat := h.2.2.2.1 a
def hpN (h : Hp) : Nat := h.2.2.2.2
def up2 {α : Type} (f : Nat → Nat → α) (a k : Nat) (v : α) : Nat → Nat → α := fun x y => if x = a ∧ y = k then v else f x y
def upI (h : Hp) (a k : Nat) (v : Int32) : Hp := (up2 h.1 a k v, h.2)
def upL (h : Hp) (a k : Nat) (v : Int64) : Hp := (h.1, up2 h.2.1 a k v, h.2.2)
def upR (h : Hp) (a k v : Nat) : Hp := (h.1, h.2.1, up2 h.2.2.1 a k v, h.2.2.2)
/-- a new cell of a kind, all its slots 0, 0, null -/
def hpNew (h : Hp) (t : Nat × Nat) : Hp := (fun x y => if x = hpN h + 1 then 0 else h.1 x y, fun x y => if x = hpN h + 1 then 0 else h.2.1 x y, fun x y => if x = hpN h + 1 then 0 else h.2.2.1 x y, fun x => if x = hpN h + 1 then t else h.2.2.2.1 x, hpN h + 1)
/-- a row of ints is copied: n of them -/
def cpI (h : Hp) (a sp d dp n : Nat) : Hp := (fun x y => if x = d ∧ dp ≤ y ∧ y < dp + n then h.1 a (sp + (y - dp)) else h.1 x y, h.2)
def Ext (h h1 : Hp) : Prop := ∀ x, 0 < (hpT h x).1 → hpT h1 x = hpT h x
theorem Ext.rf {h : Hp} : Ext h h := fun _ _ => rfl
theorem Ext.tr {h h1 h2 : Hp} (a : Ext h h1) (b : Ext h1 h2) : Ext h h2 := fun x hx => (b x (by rw [a x hx]; exact hx)).trans (a x hx)
theorem Ext.at {h h1 : Hp} (e : Ext h h1) {x : Nat} {t : Nat × Nat} (ht : hpT h x = t) (h0 : 0 < t.1) : hpT h1 x = t := (e x (by rw [ht]; exact h0)).trans ht
theorem Ext.k {h h1 : Hp} (e : Ext h h1) {x k : Nat} (ht : (hpT h x).1 = k) (h0 : 0 < k) : (hpT h1 x).1 = k := by rw [e x (by rw [ht]; exact h0)]; exact ht
/-- the kind and class of a field; (0, 0): an int -/
def fty (ci k : Nat) : Nat × Nat := match ci with
  | 0 => match k with
    | 5 => (2, 0)
    | 6 => (2, 0)
    | 7 => (2, 0)
    | 8 => (2, 0)
    | 9 => (2, 0)
    | 10 => (2, 0)
    | 11 => (2, 0)
    | _ => (0, 0)
  | 2 => match k with
    | 0 => (2, 0)
    | 1 => (2, 0)
    | 2 => (2, 0)
    | _ => (0, 0)
  | 3 => match k with
    | 0 => (5, 0)
    | _ => (0, 0)
  | 4 => match k with
    | 0 => (2, 0)
    | 1 => (2, 0)
    | 2 => (2, 0)
    | _ => (0, 0)
  | 5 => match k with
    | 0 => (1, 6)
    | 1 => (1, 4)
    | _ => (0, 0)
  | 6 => match k with
    | 0 => (2, 0)
    | _ => (0, 0)
  | 7 => match k with
    | 0 => (3, 0)
    | _ => (0, 0)
  | 8 => match k with
    | 0 => (2, 0)
    | 1 => (3, 0)
    | 2 => (2, 0)
    | 3 => (2, 0)
    | 4 => (2, 0)
    | _ => (0, 0)
  | 9 => match k with
    | 0 => (1, 6)
    | 1 => (1, 7)
    | 2 => (1, 0)
    | 3 => (1, 0)
    | 4 => (1, 0)
    | 5 => (1, 3)
    | 6 => (5, 0)
    | 8 => (1, 4)
    | 9 => (1, 4)
    | 10 => (1, 5)
    | 11 => (1, 2)
    | 12 => (1, 2)
    | 13 => (1, 8)
    | 14 => (2, 0)
    | 15 => (2, 0)
    | _ => (0, 0)
  | 10 => match k with
    | 2 => (3, 0)
    | 6 => (2, 0)
    | 7 => (2, 0)
    | 8 => (2, 0)
    | 13 => (2, 0)
    | 15 => (2, 0)
    | 16 => (2, 0)
    | 19 => (2, 0)
    | 20 => (2, 0)
    | 23 => (2, 0)
    | 24 => (2, 0)
    | 26 => (2, 0)
    | 27 => (2, 0)
    | 29 => (2, 0)
    | 30 => (2, 0)
    | 32 => (2, 0)
    | 33 => (2, 0)
    | 34 => (2, 0)
    | 35 => (2, 0)
    | 37 => (2, 0)
    | 38 => (2, 0)
    | 39 => (2, 0)
    | 40 => (4, 0)
    | 41 => (2, 0)
    | 43 => (4, 0)
    | 44 => (2, 0)
    | 45 => (2, 0)
    | _ => (0, 0)
  | _ => (0, 0)
def nfl (ci : Nat) : Nat := match ci with
  | 0 => 12
  | 1 => 1
  | 2 => 4
  | 3 => 3
  | 4 => 6
  | 5 => 4
  | 6 => 2
  | 7 => 2
  | 8 => 5
  | 9 => 16
  | 10 => 46
  | _ => 0
def okT (q t : Nat × Nat) : Prop := t.1 = q.1 ∧ (q.1 = 1 → t.2 = q.2)
def WT (h : Hp) : Prop := (∀ i ci k, hpT h i = (1, ci) → 0 < (fty ci k).1 → hpR h i k ≠ 0 → okT (fty ci k) (hpT h (hpR h i k))) ∧ ∀ i n k, hpT h i = (5, n) → hpR h i k ≠ 0 → hpT h (hpR h i k) = (1, 0)
/-- the tables' numbers; the four array kinds' numbers, the state at the law's entry, where the texts lie; the address ahead of cell 1 -/
abbrev Gt : Type := va_G × (ClassId × ClassId × ClassId × ClassId × State × (Nat → Nat) × (Nat → Nat)) × Nat
def ro (b r : Nat) : Option Nat := if r = 0 then none else some (b + r)
theorem ro_some {b r : Nat} (h : r ≠ 0) : va_rf (ro b r) = .ref (b + r) := by rw [ro, if_neg h]; rfl
theorem ro_null {b r : Nat} (h : r = 0) : va_rf (ro b r) = .null := by rw [ro, if_pos h]; rfl
def flv (G : Gt) (h : Hp) (i ci k : Nat) : Value := if (fty ci k).1 = 0 then .int (hpI h i k) else va_rf (ro G.2.2 (hpR h i k))
def flds (G : Gt) (h : Hp) (i ci : Nat) : List Value := (List.range (nfl ci)).map (flv G h i ci)
def cellOf (G : Gt) (h : Hp) (i : Nat) : va_E := match hpT h i with
  | (1, ci) => .inr (ci, flds G h i ci)
  | (2, n) => .inl (G.2.1.1, n, .inl (hpI h i))
  | (3, n) => .inl (G.2.1.2.1, n, .inr (.inl (hpL h i)))
  | (4, n) => .inl (G.2.1.2.2.1, n, .inl (hpI h i))
  | (_, n) => .inl (G.2.1.2.2.2.1, n, .inr (.inr (.inr (.inr (fun j => ro G.2.2 (hpR h i j))))))
def AA (b : Nat) : Nat → Prop := fun q => b < q
def Rel (G : Gt) (h : Hp) (H : Heap) : Prop := ∃ ws : va_W, va_P G.1 vwCl ws H ∧ va_D (AA G.2.2) ws ∧ (∀ i, 0 < (hpT h i).1 → (G.2.2 + i, cellOf G h i) ∈ ws) ∧ H.size = G.2.2 + hpN h + 1 ∧ (∀ i, 0 < (hpT h i).1 → 1 ≤ i ∧ i ≤ hpN h) ∧ WT h
def gt : List Cond := lw_tbl.filter goodWord
def nestW : List Cond := lw_tbl.filter (fun w => match w with | .methodLinkNest _ _ _ _ => true | _ => false)
def tysG (G : Gt) : List (ClassId × FieldType) := [(G.2.1.1, .int), (G.2.1.2.1, .long), (G.2.1.2.2.1, .boolean), (G.2.1.2.2.2.1, .object RX0)]
def s0G (G : Gt) : State := G.2.1.2.2.2.2.1
/-- the texts' lengths and signs -/
def txL : List Nat := [8, 3, 2, 2, 5]
def txB : List (List Int32) := [[115, 97, 111, 104, 119, 99, 114, 110], [60, 62, 61], [43, 45], [42, 47], [110, 109, 116, 115, 112]]
/-- what holds at the law's entry -/
def OK0 (G : Gt) : Prop := (∀ w ∈ lw_tbl, ∃ A : Array Value, w.before A (s0G G) = true) ∧ va_AO RX0 (s0G G) ∧ vk_S 5 txL txB G.2.1.2.2.2.2.2.1 G.2.1.2.2.2.2.2.2 (AA G.2.2) (s0G G) (s0G G).heap ∧ G.2.2 < (s0G G).heap.size ∧
  va_Z "java/lang/String" "COMPACT_STRINGS" "Z" (.int 1) (AA G.2.2) (s0G G) (s0G G).heap ∧ va_Zq "jdk/internal/util/Preconditions" "SIOOBE_FORMATTER" "Ljava/util/function/BiFunction;" (AA G.2.2) (s0G G) (s0G G).heap ∧
  (vk_R RX10 231 "saohwcrn" (G.2.1.2.2.2.2.2.1 0) (s0G G) ∧ vk_R RX10 240 "<>=" (G.2.1.2.2.2.2.2.1 1) (s0G G) ∧ vk_R RX10 242 "+-" (G.2.1.2.2.2.2.2.1 2) (s0G G) ∧ vk_R RX10 244 "*/" (G.2.1.2.2.2.2.2.1 3) (s0G G) ∧ vk_R RX10 363 "nmtsp" (G.2.1.2.2.2.2.2.1 4) (s0G G)) ∧ True
def KK (G : Gt) (U : State) : Prop := va_K G.1 vwCl (tysG G) U ∧ (∀ w ∈ nestW, va_Nw w U) ∧ (s0G G).WarmedH U.vm ∧ (∀ q : Nat, q ≤ G.2.2 → U.heap[q]? = (s0G G).heap[q]?) ∧ OK0 G
theorem KK.warm {G : Gt} {s U : State} (hW : s.WarmedH U.vm) (hh : ∀ q : Nat, q ≤ G.2.2 → U.heap[q]? = s.heap[q]?) (h : KK G s) : KK G U := by
  refine ⟨va_K.moved hW.alike h.1, fun w hw => ?_, State.WarmedH.trans h.2.2.1 hW, fun q hq => (hh q hq).trans (h.2.2.2.1 q hq), h.2.2.2.2⟩
  have h1 := h.2.1 w hw
  have h2 := (List.mem_filter.mp hw).2
  cases w with
  | methodLinkNest a i x hh => exact va_Nw.warmM hW h1
  | _ => exact absurd h2 (by simp)
theorem KK.calling {G : Gt} {U : State} {g : JFrame} {mk : MethodId} {a : Array Value} (h : KK G U) : KK G (U.calling g mk a) := by
  refine ⟨va_K.moved (u := U) (U := U.calling g mk a) (Vm.Alike.refl U.vm) h.1, fun w hw => ?_, h.2.2.1, h.2.2.2.1, h.2.2.2.2⟩
  have h1 := h.2.1 w hw
  have h2 := (List.mem_filter.mp hw).2
  cases w with
  | methodLinkNest a i x hh => exact va_Nw.same rfl rfl h1
  | _ => exact absurd h2 (by simp)
