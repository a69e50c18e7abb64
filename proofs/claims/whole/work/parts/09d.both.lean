/-! Both at once: a call of the class, then the same call of the reference -/
section BOTH
variable {h h1 : Hp} {A B : Ast} {m n n1 : Nat}
theorem RC.fm (c : RC h A) (e : EqOff (FM m) h h1) (hm : 202 ≤ m) : RC h1 A := c.ag (e.ag (fun a z1 z2 z3 => by unfold FM at z3; omega))
theorem RM.fx (c : RM h m A n) (e : EqOff FX h h1) (hm : 202 ≤ m) : RM h1 m A n := EqOff.rm c e (fun x z1 z2 => by unfold FM at z1; unfold FX at z2; omega)
/-- the two states stand for one, n calls after the start -/
def Bo (h : Hp) (m : Nat) (A : Ast) (n : Nat) : Prop := RC h A ∧ RM h m A n ∧ WA A n ∧ 202 ≤ m ∧ m + 27 ≤ hpN h
/-- a call with an answer -/
theorem both {α : Type} {f g : Hp → Option (α × Hp)} {v : α} (b : Bo h m A n) (hc : Ok (f h) (fun o => o.1 = v ∧ RC o.2 B ∧ EqOff FX h o.2)) (hr : ∀ h1, RM h1 m A n → Ok (g h1) (fun o => o.1 = v ∧ RM o.2 m B n1 ∧ EqOff (FM m) h1 o.2)) (hw : WA B n1) : ∃ h1 h2, f h = some (v, h1) ∧ g h1 = some (v, h2) ∧ Bo h2 m B n1 := by
  obtain ⟨b1, b2, b3, b4, b5⟩ := b
  obtain ⟨o, e1, z1, z2, z3⟩ := hc
  obtain ⟨p, e2, y1, y2, y3⟩ := hr o.2 (b2.fx z3 b4)
  refine ⟨o.2, p.2, ?_, ?_, z2.fm y3 b4, y2, hw, b4, ?_⟩
  · rw [e1, ← z1]
  · rw [e2, ← y1]
  · rw [y3.2.2.2.2, z3.2.2.2.2]; exact b5
theorem Bo.up (b : Bo h m A n) (hn : n < 1000) : Bo h m A (n + 1) := ⟨b.1, b.2.1.mono (by omega), b.2.2.1.up hn, b.2.2.2⟩
/-- the start: the class's object is cell 1, the reference the cell behind it and its rows -/
theorem bo_init (f : Frs h 1 (1, 9)) : ∃ h1, f_X9_init h 1 = some h1 ∧ ∃ h2, f_X10_init (hpNew h1 (1, 10)) 202 = some h2 ∧ Bo h2 202 A00 0 := by
  obtain ⟨h1, e1, c1, n1⟩ := c_init f
  obtain ⟨fr, ag⟩ := Frs.new (h := h1) (t := (1, 10)) n1
  obtain ⟨h2, e2, c2, n2, g2⟩ := r_init fr
  exact ⟨h1, e1, h2, e2, (c1.ag (ag.sub (by omega) (by omega))).ag (g2.sub (by omega) (by omega)), c2, wa_init, by omega, by omega⟩
/-- a first method, so that the next are written alike -/
theorem bo_years (b : Bo h m A n) (hn : n < 1000) (x : Int32) : ∃ h1 h2, f_X9_years h 1 x = some ((sp_years A x).1, h1) ∧ f_X10_years h1 m x = some ((sp_years A x).1, h2) ∧ Bo h2 m (sp_years A x).2 (n + 1) :=
  both (f := fun h => f_X9_years h 1 x) (g := fun h => f_X10_years h m x) b (c_years b.1 b.2.2.1.w b.2.2.1.y x) (fun h1 c => ok_mono (r_years c b.2.2.1 x) (fun o ⟨z1, z2, z3⟩ => ⟨z1, z2.mono (by omega), z3⟩)) (wa_years b.2.2.1 hn x)
end BOTH
