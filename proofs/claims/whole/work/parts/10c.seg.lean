/-! rules: what a stretch of a Rule's numbers does -/
def seg (env : Int32 → Int32) (st : Nat → Int32) (p : Nat) : Nat → Stk → Stk
  | 0, s => s
  | n + 1, s => cst env (st (p + n)) (seg env st p n s)
/-- the stretch of n numbers from p on puts E on top, whatever lies below -/
def Mn (st : Nat → Int32) (p n : Nat) (E : RE) : Prop := ∀ env s, s.1 + n ≤ 40 → (seg (fun x => env (lIx x)) st p n s).1 = s.1 + 1 ∧ (seg (fun x => env (lIx x)) st p n s).2 s.1 = E env ∧ ∀ i, i < s.1 → (seg (fun x => env (lIx x)) st p n s).2 i = s.2 i
theorem seg_add {env : Int32 → Int32} {st : Nat → Int32} {p a : Nat} {s : Stk} : ∀ b, seg env st p (a + b) s = seg env st (p + a) b (seg env st p a s) := by
  intro b
  induction b with
  | zero => rfl
  | succ b ih => rw [← Nat.add_assoc, seg, seg, ih, Nat.add_assoc]
theorem seg_0 {env : Int32 → Int32} {st : Nat → Int32} {s : Stk} : ∀ n, seg env st 0 n s = crn env st s n := by
  intro n
  induction n with
  | zero => rfl
  | succ n ih => rw [seg, crn, ih, Nat.zero_add]
theorem seg_ext {env : Int32 → Int32} {st st2 : Nat → Int32} {p : Nat} {s : Stk} : ∀ n, (∀ k, p ≤ k → k < p + n → st2 k = st k) → seg env st2 p n s = seg env st p n s := by
  intro n
  induction n with
  | zero => intro _; rfl
  | succ n ih => intro h; rw [seg, seg, ih (fun k h1 h2 => h k h1 (by omega)), h (p + n) (by omega) (by omega)]
theorem Mn.ext {st st2 : Nat → Int32} {p n : Nat} {E : RE} (m : Mn st p n E) (h : ∀ k, p ≤ k → k < p + n → st2 k = st k) : Mn st2 p n E := fun env s hs => by
  rw [seg_ext n h]; exact m env s hs
/-- a whole Rule -/
theorem Mn.rd {st : Nat → Int32} {n : Nat} {E : RE} (m : Mn st 0 n E) (hn : n ≤ 40) : rdC (n, st) E := fun env => by
  have := m env (0, fun _ => 0) (by show 0 + n ≤ 40; omega)
  rw [seg_0] at this
  show pp1 (crn _ st _ n) = _
  unfold pp1
  rw [this.1, if_pos (by omega)]
  exact this.2.1
theorem psh_f {x : Int32} {s : Stk} (h : s.1 < 40) : (psh x s).1 = s.1 + 1 ∧ (psh x s).2 s.1 = x ∧ ∀ i, i < s.1 → (psh x s).2 i = s.2 i := by
  unfold psh
  rw [if_pos h]
  refine ⟨rfl, ?_, fun i hi => ?_⟩
  · show stU s.2 s.1 x s.1 = x
    unfold stU; rw [if_pos rfl]
  · show stU s.2 s.1 x i = s.2 i
    unfold stU; rw [if_neg (by omega)]
theorem Mn.num {st : Nat → Int32} {p : Nat} {v : Int32} (h : st p = v) (hv : ¬ v < 0) : Mn st p 1 (fun _ => v) := fun env s hs => by
  show (cst _ (st (p + 0)) s).1 = _ ∧ (cst _ (st (p + 0)) s).2 _ = _ ∧ ∀ i, i < s.1 → (cst _ (st (p + 0)) s).2 i = _
  rw [Nat.add_zero, h]
  unfold cst
  rw [if_neg hv]
  exact psh_f (by omega)
theorem Mn.ask {st : Nat → Int32} {p : Nat} {x : Int32} (h : st p = -x) (h0 : -x < 0) (h1 : ¬ -x = -126) (h2 : isOp (- -x) = 0) : Mn st p 1 (fun env => env (lIx (- -x))) := fun env s hs => by
  show (cst _ (st (p + 0)) s).1 = _ ∧ (cst _ (st (p + 0)) s).2 _ = _ ∧ ∀ i, i < s.1 → (cst _ (st (p + 0)) s).2 i = _
  rw [Nat.add_zero, h]
  unfold cst
  rw [if_pos h0, if_neg h1, if_pos h2]
  exact psh_f (by omega)
theorem Mn.neg {st : Nat → Int32} {p n : Nat} {E : RE} (m : Mn st p n E) (h : st (p + n) = -126) : Mn st p (n + 1) (fun env => -(E env)) := fun env s hs => by
  obtain ⟨m1, m2, m3⟩ := m env s (by omega)
  rw [seg, h]
  generalize seg (fun x => env (lIx x)) st p n s = s1 at m1 m2 m3
  have e1 : pp1 s1 = E env := by unfold pp1; rw [m1, if_pos (by omega), Nat.add_sub_cancel]; exact m2
  have e2 : pp2 s1 = (s.1, s1.2) := by unfold pp2; rw [m1, if_pos (by omega), Nat.add_sub_cancel]
  unfold cst
  rw [if_pos (by decide), if_pos rfl, e1, e2]
  have f := psh_f (x := -(E env)) (s := (s.1, s1.2)) (show s.1 < 40 by omega)
  exact ⟨f.1, f.2.1, fun i hi => (f.2.2 i hi).trans (m3 i hi)⟩
theorem Mn.bin {st : Nat → Int32} {p a b : Nat} {E F : RE} {o : Int32} (m : Mn st p a E) (n : Mn st (p + a) b F) (h : st (p + a + b) = -o) (h0 : -o < 0) (h1 : ¬ -o = -126) (h2 : ¬ isOp (- -o) = 0) : Mn st p (a + b + 1) (fun env => jnd (- -o) (E env) (F env)) := fun env s hs => by
  obtain ⟨m1, m2, m3⟩ := m env s (by omega)
  rw [seg, seg_add, show p + (a + b) = p + a + b by omega, h]
  generalize seg (fun x => env (lIx x)) st p a s = s1 at m1 m2 m3
  obtain ⟨n1, n2, n3⟩ := n env s1 (by omega)
  generalize seg (fun x => env (lIx x)) st (p + a) b s1 = s2 at n1 n2 n3
  have e1 : pp1 s2 = F env := by unfold pp1; rw [n1, if_pos (by omega), Nat.add_sub_cancel]; exact n2
  have e2 : pp2 s2 = (s1.1, s2.2) := by unfold pp2; rw [n1, if_pos (by omega), Nat.add_sub_cancel]
  have e3 : pp1 (s1.1, s2.2) = E env := by
    unfold pp1
    show (if 0 < s1.1 then s2.2 (s1.1 - 1) else 0) = _
    rw [m1, if_pos (by omega), Nat.add_sub_cancel, n3 s.1 (by omega)]; exact m2
  have e4 : pp2 (s1.1, s2.2) = (s.1, s2.2) := by
    unfold pp2
    show (if 0 < s1.1 then (s1.1 - 1, s2.2) else (s1.1, s2.2)) = _
    rw [m1, if_pos (by omega), Nat.add_sub_cancel]
  unfold cst
  rw [if_pos h0, if_neg h1, if_neg h2, e1, e2, e3, e4]
  have f := psh_f (x := jnd (- -o) (E env) (F env)) (s := (s.1, s2.2)) (show s.1 < 40 by omega)
  exact ⟨f.1, f.2.1, fun i hi => (f.2.2 i hi).trans ((n3 i (by omega)).trans (m3 i hi))⟩
