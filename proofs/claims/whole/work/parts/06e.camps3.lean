/-- it answers, and what holds of the answer -/
def Ok {α : Type} (x : Option α) (Q : α → Prop) : Prop := ∃ o, x = some o ∧ Q o
theorem ok_some {α : Type} {o : α} {Q : α → Prop} (h : Q o) : Ok (some o) Q := ⟨o, rfl, h⟩
theorem ok_lt {α β : Type} {x : α} {f : α → Option β} {Q : β → Prop} (k : ∀ y, y = x → Ok (f y) Q) : Ok (lt x f) Q := k x rfl
theorem ok_gd {α : Type} {c : Bool} {x : Option α} {Q : α → Prop} (hc : c = true) (k : Ok x Q) : Ok (gd c x) Q := by rw [gd_t hc]; exact k
theorem ok_bd {α β : Type} {x : Option α} {f : α → Option β} {P : α → Prop} {Q : β → Prop} (hx : Ok x P) (k : ∀ o, P o → Ok (f o) Q) : Ok (x.bind f) Q := by
  obtain ⟨o, e, hp⟩ := hx
  rw [e]
  exact k o hp
theorem ok_be {α β : Type} {x : Option α} {f : α → Option β} {v : α} {Q : β → Prop} (e : x = some v) (k : Ok (f v) Q) : Ok (x.bind f) Q := by rw [e]; exact k
theorem ok_if {α : Type} {c : Prop} [Decidable c] {x y : Option α} {Q : α → Prop} (h1 : c → Ok x Q) (h2 : ¬ c → Ok y Q) : Ok (if c then x else y) Q := by
  by_cases hc : c
  · rw [if_pos hc]; exact h1 hc
  · rw [if_neg hc]; exact h2 hc
theorem ok_t {α : Type} {c : Prop} [Decidable c] {x y : Option α} {Q : α → Prop} (hc : c) (h1 : Ok x Q) : Ok (if c then x else y) Q := by rw [if_pos hc]; exact h1
theorem ok_f {α : Type} {c : Prop} [Decidable c] {x y : Option α} {Q : α → Prop} (hc : ¬ c) (h1 : Ok y Q) : Ok (if c then x else y) Q := by rw [if_neg hc]; exact h1
theorem ok_mono {α : Type} {x : Option α} {P Q : α → Prop} (h : Ok x P) (k : ∀ o, P o → Q o) : Ok x Q := by
  obtain ⟨o, e, hp⟩ := h
  exact ⟨o, e, k o hp⟩
def setQ (S : Fld) (k v : Nat) : Fld := (fun x => if x = k then v else S.1 x, S.2)
def setF (S : Fld) (j i v : Nat) : Fld := (S.1, fun x y => if x = j ∧ y = i then v else S.2 x y)
/-- the cells of a Camps -/
def FC (a x : Nat) : Prop := a ≤ x ∧ x ≤ a + 7
section CAMPS3
variable {h : Hp} {a : Nat} {S : Fld}
theorem atC.ext {S1 : Fld} (c : atC h a S) (h1 : ∀ k, k < 5 → S.1 k = S1.1 k) (h2 : ∀ j i, j < 7 → i < 8 → S.2 j i = S1.2 j i) : atC h a S1 := ⟨c.1, fun k hk => by rw [← h1 k hk]; exact c.2.1 k hk, fun j i hj hi => by rw [← h2 j i hj hi]; exact c.2.2 j i hj hi⟩
theorem atC.wq (c : atC h a S) {k v : Nat} : atC (upI h a k (nI v)) a (setQ S k v) := by
  refine ⟨c.1, fun j hj => ?_, fun j i hj hi => ?_⟩
  · rw [hpI_upI, setQ]
    by_cases e : j = k
    · subst e; simp
    · simp [e]; exact c.2.1 j hj
  · rw [hpI_upI, if_neg (by omega)]
    exact c.2.2 j i hj hi
theorem atC.wf (c : atC h a S) {j i v : Nat} : atC (upI h (a + 1 + j) i (nI v)) a (setF S j i v) := by
  refine ⟨c.1, fun k hk => ?_, fun j2 i2 hj hi => ?_⟩
  · rw [hpI_upI, if_neg (by omega)]
    exact c.2.1 k hk
  · rw [hpI_upI, setF]
    by_cases e : j2 = j ∧ i2 = i
    · obtain ⟨rfl, rfl⟩ := e; simp
    · rw [if_neg (fun q => e ⟨by omega, q.2⟩)]
      simp only [e, if_false]
      exact c.2.2 j2 i2 hj hi
theorem atC.w0 (c : atC h a S) {i v : Nat} : atC (upI h (a + 1) i (nI v)) a (setF S 0 i v) := c.wf (j := 0)
theorem atC.w1 (c : atC h a S) {i v : Nat} : atC (upI h (a + 2) i (nI v)) a (setF S 1 i v) := c.wf (j := 1)
theorem atC.w2 (c : atC h a S) {i v : Nat} : atC (upI h (a + 3) i (nI v)) a (setF S 2 i v) := c.wf (j := 2)
theorem atC.w3 (c : atC h a S) {i v : Nat} : atC (upI h (a + 4) i (nI v)) a (setF S 3 i v) := c.wf (j := 3)
theorem atC.w4 (c : atC h a S) {i v : Nat} : atC (upI h (a + 5) i (nI v)) a (setF S 4 i v) := c.wf (j := 4)
theorem atC.w5 (c : atC h a S) {i v : Nat} : atC (upI h (a + 6) i (nI v)) a (setF S 5 i v) := c.wf (j := 5)
theorem atC.w6 (c : atC h a S) {i v : Nat} : atC (upI h (a + 7) i (nI v)) a (setF S 6 i v) := c.wf (j := 6)
theorem eoC {k i : Nat} {v : Int32} (hk : k ≤ 7) : EqOff (FC a) h (upI h (a + k) i v) := EqOff.uI ⟨by omega, by omega⟩
theorem eoC0 {i : Nat} {v : Int32} : EqOff (FC a) h (upI h a i v) := EqOff.uI ⟨by omega, by omega⟩
theorem p_layOut (c : atC h a S) {r k : Nat} : Ok (f_X0_layOut h a (nI r) (nI k)) (fun h1 => atC h1 a (setQ (setQ (setQ (setQ (setQ S 0 r) 1 k) 2 0) 3 0) 4 0) ∧ EqOff (FC a) h h1) :=
  ⟨_, rfl, ((((c.wq (k := 0) (v := r)).wq (k := 1) (v := k)).wq (k := 2) (v := 0)).wq (k := 3) (v := 0)).wq (k := 4) (v := 0), eoC0.tr (eoC0.tr (eoC0.tr (eoC0.tr eoC0)))⟩
theorem cpok_8 : cpok (0 : Int32) (0 : Int32) (8 : Int32) 8 8 = true := by decide
theorem ix_0 : ix (0 : Int32) = 0 := by decide
theorem ix_8 : ix (8 : Int32) = 8 := by decide
/-- while a copy goes on: q numbers and j rows have come -/
def Pcp (h : Hp) (a : Nat) (S : Fld) (h1 : Hp) (q j : Nat) : Prop := EqOff (FC a) h h1 ∧ hpR h1 = hpR h ∧ (∀ k, k < q → hpI h1 a k = nI (S.1 k)) ∧ ∀ j2 i, j2 < j → i < 8 → hpI h1 (a + 1 + j2) i = nI (S.2 j2 i)
theorem cpQ {b : Nat} {h1 h2 : Hp} {q : Nat} (cb : atC h b S) (hd : a + 7 < b ∨ b + 7 < a) (p : Pcp h a S h1 q 0) (hq : q < 5) (e : h2 = upI h1 a q (hpI h1 b q)) : Pcp h a S h2 (q + 1) 0 := by
  subst e
  obtain ⟨p1, p2, p3, p4⟩ := p
  have hv : hpI h1 b q = nI (S.1 q) := by rw [p1.1 b q (fun z => by unfold FC at z; omega)]; exact cb.2.1 q hq
  refine ⟨p1.tr eoC0, p2, fun k hk => ?_, fun j2 i h3 _ => by omega⟩
  rw [hpI_upI]
  by_cases e : k = q
  · subst e; simp [hv]
  · simp [e]; exact p3 k (by omega)
theorem cpF {b : Nat} {h1 h2 : Hp} {j : Nat} (cb : atC h b S) (hd : a + 7 < b ∨ b + 7 < a) (p : Pcp h a S h1 5 j) (hj : j < 7) (e : h2 = cpI h1 (b + 1 + j) (ix (0 : Int32)) (a + 1 + j) (ix (0 : Int32)) (ix (8 : Int32))) : Pcp h a S h2 5 (j + 1) := by
  subst e
  obtain ⟨p1, p2, p3, p4⟩ := p
  rw [ix_0, ix_8]
  refine ⟨p1.tr (EqOff.cp ⟨by omega, by omega⟩), p2, fun k hk => ?_, fun j2 i h3 hi => ?_⟩
  · rw [hpI_cpI, if_neg (by omega)]; exact p3 k hk
  · rw [hpI_cpI]
    by_cases e : j2 = j
    · subst e
      rw [if_pos (by omega), p1.1 _ _ (fun z => by unfold FC at z; omega), show 0 + (i - 0) = i by omega]
      exact cb.2.2 j2 i hj hi
    · rw [if_neg (by omega)]; exact p4 j2 i (by omega) hi
theorem cpG {b : Nat} {h1 : Hp} {j : Nat} (ca : shC h a) (cb : atC h b S) (p : Pcp h a S h1 5 j) (hj : j < 7) : hpR h1 b (5 + j) = b + 1 + j ∧ hpR h1 a (5 + j) = a + 1 + j ∧ hpT h1 (b + 1 + j) = (2, 8) ∧ hpT h1 (a + 1 + j) = (2, 8) := by
  obtain ⟨p1, p2, -⟩ := p
  rw [p2, p1.2.2.2.1]
  exact ⟨(cb.1.2 j hj).1, (ca.2 j hj).1, (cb.1.2 j hj).2, (ca.2 j hj).2⟩
theorem ok_cp {b : Nat} {h1 : Hp} {j : Nat} {k : Hp → Option Hp} {Q : Hp → Prop} (ca : shC h a) (cb : atC h b S) (hd : a + 7 < b ∨ b + 7 < a) (p : Pcp h a S h1 5 j) (hj : j < 7) (kk : ∀ h2, Pcp h a S h2 5 (j + 1) → Ok (k h2) Q) : Ok (gd (nz (hpR h1 b (5 + j))) <| gd (nz (hpR h1 a (5 + j))) <| gd (cpok (0 : Int32) (0 : Int32) (8 : Int32) (hpT h1 (hpR h1 b (5 + j))).2 (hpT h1 (hpR h1 a (5 + j))).2) <| lt (cpI h1 (hpR h1 b (5 + j)) (ix (0 : Int32)) (hpR h1 a (5 + j)) (ix (0 : Int32)) (ix (8 : Int32))) k) Q := by
  obtain ⟨g1, g2, g3, g4⟩ := cpG ca cb p hj
  rw [g1, g2, g3, g4]
  refine ok_gd (nz_t (by omega)) (ok_gd (nz_t (by omega)) (ok_gd cpok_8 (ok_lt (fun h2 e => kk h2 (cpF cb hd p hj e)))))
theorem p_copy {b : Nat} (ca : shC h a) (cb : atC h b S) (hd : a + 7 < b ∨ b + 7 < a) : Ok (f_X0_copy h a b) (fun h1 => atC h1 a S ∧ EqOff (FC a) h h1) := by
  rw [f_X0_copy]
  have p0 : Pcp h a S h 0 0 := ⟨EqOff.rf, rfl, fun k hk => by omega, fun j i hj _ => by omega⟩
  refine ok_lt (fun h1 e1 => ?_)
  have p1 := cpQ cb hd p0 (by omega) e1
  refine ok_lt (fun h2 e2 => ?_)
  have p2 := cpQ cb hd p1 (by omega) e2
  refine ok_lt (fun h3 e3 => ?_)
  have p3 := cpQ cb hd p2 (by omega) e3
  refine ok_lt (fun h4 e4 => ?_)
  have p4 := cpQ cb hd p3 (by omega) e4
  refine ok_lt (fun h5 e5 => ?_)
  have p5 := cpQ cb hd p4 (by omega) e5
  refine ok_cp (j := 0) ca cb hd p5 (by omega) (fun h11 p => ?_)
  refine ok_cp (j := 1) ca cb hd p (by omega) (fun h17 p => ?_)
  refine ok_cp (j := 2) ca cb hd p (by omega) (fun h23 p => ?_)
  refine ok_cp (j := 3) ca cb hd p (by omega) (fun h29 p => ?_)
  refine ok_cp (j := 4) ca cb hd p (by omega) (fun h35 p => ?_)
  refine ok_cp (j := 5) ca cb hd p (by omega) (fun h41 p => ?_)
  refine ok_cp (j := 6) ca cb hd p (by omega) (fun h47 p => ?_)
  exact ok_some ⟨⟨⟨by rw [p.1.2.2.2.1]; exact ca.1, fun j hj => by rw [p.2.1, p.1.2.2.2.1]; exact ca.2 j hj⟩, p.2.2.1, fun j i hj hi => p.2.2.2 j i (by omega) hi⟩, p.1⟩
end CAMPS3
