section INIT
variable {h h1 : Hp} {a : Nat}
/-- a new row, and where it is known -/
def NW (h : Hp) (a k : Nat) (t : Nat × Nat) (h1 : Hp) : Prop := hpN h1 = hpN h + 1 ∧ hpR h1 a k = hpN h + 1 ∧ hpT h1 (hpN h + 1) = t ∧ (∀ q, hpI h1 (hpN h + 1) q = 0) ∧ ∀ x, x ≤ hpN h → (∀ q, hpI h1 x q = hpI h x q) ∧ (∀ q, hpL h1 x q = hpL h x q) ∧ (∀ q, (x = a → q ≠ k) → hpR h1 x q = hpR h x q) ∧ hpT h1 x = hpT h x
theorem nw_of {k : Nat} {t : Nat × Nat} (ha : a ≤ hpN h) : NW h a k t (upR (hpNew h t) a k (hpN h + 1)) := by
  refine ⟨rfl, ?_, ?_, fun q => ?_, fun x hx => ⟨fun q => ?_, fun q => ?_, fun q hq => ?_, ?_⟩⟩
  · simp [hpR, upR, up2]
  · simp [hpT, upR, hpNew]
  · simp [hpI, upR, hpNew]
  · simp only [hpI, upR, hpNew]; rw [if_neg (by omega)]
  · simp only [hpL, upR, hpNew]; rw [if_neg (by omega)]
  · simp only [hpR, upR, hpNew, up2]; rw [if_neg (fun z => hq z.1 z.2), if_neg (by omega)]
  · simp only [hpT, upR, hpNew]; rw [if_neg (by omega)]
theorem ok_nw {β : Type} {k : Nat} {t : Nat × Nat} {K : Hp → Option β} {Q : β → Prop} (ha : a ≤ hpN h) (hk : ∀ h1, NW h a k t h1 → Ok (K h1) Q) : Ok (lt (hpN h + 1) fun a1 => lt (hpNew h t) fun h2 => lt (upR h2 a k a1) fun h3 => K h3) Q := ok_lt (fun a1 e1 => ok_lt (fun h2 e2 => ok_lt (fun h3 e3 => hk h3 (by rw [e3, e2, e1]; exact nw_of ha))))
/-- a new object, not yet built -/
def Frs (h : Hp) (a : Nat) (t : Nat × Nat) : Prop := 1 ≤ a ∧ hpN h = a ∧ hpT h a = t ∧ ∀ q, hpI h a q = 0
theorem Ag.nw {k : Nat} {t : Nat × Nat} (n : NW h a k t h1) (ha : a ≤ hpN h) (h1' : 1 ≤ a) : Ag h h1 0 (a - 1) := fun x _ hx => by
  have := n.2.2.2.2 x (by omega)
  exact ⟨this.1, this.2.1, fun q => this.2.2.1 q (fun z => by omega), this.2.2.2⟩
theorem b_X6 (f : Frs h a (1, 6)) : Ok (f_X6_init h a) (fun h1 => atX h1 a [] ∧ hpN h1 = a + 1 ∧ Ag h h1 0 (a - 1)) := by
  obtain ⟨f1, f2, f3, f4⟩ := f
  rw [f_X6_init]
  refine ok_nw (by omega) (fun h1 n => ok_some ⟨?_, by rw [n.1, f2], Ag.nw n (by omega) f1⟩)
  obtain ⟨n1, n2, n3, n4, n5⟩ := n
  rw [f2] at n2 n3
  exact ⟨by rw [(n5 a (by omega)).2.2.2]; exact f3, n2, n3, by rw [(n5 a (by omega)).1]; exact f4 1, by simp, fun i hi => absurd hi (by simp)⟩
theorem b_X7 (f : Frs h a (1, 7)) : Ok (f_X7_init h a) (fun h1 => atT h1 a [] ∧ hpN h1 = a + 1 ∧ Ag h h1 0 (a - 1)) := by
  obtain ⟨f1, f2, f3, f4⟩ := f
  rw [f_X7_init]
  refine ok_nw (by omega) (fun h1 n => ok_some ⟨?_, by rw [n.1, f2], Ag.nw n (by omega) f1⟩)
  obtain ⟨n1, n2, n3, n4, n5⟩ := n
  rw [f2] at n2 n3
  exact ⟨by rw [(n5 a (by omega)).2.2.2]; exact f3, n2, n3, by rw [(n5 a (by omega)).1]; exact f4 1, by simp, fun i hi => absurd hi (by simp)⟩
/-- j rows of an object: the slots from s on, their kinds T -/
def Rws (h0 h : Hp) (a s : Nat) (T : Nat → Nat × Nat) (t : Nat × Nat) (I : Nat → Int32) (j : Nat) : Prop := hpN h = a + j ∧ hpT h a = t ∧ (∀ q, hpI h a q = I q) ∧ (∀ i, i < j → hpR h a (s + i) = a + 1 + i ∧ hpT h (a + 1 + i) = T i ∧ ∀ q, hpI h (a + 1 + i) q = 0) ∧ Ag h0 h 0 (a - 1)
theorem Rws.nx {h0 : Hp} {s j : Nat} {T : Nat → Nat × Nat} {t : Nat × Nat} {I : Nat → Int32} (r : Rws h0 h a s T t I j) (h1' : 1 ≤ a) (n : NW h a (s + j) (T j) h1) : Rws h0 h1 a s T t I (j + 1) := by
  obtain ⟨r1, r2, r3, r4, r5⟩ := r
  have ag := Ag.nw n (by omega) h1'
  obtain ⟨n1, n2, n3, n4, n5⟩ := n
  refine ⟨by omega, by rw [(n5 a (by omega)).2.2.2]; exact r2, fun q => by rw [(n5 a (by omega)).1]; exact r3 q, fun i hi => ?_, fun x y1 y2 => ?_⟩
  · by_cases w : i = j
    · subst w
      rw [r1] at n2 n3 n4
      rw [show a + 1 + i = a + i + 1 by omega]
      exact ⟨n2, n3, n4⟩
    · have p := r4 i (by omega)
      exact ⟨by rw [(n5 a (by omega)).2.2.1 _ (fun _ => by omega)]; exact p.1, by rw [(n5 _ (by omega)).2.2.2]; exact p.2.1, fun q => by rw [(n5 _ (by omega)).1]; exact p.2.2 q⟩
  · have p := r5 x y1 y2
    have p2 := ag x y1 y2
    exact ⟨fun k => (p2.1 k).trans (p.1 k), fun k => (p2.2.1 k).trans (p.2.1 k), fun k => (p2.2.2.1 k).trans (p.2.2.1 k), p2.2.2.2.trans p.2.2.2⟩
theorem Rws.z {s : Nat} {T : Nat → Nat × Nat} {t : Nat × Nat} (f : Frs h a t) : Rws h h a s T t (fun _ => 0) 0 := ⟨f.2.1, f.2.2.1, f.2.2.2, fun i hi => by omega, fun x _ _ => ⟨fun _ => rfl, fun _ => rfl, fun _ => rfl, rfl⟩⟩
/-- the first field -/
def S40 : Fld := (fun k => if k < 2 then 4 else 0, fun _ _ => 0)
theorem b_X0 (f : Frs h a (1, 0)) : Ok (f_X0_init h a) (fun h1 => atC h1 a S40 ∧ hpN h1 = a + 7 ∧ Ag h h1 0 (a - 1)) := by
  have f1 := f.1
  rw [f_X0_init]
  refine ok_lt (fun h1 e1 => ok_lt (fun h2 e2 => ?_))
  have r0 : Rws h h2 a 5 (fun _ => (2, 8)) (1, 0) (fun q => if q < 2 then 4 else 0) 0 := by
    refine ⟨by rw [e2, e1]; exact f.2.1, by rw [e2, e1]; exact f.2.2.1, fun q => ?_, fun i hi => by omega, fun x _ hx => ⟨fun k => ?_, fun k => by rw [e2, e1]; rfl, fun k => by rw [e2, e1]; rfl, by rw [e2, e1]; rfl⟩⟩
    · rw [e2, e1, hpI_upI, hpI_upI, f.2.2.2]
      rcases (show q = 0 ∨ q = 1 ∨ 2 ≤ q by omega) with rfl | rfl | w
      · simp
      · simp
      · rw [if_neg (by omega), if_neg (by omega)]
        show 0 = if q < 2 then (4 : Int32) else 0
        rw [if_neg (by omega)]
    · rw [e2, e1, hpI_upI, hpI_upI, if_neg (by omega), if_neg (by omega)]
  clear e1 e2
  refine ok_nw (by rw [r0.1]; omega) (fun h5 n => ?_)
  have r1 := r0.nx f1 n
  clear r0 n
  refine ok_nw (by rw [r1.1]; omega) (fun h8 n => ?_)
  have r2 := r1.nx f1 n
  clear r1 n
  refine ok_nw (by rw [r2.1]; omega) (fun h11 n => ?_)
  have r3 := r2.nx f1 n
  clear r2 n
  refine ok_nw (by rw [r3.1]; omega) (fun h14 n => ?_)
  have r4 := r3.nx f1 n
  clear r3 n
  refine ok_nw (by rw [r4.1]; omega) (fun h17 n => ?_)
  have r5 := r4.nx f1 n
  clear r4 n
  refine ok_nw (by rw [r5.1]; omega) (fun h20 n => ?_)
  have r6 := r5.nx f1 n
  clear r5 n
  refine ok_nw (by rw [r6.1]; omega) (fun h23 n => ?_)
  have r7 := r6.nx f1 n
  clear r6 n
  obtain ⟨q1, q2, q3, q4, q5⟩ := r7
  refine ok_some ⟨⟨⟨q2, fun j hj => ⟨(q4 j (by omega)).1, (q4 j (by omega)).2.1⟩⟩, fun k hk => ?_, fun j i hj hi => ?_⟩, q1, q5⟩
  · rw [q3]
    show (if k < 2 then (4 : Int32) else 0) = nI (if k < 2 then 4 else 0)
    split <;> rfl
  · exact (q4 j (by omega)).2.2 i
theorem b_X2a (f : Frs h a (1, 2)) : Ok (f_X2_init_10 h a) (fun h1 => atN h1 a 10 [] ∧ hpN h1 = a + 3 ∧ Ag h h1 0 (a - 1)) := by
  have f1 := f.1
  rw [f_X2_init_10]
  have r0 : Rws h h a 0 (fun _ => (2, 10)) (1, 2) (fun _ => 0) 0 := Rws.z f
  refine ok_nw (by rw [r0.1]; omega) (fun g0 n => ?_)
  have r1 := r0.nx f1 n
  clear r0 n
  refine ok_nw (by rw [r1.1]; omega) (fun g1 n => ?_)
  have r2 := r1.nx f1 n
  clear r1 n
  refine ok_nw (by rw [r2.1]; omega) (fun g2 n => ?_)
  have r3 := r2.nx f1 n
  clear r2 n
  obtain ⟨q1, q2, q3, q4, q5⟩ := r3
  refine ok_some ⟨⟨q2, fun j hj => ⟨by have := (q4 j hj).1; rw [Nat.zero_add] at this; exact this, (q4 j hj).2.1⟩, q3 3, by simp, by omega, fun i hi => absurd hi (by simp)⟩, q1, q5⟩
theorem b_X2b (f : Frs h a (1, 2)) : Ok (f_X2_init_12 h a) (fun h1 => atN h1 a 12 [] ∧ hpN h1 = a + 3 ∧ Ag h h1 0 (a - 1)) := by
  have f1 := f.1
  rw [f_X2_init_12]
  have r0 : Rws h h a 0 (fun _ => (2, 12)) (1, 2) (fun _ => 0) 0 := Rws.z f
  refine ok_nw (by rw [r0.1]; omega) (fun g0 n => ?_)
  have r1 := r0.nx f1 n
  clear r0 n
  refine ok_nw (by rw [r1.1]; omega) (fun g1 n => ?_)
  have r2 := r1.nx f1 n
  clear r1 n
  refine ok_nw (by rw [r2.1]; omega) (fun g2 n => ?_)
  have r3 := r2.nx f1 n
  clear r2 n
  obtain ⟨q1, q2, q3, q4, q5⟩ := r3
  refine ok_some ⟨⟨q2, fun j hj => ⟨by have := (q4 j hj).1; rw [Nat.zero_add] at this; exact this, (q4 j hj).2.1⟩, q3 3, by simp, by omega, fun i hi => absurd hi (by simp)⟩, q1, q5⟩
theorem b_X4 (f : Frs h a (1, 4)) : Ok (f_X4_init h a) (fun h1 => shR h1 a ∧ hpN h1 = a + 3 ∧ Ag h h1 0 (a - 1)) := by
  have f1 := f.1
  rw [f_X4_init]
  have r0 : Rws h h a 0 (fun i => if i < 2 then (2, 40) else (2, 8)) (1, 4) (fun _ => 0) 0 := Rws.z f
  refine ok_nw (by rw [r0.1]; omega) (fun g0 n => ?_)
  have r1 := r0.nx f1 n
  clear r0 n
  refine ok_nw (by rw [r1.1]; omega) (fun g1 n => ?_)
  have r2 := r1.nx f1 n
  clear r1 n
  refine ok_nw (by rw [r2.1]; omega) (fun g2 n => ?_)
  have r3 := r2.nx f1 n
  clear r2 n
  obtain ⟨q1, q2, q3, q4, q5⟩ := r3
  refine ok_some ⟨⟨q2, (q4 0 (by omega)).1, (q4 1 (by omega)).1, (q4 2 (by omega)).1, (q4 0 (by omega)).2.1, (q4 1 (by omega)).2.1, (q4 2 (by omega)).2.1⟩, q1, q5⟩
def tX8 (i : Nat) : Nat × Nat := if i = 0 then (2, 9216) else if i = 1 then (3, 256) else (2, 36)
theorem b_X8 (f : Frs h a (1, 8)) : Ok (f_X8_init h a) (fun h1 => (hpT h1 a = (1, 8) ∧ ∀ j, j < 5 → hpR h1 a j = a + 1 + j ∧ hpT h1 (a + 1 + j) = tX8 j) ∧ hpN h1 = a + 5 ∧ Ag h h1 0 (a - 1)) := by
  have f1 := f.1
  rw [f_X8_init]
  have r0 : Rws h h a 0 tX8 (1, 8) (fun _ => 0) 0 := Rws.z f
  refine ok_nw (by rw [r0.1]; omega) (fun g0 n => ?_)
  have r1 := r0.nx f1 n
  clear r0 n
  refine ok_nw (by rw [r1.1]; omega) (fun g1 n => ?_)
  have r2 := r1.nx f1 n
  clear r1 n
  refine ok_nw (by rw [r2.1]; omega) (fun g2 n => ?_)
  have r3 := r2.nx f1 n
  clear r2 n
  refine ok_nw (by rw [r3.1]; omega) (fun g3 n => ?_)
  have r4 := r3.nx f1 n
  clear r3 n
  refine ok_nw (by rw [r4.1]; omega) (fun g4 n => ?_)
  have r5 := r4.nx f1 n
  clear r4 n
  obtain ⟨q1, q2, q3, q4, q5⟩ := r5
  refine ok_some ⟨⟨q2, fun j hj => ⟨by have := (q4 j hj).1; rw [Nat.zero_add] at this; exact this, (q4 j hj).2.1⟩⟩, q1, q5⟩
end INIT
