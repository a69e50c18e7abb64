/-! The reference: its object at m, its rows behind it -/
def mFl : List (Nat × Nat × Nat × Nat) := [(2, 1, 3, 160), (6, 2, 2, 51), (7, 3, 2, 51), (8, 4, 2, 80), (13, 5, 2, 48), (15, 6, 2, 80), (16, 7, 2, 80), (19, 8, 2, 80), (20, 9, 2, 8), (23, 10, 2, 816), (24, 11, 2, 8), (26, 12, 2, 60), (27, 13, 2, 360), (29, 14, 2, 9216), (30, 15, 2, 36), (32, 16, 2, 10), (33, 17, 2, 10), (34, 18, 2, 10), (35, 19, 2, 496), (37, 20, 2, 12), (38, 21, 2, 12), (39, 22, 2, 41), (40, 23, 4, 64), (41, 24, 2, 80), (43, 25, 4, 3), (44, 26, 2, 3), (45, 27, 2, 153)]
def shM (h : Hp) (m : Nat) : Prop := hpT h m = (1, 10) ∧ ∀ x, x ∈ mFl → hpR h m x.1 = m + x.2.1 ∧ hpT h (m + x.2.1) = x.2.2
theorem shM.r2 {h : Hp} {m : Nat} (s : shM h m) : hpR h m 2 = m + 1 := (s.2 (2, 1, 3, 160) (by decide)).1
theorem shM.t1 {h : Hp} {m : Nat} (s : shM h m) : hpT h (m + 1) = (3, 160) := (s.2 (2, 1, 3, 160) (by decide)).2
theorem shM.r6 {h : Hp} {m : Nat} (s : shM h m) : hpR h m 6 = m + 2 := (s.2 (6, 2, 2, 51) (by decide)).1
theorem shM.t2 {h : Hp} {m : Nat} (s : shM h m) : hpT h (m + 2) = (2, 51) := (s.2 (6, 2, 2, 51) (by decide)).2
theorem shM.r7 {h : Hp} {m : Nat} (s : shM h m) : hpR h m 7 = m + 3 := (s.2 (7, 3, 2, 51) (by decide)).1
theorem shM.t3 {h : Hp} {m : Nat} (s : shM h m) : hpT h (m + 3) = (2, 51) := (s.2 (7, 3, 2, 51) (by decide)).2
theorem shM.r8 {h : Hp} {m : Nat} (s : shM h m) : hpR h m 8 = m + 4 := (s.2 (8, 4, 2, 80) (by decide)).1
theorem shM.t4 {h : Hp} {m : Nat} (s : shM h m) : hpT h (m + 4) = (2, 80) := (s.2 (8, 4, 2, 80) (by decide)).2
theorem shM.r13 {h : Hp} {m : Nat} (s : shM h m) : hpR h m 13 = m + 5 := (s.2 (13, 5, 2, 48) (by decide)).1
theorem shM.t5 {h : Hp} {m : Nat} (s : shM h m) : hpT h (m + 5) = (2, 48) := (s.2 (13, 5, 2, 48) (by decide)).2
theorem shM.r15 {h : Hp} {m : Nat} (s : shM h m) : hpR h m 15 = m + 6 := (s.2 (15, 6, 2, 80) (by decide)).1
theorem shM.t6 {h : Hp} {m : Nat} (s : shM h m) : hpT h (m + 6) = (2, 80) := (s.2 (15, 6, 2, 80) (by decide)).2
theorem shM.r16 {h : Hp} {m : Nat} (s : shM h m) : hpR h m 16 = m + 7 := (s.2 (16, 7, 2, 80) (by decide)).1
theorem shM.t7 {h : Hp} {m : Nat} (s : shM h m) : hpT h (m + 7) = (2, 80) := (s.2 (16, 7, 2, 80) (by decide)).2
theorem shM.r19 {h : Hp} {m : Nat} (s : shM h m) : hpR h m 19 = m + 8 := (s.2 (19, 8, 2, 80) (by decide)).1
theorem shM.t8 {h : Hp} {m : Nat} (s : shM h m) : hpT h (m + 8) = (2, 80) := (s.2 (19, 8, 2, 80) (by decide)).2
theorem shM.r20 {h : Hp} {m : Nat} (s : shM h m) : hpR h m 20 = m + 9 := (s.2 (20, 9, 2, 8) (by decide)).1
theorem shM.t9 {h : Hp} {m : Nat} (s : shM h m) : hpT h (m + 9) = (2, 8) := (s.2 (20, 9, 2, 8) (by decide)).2
theorem shM.r23 {h : Hp} {m : Nat} (s : shM h m) : hpR h m 23 = m + 10 := (s.2 (23, 10, 2, 816) (by decide)).1
theorem shM.t10 {h : Hp} {m : Nat} (s : shM h m) : hpT h (m + 10) = (2, 816) := (s.2 (23, 10, 2, 816) (by decide)).2
theorem shM.r24 {h : Hp} {m : Nat} (s : shM h m) : hpR h m 24 = m + 11 := (s.2 (24, 11, 2, 8) (by decide)).1
theorem shM.t11 {h : Hp} {m : Nat} (s : shM h m) : hpT h (m + 11) = (2, 8) := (s.2 (24, 11, 2, 8) (by decide)).2
theorem shM.r26 {h : Hp} {m : Nat} (s : shM h m) : hpR h m 26 = m + 12 := (s.2 (26, 12, 2, 60) (by decide)).1
theorem shM.t12 {h : Hp} {m : Nat} (s : shM h m) : hpT h (m + 12) = (2, 60) := (s.2 (26, 12, 2, 60) (by decide)).2
theorem shM.r27 {h : Hp} {m : Nat} (s : shM h m) : hpR h m 27 = m + 13 := (s.2 (27, 13, 2, 360) (by decide)).1
theorem shM.t13 {h : Hp} {m : Nat} (s : shM h m) : hpT h (m + 13) = (2, 360) := (s.2 (27, 13, 2, 360) (by decide)).2
theorem shM.r29 {h : Hp} {m : Nat} (s : shM h m) : hpR h m 29 = m + 14 := (s.2 (29, 14, 2, 9216) (by decide)).1
theorem shM.t14 {h : Hp} {m : Nat} (s : shM h m) : hpT h (m + 14) = (2, 9216) := (s.2 (29, 14, 2, 9216) (by decide)).2
theorem shM.r30 {h : Hp} {m : Nat} (s : shM h m) : hpR h m 30 = m + 15 := (s.2 (30, 15, 2, 36) (by decide)).1
theorem shM.t15 {h : Hp} {m : Nat} (s : shM h m) : hpT h (m + 15) = (2, 36) := (s.2 (30, 15, 2, 36) (by decide)).2
theorem shM.r32 {h : Hp} {m : Nat} (s : shM h m) : hpR h m 32 = m + 16 := (s.2 (32, 16, 2, 10) (by decide)).1
theorem shM.t16 {h : Hp} {m : Nat} (s : shM h m) : hpT h (m + 16) = (2, 10) := (s.2 (32, 16, 2, 10) (by decide)).2
theorem shM.r33 {h : Hp} {m : Nat} (s : shM h m) : hpR h m 33 = m + 17 := (s.2 (33, 17, 2, 10) (by decide)).1
theorem shM.t17 {h : Hp} {m : Nat} (s : shM h m) : hpT h (m + 17) = (2, 10) := (s.2 (33, 17, 2, 10) (by decide)).2
theorem shM.r34 {h : Hp} {m : Nat} (s : shM h m) : hpR h m 34 = m + 18 := (s.2 (34, 18, 2, 10) (by decide)).1
theorem shM.t18 {h : Hp} {m : Nat} (s : shM h m) : hpT h (m + 18) = (2, 10) := (s.2 (34, 18, 2, 10) (by decide)).2
theorem shM.r35 {h : Hp} {m : Nat} (s : shM h m) : hpR h m 35 = m + 19 := (s.2 (35, 19, 2, 496) (by decide)).1
theorem shM.t19 {h : Hp} {m : Nat} (s : shM h m) : hpT h (m + 19) = (2, 496) := (s.2 (35, 19, 2, 496) (by decide)).2
theorem shM.r37 {h : Hp} {m : Nat} (s : shM h m) : hpR h m 37 = m + 20 := (s.2 (37, 20, 2, 12) (by decide)).1
theorem shM.t20 {h : Hp} {m : Nat} (s : shM h m) : hpT h (m + 20) = (2, 12) := (s.2 (37, 20, 2, 12) (by decide)).2
theorem shM.r38 {h : Hp} {m : Nat} (s : shM h m) : hpR h m 38 = m + 21 := (s.2 (38, 21, 2, 12) (by decide)).1
theorem shM.t21 {h : Hp} {m : Nat} (s : shM h m) : hpT h (m + 21) = (2, 12) := (s.2 (38, 21, 2, 12) (by decide)).2
theorem shM.r39 {h : Hp} {m : Nat} (s : shM h m) : hpR h m 39 = m + 22 := (s.2 (39, 22, 2, 41) (by decide)).1
theorem shM.t22 {h : Hp} {m : Nat} (s : shM h m) : hpT h (m + 22) = (2, 41) := (s.2 (39, 22, 2, 41) (by decide)).2
theorem shM.r40 {h : Hp} {m : Nat} (s : shM h m) : hpR h m 40 = m + 23 := (s.2 (40, 23, 4, 64) (by decide)).1
theorem shM.t23 {h : Hp} {m : Nat} (s : shM h m) : hpT h (m + 23) = (4, 64) := (s.2 (40, 23, 4, 64) (by decide)).2
theorem shM.r41 {h : Hp} {m : Nat} (s : shM h m) : hpR h m 41 = m + 24 := (s.2 (41, 24, 2, 80) (by decide)).1
theorem shM.t24 {h : Hp} {m : Nat} (s : shM h m) : hpT h (m + 24) = (2, 80) := (s.2 (41, 24, 2, 80) (by decide)).2
theorem shM.r43 {h : Hp} {m : Nat} (s : shM h m) : hpR h m 43 = m + 25 := (s.2 (43, 25, 4, 3) (by decide)).1
theorem shM.t25 {h : Hp} {m : Nat} (s : shM h m) : hpT h (m + 25) = (4, 3) := (s.2 (43, 25, 4, 3) (by decide)).2
theorem shM.r44 {h : Hp} {m : Nat} (s : shM h m) : hpR h m 44 = m + 26 := (s.2 (44, 26, 2, 3) (by decide)).1
theorem shM.t26 {h : Hp} {m : Nat} (s : shM h m) : hpT h (m + 26) = (2, 3) := (s.2 (44, 26, 2, 3) (by decide)).2
theorem shM.r45 {h : Hp} {m : Nat} (s : shM h m) : hpR h m 45 = m + 27 := (s.2 (45, 27, 2, 153) (by decide)).1
theorem shM.t27 {h : Hp} {m : Nat} (s : shM h m) : hpT h (m + 27) = (2, 153) := (s.2 (45, 27, 2, 153) (by decide)).2
/-- what is written: cells m .. m + 27 -/
def FM (m x : Nat) : Prop := m ≤ x ∧ x ≤ m + 27
theorem shM.keep {h h1 : Hp} {m : Nat} (s : shM h m) (e1 : hpT h1 = hpT h) (e2 : ∀ k, hpR h1 m k = hpR h m k) : shM h1 m := ⟨by rw [e1]; exact s.1, fun x hx => by rw [e1, e2]; exact s.2 x hx⟩
theorem shM.eo {h h1 : Hp} {m : Nat} {F : Nat → Prop} (s : shM h m) (e : EqOff F h h1) (hF : ¬ F m) : shM h1 m := s.keep e.2.2.2.1 (fun k => by rw [e.2.2.1])
/-- all but some slots are as they were; references are -/
def EqP (D : Nat → Nat → Prop) (h h1 : Hp) : Prop := (∀ a k, ¬ D a k → hpI h1 a k = hpI h a k) ∧ (∀ a k, ¬ D a k → hpL h1 a k = hpL h a k) ∧ hpR h1 = hpR h ∧ hpT h1 = hpT h ∧ hpN h1 = hpN h
theorem EqP.rf {D : Nat → Nat → Prop} {h : Hp} : EqP D h h := ⟨fun _ _ _ => rfl, fun _ _ _ => rfl, rfl, rfl, rfl⟩
theorem EqP.tr {D : Nat → Nat → Prop} {h h1 h2 : Hp} (a : EqP D h h1) (b : EqP D h1 h2) : EqP D h h2 := ⟨fun x k q => (b.1 x k q).trans (a.1 x k q), fun x k q => (b.2.1 x k q).trans (a.2.1 x k q), b.2.2.1.trans a.2.2.1, b.2.2.2.1.trans a.2.2.2.1, b.2.2.2.2.trans a.2.2.2.2⟩
theorem EqP.mono {D D1 : Nat → Nat → Prop} {h h1 : Hp} (a : EqP D h h1) (hD : ∀ x k, D x k → D1 x k) : EqP D1 h h1 := ⟨fun x k q => a.1 x k (fun z => q (hD x k z)), fun x k q => a.2.1 x k (fun z => q (hD x k z)), a.2.2⟩
theorem EqP.uI {D : Nat → Nat → Prop} {h : Hp} {a k : Nat} {v : Int32} (hD : D a k) : EqP D h (upI h a k v) := ⟨fun x j q => by
  have e : ¬ (x = a ∧ j = k) := fun z => q (by rw [z.1, z.2]; exact hD)
  simp only [hpI, upI, up2]; rw [if_neg e], fun _ _ _ => rfl, rfl, rfl, rfl⟩
theorem EqP.uL {D : Nat → Nat → Prop} {h : Hp} {a k : Nat} {v : Int64} (hD : D a k) : EqP D h (upL h a k v) := ⟨fun _ _ _ => rfl, fun x j q => by
  have e : ¬ (x = a ∧ j = k) := fun z => q (by rw [z.1, z.2]; exact hD)
  simp only [hpL, upL, up2]; rw [if_neg e], rfl, rfl, rfl⟩
theorem EqP.off {D : Nat → Nat → Prop} {F : Nat → Prop} {h h1 : Hp} (a : EqP D h h1) (hD : ∀ x k, D x k → F x) : EqOff F h h1 := ⟨fun x k q => a.1 x k (fun z => q (hD x k z)), fun x k q => a.2.1 x k (fun z => q (hD x k z)), a.2.2.1, a.2.2.2.1, a.2.2.2.2⟩
theorem shM.ep {h h1 : Hp} {m : Nat} {D : Nat → Nat → Prop} (s : shM h m) (e : EqP D h h1) : shM h1 m := s.keep e.2.2.2.1 (fun k => by rw [e.2.2.1])
/-- a row of the reference at r holds S -/
def atW (h : Hp) (r : Nat) (S : Fld) : Prop := hpT h r = (2, 51) ∧ hpI h r 48 = nI (S.1 2) ∧ hpI h r 49 = nI (S.1 3) ∧ hpI h r 50 = nI (S.1 4) ∧ ∀ i, i < S.1 2 → hpI h r i = nI (fcl S i) ∧ hpI h r (8 + i) = nI (S.2 2 i) ∧ hpI h r (16 + i) = nI (S.2 3 i) ∧ hpI h r (24 + i) = nI (S.2 4 i) ∧ hpI h r (32 + i) = nI (S.2 5 i) ∧ hpI h r (40 + i) = nI (S.2 6 i)
/-- its field's sides -/
def atG (h : Hp) (m : Nat) (S : Fld) : Prop := shM h m ∧ hpI h m 3 = nI (S.1 0) ∧ hpI h m 4 = nI (S.1 1)
theorem atW.keep {h h1 : Hp} {r : Nat} {S : Fld} (w : atW h r S) (eT : hpT h1 = hpT h) (e : ∀ k, hpI h1 r k = hpI h r k) : atW h1 r S := by
  obtain ⟨w1, w2, w3, w4, w5⟩ := w
  refine ⟨by rw [eT]; exact w1, by rw [e]; exact w2, by rw [e]; exact w3, by rw [e]; exact w4, fun i hi => ?_⟩
  simp only [e]; exact w5 i hi
theorem atW.eo {h h1 : Hp} {r : Nat} {S : Fld} {F : Nat → Prop} (w : atW h r S) (e : EqOff F h h1) (hF : ¬ F r) : atW h1 r S := w.keep e.2.2.2.1 (fun k => e.1 _ _ hF)
theorem atG.eo {h h1 : Hp} {m : Nat} {S : Fld} {F : Nat → Prop} (g : atG h m S) (e : EqOff F h h1) (hF : ¬ F m) : atG h1 m S := ⟨g.1.eo e hF, by rw [e.1 _ _ hF]; exact g.2.1, by rw [e.1 _ _ hF]; exact g.2.2⟩
theorem atW.ep {h h1 : Hp} {r : Nat} {S : Fld} {D : Nat → Nat → Prop} (w : atW h r S) (e : EqP D h h1) (hD : ∀ k, ¬ D r k) : atW h1 r S := w.keep e.2.2.2.1 (fun k => e.1 _ _ (hD k))
theorem atG.ep {h h1 : Hp} {m : Nat} {S : Fld} {D : Nat → Nat → Prop} (g : atG h m S) (e : EqP D h h1) (h3 : ¬ D m 3) (h4 : ¬ D m 4) : atG h1 m S := ⟨g.1.ep e, by rw [e.1 _ _ h3]; exact g.2.1, by rw [e.1 _ _ h4]; exact g.2.2⟩
section WREAD
variable {h : Hp} {r m : Nat} {S : Fld}
theorem atW.t (w : atW h r S) : hpT h r = (2, 51) := w.1
theorem atW.n (w : atW h r S) : hpI h r 48 = nI (S.1 2) := w.2.1
theorem atW.y (w : atW h r S) : hpI h r 49 = nI (S.1 3) := w.2.2.1
theorem atW.l (w : atW h r S) : hpI h r 50 = nI (S.1 4) := w.2.2.2.1
theorem atW.v0 (w : atW h r S) {i : Nat} (hi : i < S.1 2) : hpI h r i = nI (fcl S i) := (w.2.2.2.2 i hi).1
theorem atW.v2 (w : atW h r S) {i : Nat} (hi : i < S.1 2) : hpI h r (8 + i) = nI (S.2 2 i) := (w.2.2.2.2 i hi).2.1
theorem atW.v3 (w : atW h r S) {i : Nat} (hi : i < S.1 2) : hpI h r (16 + i) = nI (S.2 3 i) := (w.2.2.2.2 i hi).2.2.1
theorem atW.v4 (w : atW h r S) {i : Nat} (hi : i < S.1 2) : hpI h r (24 + i) = nI (S.2 4 i) := (w.2.2.2.2 i hi).2.2.2.1
theorem atW.v5 (w : atW h r S) {i : Nat} (hi : i < S.1 2) : hpI h r (32 + i) = nI (S.2 5 i) := (w.2.2.2.2 i hi).2.2.2.2.1
theorem atW.v6 (w : atW h r S) {i : Nat} (hi : i < S.1 2) : hpI h r (40 + i) = nI (S.2 6 i) := (w.2.2.2.2 i hi).2.2.2.2.2
theorem atW.ext {S1 : Fld} (w : atW h r S) (h1 : S.1 1 = S1.1 1) (h2 : S.1 2 = S1.1 2) (h3 : S.1 3 = S1.1 3) (h4 : S.1 4 = S1.1 4) (h5 : ∀ j i, j < 7 → i < S.1 2 → S.2 j i = S1.2 j i) : atW h r S1 := by
  obtain ⟨w1, w2, w3, w4, w5⟩ := w
  refine ⟨w1, by rw [← h2]; exact w2, by rw [← h3]; exact w3, by rw [← h4]; exact w4, fun i hi => ?_⟩
  rw [← h2] at hi
  have e : fcl S i = fcl S1 i := by simp only [fcl]; rw [h1, h5 0 i (by omega) hi, h5 1 i (by omega) hi]
  rw [← e, ← h5 2 i (by omega) hi, ← h5 3 i (by omega) hi, ← h5 4 i (by omega) hi, ← h5 5 i (by omega) hi, ← h5 6 i (by omega) hi]
  exact w5 i hi
theorem atW.wy (w : atW h r S) (b5 : S.1 2 ≤ 8) {v : Nat} : atW (upI h r 49 (nI v)) r (setQ S 3 v) := by
  obtain ⟨w1, w2, w3, w4, w5⟩ := w
  refine ⟨w1, ?_, ?_, ?_, fun i hi => ?_⟩
  · rw [hpI_upI, if_neg (by omega)]; exact w2
  · rw [hpI_upI, if_pos ⟨rfl, rfl⟩]; rfl
  · rw [hpI_upI, if_neg (by omega)]; exact w4
  · have hi : i < S.1 2 := hi
    have := w5 i hi
    simp only [hpI_upI]
    rw [if_neg (by omega), if_neg (by omega), if_neg (by omega), if_neg (by omega), if_neg (by omega), if_neg (by omega)]; exact this
theorem atW.wl (w : atW h r S) (b5 : S.1 2 ≤ 8) {v : Nat} : atW (upI h r 50 (nI v)) r (setQ S 4 v) := by
  obtain ⟨w1, w2, w3, w4, w5⟩ := w
  refine ⟨w1, ?_, ?_, ?_, fun i hi => ?_⟩
  · rw [hpI_upI, if_neg (by omega)]; exact w2
  · rw [hpI_upI, if_neg (by omega)]; exact w3
  · rw [hpI_upI, if_pos ⟨rfl, rfl⟩]; rfl
  · have hi : i < S.1 2 := hi
    have := w5 i hi
    simp only [hpI_upI]
    rw [if_neg (by omega), if_neg (by omega), if_neg (by omega), if_neg (by omega), if_neg (by omega), if_neg (by omega)]; exact this
theorem atW.w4 (w : atW h r S) (b5 : S.1 2 ≤ 8) {i v : Nat} (hi0 : i < S.1 2) : atW (upI h r (24 + i) (nI v)) r (setF S 4 i v) := by
  obtain ⟨w1, w2, w3, w4, w5⟩ := w
  refine ⟨w1, ?_, ?_, ?_, fun k hk => ?_⟩
  · rw [hpI_upI, if_neg (by omega)]; exact w2
  · rw [hpI_upI, if_neg (by omega)]; exact w3
  · rw [hpI_upI, if_neg (by omega)]; exact w4
  · have hk : k < S.1 2 := hk
    have := w5 k hk
    simp only [hpI_upI]
    rw [if_neg (by omega), if_neg (by omega), if_neg (by omega), if_neg (show ¬ (True ∧ 32 + k = 24 + i) by omega), if_neg (show ¬ (True ∧ 40 + k = 24 + i) by omega)]
    by_cases e : k = i
    · subst e; simp only [setF, and_true, and_self, if_true]; exact ⟨this.1, this.2.1, this.2.2.1, True.intro, this.2.2.2.2.1, this.2.2.2.2.2⟩
    · rw [if_neg (by omega)]; simp only [setF, e, and_false, if_false]; exact this
theorem atW.w6 (w : atW h r S) (b5 : S.1 2 ≤ 8) {i v : Nat} (hi0 : i < S.1 2) : atW (upI h r (40 + i) (nI v)) r (setF S 6 i v) := by
  obtain ⟨w1, w2, w3, w4, w5⟩ := w
  refine ⟨w1, ?_, ?_, ?_, fun k hk => ?_⟩
  · rw [hpI_upI, if_neg (by omega)]; exact w2
  · rw [hpI_upI, if_neg (by omega)]; exact w3
  · rw [hpI_upI, if_neg (by omega)]; exact w4
  · have hk : k < S.1 2 := hk
    have := w5 k hk
    simp only [hpI_upI]
    rw [if_neg (show ¬ (True ∧ k = 40 + i) by omega), if_neg (show ¬ (True ∧ 8 + k = 40 + i) by omega), if_neg (show ¬ (True ∧ 16 + k = 40 + i) by omega), if_neg (show ¬ (True ∧ 24 + k = 40 + i) by omega), if_neg (show ¬ (True ∧ 32 + k = 40 + i) by omega)]
    by_cases e : k = i
    · subst e; rw [if_pos ⟨True.intro, rfl⟩]; exact ⟨this.1, this.2.1, this.2.2.1, this.2.2.2.1, this.2.2.2.2.1, by simp [setF]⟩
    · rw [if_neg (by omega)]; simp only [setF, e, and_false, if_false]; exact this
theorem atW.wc (w : atW h r S) (b5 : S.1 2 ≤ 8) {i a b : Nat} (hi0 : i < S.1 2) : atW (upI h r i (nI (a * S.1 1 + b))) r (setF (setF S 0 i a) 1 i b) := by
  obtain ⟨w1, w2, w3, w4, w5⟩ := w
  refine ⟨w1, ?_, ?_, ?_, fun k hk => ?_⟩
  · rw [hpI_upI, if_neg (by omega)]; exact w2
  · rw [hpI_upI, if_neg (by omega)]; exact w3
  · rw [hpI_upI, if_neg (by omega)]; exact w4
  · have hk : k < S.1 2 := hk
    have := w5 k hk
    simp only [hpI_upI]
    rw [if_neg (show ¬ (True ∧ 8 + k = i) by omega), if_neg (show ¬ (True ∧ 16 + k = i) by omega), if_neg (show ¬ (True ∧ 24 + k = i) by omega), if_neg (show ¬ (True ∧ 32 + k = i) by omega), if_neg (show ¬ (True ∧ 40 + k = i) by omega)]
    by_cases e : k = i
    · subst e; simp [setF, fcl]; exact ⟨this.2.1, this.2.2.1, this.2.2.2.1, this.2.2.2.2.1, this.2.2.2.2.2⟩
    · rw [if_neg (by omega)]; simp only [setF, fcl, e, and_false, if_false]; exact this
end WREAD
theorem j8 (i : Nat) : (8 : Int32) + nI i = nI (8 + i) := by rw [show (8 : Int32) = nI 8 by decide, nI_add]
theorem j16 (i : Nat) : (16 : Int32) + nI i = nI (16 + i) := by rw [show (16 : Int32) = nI 16 by decide, nI_add]
theorem j24 (i : Nat) : (24 : Int32) + nI i = nI (24 + i) := by rw [show (24 : Int32) = nI 24 by decide, nI_add]
theorem j32 (i : Nat) : (32 : Int32) + nI i = nI (32 + i) := by rw [show (32 : Int32) = nI 32 by decide, nI_add]
theorem j40 (i : Nat) : (40 : Int32) + nI i = nI (40 + i) := by rw [show (40 : Int32) = nI 40 by decide, nI_add]
theorem j48 : (48 : Int32) = nI 48 := by decide
theorem j49 : (49 : Int32) = nI 49 := by decide
theorem j50 : (50 : Int32) = nI 50 := by decide
theorem rm_nI {a b : Nat} (ha : a < 2 ^ 31) (h0 : 0 < b) (hb : b < 2 ^ 31) : rm32 (nI a) (nI b) = nI (a % b) := pk_rem ha h0 hb
/-! in, has, flag -/
theorem toL_lt (x y : Int32) : x.toInt64 < y.toInt64 ↔ x < y := by
  rw [Int64.lt_iff_toInt_lt, Int32.lt_iff_toInt_lt, Int32.toInt_toInt64, Int32.toInt_toInt64]
theorem toL_le (x y : Int32) : x.toInt64 ≤ y.toInt64 ↔ x ≤ y := by
  rw [Int64.le_iff_toInt_le, Int32.le_iff_toInt_le, Int32.toInt_toInt64, Int32.toInt_toInt64]
theorem toL_eq (x y : Int32) : x.toInt64 = y.toInt64 ↔ x = y := by
  rw [← Int64.toInt_inj, ← Int32.toInt_inj, Int32.toInt_toInt64, Int32.toInt_toInt64]
theorem p_in (h : Hp) (x lo hi : Int32) : f_X10_in h x.toInt64 lo.toInt64 hi.toInt64 = some (nB (decide (lo ≤ x ∧ x ≤ hi))) := by
  rw [f_X10_in]
  simp only [lg_cmp_lt, lg_cmp_gt, toL_lt]
  by_cases h1 : x < lo
  · rw [if_pos h1, decide_eq_false (fun z => absurd z.1 (Int32.not_le.mpr h1))]; rfl
  · rw [if_neg h1]
    by_cases h2 : hi < x
    · rw [if_pos h2, decide_eq_false (fun z => absurd z.2 (Int32.not_le.mpr h2))]; rfl
    · rw [if_neg h2, decide_eq_true ⟨Int32.not_lt.mp h1, Int32.not_lt.mp h2⟩]; rfl
theorem z64_0 : (0 : Int64) = (nI 0).toInt64 := by decide
theorem z64_1 : (1 : Int64) = (nI 1).toInt64 := by decide
theorem z64_3 : (3 : Int64) = (nI 3).toInt64 := by decide
theorem z64_9 : (9 : Int64) = (nI 9).toInt64 := by decide
theorem p_in_num (h : Hp) (x : Int32) (lo hi : Nat) : f_X10_in h x.toInt64 (nI lo).toInt64 (nI hi).toInt64 = some (nB (numIn (nI lo) (nI hi) x).isSome) := by
  rw [p_in]
  unfold numIn
  by_cases q : nI lo ≤ x ∧ x ≤ nI hi
  · rw [if_pos q, decide_eq_true q]; rfl
  · rw [if_neg q, decide_eq_false q]; rfl
/-- x is from 0 to n - 1 -/
theorem le_m1 {n : Nat} {x : Int32} (hn : n < 2 ^ 31) : (nI 0 ≤ x ∧ x ≤ nI n - nI 1) ↔ (0 ≤ x ∧ x < nI n) := by
  rw [← i0]
  constructor
  · rintro ⟨h1, h2⟩
    refine ⟨h1, ?_⟩
    obtain ⟨e, h3⟩ := nI_ix h1
    rcases Nat.eq_zero_or_pos n with z | z
    · subst z
      have := Int32.le_trans h1 h2
      exact absurd this (by decide)
    · rw [pk_sub (by omega), e, nI_leI h3 (by omega)] at h2
      rw [e, nI_ltI h3 hn]; omega
  · rintro ⟨h1, h2⟩
    refine ⟨h1, ?_⟩
    obtain ⟨e, h3⟩ := nI_ix h1
    rw [e, nI_ltI h3 hn] at h2
    rw [pk_sub (by omega), e, nI_leI h3 (by omega)]; omega
theorem p_flag (h : Hp) (b : Bool) : f_X10_flag h (nB b) = some (nB b) := by cases b <;> rfl
theorem shr_L {n k : Nat} (hn : n < 2 ^ 63) (hk : k < 63) : shr64 (lN n) (nI k) = lN (n / 2 ^ k) := by
  apply Int64.toInt_inj.mp
  have hs : ∀ k, k < 63 → (((nI k).toInt64 &&& 63).toBitVec.smod 64).toNat = k := by decide +kernel
  have e : (shr64 (lN n) (nI k)).toInt = (lN n).toInt >>> k := by
    show ((lN n).toBitVec.sshiftRight (((nI k).toInt64 &&& 63).toBitVec.smod 64).toNat).toInt = _
    rw [hs k hk, BitVec.toInt_sshiftRight]
    rfl
  have h2 : n / 2 ^ k ≤ n := Nat.div_le_self _ _
  rw [e, pk_lT hn, pk_lT (by omega), Int.shiftRight_eq_div_pow]
  rfl
theorem p_hasL (h : Hp) {n k : Nat} (hn : n < 2 ^ 63) (hk : k < 63) : f_X10_has h (lN n) (nI k) = some (nB (n.testBit k)) := by
  rw [f_X10_has, shr_L hn hk, lt_u, show (1 : Int64) = lN 1 by decide, lN_and, Nat.and_one_is_mod]
  have h2 : n / 2 ^ k % 2 < 2 := Nat.mod_lt _ (by omega)
  simp only [lg_cmp_eq]
  rw [tb_mod]
  simp only [pk_lEQ (show n / 2 ^ k % 2 < 2 ^ 63 by omega) (show 1 < 2 ^ 63 by decide)]
  by_cases q : n / 2 ^ k % 2 = 1
  · rw [if_pos q, decide_eq_true q]; rfl
  · rw [if_neg q, decide_eq_false q]; rfl
theorem p_hasI (h : Hp) {n k : Nat} (hn : n < 2 ^ 31) (hk : k < 31) : f_X10_has h (nI n).toInt64 (nI k) = some (nB (n.testBit k)) := by
  rw [nI_l hn]; exact p_hasL h (by omega) (by omega)
theorem p_hasB (h : Hp) {p : Nat → Bool} {n k : Nat} (hn : n ≤ 31) (hk : k < 31) : f_X10_has h (bitsB p n).toInt64 (nI k) = some (nB (decide (k < n) && p k)) := by
  rw [bitsB_nb p n hn, p_hasI h (Nat.lt_of_lt_of_le (nb_lt p n) (Nat.pow_le_pow_right (by omega) hn)) hk, nb_bit]
theorem dif_in {a b n : Nat} (ha : a < 1000) (hb : b < 1000) (hn : n < 1000) : (nI 0 ≤ nI a - nI b ∧ nI a - nI b ≤ nI n - nI 1) ↔ (b ≤ a ∧ a < b + n) := by
  rw [le_m1 (by omega), i0]
  by_cases q : b ≤ a
  · rw [pk_sub q, nI_leI (by omega) (by omega), nI_ltI (by omega) (by omega)]; omega
  · have := pk_sneg (a := a) (b := b) (by omega) (by omega)
    rw [i0] at this
    constructor
    · rintro ⟨z, -⟩; exact absurd this (Int32.not_lt.mpr z)
    · rintro ⟨z, -⟩; omega
/-- a block of cells, told by its first, is over a cell -/
def ovB (S : Fld) (f hg wd kc : Nat) : Bool := decide (f / S.1 1 ≤ kc / S.1 1) && decide (kc / S.1 1 < f / S.1 1 + hg) && decide (f % S.1 1 ≤ kc % S.1 1) && decide (kc % S.1 1 < f % S.1 1 + wd)
section MODEL
variable {h : Hp} {m r : Nat} {S : Fld}
theorem m_cells (g : atG h m S) : f_X10_cells h m = some (nI (ncl S)) := by
  rw [f_X10_cells, g.2.1, g.2.2, pk_mul]; rfl
theorem m_isCell (g : atG h m S) (hw : wfF S) (x : Int32) : f_X10_isCell h m x = some (nB (cellOfI S x).isSome) := by
  have hb := ncl_le hw
  rw [f_X10_isCell, m_cells g, bd_s, z64_0, i1, p_in, bd_s]
  simp only [le_m1 (show ncl S < 2 ^ 31 by omega)]
  unfold cellOfI
  by_cases q : 0 ≤ x ∧ x < nI (ncl S)
  · rw [if_pos q, decide_eq_true q]; rfl
  · rw [if_neg q, decide_eq_false q]; rfl
theorem m_campIn (w : atW h r S) (hw : wfF S) (x : Int32) : f_X10_in h x.toInt64 (0 : Int64) (nI (S.1 2) - nI 1).toInt64 = some (nB (campOf S x).isSome) := by
  have b5 := hw.2.2.2.2.1
  rw [z64_0, p_in]
  simp only [le_m1 (show S.1 2 < 2 ^ 31 by omega)]
  unfold campOf
  by_cases q : 0 ≤ x ∧ x < nI (S.1 2)
  · rw [if_pos q, decide_eq_true q]; rfl
  · rw [if_neg q, decide_eq_false q]; rfl
theorem m_isCamp (g : atG h m S) (w : atW h (m + 2) S) (hw : wfF S) (x : Int32) : f_X10_isCamp h m x = some (nB (campOf S x).isSome) := by
  have s := g.1
  simp (disch := omega) only [f_X10_isCamp, s.r6, w.t, nz_t, gdT, j48, inb_nI, ix_nI, w.n, i1]
  rw [m_campIn w hw, bd_s]
theorem m_isOn (w : atW h r S) (hw : wfF S) {i : Nat} (hi : i < 1000) : f_X10_isOn h r (nI i) = some (nB (onb S i)) := by
  have b5 := hw.2.2.2.2.1
  have b8 := hw.2.2.2.2.2.2.2.1 4 i
  simp (disch := omega) only [f_X10_isOn, w.t, gdT, j48, inb_nI, ix_nI, w.n, nI_le0, j24]
  by_cases q : i < S.1 2
  · rw [if_neg (by omega)]
    simp (disch := omega) only [gdT, inb_nI, ix_nI, w.v4 q, i0, nI_le0]
    by_cases q2 : 0 < S.2 4 i
    · rw [if_neg (by omega)]; simp [onb, q, q2, nB_t]
    · rw [if_pos (by omega)]; simp [onb, q, q2, nB_f, i0]
  · rw [if_pos (by omega)]; simp [onb, q, nB_f]
theorem cols_nz (g : atG h m S) (hw : wfF S) : nz32 (nI (S.1 1)) = true := by
  have b3 := hw.2.2.1; have b4 := hw.2.2.2.1
  exact decide_eq_true (nI_ne0 (by omega) (by omega))
theorem m_isIn (g : atG h m S) (hw : wfF S) {kc hg wd : Nat} (hc : kc < 1000) (hh : hg < 100) (hd : wd < 100) : f_X10_isIn h m (nI kc) (nI hg) (nI wd) = some (nB (decide (kc / S.1 1 + hg ≤ S.1 0) && decide (kc % S.1 1 + wd ≤ S.1 1))) := by
  have e := cols_nz g hw
  obtain ⟨b1, b2, b3, b4, b5, -⟩ := hw
  have g1 : kc / S.1 1 ≤ kc := Nat.div_le_self _ _
  have g2 : kc % S.1 1 ≤ kc := Nat.mod_le _ _
  simp (disch := omega) only [f_X10_isIn, g.2.1, g.2.2, e, gdT, rm_nI, pk_div, nI_add, nI_lt0, lt_u]
  grind [nB, i0, i1]
theorem m_isOver (g : atG h m S) (hw : wfF S) {f hg wd kc : Nat} (hf : f < 1000) (hc : kc < 1000) (hh : hg < 100) (hd : wd < 100) : f_X10_isOver h m (nI f) (nI hg) (nI wd) (nI kc) = some (nB (ovB S f hg wd kc)) := by
  have e := cols_nz g hw
  obtain ⟨b1, b2, b3, b4, b5, -⟩ := hw
  have g1 : kc / S.1 1 ≤ kc := Nat.div_le_self _ _
  have g2 : kc % S.1 1 ≤ kc := Nat.mod_le _ _
  have g3 : f / S.1 1 ≤ f := Nat.div_le_self _ _
  have g4 : f % S.1 1 ≤ f := Nat.mod_le _ _
  simp (disch := omega) only [f_X10_isOver, g.2.2, e, gdT, rm_nI, pk_div, lt_u, i1, z64_0, p_in, dif_in, bd_s, nB_0]
  grind [nB, i0, i1, ovB]
theorem m_area (g : atG h m S) (hw : wfF S) {f hg wd : Nat} (hf : f < 1000) (hh : hg < 100) (hd : wd < 100) : f_X10_area h m (nI f) (nI hg) (nI wd) = some (bitsL (ovB S f hg wd) (ncl S)) := by
  have hF := FU_big
  have hb := ncl_le hw
  refine fo_lp (f_X10_area_6 h m (nI f) (nI hg) (nI wd)) (ncl S) (stL (ovB S f hg wd)) some (fun n acc i hi => ?_) (fun n acc => ?_) (ncl S) FU 0 0 (by omega) (by omega)
  · have e := m_isOver g hw (f := f) (kc := i) hf (by omega) hh hd
    simp (disch := omega) only [f_X10_area_6, f_X10_area_37, m_cells g, e, lt_u, bd_s, nB_0, i1, nI_add, nI_le0]
    rw [if_neg (by omega)]
    simp only [stL]
    cases ovB S f hg wd i <;> simp
  · simp (disch := omega) only [f_X10_area_6, m_cells g, lt_u, bd_s, nI_le0]
    simp
end MODEL
