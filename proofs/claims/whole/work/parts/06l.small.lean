/-! The small objects: the text, the row, notes, the past, draws -/
/-- THE TEXT at a -/
def atX (h : Hp) (a : Nat) (l : List Int32) : Prop := hpT h a = (1, 6) ∧ hpR h a 0 = a + 1 ∧ hpT h (a + 1) = (2, 80) ∧ hpI h a 1 = nI l.length ∧ l.length ≤ 80 ∧ ∀ i, i < l.length → hpI h (a + 1) i = l.getD i 0
def F2 (a x : Nat) : Prop := x = a ∨ x = a + 1
theorem atX.keep {h h1 : Hp} {a : Nat} {l : List Int32} {F : Nat → Prop} (c : atX h a l) (e : EqOff F h h1) (hF : ∀ x, F2 a x → ¬ F x) : atX h1 a l := by
  obtain ⟨c1, c2, c3, c4, c5, c6⟩ := c
  have f0 := hF a (Or.inl rfl)
  have f1 := hF (a + 1) (Or.inr rfl)
  exact ⟨by rw [e.2.2.2.1]; exact c1, by rw [e.2.2.1]; exact c2, by rw [e.2.2.2.1]; exact c3, by rw [e.1 _ _ f0]; exact c4, c5, fun i hi => by rw [e.1 _ _ f1]; exact c6 i hi⟩
/-- the sign at a place -/
def sgA (l : List Int32) (i : Nat) : Int32 := if i < l.length then l.getD i 0 else -1
/-- the digit at a place ahead of an end -/
def dgA (l : List Int32) (i e : Nat) : Option Nat := if i < e ∧ i < l.length ∧ 48 ≤ l.getD i 0 ∧ l.getD i 0 ≤ 57 then some (ix (l.getD i 0) - 48) else none
theorem getD_snoc {α : Type} {l : List α} {v d : α} {i : Nat} (h : i < l.length + 1) : (l ++ [v]).getD i d = if i = l.length then v else l.getD i d := by
  simp only [List.getD_eq_getElem?_getD]
  by_cases e : i = l.length
  · subst e; simp
  · rw [if_neg e, List.getElem?_append_left (by omega)]
theorem getD_take {α : Type} {l : List α} {d : α} {i n : Nat} (h : i < n) : (l.take n).getD i d = l.getD i d := by
  simp only [List.getD_eq_getElem?_getD, List.getElem?_take, h, if_true]
section SMALL
variable {h : Hp} {a : Nat} {l : List Int32}
theorem p_get (c : atX h a l) {i : Nat} (hi : i < 1000) : f_X6_get h a (nI i) = some (sgA l i) := by
  obtain ⟨c1, c2, c3, c4, c5, c6⟩ := c
  simp (disch := omega) only [f_X6_get, c4, c2, i0, nI_lt0, nI_le0]
  rw [if_neg (by omega)]
  by_cases q : i < l.length
  · rw [if_neg (by omega)]
    simp (disch := omega) only [c3, nz_t, gdT, inb_nI, ix_nI, c6 i q]
    rw [sgA, if_pos q]
  · rw [if_pos (by omega), sgA, if_neg q]
theorem dgI {v : Int32} (h1 : 48 ≤ v) (h2 : v ≤ 57) : v - 48 = nI (ix v - 48) ∧ ix v - 48 ≤ 9 := by
  have h0 : 0 ≤ v := Int32.le_trans (by decide) h1
  obtain ⟨e, h3⟩ := nI_ix h0
  rw [e, show (48 : Int32) = nI 48 by decide, nI_leI (by omega) h3] at h1
  rw [e, show (57 : Int32) = nI 57 by decide, nI_leI h3 (by omega)] at h2
  refine ⟨?_, by omega⟩
  conv => lhs; rw [e]
  rw [show (48 : Int32) = nI 48 by decide, pk_sub h1]
theorem dgA_le {i e d : Nat} (h : dgA l i e = some d) : d ≤ 9 ∧ i < e ∧ i < l.length := by
  unfold dgA at h
  split at h
  · rename_i q
    have := (dgI q.2.2.1 q.2.2.2).2
    have e := Option.some.inj h
    exact ⟨by omega, q.1, q.2.1⟩
  · cases h
theorem p_digit (c : atX h a l) {i e : Nat} (hi : i < 1000) (he : e < 1000) : f_X6_digit h a (nI i) (nI e) = some (oI (dgA l i e)) := by
  simp (disch := omega) only [f_X6_digit, nI_le0, p_get c hi, bd_s]
  by_cases q : i < e
  · rw [if_neg (by omega)]
    by_cases q2 : i < l.length
    · rw [sgA, if_pos q2]
      simp only [f_X6_digit_14]
      by_cases q3 : 48 ≤ l.getD i 0
      · rw [if_neg (Int32.not_lt.mpr q3)]
        by_cases q4 : l.getD i 0 ≤ 57
        · rw [if_neg (Int32.not_lt.mpr q4), dgA, if_pos ⟨q, q2, q3, q4⟩, (dgI q3 q4).1]; rfl
        · rw [if_pos (Int32.not_le.mp q4), dgA, if_neg (fun z => q4 z.2.2.2)]; rfl
      · rw [if_pos (Int32.not_le.mp q3), dgA, if_neg (fun z => q3 z.2.2.1)]; rfl
    · rw [sgA, if_neg q2, dgA, if_neg (fun z => q2 z.2.1)]; rfl
  · rw [if_pos (by omega), dgA, if_neg (fun z => q z.1)]; rfl
theorem p_xadd (c : atX h a l) (hl : l.length < 80) (v : Int32) : Ok (f_X6_add h a v) (fun h1 => atX h1 a (l ++ [v]) ∧ EqOff (F2 a) h h1) := by
  obtain ⟨c1, c2, c3, c4, c5, c6⟩ := c
  simp (disch := omega) only [f_X6_add, c4, c2, c3, i0, nI_lt0, nI_le0, nz_t, gdT, inb_nI, ix_nI]
  rw [if_neg (by omega), if_neg (by omega)]
  simp only [lt_u]
  refine ok_some ⟨⟨c1, c2, c3, ?_, by simp; omega, fun i hi => ?_⟩, (EqOff.uI (Or.inr rfl)).tr (EqOff.uI (Or.inl rfl))⟩
  · rw [hpI_upI, if_pos ⟨rfl, rfl⟩, hpI_upI, if_neg (by omega), c4, i1, nI_add, List.length_append]; rfl
  · have hi : i < l.length + 1 := by simpa using hi
    rw [hpI_upI, if_neg (by omega), hpI_upI, getD_snoc hi]
    by_cases e : i = l.length
    · simp [e]
    · simp only [e, and_false, if_false]; exact c6 i (by omega)
theorem p_xsize (c : atX h a l) {n : Nat} (hn : n ≤ l.length) : atX (upI h a 1 (nI n)) a (l.take n) := by
  obtain ⟨c1, c2, c3, c4, c5, c6⟩ := c
  have e : (l.take n).length = n := by simp; omega
  refine ⟨c1, c2, c3, by rw [hpI_upI, if_pos ⟨rfl, rfl⟩, e], by omega, fun i hi => ?_⟩
  rw [e] at hi
  rw [hpI_upI, if_neg (by omega), getD_take hi]
  exact c6 i (by omega)
end SMALL
/-- the ROW at a -/
def atT (h : Hp) (a : Nat) (l : List Int64) : Prop := hpT h a = (1, 7) ∧ hpR h a 0 = a + 1 ∧ hpT h (a + 1) = (3, 128) ∧ hpI h a 1 = nI l.length ∧ l.length ≤ 128 ∧ ∀ i, i < l.length → hpL h (a + 1) i = l.getD i 0
theorem atT.keep {h h1 : Hp} {a : Nat} {l : List Int64} {F : Nat → Prop} (c : atT h a l) (e : EqOff F h h1) (hF : ∀ x, F2 a x → ¬ F x) : atT h1 a l := by
  obtain ⟨c1, c2, c3, c4, c5, c6⟩ := c
  have f0 := hF a (Or.inl rfl)
  have f1 := hF (a + 1) (Or.inr rfl)
  exact ⟨by rw [e.2.2.2.1]; exact c1, by rw [e.2.2.1]; exact c2, by rw [e.2.2.2.1]; exact c3, by rw [e.1 _ _ f0]; exact c4, c5, fun i hi => by rw [e.2.1 _ _ f1]; exact c6 i hi⟩
section TOLD
variable {h : Hp} {a : Nat} {l : List Int64}
theorem p_tstart (c : atT h a l) : Ok (f_X7_start h a) (fun h1 => atT h1 a [] ∧ EqOff (F2 a) h h1) := by
  obtain ⟨c1, c2, c3, c4, c5, c6⟩ := c
  exact ok_some ⟨⟨c1, c2, c3, by rw [hpI_upI, if_pos ⟨rfl, rfl⟩]; rfl, by simp, fun i hi => absurd hi (by simp)⟩, EqOff.uI (Or.inl rfl)⟩
theorem p_tadd (c : atT h a l) (hl : l.length < 128) (v : Int64) : Ok (f_X7_add h a v) (fun h1 => atT h1 a (l ++ [v]) ∧ EqOff (F2 a) h h1) := by
  obtain ⟨c1, c2, c3, c4, c5, c6⟩ := c
  simp (disch := omega) only [f_X7_add, c4, c2, c3, nI_le0, nz_t, gdT, inb_nI, ix_nI]
  rw [if_neg (by omega)]
  simp only [lt_u]
  refine ok_some ⟨⟨c1, c2, c3, ?_, by simp; omega, fun i hi => ?_⟩, (EqOff.uL (Or.inr rfl)).tr (EqOff.uI (Or.inl rfl))⟩
  · rw [hpI_upI, if_pos ⟨rfl, rfl⟩, hpI_upL, c4, i1, nI_add, List.length_append]; rfl
  · have hi : i < l.length + 1 := by simpa using hi
    rw [hpL_upI, hpL_upL, getD_snoc hi]
    by_cases e : i = l.length
    · simp [e]
    · simp only [e, and_false, if_false]; exact c6 i (by omega)
end TOLD
/-- notes at a: three rows of up to m numbers -/
def atN (h : Hp) (a m : Nat) (l : List (Int32 × Int32 × Int32)) : Prop := hpT h a = (1, 2) ∧ (∀ j, j < 3 → hpR h a j = a + 1 + j ∧ hpT h (a + 1 + j) = (2, m)) ∧ hpI h a 3 = nI l.length ∧ l.length ≤ m ∧ m < 1000 ∧ ∀ i, i < l.length → hpI h (a + 1) i = (l.getD i (0, 0, 0)).1 ∧ hpI h (a + 2) i = (l.getD i (0, 0, 0)).2.1 ∧ hpI h (a + 3) i = (l.getD i (0, 0, 0)).2.2
theorem atN.keep {h h1 : Hp} {a m : Nat} {l : List (Int32 × Int32 × Int32)} {F : Nat → Prop} (c : atN h a m l) (e : EqOff F h h1) (hF : ∀ x, FR a x → ¬ F x) : atN h1 a m l := by
  obtain ⟨c1, c2, c3, c4, c5, c6⟩ := c
  have f0 := hF a (by unfold FR; omega)
  have f1 := hF (a + 1) (by unfold FR; omega)
  have f2 := hF (a + 2) (by unfold FR; omega)
  have f3 := hF (a + 3) (by unfold FR; omega)
  exact ⟨by rw [e.2.2.2.1]; exact c1, fun j hj => by rw [e.2.2.2.1, e.2.2.1]; exact c2 j hj, by rw [e.1 _ _ f0]; exact c3, c4, c5, fun i hi => by rw [e.1 _ _ f1, e.1 _ _ f2, e.1 _ _ f3]; exact c6 i hi⟩
section NOTES
variable {h : Hp} {a m : Nat} {l : List (Int32 × Int32 × Int32)}
theorem p_isFull (c : atN h a m l) : f_X2_isFull h a = some (nB (decide (m ≤ l.length))) := by
  obtain ⟨c1, c2, c3, c4, c5, c6⟩ := c
  have k0 := c2 0 (by omega)
  simp only [Nat.add_zero] at k0
  simp (disch := omega) only [f_X2_isFull, k0.1, k0.2, c3, nz_t, gdT, nI_lt0]
  by_cases q : l.length < m
  · rw [if_pos q, decide_eq_false (by omega)]; rfl
  · rw [if_neg q, decide_eq_true (by omega)]; rfl
theorem p_nwipe (c : atN h a m l) : Ok (f_X2_wipe h a) (fun o => o.1 = nI l.length ∧ atN o.2 a m [] ∧ EqOff (FR a) h o.2) := by
  obtain ⟨c1, c2, c3, c4, c5, c6⟩ := c
  exact ok_some ⟨c3, ⟨c1, c2, by rw [hpI_upI, if_pos ⟨rfl, rfl⟩]; rfl, by simp, c5, fun i hi => absurd hi (by simp)⟩, EqOff.uI (by unfold FR; omega)⟩
theorem p_nadd (c : atN h a m l) (hl : l.length < m) (x y z : Int32) : Ok (f_X2_add h a x y z) (fun h1 => atN h1 a m (l ++ [(x, y, z)]) ∧ EqOff (FR a) h h1) := by
  have ef := p_isFull c
  obtain ⟨c1, c2, c3, c4, c5, c6⟩ := c
  have k0 := c2 0 (by omega)
  have k1 := c2 1 (by omega)
  have k2 := c2 2 (by omega)
  simp only [Nat.add_zero] at k0
  rw [f_X2_add, ef, bd_s, decide_eq_false (by omega), nB_f, if_pos rfl]
  simp (disch := omega) only [k0.1, k0.2, c3, nz_t, gdT, inb_nI, ix_nI]
  refine ok_lt (fun h6 e6 => ?_)
  have q1 : hpR h6 a 1 = a + 2 := by rw [e6]; exact k1.1
  have q2 : hpT h6 (a + 2) = (2, m) := by rw [e6]; exact k1.2
  have q3 : hpI h6 a 3 = nI l.length := by rw [e6, hpI_upI, if_neg (by omega)]; exact c3
  simp (disch := omega) only [q1, q2, q3, nz_t, gdT, inb_nI, ix_nI]
  refine ok_lt (fun h10 e10 => ?_)
  have q4 : hpR h10 a 2 = a + 3 := by rw [e10, e6]; exact k2.1
  have q5 : hpT h10 (a + 3) = (2, m) := by rw [e10, e6]; exact k2.2
  have q6 : hpI h10 a 3 = nI l.length := by rw [e10, hpI_upI, if_neg (by omega)]; exact q3
  simp (disch := omega) only [q4, q5, q6, nz_t, gdT, inb_nI, ix_nI]
  refine ok_lt (fun h14 e14 => ?_)
  have q7 : hpI h14 a 3 = nI l.length := by rw [e14, hpI_upI, if_neg (by omega)]; exact q6
  rw [q7, i1, nI_add]
  refine ok_lt (fun h15 e15 => ?_)
  have hT : hpT h15 = hpT h := by rw [e15, e14, e10, e6]; rfl
  have hRr : hpR h15 = hpR h := by rw [e15, e14, e10, e6]; rfl
  refine ok_some ⟨⟨by rw [hT]; exact c1, fun j hj => by rw [hT, hRr]; exact c2 j hj, by rw [e15, hpI_upI, if_pos ⟨rfl, rfl⟩, List.length_append]; rfl, by simp; omega, c5, fun i hi => ?_⟩, ?_⟩
  · have hi : i < l.length + 1 := by simpa using hi
    rw [getD_snoc hi, e15, e14, e10, e6]
    simp only [hpI_upI]
    by_cases e : i = l.length
    · subst e; simp
    · simp only [e, and_false, if_false]
      rw [if_neg (by omega), if_neg (by omega), if_neg (by omega)]
      exact c6 i (by omega)
  · rw [e15, e14, e10, e6]
    exact (EqOff.uI (by unfold FR; omega)).tr ((EqOff.uI (by unfold FR; omega)).tr ((EqOff.uI (by unfold FR; omega)).tr (EqOff.uI (by unfold FR; omega))))
end NOTES
