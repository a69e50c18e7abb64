theorem numAlt {lo hi : Nat} (h1 : lo < 2 ^ 31) (h2 : hi < 2 ^ 31) (y : Int32) : (numIn (nI lo) (nI hi) y = none ∧ (y < nI lo ∨ nI hi < y)) ∨ ∃ n, numIn (nI lo) (nI hi) y = some n ∧ y = nI n ∧ lo ≤ n ∧ n ≤ hi := by
  by_cases q : nI lo ≤ y ∧ y ≤ nI hi
  · have e : numIn (nI lo) (nI hi) y = some (ix y) := by rw [numIn, if_pos q]
    obtain ⟨e1, e2, e3⟩ := numIn_s h1 h2 e
    exact Or.inr ⟨ix y, e, e1, e2, e3⟩
  · refine Or.inl ⟨by rw [numIn, if_neg q], ?_⟩
    by_cases q1 : y < nI lo
    · exact Or.inl q1
    · exact Or.inr (Int32.not_le.mp (fun q2 => q ⟨Int32.not_lt.mp q1, q2⟩))
/-- the cell that a number tells -/
def cellOfI (S : Fld) (x : Int32) : Option Nat := if 0 ≤ x ∧ x < nI (ncl S) then some (ix x) else none
theorem cellOfI_s {S : Fld} {x : Int32} {i : Nat} (hn : ncl S < 2 ^ 31) (h : cellOfI S x = some i) : x = nI i ∧ i < ncl S := by
  unfold cellOfI at h
  split at h
  · rename_i g
    obtain ⟨e, h2⟩ := nI_ix g.1
    have hi : ix x = i := Option.some.inj h
    rw [hi] at e h2
    refine ⟨e, ?_⟩
    have := g.2
    rw [e, nI_ltI h2 hn] at this
    exact this
  · cases h
theorem cellOfI_nI {S : Fld} {i : Nat} (hn : ncl S < 2 ^ 31) (hi : i < 2 ^ 31) : cellOfI S (nI i) = if i < ncl S then some i else none := by
  simp only [cellOfI, i0, nI_le0 (show (0 : Nat) < 2 ^ 31 by omega) hi, nI_lt0 hi hn, ix_nI hi]
  simp
def addC (S : Fld) (r k hg wd st sl : Nat) : Fld := (fun x => if x = 2 then S.1 2 + 1 else S.1 x, fun j i => if i = S.1 2 then (match j with | 0 => r | 1 => k | 2 => hg | 3 => wd | 4 => st | 5 => sl | 6 => 0 | _ => S.2 j i) else S.2 j i)
def pitchS (S : Fld) (x1 x2 x3 x4 x5 : Int32) : Int32 × Fld := match cellOfI S x1, numIn (nI 1) (nI 3) x2, numIn (nI 1) (nI 3) x3, numIn (nI 1) (nI 9) x4, numIn (nI 0) (nI 9) x5 with
  | some kc, some hg, some wd, some st, some sl => if hld S kc hg wd = false then (-2, S) else if 8 ≤ S.1 2 then (-3, S) else if ∃ i, i < S.1 2 ∧ und S kc hg wd i = true then (-4, S) else (nI (S.1 2), addC S (kc / S.1 1) (kc % S.1 1) hg wd st sl)
  | _, _, _, _, _ => (-1, S)
section CAMPS5
variable {h : Hp} {a : Nat} {S : Fld}
theorem p_hasCellx (c : atC h a S) {x : Int32} : f_X0_hasCell h a x = some (nB (cellOfI S x).isSome) := by
  rw [f_X0_hasCell, p_cells c, bd_s, cellOfI]
  by_cases h1 : x < 0
  · rw [if_pos h1, if_neg (fun q => absurd q.1 (Int32.not_le.mpr h1))]; rfl
  · rw [if_neg h1]
    by_cases h2 : nI (ncl S) ≤ x
    · rw [if_pos h2, if_neg (fun q => absurd q.2 (Int32.not_lt.mpr h2))]; rfl
    · rw [if_neg h2, if_pos ⟨Int32.not_lt.mp h1, Int32.not_le.mp h2⟩]; rfl
theorem p_areSides (x y : Int32) : f_X9_areSides h x y = some (nB ((numIn (nI 1) (nI 3) x).isSome && (numIn (nI 1) (nI 3) y).isSome)) := by
  rw [f_X9_areSides]
  simp only [i1, i3, numIn]
  grind [nB, i0, i1]
theorem p_pitchOn (c : atC h a S) (hw : wfF S) (x1 x2 x3 x4 x5 : Int32) : Ok (f_X0_pitchOn h a x1 x2 x3 x4 x5) (fun o => o.1 = (pitchS S x1 x2 x3 x4 x5).1 ∧ atC o.2 a (pitchS S x1 x2 x3 x4 x5).2 ∧ EqOff (FC a) h o.2) := by
  have hb := ncl_le hw
  have hw2 := hw
  obtain ⟨b1, b2, b3, b4, b5, -, -, b8, b9⟩ := hw
  rw [f_X0_pitchOn, p_hasCellx c, p_areSides]
  simp only [bd_s, nB_0, i1, i9, i0]
  have nope : (pitchS S x1 x2 x3 x4 x5) = (-1, S) → Ok (some ((-1 : Int32), h)) (fun o => o.1 = (pitchS S x1 x2 x3 x4 x5).1 ∧ atC o.2 a (pitchS S x1 x2 x3 x4 x5).2 ∧ EqOff (FC a) h o.2) := fun e => ok_some ⟨by rw [e], by rw [e]; exact c, EqOff.rf⟩
  cases e1 : cellOfI S x1 with
  | none => simp only [nB_00, Option.isSome_none, if_true]; exact nope (by simp [pitchS, e1])
  | some cell =>
    obtain ⟨rfl, g1⟩ := cellOfI_s (by omega) e1
    simp only [nB_00, Option.isSome_some, Bool.true_eq_false, if_false]
    cases e2 : numIn (nI 1) (nI 3) x2 with
    | none => simp only [Option.isSome_none, Bool.false_and, if_true]; exact nope (by simp [pitchS, e1, e2])
    | some hg =>
      obtain ⟨rfl, g2, g2'⟩ := numIn_s (by omega) (by omega) e2
      cases e3 : numIn (nI 1) (nI 3) x3 with
      | none => simp only [Option.isSome_none, Bool.and_false, if_true]; exact nope (by simp [pitchS, e1, e2, e3])
      | some wd =>
        obtain ⟨rfl, g3, g3'⟩ := numIn_s (by omega) (by omega) e3
        simp only [Option.isSome_some, Bool.and_self, Bool.true_eq_false, if_false]
        rcases numAlt (lo := 1) (hi := 9) (by omega) (by omega) x4 with ⟨e4, q4⟩ | ⟨st, e4, rfl, g4, g4'⟩
        · refine ok_if (fun _ => nope (by simp [pitchS, e1, e2, e3, e4])) (fun q => ok_t (q4.resolve_left q) (nope (by simp [pitchS, e1, e2, e3, e4])))
        · simp (disch := omega) only [nI_lt0]
          rw [if_neg (by omega), if_neg (by omega)]
          rcases numAlt (lo := 0) (hi := 9) (by omega) (by omega) x5 with ⟨e5, q5⟩ | ⟨sl, e5, rfl, g5, g5'⟩
          · refine ok_if (fun _ => nope (by simp [pitchS, e1, e2, e3, e4, e5])) (fun q => ok_f (Int32.not_le.mpr (q5.resolve_left q)) (nope (by simp [pitchS, e1, e2, e3, e4, e5])))
          · simp (disch := omega) only [nI_lt0, nI_le0, p_holds c hw2, bd_s, nB_00]
            rw [if_neg (by omega), if_pos (by omega)]
            cases e6 : hld S cell hg wd with
            | false => simp only [if_true]; exact ok_some ⟨by simp [pitchS, e1, e2, e3, e4, e5, e6], by simp [pitchS, e1, e2, e3, e4, e5, e6]; exact c, EqOff.rf⟩
            | true =>
              simp (disch := omega) only [Bool.true_eq_false, if_false, c.q2, i8, nI_lt0, p_onUnder c hw2, bd_s, bitsB_0 (show S.1 2 ≤ 31 by omega)]
              by_cases e7 : S.1 2 < 8
              · rw [if_pos e7]
                by_cases e8 : ∃ i, i < S.1 2 ∧ und S cell hg wd i = true
                · have e9 : ¬ ∀ i, i < S.1 2 → und S cell hg wd i = false := fun q => by
                    obtain ⟨i, z1, z2⟩ := e8
                    rw [q i z1] at z2; cases z2
                  rw [if_neg e9]
                  exact ok_some ⟨by simp only [pitchS, e1, e2, e3, e4, e5, e6]; rw [if_neg (by simp), if_neg (by omega), if_pos e8], by simp only [pitchS, e1, e2, e3, e4, e5, e6]; rw [if_neg (by simp), if_neg (by omega), if_pos e8]; exact c, EqOff.rf⟩
                · have e9 : ∀ i, i < S.1 2 → und S cell hg wd i = false := fun i hi => by
                    cases z : und S cell hg wd i with
                    | false => rfl
                    | true => exact absurd ⟨i, hi, z⟩ e8
                  rw [if_pos e9]
                  have eR : pitchS S (nI cell) (nI hg) (nI wd) (nI st) (nI sl) = (nI (S.1 2), addC S (cell / S.1 1) (cell % S.1 1) hg wd st sl) := by
                    simp only [pitchS, e1, e2, e3, e4, e5, e6]; rw [if_neg (by simp), if_neg (by omega), if_neg e8]
                  rw [eR]
                  simp (disch := omega) only [c.r5, c.t1, nz_t, gdT, p_rowOf c hw2, bd_s, inb_nI, ix_nI]
                  refine ok_lt (fun h1 z1 => ?_)
                  have c1 : atC h1 a (setF S 0 (S.1 2) (cell / S.1 1)) := by rw [z1]; exact c.w0
                  have o1 : EqOff (FC a) h h1 := by rw [z1]; exact eoC (by omega)
                  have k1 : f_X0_columnOf h1 a (nI cell) = some (nI (cell % S.1 1)) := p_columnOf (S := setF S 0 (S.1 2) (cell / S.1 1)) c1 ⟨b1, b2, b3, b4, b5, hw2.2.2.2.2.2.1, hw2.2.2.2.2.2.2.1, by
                    have hr : cell / S.1 1 ≤ cell := Nat.div_le_self _ _
                    intro j i; simp only [setF]; split
                    · omega
                    · exact b8 j i, by
                    intro i hi
                    have hi : i < S.1 2 := hi
                    have hne : ¬ (i = S.1 2) := by omega
                    simp only [setF, hne, and_false, if_false]
                    exact b9 i hi⟩ (i := cell) (by omega)
                  clear z1
                  simp (disch := omega) only [c1.r6, c1.t2, nz_t, gdT, k1, bd_s, c1.q2, setF, inb_nI, ix_nI]
                  refine ok_lt (fun h2 z2 => ?_)
                  have c2 := c1.w1 (i := S.1 2) (v := cell % S.1 1)
                  rw [← z2] at c2
                  have o2 : EqOff (FC a) h h2 := by rw [z2]; exact o1.tr (eoC (by omega))
                  clear z2
                  simp (disch := omega) only [c2.r7, c2.t3, nz_t, gdT, c2.q2, setF, inb_nI, ix_nI]
                  refine ok_lt (fun h3 z3 => ?_)
                  have c3 := c2.w2 (i := S.1 2) (v := hg)
                  rw [← z3] at c3
                  have o3 : EqOff (FC a) h h3 := by rw [z3]; exact o2.tr (eoC (by omega))
                  clear z3
                  simp (disch := omega) only [c3.r8, c3.t4, nz_t, gdT, c3.q2, setF, inb_nI, ix_nI]
                  refine ok_lt (fun h4 z4 => ?_)
                  have c4 := c3.w3 (i := S.1 2) (v := wd)
                  rw [← z4] at c4
                  have o4 : EqOff (FC a) h h4 := by rw [z4]; exact o3.tr (eoC (by omega))
                  clear z4
                  simp (disch := omega) only [c4.r9, c4.t5, nz_t, gdT, c4.q2, setF, inb_nI, ix_nI]
                  refine ok_lt (fun h5 z5 => ?_)
                  have c5 := c4.w4 (i := S.1 2) (v := st)
                  rw [← z5] at c5
                  have o5 : EqOff (FC a) h h5 := by rw [z5]; exact o4.tr (eoC (by omega))
                  clear z5
                  simp (disch := omega) only [c5.r10, c5.t6, nz_t, gdT, c5.q2, setF, inb_nI, ix_nI]
                  refine ok_lt (fun h6 z6 => ?_)
                  have c6 := c5.w5 (i := S.1 2) (v := sl)
                  rw [← z6] at c6
                  have o6 : EqOff (FC a) h h6 := by rw [z6]; exact o5.tr (eoC (by omega))
                  clear z6
                  simp (disch := omega) only [c6.r11, c6.t7, nz_t, gdT, c6.q2, setF, inb_nI, ix_nI]
                  refine ok_lt (fun h7 z7 => ?_)
                  have c7 := c6.w6 (i := S.1 2) (v := 0)
                  rw [← z7] at c7
                  have o7 : EqOff (FC a) h h7 := by rw [z7]; exact o6.tr (eoC (by omega))
                  clear z7
                  have e7q : hpI h7 a 2 = nI (S.1 2) := c7.q2
                  rw [e7q, nI_add]
                  refine ok_lt (fun h8 z8 => ?_)
                  have c8 := c7.wq (k := 2) (v := S.1 2 + 1)
                  rw [← z8] at c8
                  have o8 : EqOff (FC a) h h8 := by rw [z8]; exact o7.tr eoC0
                  clear z8
                  refine ok_some ⟨?_, c8.ext (fun k hk => ?_) (fun j i hj hi => ?_), o8⟩
                  · rw [c8.q2]
                    show nI (S.1 2 + 1) - nI 1 = _
                    rw [pk_sub (by omega), Nat.add_sub_cancel]
                  · simp only [setQ, setF, addC]
                  · simp only [setQ, setF, addC]
                    by_cases hi2 : i = S.1 2
                    · rcases (show j = 0 ∨ j = 1 ∨ j = 2 ∨ j = 3 ∨ j = 4 ∨ j = 5 ∨ j = 6 by omega) with rfl | rfl | rfl | rfl | rfl | rfl | rfl <;> simp [hi2]
                    · simp [hi2]
              · rw [if_neg e7]
                exact ok_some ⟨by simp only [pitchS, e1, e2, e3, e4, e5, e6]; rw [if_neg (by simp), if_pos (by omega)], by simp only [pitchS, e1, e2, e3, e4, e5, e6]; rw [if_neg (by simp), if_pos (by omega)]; exact c, EqOff.rf⟩
end CAMPS5
