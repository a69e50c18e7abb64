section CNUM
variable {h h1 : Hp}
/-- the class's reader at work: the text X up to e, now at a; the rule at 157 has p numbers st -/
def F5 (x : Nat) : Prop := 157 ≤ x ∧ x ≤ 161
def RdC (h : Hp) (X : List Int32) (e a p : Nat) (st : Nat → Int32) : Prop := (atX h 2 X ∧ hpR h 161 0 = 2 ∧ hpR h 161 1 = 157 ∧ hpI h 161 3 = nI e ∧ e ≤ X.length ∧ e ≤ 40) ∧ hpI h 161 2 = nI a ∧ a ≤ e ∧ atR h 157 p st
theorem RdC.to {X : List Int32} {e a p a2 p2 : Nat} {st st2 : Nat → Int32} (r : RdC h X e a p st) (eo : EqOff F5 h h1) (h3 : hpI h1 161 3 = hpI h 161 3) (ha : hpI h1 161 2 = nI a2) (hae : a2 ≤ e) (hr : atR h1 157 p2 st2) : RdC h1 X e a2 p2 st2 := ⟨⟨r.1.1.keep eo (fun x z1 z2 => by unfold F2 at z1; unfold F5 at z2; omega), by rw [eo.2.2.1]; exact r.1.2.1, by rw [eo.2.2.1]; exact r.1.2.2.1, by rw [h3]; exact r.1.2.2.2.1, r.1.2.2.2.2⟩, ha, hae, hr⟩
/-- one sign further -/
theorem RdC.fw {X : List Int32} {e a p : Nat} {st : Nat → Int32} (r : RdC h X e a p st) (hae : a + 1 ≤ e) : RdC (upI h 161 2 (nI (a + 1))) X e (a + 1) p st ∧ EqOff F5 h (upI h 161 2 (nI (a + 1))) := by
  have eo : EqOff (fun x => x = 161) h (upI h 161 2 (nI (a + 1))) := EqOff.uI rfl
  have eo5 : EqOff F5 h (upI h 161 2 (nI (a + 1))) := eo.mono (fun x z => by unfold F5; omega)
  exact ⟨r.to eo5 (by rw [hpI_upI, if_neg (by omega)]) (by rw [hpI_upI, if_pos ⟨rfl, rfl⟩]) hae (r.2.2.2.keep eo (fun x z1 z2 => by unfold FR at z1; omega)), eo5⟩
theorem p_next {X : List Int32} {e a p : Nat} {st : Nat → Int32} (r : RdC h X e a p st) : f_X5_next h 161 = some (if a < e then X.getD a 0 else -1) := by
  obtain ⟨⟨r1, r2, r3, r4, r5, r6⟩, r7, r8, r9⟩ := r
  rw [f_X5_next, r4, r7, r2]
  by_cases w : a < e
  · have es : sgA X a = X.getD a 0 := by unfold sgA; rw [if_pos (by omega)]
    rw [if_neg (by rw [nI_leI (by omega) (by omega)]; omega), if_neg (by omega), gd_t (by decide), p_get r1 (by omega), bd_s, es, if_pos w]
  · rw [if_pos (by rw [nI_leI (by omega) (by omega)]; omega), if_neg w]
theorem p_write {X : List Int32} {e a p : Nat} {st : Nat → Int32} (r : RdC h X e a p st) (hp : p < 40) (v : Int32) : Ok (f_X5_write h 161 v) (fun h1 => RdC h1 X e a (p + 1) (stU st p (-v)) ∧ EqOff F5 h h1) := by
  rw [f_X5_write, r.1.2.2.1]
  refine ok_f (by omega) (ok_gd (by decide) (ok_bd (p_addS r.2.2.2 hp v) (fun h1 ⟨z1, z2⟩ => ok_some ?_)))
  have eo : EqOff F5 h h1 := z2.mono (fun x z => by unfold FR at z; unfold F5; omega)
  have k : ∀ q, hpI h1 161 q = hpI h 161 q := fun q => z2.1 _ _ (fun z => by unfold FR at z; omega)
  exact ⟨r.to eo (k 3) (by rw [k]; exact r.2.1) r.2.2.1 z1, eo⟩
theorem p_num {X : List Int32} {e a p : Nat} {st : Nat → Int32} (r : RdC h X e a p st) (hp : p < 40) : Ok (f_X5_number h 161) (fun h1 => RdC h1 X e (nuG X e 3 0 a).2 (p + 1) (stU st p (nI (nuG X e 3 0 a).1)) ∧ EqOff F5 h h1) := by
  have hF := FU_big
  rw [f_X5_number]
  have fin : ∀ v a h2, RdC h2 X e a p st → EqOff F5 h h2 → Ok (f_X5_number_56 161 h2 (nI v)) (fun h1 => RdC h1 X e a (p + 1) (stU st p (nI v)) ∧ EqOff F5 h h1) := by
    intro v a h2 r2 o2
    rw [f_X5_number_56, r2.1.2.2.1]
    refine ok_f (by omega) (ok_gd (by decide) (ok_bd (p_addN r2.2.2.2 hp (nI v)) (fun h1 ⟨z1, z2⟩ => ok_some ?_)))
    have eo : EqOff F5 h2 h1 := z2.mono (fun x z => by unfold FR at z; unfold F5; omega)
    have k : ∀ q, hpI h1 161 q = hpI h2 161 q := fun q => z2.1 _ _ (fun z => by unfold FR at z; omega)
    exact ⟨r2.to eo (k 3) (by rw [k]; exact r2.2.1) r2.2.2.1 z1, o2.tr eo⟩
  have go : ∀ d j q v a h2, j + d = 3 → d < q → RdC h2 X e a p st → EqOff F5 h h2 → Ok (f_X5_number_4 161 q h2 (nI v) (nI j)) (fun h1 => RdC h1 X e (nuG X e d v a).2 (p + 1) (stU st p (nI (nuG X e d v a).1)) ∧ EqOff F5 h h1) := by
    intro d
    induction d with
    | zero =>
      intro j q v a h2 e1 e2 r2 o2
      obtain ⟨q, rfl⟩ : ∃ k, q = k + 1 := ⟨q - 1, by omega⟩
      simp only [f_X5_number_4, lt_u]
      exact ok_t (by rw [i3, nI_leI (by omega) (by omega)]; omega) (fin v a h2 r2 o2)
    | succ d ih =>
      intro j q v a h2 e1 e2 r2 o2
      obtain ⟨q, rfl⟩ : ∃ k, q = k + 1 := ⟨q - 1, by omega⟩
      have hX := r2.1.2.2.2.2.1
      simp only [f_X5_number_4, lt_u]
      rw [p_next r2, bd_s, bd_s, bd_s, nuG]
      refine ok_f (by rw [i3, nI_leI (by omega) (by omega)]; omega) ?_
      by_cases w : a < e
      · rw [if_pos w]
        by_cases w2 : (48 : Int32) ≤ X.getD a 0 ∧ X.getD a 0 ≤ 57
        · have dg := dgI w2.1 w2.2
          have hq : dgA X a e = some (ix (X.getD a 0) - 48) := by unfold dgA; rw [if_pos ⟨w, by omega, w2⟩]
          have ex : ∀ y, y + X.getD a 0 - 48 = y + (X.getD a 0 - 48) := fun y => by rw [Int32.sub_eq_add_neg, Int32.sub_eq_add_neg, Int32.add_assoc]
          rw [hq, ex, dg.1, show (10 : Int32) = nI 10 by decide, i1, r2.2.1, pk_mul]
          simp only [nI_add]
          refine ok_f (Int32.not_lt.mpr w2.1) (ok_f (Int32.not_lt.mpr w2.2) ?_)
          have f := r2.fw (by omega)
          rw [Nat.mul_comm v 10]
          exact ih (j + 1) q (10 * v + (ix (X.getD a 0) - 48)) (a + 1) _ (by omega) (by omega) f.1 (o2.tr f.2)
        · have hq : dgA X a e = none := by unfold dgA; rw [if_neg (fun z => w2 z.2.2)]
          rw [hq]
          refine ok_if (fun _ => fin v a h2 r2 o2) (fun y => ok_t (Int32.not_le.mp (fun z => w2 ⟨Int32.not_lt.mp y, z⟩)) (fin v a h2 r2 o2))
      · have hq : dgA X a e = none := by unfold dgA; rw [if_neg (fun z => w z.1)]
        rw [if_neg w, hq]
        exact ok_t (by decide) (fin v a h2 r2 o2)
  exact go 3 0 FU 0 a h (by omega) (by omega) r EqOff.rf
end CNUM
