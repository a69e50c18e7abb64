section CAMPS6
variable {h : Hp} {a : Nat} {S : Fld}
theorem p_holds_m1 (c : atC h a S) {x y : Int32} : f_X0_holds h a (-1) x y = some 0 := by
  rw [f_X0_holds, p_hasCellx c]
  have e : cellOfI S (-1) = none := by rw [cellOfI, if_neg (fun q => absurd q.1 (by decide))]
  rw [e]; rfl
/-- the first cell of a camp -/
def fcl (S : Fld) (i : Nat) : Nat := S.2 0 i * S.1 1 + S.2 1 i
theorem p_firstCell (c : atC h a S) (b2 : S.1 0 ≤ 6) (b4 : S.1 1 ≤ 6) (b5 : S.1 2 ≤ 8) {i : Nat} (hi : i < S.1 2) (h1 : S.2 0 i < S.1 0) (h2 : S.2 1 i < S.1 1) : f_X0_firstCell h a (nI i) = some (nI (fcl S i)) := by
  have e : campOf S (nI i) = some i := by rw [campOf_nI (by omega) (by omega), if_pos hi]
  rw [f_X0_firstCell, p_hasx c, e]
  simp (disch := omega) only [bd_s, lt_u, nB_0, nB_00, nz_t, gdT, inb_nI, ix_nI, nI_le0, nI_lt0, nI_eq0, nI_add, pk_mul, i0, i1, i2, i3, c.q0, c.q1, c.q2, c.q3, c.q4, c.r5, c.r6, c.r7, c.r8, c.r9, c.r10, c.r11, c.t1, c.t2, c.t3, c.t4, c.t5, c.t6, c.t7, c.v0, c.v1, c.v2, c.v3, c.v4, c.v5, c.v6, Option.isSome_some, Bool.true_eq_false, if_false, f_X0_cellAt, f_X0_cellAt_28, f_X0_cellAt_29]
  rw [if_neg (by omega), if_neg (by omega), if_neg (by omega), if_neg (by omega), if_neg (by omega)]
  rfl
def mvT (S : Fld) (i w : Nat) : Option (Nat × Nat) := match w with
  | 0 => if 0 < S.2 0 i then some (S.2 0 i - 1, S.2 1 i) else none
  | 1 => if S.2 1 i + 1 + S.2 3 i ≤ S.1 1 then some (S.2 0 i, S.2 1 i + 1) else none
  | 2 => if S.2 0 i + 1 + S.2 2 i ≤ S.1 0 then some (S.2 0 i + 1, S.2 1 i) else none
  | _ => if 0 < S.2 1 i then some (S.2 0 i, S.2 1 i - 1) else none
def moveS (S : Fld) (x y : Int32) : Int32 × Fld := match campOf S x, numIn (nI 0) (nI 3) y with
  | some i, some w => match mvT S i w with
    | some (r, k) => (nI (r * S.1 1 + k), setF (setF S 0 i r) 1 i k)
    | none => (-2, S)
  | _, _ => (-1, S)
theorem nI_m1 {n : Nat} (h : 0 < n) : nI n + (-1) = nI (n - 1) := by
  obtain ⟨k, rfl⟩ : ∃ k, n = k + 1 := ⟨n - 1, by omega⟩
  rw [pk_m1, Nat.add_sub_cancel]
theorem n1m : -nI 1 = (-1 : Int32) := by decide
theorem nI_0m1 : nI 0 + (-1 : Int32) = -1 := by decide
theorem dm_1 {r k m : Nat} (hk : k < m) : (r * m + k) / m = r ∧ (r * m + k) % m = k := by
  have hm : 0 < m := by omega
  constructor
  · rw [Nat.mul_comm, Nat.mul_add_div hm, Nat.div_eq_of_lt hk, Nat.add_zero]
  · rw [Nat.mul_comm, Nat.mul_add_mod, Nat.mod_eq_of_lt hk]
/-- the end of a move: to (r, k), or not -/
theorem p_move_in (c : atC h a S) (hw : wfF S) {i r k w : Nat} (hi : i < S.1 2) (hr : r < 100) (hk : k < 100) : Ok (f_X0_move_70 a (nI i) (nI w) h (nI k) (nI 0) (nI r)) (fun o => if r + S.2 2 i ≤ S.1 0 ∧ k + S.2 3 i ≤ S.1 1 then o.1 = nI (r * S.1 1 + k) ∧ atC o.2 a (setF (setF S 0 i r) 1 i k) ∧ EqOff (FC a) h o.2 else o = (-2, h)) := by
  have hw2 := hw
  have hb := ncl_le hw
  obtain ⟨b1, b2, b3, b4, b5, -, -, b8, b9⟩ := hw
  obtain ⟨g1, g2, g3, g4, g5, g6, -⟩ := b9 i hi
  rw [f_X0_move_70, nI_add, Nat.add_zero]
  refine ok_lt (fun v ev => ?_)
  subst ev
  rw [p_cellAt c hw2 (by omega) (by omega), bd_s]
  by_cases hin : r < S.1 0 ∧ k < S.1 1
  · rw [if_pos hin]
    obtain ⟨d1, d2⟩ := dm_1 (r := r) (k := k) (m := S.1 1) hin.2
    have hlt : r * S.1 1 + k < ncl S := by
      have : r * S.1 1 + S.1 1 ≤ S.1 0 * S.1 1 := by
        rw [← Nat.succ_mul]; exact Nat.mul_le_mul_right _ hin.1
      unfold ncl; omega
    simp (disch := omega) only [c.q0, c.q1, c.q2, c.q3, c.q4, c.r5, c.r6, c.r7, c.r8, c.r9, c.r10, c.r11, c.t1, c.t2, c.t3, c.t4, c.t5, c.t6, c.t7, c.v0, c.v1, c.v2, c.v3, c.v4, c.v5, c.v6, nz_t, inb_nI, gdT, ix_nI, p_holds c hw2, bd_s, nB_0]
    have eh : hld S (r * S.1 1 + k) (S.2 2 i) (S.2 3 i) = decide (r + S.2 2 i ≤ S.1 0 ∧ k + S.2 3 i ≤ S.1 1) := by
      simp only [hld, d1, d2, hlt, decide_true, Bool.true_and]
      grind
    rw [eh]
    by_cases hf : r + S.2 2 i ≤ S.1 0 ∧ k + S.2 3 i ≤ S.1 1
    · simp (disch := omega) only [hf, and_self, decide_true, Bool.true_eq_false, if_false, if_true]
      refine ok_lt (fun h1 z1 => ?_)
      have c1 := c.w0 (i := i) (v := r)
      rw [← z1] at c1
      have o1 : EqOff (FC a) h h1 := by rw [z1]; exact eoC (by omega)
      clear z1
      simp (disch := omega) only [c1.r6, c1.t2, nz_t, inb_nI, gdT, ix_nI]
      refine ok_lt (fun h2 z2 => ?_)
      have c2 := c1.w1 (i := i) (v := k)
      rw [← z2] at c2
      have o2 : EqOff (FC a) h h2 := by rw [z2]; exact o1.tr (eoC (by omega))
      clear z2
      have e3 := p_firstCell (S := setF (setF S 0 i r) 1 i k) c2 b2 b4 b5 (i := i) hi (by simp [setF]; omega) (by simp [setF]; omega)
      rw [e3, bd_s]
      exact ok_some ⟨by simp [fcl, setF], c2, o2⟩
    · simp only [hf, decide_false, if_true, if_false]
      exact ok_some rfl
  · have hf : ¬ (r + S.2 2 i ≤ S.1 0 ∧ k + S.2 3 i ≤ S.1 1) := fun q => hin ⟨by have := q.1; omega, by have := q.2; omega⟩
    simp only [hin, hf, if_false]
    simp (disch := omega) only [c.q0, c.q1, c.q2, c.q3, c.q4, c.r5, c.r6, c.r7, c.r8, c.r9, c.r10, c.r11, c.t1, c.t2, c.t3, c.t4, c.t5, c.t6, c.t7, c.v0, c.v1, c.v2, c.v3, c.v4, c.v5, c.v6, nz_t, inb_nI, gdT, ix_nI, p_holds_m1 c, bd_s, if_true]
    exact ok_some rfl
theorem p_move_out (c : atC h a S) (hw : wfF S) {i w : Nat} {x y z : Int32} (hi : i < S.1 2) (hn : z < 0 ∨ x + y < 0) : Ok (f_X0_move_70 a (nI i) (nI w) h x y z) (fun o => o = (-2, h)) := by
  have b5 := hw.2.2.2.2.1
  rw [f_X0_move_70]
  refine ok_lt (fun v ev => ?_)
  have e : f_X0_cellAt h a z v = some (-1) := by
    rcases hn with q | q
    · exact p_cellAt_n1 c q
    · exact p_cellAt_n2 c (by rw [ev]; exact q)
  rw [e, bd_s]
  simp (disch := omega) only [c.q0, c.q1, c.q2, c.q3, c.q4, c.r5, c.r6, c.r7, c.r8, c.r9, c.r10, c.r11, c.t1, c.t2, c.t3, c.t4, c.t5, c.t6, c.t7, c.v0, c.v1, c.v2, c.v3, c.v4, c.v5, c.v6, nz_t, inb_nI, gdT, ix_nI, p_holds_m1 c, bd_s, if_true]
  exact ok_some rfl
theorem p_move (c : atC h a S) (hw : wfF S) (x y : Int32) : Ok (f_X0_move h a x y) (fun o => o.1 = (moveS S x y).1 ∧ atC o.2 a (moveS S x y).2 ∧ EqOff (FC a) h o.2) := by
  have hw2 := hw
  obtain ⟨b1, b2, b3, b4, b5, -, -, b8, b9⟩ := hw
  rw [f_X0_move, p_hasx c]
  cases hx : campOf S x with
  | none => exact ok_some ⟨by simp [moveS, hx], by simp [moveS, hx]; exact c, EqOff.rf⟩
  | some i =>
    obtain ⟨rfl, hi⟩ := campOf_s (by omega) hx
    obtain ⟨g1, g2, g3, g4, g5, g6, -⟩ := b9 i hi
    simp only [bd_s, Option.isSome_some, nB_0, Bool.true_eq_false, if_false]
    rcases numAlt (lo := 0) (hi := 3) (by omega) (by omega) y with ⟨hy, q⟩ | ⟨w, hy, rfl, g7, g8⟩
    · rw [i0, i3]
      refine ok_if (fun _ => ?_) (fun q2 => ok_f (Int32.not_le.mpr (q.resolve_left q2)) ?_) <;> exact ok_some ⟨by simp [moveS, hx, hy], by simp [moveS, hx, hy]; exact c, EqOff.rf⟩
    · simp (disch := omega) only [i0, i1, i2, i3, nI_lt0, nI_le0, nI_eq0, c.q0, c.q1, c.q2, c.q3, c.q4, c.r5, c.r6, c.r7, c.r8, c.r9, c.r10, c.r11, c.t1, c.t2, c.t3, c.t4, c.t5, c.t6, c.t7, c.v0, c.v1, c.v2, c.v3, c.v4, c.v5, c.v6, nz_t, inb_nI, gdT, ix_nI, f_X0_move_43, lt_u, n1m]
      rw [if_neg (by omega), if_pos (by omega)]
      have fin : ∀ {o : Int32 × Hp} {r k : Nat}, mvT S i w = (if r + S.2 2 i ≤ S.1 0 ∧ k + S.2 3 i ≤ S.1 1 then some (r, k) else none) → (if r + S.2 2 i ≤ S.1 0 ∧ k + S.2 3 i ≤ S.1 1 then o.1 = nI (r * S.1 1 + k) ∧ atC o.2 a (setF (setF S 0 i r) 1 i k) ∧ EqOff (FC a) h o.2 else o = (-2, h)) → o.1 = (moveS S (nI i) (nI w)).1 ∧ atC o.2 a (moveS S (nI i) (nI w)).2 ∧ EqOff (FC a) h o.2 := by
        intro o r k em ho
        by_cases hf : r + S.2 2 i ≤ S.1 0 ∧ k + S.2 3 i ≤ S.1 1
        · rw [if_pos hf] at em ho
          simp only [moveS, hx, hy, em]
          exact ho
        · rw [if_neg hf] at em ho
          simp only [moveS, hx, hy, em]
          rw [ho]
          exact ⟨rfl, c, EqOff.rf⟩
      have non : mvT S i w = none → ∀ {o : Int32 × Hp}, o = (-2, h) → o.1 = (moveS S (nI i) (nI w)).1 ∧ atC o.2 a (moveS S (nI i) (nI w)).2 ∧ EqOff (FC a) h o.2 := by
        intro em o ho
        simp only [moveS, hx, hy, em]
        rw [ho]
        exact ⟨rfl, c, EqOff.rf⟩
      rcases (show w = 0 ∨ w = 1 ∨ w = 2 ∨ w = 3 by omega) with rfl | rfl | rfl | rfl
      · simp only [Nat.reduceEqDiff, if_false, if_true]
        by_cases q : 0 < S.2 0 i
        · rw [nI_m1 q]
          exact ok_mono (p_move_in c hw2 hi (by omega) (by omega)) (fun o ho => fin (by simp only [mvT, q, if_true]; rw [if_pos (by omega)]) ho)
        · have e0 : S.2 0 i = 0 := by omega
          rw [e0, nI_0m1]
          exact ok_mono (p_move_out c hw2 hi (Or.inl (by decide))) (fun o ho => non (by simp [mvT, q]) ho)
      · simp only [Nat.reduceEqDiff, if_false, if_true]
        rw [nI_add, Nat.add_zero]
        have e := p_move_in c hw2 (i := i) (r := S.2 0 i) (k := S.2 1 i + 1) (w := 1) hi (by omega) (by omega)
        rw [f_X0_move_70, nI_add] at e ⊢
        rw [Nat.add_zero] at e
        exact ok_mono e (fun o ho => fin (by simp only [mvT]; by_cases z : S.2 1 i + 1 + S.2 3 i ≤ S.1 1 <;> simp [z] <;> omega) ho)
      · simp only [Nat.reduceEqDiff, if_false, if_true]
        rw [nI_add]
        exact ok_mono (p_move_in c hw2 hi (by omega) (by omega)) (fun o ho => fin (by simp only [mvT]; by_cases z : S.2 0 i + 1 + S.2 2 i ≤ S.1 0 <;> simp [z] <;> omega) ho)
      · simp only [Nat.reduceEqDiff, if_false, if_true]
        rw [nI_add, Nat.add_zero]
        by_cases q : 0 < S.2 1 i
        · have e := p_move_in c hw2 (i := i) (r := S.2 0 i) (k := S.2 1 i - 1) (w := 3) hi (by omega) (by omega)
          rw [f_X0_move_70, nI_add, Nat.add_zero] at e
          rw [f_X0_move_70, nI_m1 q]
          exact ok_mono e (fun o ho => fin (by simp only [mvT, q, if_true]; rw [if_pos (by omega)]) ho)
        · have e0 : S.2 1 i = 0 := by omega
          exact ok_mono (p_move_out c hw2 hi (Or.inr (by rw [e0, nI_0m1]; decide))) (fun o ho => non (by simp [mvT, q]) ho)
end CAMPS6
