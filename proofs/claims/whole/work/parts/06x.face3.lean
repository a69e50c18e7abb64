def bc64 (x : Int64) : Int32 := (f_J13_bitCount_95d88 ((fun _ _ => 0), (fun _ _ => 0), (fun _ _ => 0), (fun _ => (0, 0)), 0) x).getD 0
theorem p_bc64 (h : Hp) (x : Int64) : f_J13_bitCount_95d88 h x = some (bc64 x) := rfl
/-- how many are on over a cell -/
def ovN (S : Fld) (kc : Nat) : Int32 := bc32 (bitsB (ocv S kc) (S.1 2))
def slF (S : Fld) (b : Int32 × Int32) (kc : Nat) : Int32 × Int32 := if ovN S kc ≤ b.1 then b else (ovN S kc, nI kc)
def slB (S : Fld) : Int32 × Int32 := fo (slF S) (0, -1) 0 (ncl S)
def slL (S : Fld) : Int64 := bitsL (fun kc => decide (∃ i, i < S.1 2 ∧ ocv S kc i = true)) (ncl S)
def sp_slept (A : Ast) : Int64 × Ast := (slL (aS A), wT A [(bc64 (slL (aS A))).toInt64, (slB (aS A)).1.toInt64, (slB (aS A)).2.toInt64])
/-- how many cells are shared -/
def shrd (S : Fld) : Int32 := fo (fun (b : Int32) kc => if ovN S kc ≤ 1 then b else b + 1) 0 0 (ncl S)
/-- pairs that cross: how many, and the first -/
def crI (S : Fld) (i : Nat) (b : Nat × Option (Nat × Nat)) (j : Nat) : Nat × Option (Nat × Nat) := if crb S i j = true then (b.1 + 1, if b.1 = 0 then some (i, j) else b.2) else b
def crO (S : Fld) (b : Nat × Option (Nat × Nat)) (i : Nat) : Nat × Option (Nat × Nat) := fo (crI S i) b (i + 1) (S.1 2 - (i + 1))
def crP (S : Fld) : Nat × Option (Nat × Nat) := fo (crO S) (0, none) 0 (S.1 2)
def crT (o : Option (Nat × Nat)) : List Int64 := match o with
  | none => []
  | some p => [(nI p.1).toInt64, (nI p.2).toInt64]
def sp_crosses (A : Ast) : Int32 × Ast := (nI (crP (aS A)).1, wT A ((shrd (aS A)).toInt64 :: crT (crP (aS A)).2))
def sp_heap (A : Ast) (x : Int32) : Int32 × Ast := match campOf (aS A) x with
  | none => (-1, A)
  | some i => if onb (aS A) i = true then (nI (hang (aS A) i), wT A [(bc32 (nI (hang (aS A) i))).toInt64, bitsL (fun kc => decide (∃ j, j < (aS A).1 2 ∧ (hang (aS A) i).testBit j = true ∧ cov (aS A) kc j = true)) (ncl (aS A))]) else (-2, A)
/-- the state after n years -/
def yrN (A : Ast) (n : Nat) : Fld := (yrs (lossE (aE A)) (aS A) n).2
def sp_gone (A : Ast) (x : Int32) : Int32 × Ast := match campOf (aS A) x with
  | none => (-1, A)
  | some i => match ff (fun n => !(onb (yrN A n) i)) 0 100 with
    | some n => (nI n, wT A [(nI (fcl (yrN A n) i)).toInt64])
    | none => (-2, A)
def sp_lies (A : Ast) (x n : Int32) : Int32 × Ast := match campOf (aS A) x, numIn (nI 0) (nI 99) n with
  | some i, some k => (nI (fcl (yrN A k) i), wT A [(nI ((yrN A k).2 4 i)).toInt64, (bitsB (onb (yrN A k)) ((yrN A k).1 2)).toInt64])
  | _, _ => (-1, A)
section FACE3
variable {h h1 : Hp} {A : Ast} {S : Fld}
theorem fo_lp2 {α β : Type} (L : Nat → α → Int32 → Option β) (N : Nat) (step : α → Nat → α) (fin : α → Option β) (s0 : Nat) (hL : ∀ n acc i, s0 ≤ i → i < N → L (n + 1) acc (nI i) = L n (step acc i) (nI (i + 1))) (hE : ∀ n acc, L (n + 1) acc (nI N) = fin acc) : ∀ d n acc i, s0 ≤ i → i + d = N → d < n → L n acc (nI i) = fin (fo step acc i d) := by
  intro d
  induction d with
  | zero =>
    intro n acc i h0 h1 h2
    obtain ⟨k, rfl⟩ : ∃ k, n = k + 1 := ⟨n - 1, by omega⟩
    have e : i = N := by omega
    subst e
    exact hE k acc
  | succ d ih =>
    intro n acc i h0 h1 h2
    obtain ⟨k, rfl⟩ : ∃ k, n = k + 1 := ⟨n - 1, by omega⟩
    rw [hL k acc i h0 (by omega)]
    exact ih k (step acc i) (i + 1) (by omega) (by omega) (by omega)
theorem c_slept (c : RC h A) (hw : wfF (aS A)) : Ok (f_X9_slept h 1) (fun o => o.1 = (sp_slept A).1 ∧ RC o.2 (sp_slept A).2 ∧ EqOff FX h o.2) := by
  have hF := FU_big
  have hb := ncl_le hw
  have e := fo_lp (fun n (b : Int32 × Int32) i => f_X9_slept_6 1 n h b.1 b.2 i) (ncl (aS A)) (slF (aS A)) (fun b => f_X9_slept_6 1 1 h b.1 b.2 (nI (ncl (aS A)))) (fun n b i hi => ?_) (fun n b => ?_) (ncl (aS A)) FU (0, -1) 0 (by omega) (by omega)
  · have e : f_X9_slept h 1 = f_X9_slept_6 1 1 h (slB (aS A)).1 (slB (aS A)).2 (nI (ncl (aS A))) := e
    rw [e]
    simp only [f_X9_slept_6]
    refine ok_lt (fun k ek => ?_)
    clear ek
    rw [c.s.r1_2, c.s.r1_1, p_cells c.n, bd_s, p_sleptCells c.n hw, bd_s]
    refine ok_gd (by decide) (ok_t (Int32.le_refl _) (ok_gd (by decide) (ok_bd (c_t0 c) (fun h9 ⟨c9, o9⟩ => ?_))))
    rw [c9.s.r1_1, p_bc64, bd_s]
    refine ok_gd (by decide) (ok_bd (c_t1 c9 (by simp [aT, wT, mkA]) _) (fun h13 ⟨c13, o13⟩ => ?_))
    rw [c13.s.r1_1]
    refine ok_gd (by decide) (ok_bd (c_t1 c13 (by simp [aT, wT, mkA]) _) (fun h16 ⟨c16, o16⟩ => ?_))
    rw [c16.s.r1_1]
    refine ok_gd (by decide) (ok_bd (c_t1 c16 (by simp [aT, wT, mkA]) _) (fun h19 ⟨c19, o19⟩ => ok_some ⟨rfl, c19, (F24y o9).tr ((F24y o13).tr ((F24y o16).tr (F24y o19)))⟩))
  · have e2 := p_onOver c.n hw (cell := i) (by omega)
    show f_X9_slept_6 1 (n + 1) h b.1 b.2 (nI i) = f_X9_slept_6 1 n h (slF (aS A) b i).1 (slF (aS A) b i).2 (nI (i + 1))
    simp (disch := omega) only [f_X9_slept_6, f_X9_slept_41, lt_u, c.s.r1_2, p_cells c.n, bd_s, e2, p_bc, nI_le0, i1, nI_add, nz_t, gdT]
    rw [if_neg (by omega)]
    unfold slF ovN
    by_cases q : bc32 (bitsB (ocv (aS A) i) ((aS A).1 2)) ≤ b.1
    · rw [if_pos q, if_pos q, if_pos q]
    · rw [if_neg q, if_neg q, if_neg q]
  · show f_X9_slept_6 1 (n + 1) h b.1 b.2 (nI (ncl (aS A))) = f_X9_slept_6 1 1 h b.1 b.2 (nI (ncl (aS A)))
    simp (disch := omega) only [f_X9_slept_6, lt_u, c.s.r1_2, p_cells c.n, bd_s, nz_t, gdT]
    rw [if_pos (Int32.le_refl _), if_pos (Int32.le_refl _)]
theorem crP_none : ∀ d b i, (b.1 = 0 ↔ b.2 = none) → ((fo (crO S) b i d).1 = 0 ↔ (fo (crO S) b i d).2 = none) := by
  have inner : ∀ i d b j, (b.1 = 0 ↔ b.2 = none) → ((fo (crI S i) b j d).1 = 0 ↔ (fo (crI S i) b j d).2 = none) := by
    intro i d
    induction d with
    | zero => intro b j hb; exact hb
    | succ d ih =>
      intro b j hb
      refine ih _ _ ?_
      unfold crI
      split
      · by_cases q : b.1 = 0
        · simp [q]
        · simp only [q, if_false, Nat.succ_ne_zero, false_iff]
          exact fun z => q (hb.mpr z)
      · exact hb
  intro d
  induction d with
  | zero => intro b i hb; exact hb
  | succ d ih => intro b i hb; exact ih _ _ (inner i _ _ _ hb)
theorem crI_le : ∀ i d b j, (fo (crI S i) b j d).1 ≤ b.1 + d := by
  intro i d
  induction d with
  | zero => intro b j; exact Nat.le_refl _
  | succ d ih =>
    intro b j
    refine Nat.le_trans (ih _ _) ?_
    unfold crI
    split <;> simp <;> omega
theorem crO_le : ∀ d b i, (fo (crO S) b i d).1 ≤ b.1 + d * S.1 2 := by
  intro d
  induction d with
  | zero => intro b i; simp [fo]
  | succ d ih =>
    intro b i
    refine Nat.le_trans (ih _ _) ?_
    have := crI_le (S := S) i (S.1 2 - (i + 1)) b (i + 1)
    rw [Nat.succ_mul]
    show (crO S b i).1 + d * S.1 2 ≤ _
    unfold crO
    omega
theorem crI_none : ∀ i d b j, (b.1 = 0 ↔ b.2 = none) → ((fo (crI S i) b j d).1 = 0 ↔ (fo (crI S i) b j d).2 = none) := by
  intro i d
  induction d with
  | zero => intro b j hb; exact hb
  | succ d ih =>
    intro b j hb
    refine ih _ _ ?_
    unfold crI
    split
    · by_cases q : b.1 = 0
      · simp [q]
      · simp only [q, if_false, Nat.succ_ne_zero, false_iff]
        exact fun z => q (hb.mpr z)
    · exact hb
theorem c_crosses (c : RC h A) (hw : wfF (aS A)) : Ok (f_X9_crosses h 1) (fun o => o.1 = (sp_crosses A).1 ∧ RC o.2 (sp_crosses A).2 ∧ EqOff FX h o.2) := by
  have hF := FU_big
  have hb := ncl_le hw
  have b5 := hw.2.2.2.2.1
  have e := fo_lp (fun n (b : Int32) i => f_X9_crosses_4 1 n h b i) (ncl (aS A)) (fun (b : Int32) kc => if ovN (aS A) kc ≤ 1 then b else b + 1) (fun b => f_X9_crosses_4 1 1 h b (nI (ncl (aS A)))) (fun n b i hi => ?_) (fun n b => ?_) (ncl (aS A)) FU 0 0 (by omega) (by omega)
  · have e : f_X9_crosses h 1 = f_X9_crosses_4 1 1 h (shrd (aS A)) (nI (ncl (aS A))) := e
    rw [e]
    simp only [f_X9_crosses_4]
    refine ok_lt (fun k ek => ?_)
    clear ek
    rw [c.s.r1_2, c.s.r1_1, p_cells c.n, bd_s]
    refine ok_gd (by decide) (ok_t (Int32.le_refl _) (ok_gd (by decide) (ok_bd (c_t0 c) (fun h9 ⟨c9, o9⟩ => ?_))))
    rw [c9.s.r1_1]
    refine ok_gd (by decide) (ok_bd (c_t1 c9 (by simp [aT, wT, mkA]) _) (fun h10 ⟨c10, o10⟩ => ?_))
    rw [i0]
    refine okl (fun n (s : Hp × Int32) i => f_X9_crosses_59 1 n s.1 s.2 i) ((aS A).1 2) (fun i s => s.2 = nI (fo (crO (aS A)) (0, none) 0 i).1 ∧ RC s.1 (wT A ((shrd (aS A)).toInt64 :: crT (fo (crO (aS A)) (0, none) 0 i).2)) ∧ EqOff FX h s.1) _ (fun n i s hi ⟨d1, d2, d3⟩ kk => ?_) (fun n s ⟨d1, d2, d3⟩ => ?_) ((aS A).1 2) FU 0 (h10, nI 0) (by omega) (by omega) ⟨rfl, c10, (F24y o9).tr (F24y o10)⟩
    · obtain ⟨h2, x⟩ := s
      have d1 : x = nI (fo (crO (aS A)) (0, none) 0 i).1 := d1
      subst d1
      have d2 : RC h2 (wT A ((shrd (aS A)).toInt64 :: crT (fo (crO (aS A)) (0, none) 0 i).2)) := d2
      have d3 : EqOff FX h h2 := d3
      have n0 := crP_none (S := aS A) i (0, none) 0 (by simp)
      have l0 := crO_le (S := aS A) i (0, none) 0
      have l1 : i * (aS A).1 2 ≤ 8 * 8 := Nat.mul_le_mul (by omega) b5
      generalize hB : fo (crO (aS A)) (0, none) 0 i = B at *
      have eB : fo (crO (aS A)) (0, none) 0 (i + 1) = crO (aS A) B i := by rw [fo_snoc, hB, Nat.zero_add]
      show Ok (f_X9_crosses_59 1 (n + 1) h2 (nI B.1) (nI i)) _
      simp only [f_X9_crosses_59]
      refine ok_lt (fun k2' ek => ?_)
      subst ek
      have q2 : hpI h2 6 2 = nI ((aS A).1 2) := d2.n.q2
      rw [d2.s.r1_2, q2, i1, nI_add]
      refine ok_gd (by decide) (ok_f (by rw [nI_leI (by omega) (by omega)]; omega) (ok_lt (fun v20 e20 => ?_)))
      subst e20
      refine okl (fun n2 (s : Hp × Int32) j => f_X9_crosses_75 1 (f_X9_crosses_59 1 n) n2 s.1 s.2 (nI i) j) ((aS A).1 2) (fun j s => i + 1 ≤ j ∧ s.2 = nI (fo (crI (aS A) i) B (i + 1) (j - (i + 1))).1 ∧ RC s.1 (wT A ((shrd (aS A)).toInt64 :: crT (fo (crI (aS A) i) B (i + 1) (j - (i + 1))).2)) ∧ EqOff FX h s.1) _ (fun n2 j s hj ⟨f0, f1, f2, f3⟩ kk2 => ?_) (fun n2 s ⟨f0, f1, f2, f3⟩ => ?_) ((aS A).1 2 - (i + 1)) FU (i + 1) (h2, nI B.1) (by omega) (by omega) ⟨by omega, by rw [Nat.sub_self]; rfl, by rw [Nat.sub_self]; exact d2, d3⟩
      · obtain ⟨h3, x⟩ := s
        have f1 : x = nI (fo (crI (aS A) i) B (i + 1) (j - (i + 1))).1 := f1
        subst f1
        have f2 : RC h3 (wT A ((shrd (aS A)).toInt64 :: crT (fo (crI (aS A) i) B (i + 1) (j - (i + 1))).2)) := f2
        have f3 : EqOff FX h h3 := f3
        have n1 := crI_none (S := aS A) i (j - (i + 1)) B (i + 1) n0
        have l2 := crI_le (S := aS A) i (j - (i + 1)) B (i + 1)
        have eC : fo (crI (aS A) i) B (i + 1) (j + 1 - (i + 1)) = crI (aS A) i (fo (crI (aS A) i) B (i + 1) (j - (i + 1))) j := by
          rw [show j + 1 - (i + 1) = (j - (i + 1)) + 1 by omega, fo_snoc, show i + 1 + (j - (i + 1)) = j by omega]
        generalize hC : fo (crI (aS A) i) B (i + 1) (j - (i + 1)) = C at *
        have lC : C.1 < 1000 := by omega
        show Ok (f_X9_crosses_75 1 (f_X9_crosses_59 1 n) (n2 + 1) h3 (nI C.1) (nI i) (nI j)) _
        simp only [f_X9_crosses_75]
        refine ok_lt (fun k2' ek => ?_)
        subst ek
        have q3 : hpI h3 6 2 = nI ((aS A).1 2) := f2.n.q2
        rw [f2.s.r1_2, q3, p_cross (S := aS A) f2.n hw (by omega) (by omega), bd_s, f2.s.r1_1]
        refine ok_gd (by decide) (ok_f (by rw [nI_leI (by omega) (by omega)]; omega) ?_)
        have fin : ∀ h4 y, y = nI (crI (aS A) i C j).1 → RC h4 (wT A ((shrd (aS A)).toInt64 :: crT (crI (aS A) i C j).2)) → EqOff FX h h4 → Ok (f_X9_crosses_126 1 (f_X9_crosses_59 1 n) (f_X9_crosses_75 1 (f_X9_crosses_59 1 n) n2) h4 y (nI i) (nI j)) _ := fun h4 y z1 z2 z3 => by
          rw [f_X9_crosses_126, i1, nI_add, lt_u]
          exact kk2 (h4, y) ⟨by omega, by rw [eC]; exact z1, by rw [eC]; exact z2, z3⟩
        simp only [nB_0]
        cases hc : crb (aS A) i j with
        | false => exact ok_t rfl (fin h3 _ (by simp [crI, hc]) (by simp only [crI, hc]; exact f2) f3)
        | true =>
          have eI : crI (aS A) i C j = (C.1 + 1, if C.1 = 0 then some (i, j) else C.2) := by simp [crI, hc]
          refine ok_f (by simp) ?_
          have fin2 : ∀ h4, RC h4 (wT A ((shrd (aS A)).toInt64 :: crT (crI (aS A) i C j).2)) → EqOff FX h h4 → Ok (f_X9_crosses_123 1 (f_X9_crosses_59 1 n) (f_X9_crosses_75 1 (f_X9_crosses_59 1 n) n2) h4 (nI C.1) (nI i) (nI j)) _ := fun h4 z2 z3 => by
            rw [f_X9_crosses_123, i1, nI_add, lt_u]
            exact fin h4 _ (by rw [eI]) z2 z3
          rw [i0]
          simp (disch := omega) only [nI_eq0]
          by_cases q : C.1 = 0
          · have cn := n1.mp q
            rw [cn] at f2
            refine ok_t q (ok_gd (by decide) (ok_bd (c_t1 f2 (by simp [aT, wT, mkA, crT]) _) (fun h5 ⟨c5, o5⟩ => ?_)))
            rw [c5.s.r1_1]
            refine ok_gd (by decide) (ok_bd (c_t1 c5 (by simp [aT, wT, mkA, crT]) _) (fun h6 ⟨c6, o6⟩ => ?_))
            refine fin2 h6 ?_ (f3.tr ((F24y o5).tr (F24y o6)))
            rw [eI, if_pos q]; exact c6
          · refine ok_f q (fin2 h3 ?_ f3)
            rw [eI, if_neg q]; exact f2
      · obtain ⟨h3, x⟩ := s
        have f1 : x = nI (fo (crI (aS A) i) B (i + 1) ((aS A).1 2 - (i + 1))).1 := f1
        subst f1
        have f2 : RC h3 (wT A ((shrd (aS A)).toInt64 :: crT (fo (crI (aS A) i) B (i + 1) ((aS A).1 2 - (i + 1))).2)) := f2
        show Ok (f_X9_crosses_75 1 (f_X9_crosses_59 1 n) (n2 + 1) h3 (nI (fo (crI (aS A) i) B (i + 1) ((aS A).1 2 - (i + 1))).1) (nI i) (nI ((aS A).1 2))) _
        simp only [f_X9_crosses_75]
        refine ok_lt (fun k2' ek => ?_)
        clear ek
        have q3 : hpI h3 6 2 = nI ((aS A).1 2) := f2.n.q2
        rw [f2.s.r1_2, q3, i1, nI_add]
        refine ok_gd (by decide) (ok_t (Int32.le_refl _) (ok_lt (fun v24 e24 => ?_)))
        subst e24
        exact kk (h3, _) ⟨by rw [eB]; rfl, by rw [eB]; exact f2, f3⟩
    · obtain ⟨h2, x⟩ := s
      have d1 : x = nI (fo (crO (aS A)) (0, none) 0 ((aS A).1 2)).1 := d1
      subst d1
      have d2 : RC h2 (wT A ((shrd (aS A)).toInt64 :: crT (fo (crO (aS A)) (0, none) 0 ((aS A).1 2)).2)) := d2
      show Ok (f_X9_crosses_59 1 (n + 1) h2 (nI (fo (crO (aS A)) (0, none) 0 ((aS A).1 2)).1) (nI ((aS A).1 2))) _
      simp only [f_X9_crosses_59]
      refine ok_lt (fun k2' ek => ?_)
      clear ek
      have q2 : hpI h2 6 2 = nI ((aS A).1 2) := d2.n.q2
      rw [d2.s.r1_2, q2]
      exact ok_gd (by decide) (ok_t (Int32.le_refl _) (ok_some ⟨rfl, d2, d3⟩))
  · have e2 := p_onOver c.n hw (cell := i) (by omega)
    show f_X9_crosses_4 1 (n + 1) h b (nI i) = f_X9_crosses_4 1 n h (if ovN (aS A) i ≤ 1 then b else b + 1) (nI (i + 1))
    unfold ovN
    simp only [f_X9_crosses_4, f_X9_crosses_33, lt_u, c.s.r1_2, p_cells c.n, bd_s, e2, p_bc, show nI i + 1 = nI (i + 1) by rw [i1, nI_add]]
    rw [gd_t (by decide), if_neg (by rw [nI_leI (by omega) (by omega)]; omega)]
    by_cases q : bc32 (bitsB (ocv (aS A) i) ((aS A).1 2)) ≤ 1
    · rw [if_pos q, if_pos q]
    · rw [if_neg q, if_neg q]
  · show f_X9_crosses_4 1 (n + 1) h b (nI (ncl (aS A))) = f_X9_crosses_4 1 1 h b (nI (ncl (aS A)))
    simp only [f_X9_crosses_4, lt_u, c.s.r1_2, p_cells c.n, bd_s]
    rw [gd_t (by decide), if_pos (Int32.le_refl _)]
    rw [gd_t (show nz 6 = true by decide), if_pos (Int32.le_refl _)]
theorem c_heap (c : RC h A) (hw : wfF (aS A)) (x : Int32) : Ok (f_X9_heap h 1 x) (fun o => o.1 = (sp_heap A x).1 ∧ RC o.2 (sp_heap A x).2 ∧ EqOff FX h o.2) := by
  have hF := FU_big
  have hb := ncl_le hw
  have b5 := hw.2.2.2.2.1
  rw [f_X9_heap, c.s.r1_2, p_hasx c.n, bd_s]
  refine ok_gd (by decide) ?_
  simp only [nB_0]
  unfold sp_heap
  cases hx : campOf (aS A) x with
  | none => exact ok_t rfl (ok_some ⟨rfl, c, EqOff.rf⟩)
  | some i =>
    obtain ⟨rfl, hi⟩ := campOf_s (by omega) hx
    refine ok_f (by simp) ?_
    rw [p_isOn c.n hw (by omega), bd_s]
    simp only [nB_0]
    cases ho : onb (aS A) i with
    | false => exact ok_t rfl (ok_some ⟨rfl, c, EqOff.rf⟩)
    | true =>
      refine ok_f (by simp) ?_
      rw [p_hangTogether c.n hw hi, bd_s]
      have hl : hang (aS A) i < 2 ^ 8 := fo_inv (P := fun x => x < 2 ^ 8) (fun x j hx => hgR_lt b5 hx) _ _ _ (Nat.pow_lt_pow_right (by omega) (by omega))
      -- the cells, one camp after the other
      let p : Nat → Bool := fun j => (hang (aS A) i).testBit j
      have e := fo_lpI (fun n (b : Nat) k => f_X9_heap_41 1 (nI i) n h (nI (hang (aS A) i)) (lN b) k) ((aS A).1 2) (fun b k => if (hang (aS A) i).testBit k = true then b ||| nb (fun kc => cov (aS A) kc k) (ncl (aS A)) else b) (fun b => f_X9_heap_41 1 (nI i) 1 h (nI (hang (aS A) i)) (lN b) (nI ((aS A).1 2))) (fun b k => b < 2 ^ ncl (aS A) ∧ ∀ q, b.testBit q = (decide (q < ncl (aS A)) && decide (∃ j, j < k ∧ (hang (aS A) i).testBit j = true ∧ cov (aS A) q j = true))) (fun b k hk hb => ?_) (fun n b k hk hb => ?_) (fun n b hb => ?_) ((aS A).1 2) FU 0 0 ⟨Nat.two_pow_pos _, fun q => by simp⟩ (by omega) (by omega)
      · rw [i0, show (0 : Int64) = lN 0 by decide]
        rw [show f_X9_heap_41 1 (nI i) FU h (nI (hang (aS A) i)) (lN 0) (nI 0) = _ from e.1]
        have eb : lN (fo (fun b k => if (hang (aS A) i).testBit k = true then b ||| nb (fun kc => cov (aS A) kc k) (ncl (aS A)) else b) 0 0 ((aS A).1 2)) = bitsL (fun kc => decide (∃ j, j < (aS A).1 2 ∧ (hang (aS A) i).testBit j = true ∧ cov (aS A) kc j = true)) (ncl (aS A)) := by
          rw [bitsL_nb _ _ (by omega)]
          congr 1
          apply Nat.eq_of_testBit_eq
          intro q
          rw [e.2.2 q, nb_bit]
        rw [eb]
        simp only [f_X9_heap_41]
        refine ok_lt (fun k ek => ?_)
        clear ek
        rw [c.s.r1_2, c.n.q2, c.s.r1_1]
        refine ok_gd (by decide) (ok_t (Int32.le_refl _) (ok_gd (by decide) (ok_bd (c_t0 c) (fun h9 ⟨c9, o9⟩ => ?_))))
        rw [c9.s.r1_1, p_bc, bd_s]
        refine ok_gd (by decide) (ok_bd (c_t1 c9 (by simp [aT, wT, mkA]) _) (fun h13 ⟨c13, o13⟩ => ?_))
        rw [c13.s.r1_1]
        refine ok_gd (by decide) (ok_bd (c_t1 c13 (by simp [aT, wT, mkA]) _) (fun h16 ⟨c16, o16⟩ => ok_some ⟨rfl, c16, (F24y o9).tr ((F24y o13).tr (F24y o16))⟩))
      · constructor
        · show (if (hang (aS A) i).testBit k = true then b ||| nb (fun kc => cov (aS A) kc k) (ncl (aS A)) else b) < _
          split
          · exact Nat.or_lt_two_pow hb.1 (nb_lt _ _)
          · exact hb.1
        · intro q
          have hs : (∃ j, j < k + 1 ∧ (hang (aS A) i).testBit j = true ∧ cov (aS A) q j = true) ↔ ((∃ j, j < k ∧ (hang (aS A) i).testBit j = true ∧ cov (aS A) q j = true) ∨ ((hang (aS A) i).testBit k = true ∧ cov (aS A) q k = true)) := by
            constructor
            · rintro ⟨j, z1, z2⟩
              by_cases e : j = k
              · subst e; exact Or.inr z2
              · exact Or.inl ⟨j, by omega, z2⟩
            · rintro (⟨j, z1, z2⟩ | z)
              · exact ⟨j, by omega, z2⟩
              · exact ⟨k, by omega, z⟩
          show (if (hang (aS A) i).testBit k = true then b ||| nb (fun kc => cov (aS A) kc k) (ncl (aS A)) else b).testBit q = _
          simp only [hs]
          by_cases y : (hang (aS A) i).testBit k = true
          · rw [if_pos y, Nat.testBit_or, hb.2 q, nb_bit]
            by_cases y1 : q < ncl (aS A)
            · by_cases y2 : (∃ j, j < k ∧ (hang (aS A) i).testBit j = true ∧ cov (aS A) q j = true)
              · simp [y1, y2]
              · simp only [y1, y2, y, true_and, false_or, decide_true, decide_false, Bool.true_and, Bool.false_or]
                cases cov (aS A) q k <;> simp
            · simp [y1]
          · rw [if_neg y, hb.2 q]
            simp only [y, false_and, or_false]
            simp
      · show f_X9_heap_41 1 (nI i) (n + 1) h (nI (hang (aS A) i)) (lN b) (nI k) = f_X9_heap_41 1 (nI i) n h (nI (hang (aS A) i)) (lN _) (nI (k + 1))
        simp only [f_X9_heap_41, f_X9_heap_74, lt_u, c.s.r1_2, c.n.q2, show nI k + 1 = nI (k + 1) by rw [i1, nI_add], p_isIn (show hang (aS A) i < 2 ^ 31 by omega) (show k < 31 by omega), p_cellsOf c.n hw (show k < 8 by omega), bd_s, nB_0, bitsL_nb _ _ (show ncl (aS A) ≤ 63 by omega), lN_or]
        rw [gd_t (by decide), if_neg (by rw [nI_leI (by omega) (by omega)]; omega)]
        cases y : (hang (aS A) i).testBit k <;> simp
      · show f_X9_heap_41 1 (nI i) (n + 1) h (nI (hang (aS A) i)) (lN b) (nI ((aS A).1 2)) = f_X9_heap_41 1 (nI i) 1 h (nI (hang (aS A) i)) (lN b) (nI ((aS A).1 2))
        simp only [f_X9_heap_41, lt_u, c.s.r1_2, c.n.q2]
        rw [gd_t (by decide), if_pos (Int32.le_refl _)]
        rw [gd_t (show nz 6 = true by decide), if_pos (Int32.le_refl _)]
theorem AtC.keep9 {h h1 : Hp} {T : Fld} (t : atC h 22 T) (e : EqOff (F2 4) h h1) : atC h1 22 T := t.keep e (fun x y1 y2 y3 => by unfold F2 at y3; omega)
theorem yrN_w (hw : wfF (aS A)) (hy : (aS A).1 3 < 900000) {n : Nat} (hn : n ≤ 1000) : wfF (yrN A n) := wf_yrs hw n (by omega)
theorem yrN_q (n : Nat) : (yrN A n).1 2 = (aS A).1 2 := by
  unfold yrN
  induction n with
  | zero => rfl
  | succ n ih => exact ih
theorem c_gone (c : RC h A) (hw : wfF (aS A)) (hy : (aS A).1 3 < 900000) (x : Int32) : Ok (f_X9_gone h 1 x) (fun o => o.1 = (sp_gone A x).1 ∧ RC o.2 (sp_gone A x).2 ∧ EqOff FX h o.2) := by
  have hF := FU_big
  have b5 := hw.2.2.2.2.1
  rw [f_X9_gone, c.s.r1_2, p_hasx c.n, bd_s]
  refine ok_gd (by decide) ?_
  simp only [nB_0]
  unfold sp_gone
  cases hx : campOf (aS A) x with
  | none => exact ok_t rfl (ok_some ⟨rfl, c, EqOff.rf⟩)
  | some i =>
    obtain ⟨rfl, hi⟩ := campOf_s (by omega) hx
    refine ok_f (by simp) ?_
    rw [c.s.r1_4, i0]
    refine ok_gd (by decide) (ok_bd (c_copy c (a := 22) (by omega)) (fun h8 ⟨c8, b8, o8⟩ => ?_))
    -- one year after the other
    have go : ∀ d n k h2, k + d = 100 → d < n → RC h2 A → atC h2 22 (yrN A k) → EqOff FX h h2 → Ok (f_X9_gone_26 1 (nI i) n h2 (nI k)) (fun o => o.1 = (match ff (fun n => !(onb (yrN A n) i)) k d with
      | some n => (nI n, wT A [(nI (fcl (yrN A n) i)).toInt64])
      | none => ((-2 : Int32), A)).1 ∧ RC o.2 (match ff (fun n => !(onb (yrN A n) i)) k d with
      | some n => (nI n, wT A [(nI (fcl (yrN A n) i)).toInt64])
      | none => ((-2 : Int32), A)).2 ∧ EqOff FX h o.2) := by
      intro d
      induction d with
      | zero =>
        intro n k h2 z1 z2 c2 t2 o2
        obtain ⟨n', rfl⟩ : ∃ k, n = k + 1 := ⟨n - 1, by omega⟩
        have : k = 100 := by omega
        subst this
        simp only [f_X9_gone_26, ff]
        refine ok_lt (fun k2' ek => ?_)
        exact ok_t (by decide) (ok_some ⟨rfl, c2, o2⟩)
      | succ d ih =>
        intro n k h2 z1 z2 c2 t2 o2
        obtain ⟨n', rfl⟩ : ∃ k, n = k + 1 := ⟨n - 1, by omega⟩
        have wk := yrN_w hw hy (n := k) (by omega)
        simp only [f_X9_gone_26, ff]
        refine ok_lt (fun k2' ek => ?_)
        subst ek
        rw [c2.s.r1_4, c2.s.r1_1, c2.s.r1_8, p_isOn t2 wk (by omega), bd_s]
        refine ok_f (by rw [show (100 : Int32) = nI 100 by decide, nI_leI (by omega) (by omega)]; omega) (ok_gd (by decide) ?_)
        simp only [nB_0]
        by_cases ho : onb (yrN A k) i = false
        · simp only [ho, Bool.not_false, if_true]
          refine ok_gd (by decide) (ok_bd (c_t0 c2) (fun h9 ⟨c9, o9⟩ => ?_))
          have t9 : atC h9 22 (yrN A k) := t2.keep o9 (fun x y1 y2 y3 => by unfold F2 at y3; omega)
          obtain ⟨w1, w2, w3, w4, w5, -, -, -, w9⟩ := wk
          have hik : i < (yrN A k).1 2 := by rw [yrN_q]; exact hi
          obtain ⟨g1, g2, g3, g4, g5, g6, -⟩ := w9 i hik
          rw [c9.s.r1_1, c9.s.r1_4, p_firstCell t9 w2 w4 w5 hik (by omega) (by omega), bd_s]
          refine ok_gd (by decide) (ok_gd (by decide) (ok_bd (c_t1 c9 (by simp [aT, wT, mkA]) _) (fun h13 ⟨c13, o13⟩ => ok_some ⟨rfl, c13, o2.tr ((F24y o9).tr (F24y o13))⟩)))
        · have ho : onb (yrN A k) i = true := by simpa using ho
          simp only [ho, Bool.not_true, Bool.true_eq_false, Bool.false_eq_true, if_false]
          refine ok_gd (by decide) (ok_bd (c_goBy c2 t2 wk) (fun o ⟨y1, y2, y3, y4⟩ => ?_))
          rw [i1, nI_add, lt_u]
          exact ih n' (k + 1) o.2 (by omega) (by omega) y2 y3 (o2.tr y4)
    exact go 100 FU 0 h8 (by omega) (by omega) c8 b8 (o8.mono (FC_FX (by omega) (by omega)))
theorem c_lies (c : RC h A) (hw : wfF (aS A)) (hy : (aS A).1 3 < 900000) (x n : Int32) : Ok (f_X9_lies h 1 x n) (fun o => o.1 = (sp_lies A x n).1 ∧ RC o.2 (sp_lies A x n).2 ∧ EqOff FX h o.2) := by
  have b5 := hw.2.2.2.2.1
  rw [f_X9_lies, c.s.r1_2, p_hasx c.n, bd_s, c.s.r1_4]
  refine ok_gd (by decide) ?_
  simp only [nB_0]
  unfold sp_lies
  cases hx : campOf (aS A) x with
  | none => exact ok_t rfl (ok_some ⟨rfl, c, EqOff.rf⟩)
  | some i =>
    obtain ⟨rfl, hi⟩ := campOf_s (by omega) hx
    refine ok_f (by simp) ?_
    rw [i0, show (100 : Int32) = nI 100 by decide]
    rcases numAlt (lo := 0) (hi := 99) (by omega) (by omega) n with ⟨e, q⟩ | ⟨k, e, rfl, g1, g2⟩
    · rw [e]
      refine ok_if (fun _ => ok_some ⟨rfl, c, EqOff.rf⟩) (fun q2 => ok_f (fun z => ?_) (ok_some ⟨rfl, c, EqOff.rf⟩))
      have q3 := q.resolve_left q2
      obtain ⟨e2, h3⟩ := nI_ix (show 0 ≤ n by rw [i0]; exact Int32.not_lt.mp q2)
      rw [e2, nI_ltI (by omega) h3] at q3
      rw [e2, nI_ltI h3 (by omega)] at z
      omega
    · rw [e]
      refine ok_f (by rw [nI_ltI (by omega) (by omega)]; omega) (ok_t (by rw [nI_ltI (by omega) (by omega)]; omega) (ok_gd (by decide) (ok_bd (c_copy c (a := 22) (by omega)) (fun h8 ⟨c8, b8, o8⟩ => ?_))))
      rw [c8.s.r1_4, c8.s.r1_8]
      refine ok_gd (by decide) (ok_gd (by decide) (ok_bd (c_goByTimes c8 b8 hw (n := k) (by omega) (by omega)) (fun o ⟨y1, y2, y3, y4⟩ => ?_)))
      have wk := yrN_w hw hy (n := k) (by omega)
      rw [y2.s.r1_1]
      refine ok_gd (by decide) (ok_bd (c_t0 y2) (fun h9 ⟨c9, o9⟩ => ?_))
      have t9 : atC h9 22 (yrN A k) := AtC.keep9 y3 o9
      have wk2 := wk
      obtain ⟨w1, w2, w3, w4, w5, -, -, -, w9⟩ := wk2
      have hik : i < (yrN A k).1 2 := by rw [yrN_q]; exact hi
      obtain ⟨f1, f2, f3, f4, f5, f6, -⟩ := w9 i hik
      rw [c9.s.r1_1, c9.s.r1_4, t9.r9, t9.t5, ix_nI (by omega), t9.v4 (by omega)]
      refine ok_gd (by decide) (ok_gd (by decide) (ok_gd (by decide) (ok_gd (inb_nI (by omega) (by omega)) (ok_bd (c_t1 c9 (by simp [aT, wT, mkA]) _) (fun h13 ⟨c13, o13⟩ => ?_)))))
      have t13 : atC h13 22 (yrN A k) := AtC.keep9 t9 o13
      rw [c13.s.r1_1, c13.s.r1_4, p_onBits t13 wk, bd_s]
      refine ok_gd (by decide) (ok_gd (by decide) (ok_bd (c_t1 c13 (by simp [aT, wT, mkA]) _) (fun h16 ⟨c16, o16⟩ => ?_)))
      have t16 : atC h16 22 (yrN A k) := AtC.keep9 t13 o16
      rw [c16.s.r1_4, p_firstCell t16 w2 w4 w5 hik (by omega) (by omega), bd_s]
      exact ok_gd (by decide) (ok_some ⟨rfl, c16, (o8.mono (FC_FX (by omega) (by omega))).tr (y4.tr ((F24y o9).tr ((F24y o13).tr (F24y o16))))⟩)
end FACE3
