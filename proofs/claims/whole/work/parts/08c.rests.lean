/-- a loop that goes on with a fold: what R says of the machine's state and the fold's -/
theorem okf {σ α β : Type} (L : Nat → σ → Int32 → Option β) (N : Nat) (step : α → Nat → α) (R : Nat → σ → α → Prop) (Q : β → Prop) (i0 : Nat) (hs : ∀ n i s acc, i0 ≤ i → i < N → R i s acc → (∀ s1, R (i + 1) s1 (step acc i) → Ok (L n s1 (nI (i + 1))) Q) → Ok (L (n + 1) s (nI i)) Q) : ∀ d n i s acc, i0 ≤ i → i + d = N → d < n → R i s acc → (∀ n s, R N s (fo step acc i d) → Ok (L (n + 1) s (nI N)) Q) → Ok (L n s (nI i)) Q := by
  intro d
  induction d with
  | zero =>
    intro n i s acc h0 h1 h2 hr he
    obtain ⟨k, rfl⟩ : ∃ k, n = k + 1 := ⟨n - 1, by omega⟩
    have e : i = N := by omega
    subst e
    exact he k s hr
  | succ d ih =>
    intro n i s acc h0 h1 h2 hr he
    obtain ⟨k, rfl⟩ : ∃ k, n = k + 1 := ⟨n - 1, by omega⟩
    exact hs k i s acc h0 (by omega) hr (fun s1 hr1 => ih k (i + 1) s1 (step acc i) (by omega) (by omega) (by omega) hr1 he)
def gn (a b v : Int32) : Int32 := ((if a + b < 5 then 0 else v) - a) - mx32 0 ((a + b) - 9)
theorem p_gain (h : Hp) (a b v : Int32) : f_X9_gain h a b v = some (gn a b v) := rfl
theorem le4 (x : Int32) : (x ≤ 4) ↔ (x < 5) := by
  rw [Int32.le_iff_toInt_le, Int32.lt_iff_toInt_lt, show (4 : Int32).toInt = 4 by decide, show (5 : Int32).toInt = 5 by decide]; omega
theorem m_gets (h : Hp) (a b v : Int32) : f_X10_gets h a b v = some (gn a b v) := by
  unfold f_X10_gets f_X10_gets_12 gn
  simp only [le4, lt_u]
def bb (v x y : Int32) : Bool := (ff (fun i => !decide (gn (nI i) y v ≤ gn x y v)) 0 10).isNone
section RESTS
variable {h h1 : Hp} {A : Ast} {m n : Nat}
theorem p_best (h : Hp) (x y v : Int32) : f_X9_isBestBeside h x y v = some (nB (bb v x y)) := by
  have hF := FU_big
  have e := fo_ff (fun q i => f_X9_isBestBeside_2 h x y v q i) 10 (fun i => !decide (gn (nI i) y v ≤ gn x y v)) (fun _ => some 0) (some 1) (fun q i hi => ?_) (fun q => ?_) 10 FU 0 (by omega) (by omega)
  · rw [show f_X9_isBestBeside h x y v = _ from e]
    unfold bb
    cases ff (fun i => !decide (gn (nI i) y v ≤ gn x y v)) 0 10 <;> rfl
  · show f_X9_isBestBeside_2 h x y v (q + 1) (nI i) = _
    simp only [f_X9_isBestBeside_2, lt_u, p_gain, bd_s]
    rw [if_neg (by rw [show (10 : Int32) = nI 10 by decide, nI_leI (by omega) (by omega)]; omega), i1, nI_add]
    by_cases z : gn (nI i) y v ≤ gn x y v <;> simp [z]
  · show f_X9_isBestBeside_2 h x y v (q + 1) (nI 10) = _
    simp only [f_X9_isBestBeside_2, lt_u]
    rw [if_pos (by decide)]
theorem m_rest (h : Hp) (x y v : Int32) : f_X10_isRest h x y v = some (nB (bb v x y)) := by
  have hF := FU_big
  have e := fo_lp (fun q (z : Bool) i => f_X10_isRest_5 h x y v q (nB z) i) 10 (fun (z : Bool) i => z && decide (gn (nI i) y v ≤ gn x y v)) (fun z => some (nB z)) (fun q z i hi => ?_) (fun q z => ?_) 10 FU true 0 (by omega) (by omega)
  · rw [fo_and] at e
    rw [show f_X10_isRest h x y v = _ from e]; rfl
  · show f_X10_isRest_5 h x y v (q + 1) (nB z) (nI i) = f_X10_isRest_5 h x y v q (nB (z && decide (gn (nI i) y v ≤ gn x y v))) (nI (i + 1))
    simp only [f_X10_isRest_5, f_X10_isRest_36, f_X10_isRest_37, lt_u, m_gets, bd_s]
    rw [if_neg (by rw [i9, nI_ltI (by omega) (by omega)]; omega), i1, nI_add]
    simp only [nB_0]
    cases z with
    | false => simp; rfl
    | true =>
      by_cases w : gn (nI i) y v ≤ gn x y v
      · rw [if_neg (by simp), if_neg (Int32.not_lt.mpr w), decide_eq_true w]; rfl
      · rw [if_neg (by simp), if_pos (Int32.not_le.mp w), decide_eq_false w]; rfl
  · show f_X10_isRest_5 h x y v (q + 1) (nB z) (nI 10) = _
    simp only [f_X10_isRest_5, lt_u]
    rw [if_pos (by decide)]
def rsS (v : Int32) (x : Nat) (s : Nat × List Int64) (y : Nat) : Nat × List Int64 := if bb v (nI x) (nI y) = true ∧ bb v (nI y) (nI x) = true then (s.1 + 1, if s.1 = 0 then s.2 ++ [(nI x).toInt64] ++ [(nI y).toInt64] else s.2) else s
def rsX (v : Int32) (s : Nat × List Int64) (x : Nat) : Nat × List Int64 := fo (rsS v x) s 0 10
def rsV (v : Int32) : Nat × List Int64 := fo (rsX v) (0, []) 0 10
def sp_rests (A : Ast) (x : Int32) : Int32 × Ast := match numIn (nI 0) (nI 20) x with
  | some _ => (nI (rsV x).1, wT A (rsV x).2)
  | none => (-1, A)
def rsB (k : Nat) (s : Nat × List Int64) : Prop := s.1 ≤ k ∧ s.2.length ≤ 2 ∧ (s.1 = 0 → s.2 = [])
theorem rsB.next {k x y : Nat} {v : Int32} {s : Nat × List Int64} (b : rsB k s) : rsB (k + 1) (rsS v x s y) := by
  obtain ⟨b1, b2, b3⟩ := b
  unfold rsS
  split
  · refine ⟨by simp only; omega, ?_, by simp⟩
    by_cases z : s.1 = 0
    · simp [z, b3 z]
    · simp only [z, if_false]; exact b2
  · exact ⟨by omega, b2, b3⟩
theorem c_rests (c : RC h A) (x : Int32) : Ok (f_X9_rests h 1 x) (fun o => o.1 = (sp_rests A x).1 ∧ RC o.2 (sp_rests A x).2 ∧ EqOff FX h o.2) := by
  have hF := FU_big
  rw [f_X9_rests]
  unfold sp_rests
  rcases numAlt (lo := 0) (hi := 20) (by omega) (by omega) x with ⟨e, q⟩ | ⟨k, e, ek, g1, g2⟩
  · rw [e]
    refine ok_if (fun _ => ok_some ⟨rfl, c, EqOff.rf⟩) (fun q2 => ok_f (fun z => ?_) (ok_some ⟨rfl, c, EqOff.rf⟩))
    exact absurd (q.resolve_left q2) (Int32.not_lt.mpr z)
  · rw [e]
    refine ok_f (by rw [ek, i0, nI_ltI (by omega) (by omega)]; omega) (ok_t (by rw [ek, show (20 : Int32) = nI 20 by decide, nI_leI (by omega) (by omega)]; omega) ?_)
    rw [c.s.r1_1]
    refine ok_gd (by decide) (ok_bd (c_t0 c) (fun h5 ⟨c5, o5⟩ => ?_))
    refine okf (fun q (s : Hp × Int32) i => f_X9_rests_23 1 x q s.1 s.2 i) 10 (rsX x) (fun i s acc => RC s.1 (wT A acc.2) ∧ EqOff FX h s.1 ∧ s.2 = nI acc.1 ∧ rsB (10 * i) acc) _ 0 (fun q i s acc _ hi ⟨d1, d2, d3, d4⟩ kk => ?_) 10 FU 0 (h5, 0) (0, []) (by omega) (by omega) (by omega) ⟨c5, F24y o5, rfl, by simp [rsB]⟩ (fun q s ⟨d1, d2, d3, d4⟩ => ?_)
    · show Ok (f_X9_rests_23 1 x (q + 1) s.1 s.2 (nI i)) _
      simp only [f_X9_rests_23]
      refine ok_lt (fun k2 ek2 => ?_)
      subst ek2
      refine ok_f (by rw [show (10 : Int32) = nI 10 by decide, nI_leI (by omega) (by omega)]; omega) ?_
      refine okf (fun q' (t : Hp × Int32) j => f_X9_rests_32 1 x (f_X9_rests_23 1 x q) q' t.1 t.2 (nI i) j) 10 (rsS x i) (fun j t acc => RC t.1 (wT A acc.2) ∧ EqOff FX h t.1 ∧ t.2 = nI acc.1 ∧ rsB (10 * i + j) acc) _ 0 (fun q' j t acc _ hj ⟨e1, e2, e3, e4⟩ jj => ?_) 10 FU 0 s acc (by omega) (by omega) (by omega) ⟨d1, d2, d3, d4⟩ (fun q' t ⟨e1, e2, e3, e4⟩ => ?_)
      · obtain ⟨h2, v2⟩ := t
        have e3 : v2 = nI acc.1 := e3
        subst e3
        have e4' := e4.next (v := x) (x := i) (y := j)
        show Ok (f_X9_rests_32 1 x (f_X9_rests_23 1 x q) (q' + 1) h2 (nI acc.1) (nI i) (nI j)) _
        simp only [f_X9_rests_32, f_X9_rests_82, f_X9_rests_85]
        refine ok_lt (fun k2 ek2 => ?_)
        subst ek2
        rw [p_best, bd_s, p_best, bd_s]
        refine ok_f (by rw [show (10 : Int32) = nI 10 by decide, nI_leI (by omega) (by omega)]; omega) ?_
        simp only [nB_0, lt_u, i1, nI_add]
        by_cases z1 : bb x (nI i) (nI j) = true
        · by_cases z2 : bb x (nI j) (nI i) = true
          · have es : rsS x i acc j = (acc.1 + 1, if acc.1 = 0 then acc.2 ++ [(nI i).toInt64] ++ [(nI j).toInt64] else acc.2) := by rw [rsS, if_pos ⟨z1, z2⟩]
            refine ok_f (by simp [z1]) (ok_f (by simp [z2]) ?_)
            have b1 := e4.1
            by_cases z3 : acc.1 = 0
            · refine ok_t (by rw [z3]; rfl) ?_
              have e1 : RC h2 (wT A acc.2) := e1
              rw [e1.s.r1_1]
              have hl := e4.2.2 z3
              refine ok_gd (by decide) (ok_bd (c_t1 e1 (by show acc.2.length < 128; rw [hl]; simp) _) (fun h16 ⟨c16, o16⟩ => ?_))
              rw [c16.s.r1_1]
              refine ok_gd (by decide) (ok_bd (c_t1 c16 (by show (acc.2 ++ _).length < 128; rw [hl]; simp) _) (fun h19 ⟨c19, o19⟩ => ?_))
              refine jj (h19, nI (acc.1 + 1)) ⟨?_, EqOff.tr e2 ((F24y o16).tr (F24y o19)), by rw [es], e4'⟩
              rw [es, if_pos z3]; exact c19
            · refine ok_f (fun z => z3 (by rw [i0, nI_eq (by omega) (by omega)] at z; exact z)) ?_
              refine jj (h2, nI (acc.1 + 1)) ⟨?_, e2, by rw [es], e4'⟩
              rw [es, if_neg z3]; exact e1
          · have es : rsS x i acc j = acc := by rw [rsS, if_neg (fun z => z2 z.2)]
            refine ok_f (by simp [z1]) (ok_t (by simpa using z2) (jj (h2, nI acc.1) ⟨by rw [es]; exact e1, e2, by rw [es], e4'⟩))
        · have es : rsS x i acc j = acc := by rw [rsS, if_neg (fun z => z1 z.1)]
          exact ok_t (by simpa using z1) (jj (h2, nI acc.1) ⟨by rw [es]; exact e1, e2, by rw [es], e4'⟩)
      · show Ok (f_X9_rests_32 1 x (f_X9_rests_23 1 x q) (q' + 1) t.1 t.2 (nI i) (nI 10)) _
        simp only [f_X9_rests_32]
        refine ok_lt (fun k2 ek2 => ?_)
        clear ek2
        rw [lt_u, i1, nI_add]
        exact ok_t (by decide) (kk t ⟨e1, e2, e3, e4⟩)
    · show Ok (f_X9_rests_23 1 x (q + 1) s.1 s.2 (nI 10)) _
      simp only [f_X9_rests_23]
      refine ok_lt (fun k2 ek2 => ?_)
      exact ok_t (by decide) (ok_some ⟨d3, d1, d2⟩)
theorem r_rests (c : RM h m A n) (x : Int32) : Ok (f_X10_rests h m x) (fun o => o.1 = (sp_rests A x).1 ∧ RM o.2 m (sp_rests A x).2 n ∧ EqOff (FM m) h o.2) := by
  have hF := FU_big
  rw [f_X10_rests]
  refine r_th c (fun h1 c1 o1 _ => ?_)
  rw [z64_0, z64_20, p_in_num, bd_s]
  simp only [nB_0]
  unfold sp_rests
  cases ex : numIn (nI 0) (nI 20) x with
  | none => exact ok_t rfl (ok_some ⟨rfl, c1, o1.ofs⟩)
  | some k =>
    refine ok_f (by simp) (r_t0 c1 (fun h5 c5 o5 => ?_))
    refine okf (fun q (s : Hp × Int32) i => f_X10_rests_28 m x q s.1 s.2 i) 10 (rsX x) (fun i s acc => RM s.1 m (wT A acc.2) n ∧ EqOff (FM m) h s.1 ∧ s.2 = nI acc.1 ∧ rsB (10 * i) acc) _ 0 (fun q i s acc _ hi ⟨d1, d2, d3, d4⟩ kk => ?_) 10 FU 0 (h5, 0) (0, []) (by omega) (by omega) (by omega) ⟨c5, o1.ofs.tr (Dt_FM o5), rfl, by simp [rsB]⟩ (fun q s ⟨d1, d2, d3, d4⟩ => ?_)
    · show Ok (f_X10_rests_28 m x (q + 1) s.1 s.2 (nI i)) _
      simp only [f_X10_rests_28]
      refine ok_lt (fun k2 ek2 => ?_)
      subst ek2
      refine ok_f (by rw [i9, nI_ltI (by omega) (by omega)]; omega) ?_
      refine okf (fun q' (t : Hp × Int32) j => f_X10_rests_37 m x (f_X10_rests_28 m x q) q' t.1 t.2 (nI i) j) 10 (rsS x i) (fun j t acc => RM t.1 m (wT A acc.2) n ∧ EqOff (FM m) h t.1 ∧ t.2 = nI acc.1 ∧ rsB (10 * i + j) acc) _ 0 (fun q' j t acc _ hj ⟨e1, e2, e3, e4⟩ jj => ?_) 10 FU 0 s acc (by omega) (by omega) (by omega) ⟨d1, d2, d3, d4⟩ (fun q' t ⟨e1, e2, e3, e4⟩ => ?_)
      · obtain ⟨h2, v2⟩ := t
        have e3 : v2 = nI acc.1 := e3
        subst e3
        have e4' := e4.next (v := x) (x := i) (y := j)
        show Ok (f_X10_rests_37 m x (f_X10_rests_28 m x q) (q' + 1) h2 (nI acc.1) (nI i) (nI j)) _
        simp only [f_X10_rests_37, f_X10_rests_81, f_X10_rests_84]
        refine ok_lt (fun k2 ek2 => ?_)
        subst ek2
        rw [m_rest, bd_s, m_rest, bd_s]
        refine ok_f (by rw [i9, nI_ltI (by omega) (by omega)]; omega) ?_
        simp only [nB_0, lt_u, i1, nI_add]
        by_cases z1 : bb x (nI i) (nI j) = true
        · by_cases z2 : bb x (nI j) (nI i) = true
          · have es : rsS x i acc j = (acc.1 + 1, if acc.1 = 0 then acc.2 ++ [(nI i).toInt64] ++ [(nI j).toInt64] else acc.2) := by rw [rsS, if_pos ⟨z1, z2⟩]
            refine ok_f (by simp [z1]) (ok_f (by simp [z2]) ?_)
            have b1 := e4.1
            by_cases z3 : acc.1 = 0
            · refine ok_t (by rw [z3]; rfl) ?_
              have e1 : RM h2 m (wT A acc.2) n := e1
              have hl := e4.2.2 z3
              refine ok_bd (m_enters e1 (by show acc.2.length < 128; rw [hl]; simp) _) (fun h16 ⟨c16, o16⟩ => ok_bd (m_enters c16 (by show (acc.2 ++ _).length < 128; rw [hl]; simp) _) (fun h19 ⟨c19, o19⟩ => ?_))
              refine jj (h19, nI (acc.1 + 1)) ⟨?_, EqOff.tr e2 ((Dt_FM o16).tr (Dt_FM o19)), by rw [es], e4'⟩
              rw [es, if_pos z3]; exact c19
            · refine ok_f (fun z => z3 (by rw [i0, nI_eq (by omega) (by omega)] at z; exact z)) ?_
              refine jj (h2, nI (acc.1 + 1)) ⟨?_, e2, by rw [es], e4'⟩
              rw [es, if_neg z3]; exact e1
          · have es : rsS x i acc j = acc := by rw [rsS, if_neg (fun z => z2 z.2)]
            refine ok_f (by simp [z1]) (ok_t (by simpa using z2) (jj (h2, nI acc.1) ⟨by rw [es]; exact e1, e2, by rw [es], e4'⟩))
        · have es : rsS x i acc j = acc := by rw [rsS, if_neg (fun z => z1 z.1)]
          exact ok_t (by simpa using z1) (jj (h2, nI acc.1) ⟨by rw [es]; exact e1, e2, by rw [es], e4'⟩)
      · show Ok (f_X10_rests_37 m x (f_X10_rests_28 m x q) (q' + 1) t.1 t.2 (nI i) (nI 10)) _
        simp only [f_X10_rests_37]
        refine ok_lt (fun k2 ek2 => ?_)
        clear ek2
        rw [lt_u, i1, nI_add]
        exact ok_t (by decide) (kk t ⟨e1, e2, e3, e4⟩)
    · show Ok (f_X10_rests_28 m x (q + 1) s.1 s.2 (nI 10)) _
      simp only [f_X10_rests_28]
      refine ok_lt (fun k2 ek2 => ?_)
      exact ok_t (by decide) (ok_some ⟨d3, d1, d2⟩)
end RESTS
