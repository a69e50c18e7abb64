section RCAMPS
variable {h h1 : Hp} {A : Ast} {m n : Nat} {T S : Fld}
/-- what a line that is read adds -/
theorem lnG_x {X : List Int32} {e a : Nat} {T' : Fld} (hz : lnG X e a T 0 6 = .inr T') : ∃ d0 d1 d2 d3 d4 d5, d0 ≤ T.1 0 - 1 ∧ d1 ≤ T.1 1 - 1 ∧ (1 ≤ d2 ∧ d2 ≤ 3 ∧ d2 ≤ T.1 0 - d0) ∧ (1 ≤ d3 ∧ d3 ≤ 3 ∧ d3 ≤ T.1 1 - d1) ∧ d4 ≤ 9 ∧ d5 ≤ 9 ∧ T'.1 = (fun x => if x = 2 then T.1 2 + 1 else T.1 x) ∧ ∀ j i, T'.2 j i = if i = T.1 2 then (match j with | 0 => d0 | 1 => d1 | 2 => d2 | 3 => d3 | 4 => d4 | 5 => d5 | 6 => 0 | _ => T.2 j i) else T.2 j i := by
  rw [lnG] at hz
  cases h0 : dgL X (a + 0) e (bLo 0) (bHi T 0) with
  | none => rw [h0] at hz; cases hz
  | some d0 =>
    rw [h0] at hz; simp only at hz; rw [lnG] at hz
    cases h1 : dgL X (a + (0 + 1)) e (bLo (0 + 1)) (bHi (setF T 0 (T.1 2) d0) (0 + 1)) with
    | none => rw [h1] at hz; cases hz
    | some d1 =>
      rw [h1] at hz; simp only at hz; rw [lnG] at hz
      cases h2 : dgL X (a + (0 + 1 + 1)) e (bLo (0 + 1 + 1)) (bHi (setF (setF T 0 (T.1 2) d0) (0 + 1) ((setF T 0 (T.1 2) d0).1 2) d1) (0 + 1 + 1)) with
      | none => rw [h2] at hz; cases hz
      | some d2 =>
        rw [h2] at hz; simp only at hz; rw [lnG] at hz
        generalize e3 : dgL X (a + (0 + 1 + 1 + 1)) e (bLo (0 + 1 + 1 + 1)) (bHi (setF (setF (setF T 0 (T.1 2) d0) (0 + 1) ((setF T 0 (T.1 2) d0).1 2) d1) (0 + 1 + 1) ((setF (setF T 0 (T.1 2) d0) (0 + 1) ((setF T 0 (T.1 2) d0).1 2) d1).1 2) d2) (0 + 1 + 1 + 1)) = o3 at hz
        cases o3 with
        | none => cases hz
        | some d3 =>
          simp only at hz; rw [lnG] at hz
          have k3 := dgL_s e3
          have k0 := dgL_s h0
          have k1 := dgL_s h1
          have k2 := dgL_s h2
          simp only [bLo, bHi, setF] at k0 k1 k2 k3
          simp at k0 k1 k2 k3
          split at hz
          · cases hz
          · rename_i d4 e4
            have k4 := dgL_s e4
            simp only [bLo, bHi] at k4
            simp at k4
            rw [lnG] at hz
            split at hz
            · cases hz
            · rename_i d5 e5
              have k5 := dgL_s e5
              simp only [bLo, bHi] at k5
              simp at k5
              rw [lnG] at hz
              cases hz
              refine ⟨d0, d1, d2, d3, d4, d5, by omega, by omega, ⟨by omega, by omega, by omega⟩, ⟨by omega, by omega, by omega⟩, by omega, by omega, rfl, fun j i => ?_⟩
              simp only [endC, setF, setQ]
              by_cases w : i = T.1 2
              · rcases (show j = 0 ∨ j = 1 ∨ j = 2 ∨ j = 3 ∨ j = 4 ∨ j = 5 ∨ j = 6 ∨ 7 ≤ j by omega) with rfl | rfl | rfl | rfl | rfl | rfl | rfl | w2
                · simp [w]
                · simp [w]
                · simp [w]
                · simp [w]
                · simp [w]
                · simp [w]
                · simp [w]
                · obtain ⟨j', rfl⟩ : ∃ j', j = j' + 7 := ⟨j - 7, by omega⟩
                  simp [w]
              · simp [w]
theorem lnG_w {X : List Int32} {e a : Nat} {T' : Fld} (hw : wfF T) (h8 : T.1 2 < 8) (hz : lnG X e a T 0 6 = .inr T') : wfF T' ∧ T'.1 2 = T.1 2 + 1 ∧ T'.1 0 = T.1 0 ∧ T'.1 1 = T.1 1 ∧ T'.1 3 = T.1 3 ∧ T'.1 4 = T.1 4 ∧ T'.2 6 (T.1 2) = 0 ∧ ∀ j i, i < T.1 2 → T'.2 j i = T.2 j i := by
  obtain ⟨d0, d1, d2, d3, d4, d5, z0, z1, z2, z3, z4, z5, y1, y2⟩ := lnG_x hz
  obtain ⟨b1, b2, b3, b4, b5, b6, b7, b8, b9⟩ := hw
  have q : ∀ k, k ≠ 2 → T'.1 k = T.1 k := fun k hk => by rw [y1]; simp [hk]
  have q2 : T'.1 2 = T.1 2 + 1 := by rw [y1]; simp
  refine ⟨⟨by rw [q 0 (by omega)]; exact b1, by rw [q 0 (by omega)]; exact b2, by rw [q 1 (by omega)]; exact b3, by rw [q 1 (by omega)]; exact b4, by omega, by rw [q 3 (by omega)]; exact b6, by rw [q 4 (by omega)]; exact b7, fun j i => ?_, fun i hi => ?_⟩, q2, q 0 (by omega), q 1 (by omega), q 3 (by omega), q 4 (by omega), by rw [y2]; simp, fun j i hi => by rw [y2, if_neg (by omega)]⟩
  · rw [y2]
    have := b8 j i
    split
    · split <;> omega
    · exact this
  · rw [q 0 (by omega), q 1 (by omega)]
    by_cases w : i = T.1 2
    · rw [y2, y2, y2, y2, y2, y2, if_pos w, if_pos w, if_pos w, if_pos w, if_pos w, if_pos w]
      simp only
      omega
    · rw [y2, y2, y2, y2, y2, y2, if_neg w, if_neg w, if_neg w, if_neg w, if_neg w, if_neg w]
      exact b9 i (by omega)
theorem m_takes (s : shM h m) {X : List Int32} {i t : Nat} (tp : mTp h m X) (ha : hpI h m 10 = nI i) (ht : hpI h m 11 = nI t) (h1 : t ≤ X.length) (hi8 : i ≤ 100) (x : Int32) : Ok (f_X10_takes h m x) (fun o => o.1 = nB (decide (i < t ∧ X.getD i 0 = x)) ∧ hpI o.2 m 10 = nI (if i < t ∧ X.getD i 0 = x then i + 1 else i) ∧ EqP (Da m) h o.2) := by
  have hX := tp.1
  rw [f_X10_takes, ha, ht, s.r8, s.t4]
  simp only [f_X10_takes_28, f_X10_takes_29, pf0, pf1, bd_s]
  rw [ha, i0, nI_add, i1, nI_add]
  have D : ∀ {k : Nat}, EqP (Da m) h (upI h m 10 (nI k)) := EqP.uI ⟨rfl, rfl⟩
  by_cases q : t ≤ i
  · refine ok_t (by rw [nI_leI (by omega) (by omega)]; exact q) (ok_lt (fun h7 e7 => ok_some ⟨?_, ?_, by rw [e7]; exact D⟩))
    · rw [decide_eq_false (fun z => by omega)]; rfl
    · rw [e7, hpI_upI, if_pos ⟨rfl, rfl⟩, if_neg (fun z => by omega)]; rfl
  · refine ok_f (by rw [nI_leI (by omega) (by omega)]; exact q) ?_
    rw [ix_nI (by omega), tp.2 i (by omega)]
    refine ok_gd (nz_t (by omega)) (ok_gd (inb_nI (by omega) (by omega)) (ok_if (fun z => ok_lt (fun h7 e7 => ok_some ⟨?_, ?_, by rw [e7]; exact D⟩)) (fun z => ok_lt (fun h7 e7 => ok_some ⟨?_, ?_, by rw [e7]; exact D⟩))))
    · rw [decide_eq_true ⟨by omega, z⟩]; rfl
    · rw [e7, hpI_upI, if_pos ⟨rfl, rfl⟩, if_pos ⟨by omega, z⟩]
    · rw [decide_eq_false (fun y => z y.2)]; rfl
    · rw [e7, hpI_upI, if_pos ⟨rfl, rfl⟩, if_neg (fun y => z y.2)]; rfl
/-- a fault, or 0: how long the text is, how long it may be, whether it was read, up to where, where it ends -/
def fltV (n mo : Nat) (is : Bool) (a t : Nat) : Int32 := if n ≤ mo then (if is = true ∧ a = t then 0 else -1 - nI a) else (if (is = true ∧ a = t) ∨ mo ≤ a then -1 - nI mo else -1 - nI a)
theorem m_faultOf {a t l mo : Nat} {is : Bool} (ha : hpI h m 10 = nI a) (ht : hpI h m 11 = nI t) (h1 : a < 1000) (h2 : t < 1000) (h3 : l < 1000) (h4 : mo < 1000) : f_X10_faultOf h m (nI l) (nI mo) (nB is) = some (fltV l mo is a t) := by
  unfold f_X10_faultOf
  simp only [f_X10_faultOf_19, f_X10_faultOf_20, f_X10_faultOf_40, f_X10_faultOf_44]
  rw [ha, ht]
  simp only [nB_0, nI_le0 (show l < 2 ^ 31 by omega) (show mo < 2 ^ 31 by omega), nI_lt0 (show a < 2 ^ 31 by omega) (show mo < 2 ^ 31 by omega), nI_eq0 (show a < 2 ^ 31 by omega) (show t < 2 ^ 31 by omega)]
  unfold fltV
  by_cases w2 : a = t
  · subst w2
    by_cases w3 : a < mo
    · have w4 : ¬ mo ≤ a := by omega
      by_cases w1 : l ≤ mo <;> cases is <;> simp [w1, w3, w4]
    · have w4 : mo ≤ a := by omega
      by_cases w1 : l ≤ mo <;> cases is <;> simp [w1, w3, w4]
  · by_cases w3 : a < mo
    · have w4 : ¬ mo ≤ a := by omega
      by_cases w1 : l ≤ mo <;> cases is <;> simp [w1, w2, w3, w4]
    · have w4 : mo ≤ a := by omega
      by_cases w1 : l ≤ mo <;> cases is <;> simp [w1, w2, w3, w4]
/-- the lines that are read: r of them -/
def rdI (h : Hp) (m : Nat) (S T : Fld) (r : Nat) : Prop := ∀ j, j < r → ∀ f, f < 6 → hpI h (m + 5) (6 * j + f) = nI (T.2 f (S.1 2 + j))
def Dc (m x k : Nat) : Prop := (x = m ∧ (k = 10 ∨ k = 14)) ∨ x = m + 5
theorem Dc.s (e : EqP (Dc m) h h1) : EqP (DS m) h h1 := e.mono (fun x k z => by unfold Dc at z; unfold DS; omega)
theorem m_readsCamp (g : atG h m S) (w : atW h (m + 2) S) (hw : wfF T) (t0 : T.1 0 = S.1 0) (t1 : T.1 1 = S.1 1) {X : List Int32} {a t r : Nat} (tp : mTp h m X) (ha : hpI h m 10 = nI a) (ht : hpI h m 11 = nI t) (h1 : t ≤ X.length) (ha8 : a ≤ 90) (hr : hpI h m 14 = nI r) (hT : T.1 2 = S.1 2 + r) (hrd : rdI h m S T r) : Ok (f_X10_readsCamp h m) (fun o => (if 8 ≤ T.1 2 then o = (0, h) else match lnG X t a T 0 6 with
    | .inl q => o.1 = 0 ∧ hpI o.2 m 10 = nI q
    | .inr T' => o.1 = 1 ∧ hpI o.2 m 10 = nI (a + 6) ∧ hpI o.2 m 14 = nI (r + 1) ∧ rdI o.2 m S T' (r + 1)) ∧ EqP (Dc m) h o.2) := by
  have hF := FU_big
  have s := g.1
  have b5 := hw.2.2.2.2.1
  have hX := tp.1
  rw [f_X10_readsCamp, s.r6, s.t2, show ix (48 : Int32) = 48 by decide, w.n, hr, nI_add, i8]
  refine ok_gd (nz_t (by omega)) (ok_gd (by decide) ?_)
  by_cases q8 : 8 ≤ T.1 2
  · simp only [if_pos q8]
    exact ok_t (by rw [nI_eq (by omega) (by omega)]; omega) (ok_some ⟨rfl, EqP.rf⟩)
  · simp only [if_neg q8]
    refine ok_f (by rw [nI_eq (by omega) (by omega)]; omega) ?_
    rw [show (6 : Int32) = nI 6 by decide, pk_mul, lt_u]
    have go : ∀ d q j h2 T2, j + d = 6 → d < q → EqP (Dc m) h h2 → hpI h2 m 10 = nI (a + j) → hpI h2 m 14 = nI r → rdI h2 m S T2 r → (∀ f, f < j → hpI h2 (m + 5) (6 * r + f) = nI (T2.2 f (S.1 2 + r))) → T2.1 = T.1 → (1 ≤ j → T2.2 0 (T.1 2) < T.1 0) → (2 ≤ j → T2.2 1 (T.1 2) < T.1 1) → Ok (f_X10_readsCamp_31 m q h2 (nI (6 * r)) (nI 1) (nI j)) (fun o => (match lnG X t a T2 j d with
        | .inl q => o.1 = 0 ∧ hpI o.2 m 10 = nI q
        | .inr T' => o.1 = 1 ∧ hpI o.2 m 10 = nI (a + 6) ∧ hpI o.2 m 14 = nI (r + 1) ∧ rdI o.2 m S T' (r + 1)) ∧ EqP (Dc m) h o.2) := by
      intro d
      induction d with
      | zero =>
        intro q j h2 T2 e1 e2 o2 a2 r2 d1 d2 eT c0 c1
        obtain ⟨q, rfl⟩ : ∃ k, q = k + 1 := ⟨q - 1, by omega⟩
        have : j = 6 := by omega
        subst this
        simp only [f_X10_readsCamp_31, f_X10_readsCamp_179, lnG]
        refine ok_lt (fun k3 ek => ?_)
        clear ek
        rw [r2]
        refine ok_t (by decide) (ok_lt (fun h33 e33 => ok_some ?_))
        have o33 : EqP (Dc m) h2 h33 := by rw [e33]; exact EqP.uI (Or.inl ⟨rfl, Or.inr rfl⟩)
        refine ⟨⟨rfl, by rw [e33, hpI_upI, if_neg (by omega)]; exact a2, by rw [e33, hpI_upI, if_pos ⟨rfl, rfl⟩, i1, nI_add], fun j' hj f hf => ?_⟩, o2.tr o33⟩
        rw [e33, hpI_upI, if_neg (by omega)]
        have ef : (endC T2).2 f (S.1 2 + j') = T2.2 f (S.1 2 + j') := by
          show (if f = 6 ∧ _ then 0 else T2.2 f (S.1 2 + j')) = _
          rw [if_neg (by omega)]
        rw [ef]
        by_cases z : j' = r
        · subst z; exact d2 f hf
        · exact d1 j' (by omega) f hf
      | succ d ih =>
        intro q j h2 T2 e1 e2 o2 a2 r2 d1 d2 eT c0 c1
        obtain ⟨q, rfl⟩ : ∃ k, q = k + 1 := ⟨q - 1, by omega⟩
        have s2 := s.ep o2
        have tp2 := tp.ep o2 (fun k z => by unfold Dc at z; omega)
        have ht2 : hpI h2 m 11 = nI t := by rw [o2.1 _ _ (fun z => by unfold Dc at z; omega)]; exact ht
        have g3 : hpI h2 m 3 = nI (T.1 0) := by rw [o2.1 _ _ (fun z => by unfold Dc at z; omega), t0]; exact g.2.1
        have g4 : hpI h2 m 4 = nI (T.1 1) := by rw [o2.1 _ _ (fun z => by unfold Dc at z; omega), t1]; exact g.2.2
        have b1 := hw.1
        have b2 := hw.2.1
        have b3 := hw.2.2.1
        have b4 := hw.2.2.2.1
        have hb9 : bHi T2 j ≤ 9 := by
          unfold bHi; rw [eT]
          repeat' split
          all_goals omega
        -- one digit
        have one : Ok (f_X10_readsCamp_138 m (f_X10_readsCamp_31 m q) h2 (nI (bHi T2 j)) (nI (6 * r)) (nI j) (nI (bLo j))) (fun o => (match lnG X t a T2 j (d + 1) with
            | .inl q => o.1 = 0 ∧ hpI o.2 m 10 = nI q
            | .inr T' => o.1 = 1 ∧ hpI o.2 m 10 = nI (a + 6) ∧ hpI o.2 m 14 = nI (r + 1) ∧ rdI o.2 m S T' (r + 1)) ∧ EqP (Dc m) h o.2) := by
          rw [lnG]
          simp only [f_X10_readsCamp_138, f_X10_readsCamp_172]
          rw [s2.r13]
          refine ok_gd (nz_t (by omega)) (ok_bd (m_digitIn s2 tp2 a2 ht2 h1 (by unfold bLo; split <;> omega) hb9 (by omega)) (fun o ⟨z1, z2, z3⟩ => ?_))
          have s3 := s2.ep z3
          rw [s3.t5, nI_add, ix_nI (by omega), z1]
          refine ok_gd (inb_nI (by omega) (by omega)) (ok_lt (fun h27 e27 => ?_))
          have o27 : EqP (Dc m) h h27 := o2.tr ((z3.mono (fun x k z => by unfold Da at z; unfold Dc; omega)).tr (by rw [e27]; exact EqP.uI (Or.inr rfl)))
          have s27 := s.ep o27
          have v27 : hpI h27 (m + 5) (6 * r + j) = oI (dgL X (a + j) t (bLo j) (bHi T2 j)) := by rw [e27, hpI_upI, if_pos ⟨rfl, rfl⟩]
          have r27 : hpI h27 m 14 = nI r := by rw [e27, hpI_upI, if_neg (by omega), z3.1 _ _ (fun z => by unfold Da at z; omega)]; exact r2
          rw [s27.r13, s27.t5, v27]
          refine ok_gd (nz_t (by omega)) (ok_gd (inb_nI (by omega) (by omega)) ?_)
          cases hd : dgL X (a + j) t (bLo j) (bHi T2 j) with
          | none =>
            rw [hd] at z2
            have z2 : hpI o.2 m 10 = nI (a + j) := z2
            rw [if_pos (show oI none < 0 by decide), lt_u, i1, nI_add]
            obtain ⟨q, rfl⟩ : ∃ k, q = k + 1 := ⟨q - 1, by omega⟩
            simp only [f_X10_readsCamp_31, f_X10_readsCamp_179]
            refine ok_lt (fun k3 ek => ?_)
            clear ek
            have fin : Ok (lt (upI h27 m 14 (hpI h27 m 14 + 1)) fun h33 => some ((0 : Int32), h33)) (fun o => (o.1 = 0 ∧ hpI o.2 m 10 = nI (a + j)) ∧ EqP (Dc m) h o.2) := ok_lt (fun h33 e33 => ok_some ⟨⟨rfl, by rw [e33, hpI_upI, if_neg (by omega), e27, hpI_upI, if_neg (by omega)]; exact z2⟩, o27.tr (by rw [e33]; exact EqP.uI (Or.inl ⟨rfl, Or.inr rfl⟩))⟩)
            rw [i1] at fin
            exact ok_if (fun _ => fin) (fun _ => ok_t trivial fin)
          | some x =>
            have hx := dgL_s hd
            rw [hd] at z2
            have z2 : hpI o.2 m 10 = nI (a + j + 1) := z2
            rw [if_neg (show ¬ oI (some x) < 0 by show ¬ nI x < 0; rw [i0, nI_ltI (by omega) (by omega)]; omega), lt_u, i1, nI_add]
            have f10 : hpI h27 m 10 = nI (a + (j + 1)) := by rw [e27, hpI_upI, if_neg (by omega)]; exact z2
            have k2 : T2.1 2 = S.1 2 + r := by rw [eT]; exact hT
            refine ih q (j + 1) h27 (setF T2 j (T2.1 2) x) (by omega) (by omega) o27 f10 r27 (fun j' hj f hf => ?_) (fun f hf => ?_) eT (fun z => ?_) (fun z => ?_)
            · rw [e27, hpI_upI, if_neg (by omega), z3.1 _ _ (fun z => by unfold Da at z; omega), d1 j' hj f hf]
              simp only [setF]; rw [if_neg (by omega)]
            · by_cases wz : f = j
              · subst wz; rw [v27, hd, k2]; simp [setF, oI]
              · rw [e27, hpI_upI, if_neg (by omega), z3.1 _ _ (fun z => by unfold Da at z; omega), d2 f (by omega)]
                simp only [setF]; rw [if_neg (by omega)]
            · rw [eT]
              simp only [setF]
              by_cases wz : j = 0
              · subst wz; simp; have := hx.2.1; simp only [bHi] at this; simp at this; rw [eT] at this; omega
              · rw [if_neg (by omega)]; exact c0 (by omega)
            · rw [eT]
              simp only [setF]
              by_cases wz : j = 1
              · subst wz; simp; have := hx.2.1; simp only [bHi] at this; simp at this; rw [eT] at this; omega
              · rw [if_neg (by omega)]; exact c1 (by omega)
        have k2 : T2.1 2 = S.1 2 + r := by rw [eT]; exact hT
        simp only [f_X10_readsCamp_31, f_X10_readsCamp_55, f_X10_readsCamp_56]
        refine ok_lt (fun k3 ek => ?_)
        subst ek
        rw [pf0, bd_s, pf1, bd_s, g3, g4, s2.r13, s2.t5, i1, i2, i3, nI_add]
        refine ok_f (by rw [show (6 : Int32) = nI 6 by decide, nI_leI (by omega) (by omega)]; omega) (ok_f (by decide) ?_)
        rcases (show j = 0 ∨ j = 1 ∨ j = 2 ∨ j = 3 ∨ j = 4 ∨ j = 5 by omega) with rfl | rfl | rfl | rfl | rfl | rfl
        · refine ok_t (by decide) (ok_t (by decide) ?_)
          rw [pk_sub (by omega)]
          rw [show bHi T2 0 = T.1 0 - 1 by simp [bHi, eT], show bLo 0 = 0 from rfl] at one; exact one
        · refine ok_t (by decide) (ok_f (by decide) (ok_t rfl ?_))
          rw [pk_sub (by omega)]
          rw [show bHi T2 1 = T.1 1 - 1 by simp [bHi, eT], show bLo 1 = 0 from rfl] at one; exact one
        · have := c0 (by omega)
          refine ok_f (by decide) (ok_f (by decide) (ok_f (by decide) (ok_f (by decide) (ok_t rfl ?_))))
          have e6 : hpI h2 (m + 5) (6 * r) = nI (T2.2 0 (T.1 2)) := by
            have := d2 0 (by omega)
            rw [← hT] at this; exact this
          rw [ix_nI (by omega), e6, pk_sub (by omega), mn_nI (by omega) (by omega), lt_u]
          rw [show bHi T2 2 = min 3 (T.1 0 - T2.2 0 (T.1 2)) by simp [bHi, eT], show bLo 2 = 1 from rfl] at one
          exact ok_gd (nz_t (by omega)) (ok_gd (inb_nI (by omega) (by omega)) one)
        · have := c1 (by omega)
          refine ok_f (by decide) (ok_f (by decide) (ok_f (by decide) (ok_f (by decide) (ok_f (by decide) (ok_t rfl ?_)))))
          have e6 := d2 1 (by omega)
          rw [← hT] at e6
          rw [ix_nI (show 6 * r + 1 < 2 ^ 31 by omega), e6, pk_sub (show T2.2 1 (T.1 2) ≤ T.1 1 by omega), mn_nI (by omega) (by omega), lt_u]
          rw [show bHi T2 3 = min 3 (T.1 1 - T2.2 1 (T.1 2)) by simp [bHi, eT], show bLo 3 = 1 from rfl] at one
          exact ok_gd (nz_t (by omega)) (ok_gd (inb_nI (by omega) (by omega)) one)
        · refine ok_f (by decide) (ok_f (by decide) (ok_f (by decide) (ok_f (by decide) (ok_f (by decide) (ok_f (by decide) one)))))
        · refine ok_f (by decide) (ok_t (by decide) (ok_f (by decide) (ok_f (by decide) (ok_f (by decide) (ok_f (by decide) one)))))
    exact go 6 FU 0 h T (by omega) (by omega) EqP.rf ha hr hrd (fun f z => by omega) rfl (fun z => by omega) (fun z => by omega)
end RCAMPS
