section RPARS
variable {h h1 : Hp} {m : Nat} {X : List Int32} {e : Nat}
def Du (m x k : Nat) : Prop := (x = m ∧ (k = 10 ∨ k = 12 ∨ k = 18)) ∨ x = m + 7
theorem Du.s (eo : EqP (Du m) h h1) : EqP (DS m) h h1 := eo.mono (fun x k z => by unfold Du at z; unfold DS; omega)
theorem Da.u (eo : EqP (Da m) h h1) : EqP (Du m) h h1 := eo.mono (fun x k z => by unfold Da at z; unfold Du; omega)
theorem Dd.u (eo : EqP (Dd m) h h1) : EqP (Du m) h h1 := eo.mono (fun x k z => by unfold Dd at z; unfold Du; omega)
/-- the reference's reader at work -/
def RdM (h : Hp) (m : Nat) (X : List Int32) (e o a p : Nat) (code : Nat → Int32) : Prop := shM h m ∧ mTp h m X ∧ hpI h m 10 = nI a ∧ hpI h m 11 = nI e ∧ hpI h m 12 = nI o ∧ mCd h m p code ∧ e ≤ X.length ∧ e ≤ 40 ∧ a ≤ e
def mpQ (m : Nat) (X : List Int32) (e o : Nat) (R : RP) (h : Hp) (a p : Nat) (code : Nat → Int32) (q : Int32 × Hp) : Prop := EqP (Du m) h q.2 ∧ (match R.2 with
  | none => q.1 = 0 ∧ hpI q.2 m 10 = nI R.1 ∧ ∃ n code', mCd q.2 m (p + n) code' ∧ n ≤ R.1 - a
  | some E => q.1 = 1 ∧ ∃ n code', RdM q.2 m X e o R.1 (p + n) code' ∧ n ≤ R.1 - a ∧ Mr code' p n E ∧ ∀ k, k < p → code' k = code k)
def MP (m : Nat) (X : List Int32) (e o b : Nat) (P : Nat → RP) (f : Hp → Option (Int32 × Hp)) : Prop := ∀ h a p code, b ≤ a → RdM h m X e o a p code → p ≤ a → Ok (f h) (mpQ m X e o (P a) h a p code)
theorem MP.up {o b b2 : Nat} {P : Nat → RP} {f : Hp → Option (Int32 × Hp)} (c : MP m X e o b P f) (hb : b ≤ b2) : MP m X e o b2 P f := fun h a p code h1 => c h a p code (by omega)
theorem RdM.to {o a p a2 o2 p2 : Nat} {code c2 : Nat → Int32} (r : RdM h m X e o a p code) (eo : EqP (Du m) h h1) (ha : hpI h1 m 10 = nI a2) (h2 : hpI h1 m 12 = nI o2) (hae : a2 ≤ e) (hr : mCd h1 m p2 c2) : RdM h1 m X e o2 a2 p2 c2 := ⟨r.1.ep eo, r.2.1.ep eo (fun k z => by unfold Du at z; omega), ha, by rw [eo.1 _ _ (fun z => by unfold Du at z; omega)]; exact r.2.2.2.1, h2, hr, r.2.2.2.2.2.2.1, r.2.2.2.2.2.2.2.1, hae⟩
theorem mCd.ep {D : Nat → Nat → Prop} {p : Nat} {code : Nat → Int32} (c : mCd h m p code) (eo : EqP D h h1) (d1 : ¬ D m 18) (d2 : ∀ k, ¬ D (m + 7) k) : mCd h1 m p code := ⟨by rw [eo.1 _ _ d1]; exact c.1, fun k hk => by rw [eo.1 _ _ (d2 k)]; exact c.2 k hk⟩
/-- one sign further -/
theorem RdM.at {o a p a2 : Nat} {code : Nat → Int32} (r : RdM h m X e o a p code) (eo : EqP (Da m) h h1) (ha : hpI h1 m 10 = nI a2) (hae : a2 ≤ e) : RdM h1 m X e o a2 p code := r.to (Da.u eo) ha (by rw [eo.1 _ _ (fun z => by unfold Da at z; omega)]; exact r.2.2.2.2.1) hae (r.2.2.2.2.2.1.ep eo (fun z => by unfold Da at z; omega) (fun k z => by unfold Da at z; omega))
theorem RdM.tk {o a p : Nat} {code : Nat → Int32} (r : RdM h m X e o a p code) {x : Int32} (hx : ¬ x = -1) : Ok (f_X10_takes h m x) (fun q => if sgX X e a = x then q.1 = 1 ∧ a < e ∧ RdM q.2 m X e o (a + 1) p code ∧ EqP (Da m) h q.2 else q.1 = 0 ∧ RdM q.2 m X e o a p code ∧ EqP (Da m) h q.2) := by
  obtain ⟨r1, r2, r3, r4, r5, r6, r7, r8, r9⟩ := r
  refine ok_mono (m_takes r1 r2 r3 r4 r7 (by omega) x) (fun q ⟨z1, z2, z3⟩ => ?_)
  have r : RdM h m X e o a p code := ⟨r1, r2, r3, r4, r5, r6, r7, r8, r9⟩
  have hi : (a < e ∧ X.getD a 0 = x) ↔ sgX X e a = x := by
    unfold sgX
    by_cases w : a < e
    · rw [if_pos w]; exact ⟨fun z => z.2, fun z => ⟨w, z⟩⟩
    · rw [if_neg w]; exact ⟨fun z => absurd z.1 w, fun z => absurd z.symm hx⟩
  by_cases w : sgX X e a = x
  · have w2 := hi.mpr w
    rw [if_pos w]
    rw [if_pos w2] at z2
    rw [decide_eq_true w2] at z1
    exact ⟨z1, w2.1, r.at z3 z2 (by omega), z3⟩
  · have w2 : ¬ (a < e ∧ X.getD a 0 = x) := fun z => w (hi.mp z)
    rw [if_neg w]
    rw [if_neg w2] at z2
    rw [decide_eq_false w2] at z1
    exact ⟨z1, r.at z3 z2 r9, z3⟩
theorem RdM.tkOf {o a p : Nat} {code : Nat → Int32} (r : RdM h m X e o a p code) {g : Int32 → Option Nat} (u N : Nat) (hN : txL.getD u 0 = N) (hN1 : 1 ≤ N) (hN9 : N ≤ 9) (hg : ∀ v, ff (fun j => decide ((txB.getD u []).getD j 0 = v)) 0 N = g v) (hm : g (-1) = none) : f_X10_takesOf h m u = match g (sgX X e a) with
    | some j => some (nI j, upI h m 10 (nI (a + 1)))
    | none => some (-1, h) := by
  obtain ⟨r1, r2, r3, r4, r5, r6, r7, r8, r9⟩ := r
  have hF := FU_big
  by_cases w : a < e
  · rw [m_takesOf r1 r2 r3 r4 r7 w u N hN hN9, hg, show sgX X e a = X.getD a 0 from if_pos w]
    cases g (X.getD a 0) <;> rfl
  · rw [show sgX X e a = -1 from if_neg w, hm]
    show f_X10_takesOf_2 m u FU h (nI 0) = _
    obtain ⟨q, hq⟩ : ∃ k, FU = k + 1 := ⟨FU - 1, by omega⟩
    rw [hq]
    simp only [f_X10_takesOf_2, lt_u, hN]
    rw [if_neg (by rw [nI_leI (by omega) (by omega)]; omega), r3, r4, if_pos (by rw [nI_leI (by omega) (by omega)]; omega)]
theorem ff_lt (v : Int32) : ff (fun j => decide ((txB.getD 0 []).getD j 0 = v)) 0 8 = ltI v := by
  simp only [ff, decide_eq_true_eq]
  rw [show (txB.getD 0 []).getD 0 0 = (115 : Int32) from rfl, show (txB.getD 0 []).getD (0 + 1) 0 = (97 : Int32) from rfl, show (txB.getD 0 []).getD (0 + 1 + 1) 0 = (111 : Int32) from rfl, show (txB.getD 0 []).getD (0 + 1 + 1 + 1) 0 = (104 : Int32) from rfl, show (txB.getD 0 []).getD (0 + 1 + 1 + 1 + 1) 0 = (119 : Int32) from rfl, show (txB.getD 0 []).getD (0 + 1 + 1 + 1 + 1 + 1) 0 = (99 : Int32) from rfl, show (txB.getD 0 []).getD (0 + 1 + 1 + 1 + 1 + 1 + 1) 0 = (114 : Int32) from rfl, show (txB.getD 0 []).getD (0 + 1 + 1 + 1 + 1 + 1 + 1 + 1) 0 = (110 : Int32) from rfl]
  unfold ltI
  simp only [eq_comm (a := v)]
theorem ff_o0 (v : Int32) : ff (fun j => decide ((txB.getD 1 []).getD j 0 = v)) 0 3 = opI 0 v := by
  simp only [ff, decide_eq_true_eq]
  rw [show (txB.getD 1 []).getD 0 0 = (60 : Int32) from rfl, show (txB.getD 1 []).getD (0 + 1) 0 = (62 : Int32) from rfl, show (txB.getD 1 []).getD (0 + 1 + 1) 0 = (61 : Int32) from rfl]
  simp only [opI, eq_comm (a := v)]
  rfl
theorem ff_o1 (v : Int32) : ff (fun j => decide ((txB.getD 2 []).getD j 0 = v)) 0 2 = opI 1 v := by
  simp only [ff, decide_eq_true_eq]
  rw [show (txB.getD 2 []).getD 0 0 = (43 : Int32) from rfl, show (txB.getD 2 []).getD (0 + 1) 0 = (45 : Int32) from rfl]
  simp only [opI, eq_comm (a := v)]
  rfl
theorem ff_o2 (v : Int32) : ff (fun j => decide ((txB.getD 3 []).getD j 0 = v)) 0 2 = opI 2 v := by
  simp only [ff, decide_eq_true_eq]
  rw [show (txB.getD 3 []).getD 0 0 = (42 : Int32) from rfl, show (txB.getD 3 []).getD (0 + 1) 0 = (47 : Int32) from rfl]
  simp only [opI, eq_comm (a := v)]
  rfl
theorem RdM.op {o a p : Nat} {code : Nat → Int32} (r : RdM h m X e o a p code) {rk : Nat} (hr : rk ≤ 2) : f_X10_takesOf h m (if nI rk = 0 then 1 else (if nI rk = (1 : Int32) then 2 else 3)) = match opI rk (sgX X e a) with
    | some j => some (nI j, upI h m 10 (nI (a + 1)))
    | none => some (-1, h) := by
  rcases (show rk = 0 ∨ rk = 1 ∨ rk = 2 by omega) with rfl | rfl | rfl
  · exact r.tkOf 1 3 rfl (by omega) (by omega) ff_o0 rfl
  · exact r.tkOf 2 2 rfl (by omega) (by omega) ff_o1 rfl
  · exact r.tkOf 3 2 rfl (by omega) (by omega) ff_o2 rfl
theorem RdM.fw {o a p : Nat} {code : Nat → Int32} (r : RdM h m X e o a p code) (hae : a + 1 ≤ e) : RdM (upI h m 10 (nI (a + 1))) m X e o (a + 1) p code ∧ EqP (Da m) h (upI h m 10 (nI (a + 1))) := by
  have eo : EqP (Da m) h (upI h m 10 (nI (a + 1))) := EqP.uI ⟨rfl, rfl⟩
  exact ⟨r.at eo (by rw [hpI_upI, if_pos ⟨rfl, rfl⟩]) hae, eo⟩
theorem RdM.cd {o a p : Nat} {code : Nat → Int32} (r : RdM h m X e o a p code) (hp : p < 80) (v : Int32) : Ok (f_X10_codes h m v) (fun h1 => RdM h1 m X e o a (p + 1) (fun k => if k = p then v else code k) ∧ EqP (Du m) h h1) := by
  refine ok_mono (m_codes r.1 r.2.2.2.2.2.1 hp v) (fun h1 ⟨z1, z2⟩ => ⟨r.to (Dd.u z2) ?_ ?_ r.2.2.2.2.2.2.2.2 z1, Dd.u z2⟩)
  · rw [z2.1 _ _ (fun z => by unfold Dd at z; omega)]; exact r.2.2.1
  · rw [z2.1 _ _ (fun z => by unfold Dd at z; omega)]; exact r.2.2.2.2.1
theorem mpQ_n {o : Nat} {R : RP} {a p b n : Nat} {code c2 : Nat → Int32} (eo : EqP (Du m) h h1) (hb : hpI h1 m 10 = nI b) (r : mCd h1 m (p + n) c2) (hn : n ≤ b - a) (hR : R = (b, none)) : mpQ m X e o R h a p code (0, h1) := by
  subst hR
  exact ⟨eo, rfl, hb, n, c2, r, hn⟩
theorem mpQ_s {o : Nat} {R : RP} {a p b n : Nat} {code c2 : Nat → Int32} {E : RE} (eo : EqP (Du m) h h1) (r : RdM h1 m X e o b (p + n) c2) (hn : n ≤ b - a) (me : Mr c2 p n E) (hc : ∀ k, k < p → c2 k = code k) (hR : R = (b, some E)) : mpQ m X e o R h a p code (1, h1) := by
  subst hR
  exact ⟨eo, rfl, n, c2, r, hn, me, hc⟩
theorem fxB_1 (n : Nat) : (fx_B (n + 1)).1 = fo_X10_readsThing (fx_B n).1 (fx_B n).2 := by rw [fx_B, lt_u]
theorem fxB_2 (n : Nat) : (fx_B (n + 1)).2 = fo_X10_readsRank (fx_B n).1 (fx_B n).2 := by rw [fx_B, lt_u]
theorem pSg_ne {pt : Nat → RP} {a : Nat} (w : ¬ sgX X e a = 45) (d : Nat) : pSg pt X e d a = pt a := by
  cases d with
  | zero => rfl
  | succ d => rw [pSg, if_neg w]
theorem m_thing {px : Option (Nat → RP)} {o N : Nat} (ho : o ≤ 4) (h4 : px = none → o = 4) (hx : ∀ P, px = some P → o < 4 ∧ pOk e P ∧ ∀ b n, (e - b) + N ≤ n → MP m X e (o + 1) b P (fun h => (fx_B n).2 h m 0)) (hq : pOk e (pTh px X e)) : ∀ d b n, e ≤ b + d → (e - b) + N + 1 ≤ n → MP m X e o b (pSg (pTh px X e) X e d) (fun h => (fx_B n).1 h m) := by
  have core : ∀ d b n, (e - b) + N ≤ n → (∀ a, b ≤ a → sgX X e a = 45 → ∃ d', d = d' + 1 ∧ MP m X e o (b + 1) (pSg (pTh px X e) X e d') (fun h => (fx_B n).1 h m)) → MP m X e o b (pSg (pTh px X e) X e d) (fun h => (fx_B (n + 1)).1 h m) := by
    intro d b n hn hrec h a p code hba r hp
    have h40 := r.2.2.2.2.2.2.2.1
    have hX := r.2.2.2.2.2.2.1
    have hae := r.2.2.2.2.2.2.2.2
    show Ok ((fx_B (n + 1)).1 h m) _
    rw [fxB_1, fo_X10_readsThing]
    refine ok_bd (r.tk (x := 45) (by decide)) (fun q1 z => ?_)
    by_cases w : sgX X e a = 45
    · rw [if_pos w] at z
      obtain ⟨z1, z2, z3, z4⟩ := z
      obtain ⟨d', rfl, rc⟩ := hrec a hba w
      refine ok_f (by rw [z1]; decide) (ok_bd (rc q1.2 (a + 1) p code (by omega) z3 (by omega)) (fun q19 ⟨y0, y1⟩ => ?_))
      have po := pSg_o (X := X) hq d' (a + 1) (by omega)
      rw [pSg, if_pos w]
      cases hE : (pSg (pTh px X e) X e d' (a + 1)).2 with
      | none =>
        rw [hE] at y1
        obtain ⟨x1, x2, k, c2, x3, x4⟩ := y1
        refine ok_bd (m_codes (z3.1.ep y0) x3 (by omega) 3000) (fun h20 ⟨u1, u2⟩ => ok_some ?_)
        rw [x1]
        exact mpQ_n (n := k + 1) ((Da.u z4).tr (y0.tr (Dd.u u2))) (by rw [u2.1 _ _ (fun z => by unfold Dd at z; omega)]; exact x2) u1 (by omega) (by unfold ngR; rw [hE]; rfl)
      | some E =>
        rw [hE] at y1
        obtain ⟨x1, k, c2, x3, x4, x5, x6⟩ := y1
        refine ok_bd (x3.cd (by omega) 3000) (fun h20 ⟨u1, u2⟩ => ok_some ?_)
        rw [x1]
        exact mpQ_s (n := k + 1) (E := fun env => -(E env)) ((Da.u z4).tr (y0.tr u2)) u1 (by omega) (Mr.neg (x5.ext (fun j k1 k2 => if_neg (by omega))) (if_pos rfl)) (fun j hj => (if_neg (by omega)).trans (x6 j hj)) (by unfold ngR; rw [hE]; rfl)
    · rw [if_neg w] at z
      obtain ⟨z1, z2, z3⟩ := z
      rw [pSg_ne w]
      refine ok_t z1 ?_
      rw [m_isDigit z2.1 z2.2.1 z2.2.2.1 z2.2.2.2.1 hX (by omega), bd_s, dg_sg hX]
      unfold pTh
      by_cases w2 : 48 ≤ sgX X e a ∧ sgX X e a ≤ 57
      · rw [if_pos w2, decide_eq_true w2]
        have nl := nuG_lt hX w2
        have nb := (nuG_le (X := X) (e := e) 3 0 a).2.2 1 (by omega)
        refine ok_f (show ¬ nB true = 0 by decide) ?_
        rw [show (3 : Int32) = nI 3 by decide]
        refine ok_bd (m_number z2.1 z2.2.1 z2.2.2.1 z2.2.2.2.1 hX hae (by rw [dg_sg hX]; exact decide_eq_true w2)) (fun q17 ⟨y1, y2, y3⟩ => ?_)
        have r17 := z2.at y3 y2 nl.2
        rw [y1]
        refine ok_bd (r17.cd (by omega) _) (fun h18 ⟨u1, u2⟩ => ok_some (mpQ_s (n := 1) ((Da.u z3).tr ((Da.u y3).tr u2)) u1 (by omega) (Mr.psh (if_pos rfl) ?_ ?_ ?_ (fun env => ?_)) (fun j hj => if_neg (by omega)) rfl))
        · rw [show (3000 : Int32) = nI 3000 by decide, nI_eq (by omega) (by omega)]; omega
        · rw [show (2000 : Int32) = nI 2000 by decide, nI_ltI (by omega) (by omega)]; omega
        · rw [show (1000 : Int32) = nI 1000 by decide, nI_ltI (by omega) (by omega)]; intro z; omega
        · rw [if_pos (by rw [show (1000 : Int32) = nI 1000 by decide, nI_ltI (by omega) (by omega)]; omega)]
      · rw [if_neg w2, decide_eq_false w2]
        refine ok_t (show nB false = 0 by decide) ?_
        rw [z2.tkOf 0 8 rfl (by omega) (by omega) ff_lt rfl]
        cases hl : ltI (sgX X e a) with
        | some k =>
          simp only [bd_s]
          have lf := ltI_f hl
          have la := sgX_m1 lf.2.2.2.2.2
          have f := z2.fw (by omega)
          refine ok_f (fun z => by rw [i0, nI_ltI (by omega) (by omega)] at z; omega) ?_
          rw [show (1000 : Int32) = nI 1000 by decide, nI_add]
          refine ok_bd (f.1.cd (by omega) _) (fun h16 ⟨u1, u2⟩ => ok_some (mpQ_s (n := 1) (E := fun env => env k) ((Da.u z3).tr ((Da.u f.2).tr u2)) u1 (by omega) (Mr.psh (if_pos rfl) ?_ ?_ ?_ (fun env => ?_)) (fun j hj => if_neg (by omega)) rfl))
          · rw [show (3000 : Int32) = nI 3000 by decide, nI_eq (by omega) (by omega)]; omega
          · rw [show (2000 : Int32) = nI 2000 by decide, nI_ltI (by omega) (by omega)]; omega
          · intro _; rw [show (1008 : Int32) = nI 1008 by decide, nI_ltI (by omega) (by omega)]; omega
          · rw [if_neg (by rw [show (1000 : Int32) = nI 1000 by decide, nI_ltI (by omega) (by omega)]; omega), show (1000 : Int32) = nI 1000 by decide, pk_sub (by omega), ix_nI (by omega), Nat.add_sub_cancel_left]
        | none =>
          simp only [bd_s]
          refine ok_t (by decide) ?_
          rw [z2.2.2.2.2.1]
          refine ok_if (fun v => ?_) (fun v => ?_)
          · rw [show (4 : Int32) = nI 4 by decide, nI_eq (by omega) (by omega)] at v
            refine ok_some (mpQ_n (b := a) (n := 0) (Da.u z3) z2.2.2.1 z2.2.2.2.2.2.1 (by omega) ?_)
            cases px with
            | none => split <;> rfl
            | some P => exact absurd (hx P rfl).1 (by omega)
          · rw [show (4 : Int32) = nI 4 by decide, nI_eq (by omega) (by omega)] at v
            refine ok_bd (z2.tk (x := 40) (by decide)) (fun q8 y => ?_)
            by_cases w3 : sgX X e a = 40
            · rw [if_pos w3] at y
              obtain ⟨y1, y2, y3, y4⟩ := y
              rw [if_pos w3]
              refine ok_f (by rw [y1]; decide) ?_
              cases px with
              | none => exact absurd (h4 rfl) v
              | some P =>
                obtain ⟨x1, x2, x3⟩ := hx P rfl
                have po := x2 (a + 1) (by omega)
                rw [y3.2.2.2.2.1, i1, nI_add]
                refine ok_lt (fun h10 e10 => ?_)
                have o10 : EqP (fun x k => x = m ∧ k = 12) q8.2 h10 := by rw [e10]; exact EqP.uI ⟨rfl, rfl⟩
                have oe10 : EqP (Du m) q8.2 h10 := o10.mono (fun x k z => by unfold Du; omega)
                have r10 : RdM h10 m X e (o + 1) (a + 1) p code := y3.to oe10 (by rw [o10.1 _ _ (by omega)]; exact y3.2.2.1) (by rw [e10, hpI_upI, if_pos ⟨rfl, rfl⟩]) (by omega) (y3.2.2.2.2.2.1.ep o10 (by omega) (fun k => by omega))
                refine ok_bd (x3 (a + 1) n (by omega) h10 (a + 1) p code (Nat.le_refl _) r10 (by omega)) (fun q11 ⟨t0, t1⟩ => ?_)
                have oo := (Da.u z3).tr ((Da.u y4).tr (oe10.tr t0))
                simp only
                cases hE : (P (a + 1)).2 with
                | none =>
                  rw [hE] at t1
                  obtain ⟨s1, s2, k, c2, s3, s4⟩ := t1
                  exact ok_t s1 (ok_some (mpQ_n oo s2 s3 (by omega) rfl))
                | some E =>
                  rw [hE] at t1
                  obtain ⟨s1, k, c2, s3, s4, s5, s6⟩ := t1
                  refine ok_f (by rw [s1]; decide) (ok_bd (s3.tk (x := 41) (by decide)) (fun q13 u => ?_))
                  simp only
                  by_cases w4 : sgX X e (P (a + 1)).1 = 41
                  · rw [if_pos w4] at u
                    obtain ⟨u1, u2, u3, u4⟩ := u
                    rw [if_pos w4]
                    refine ok_f (by rw [u1]; decide) ?_
                    rw [u3.2.2.2.2.1, pk_sub (by omega), Nat.add_sub_cancel]
                    refine ok_lt (fun h15 e15 => ?_)
                    have o15 : EqP (fun x k => x = m ∧ k = 12) q13.2 h15 := by rw [e15]; exact EqP.uI ⟨rfl, rfl⟩
                    have oe15 : EqP (Du m) q13.2 h15 := o15.mono (fun x k z => by unfold Du; omega)
                    have r15 : RdM h15 m X e o ((P (a + 1)).1 + 1) (p + k) c2 := u3.to oe15 (by rw [o15.1 _ _ (by omega)]; exact u3.2.2.1) (by rw [e15, hpI_upI, if_pos ⟨rfl, rfl⟩]) (by omega) (u3.2.2.2.2.2.1.ep o15 (by omega) (fun k => by omega))
                    exact ok_some (mpQ_s (oo.tr ((Da.u u4).tr oe15)) r15 (by omega) s5 s6 rfl)
                  · rw [if_neg w4] at u
                    obtain ⟨u1, u2, u3⟩ := u
                    rw [if_neg w4]
                    exact ok_t u1 (ok_some (mpQ_n (oo.tr (Da.u u3)) u2.2.2.1 u2.2.2.2.2.2.1 (by omega) rfl))
            · rw [if_neg w3] at y
              obtain ⟨y1, y2, y3⟩ := y
              rw [if_neg w3]
              exact ok_t y1 (ok_some (mpQ_n (n := 0) ((Da.u z3).tr (Da.u y3)) y2.2.2.1 y2.2.2.2.2.2.1 (by omega) rfl))
  intro d
  induction d with
  | zero =>
    intro b n h1 h2
    obtain ⟨n, rfl⟩ : ∃ k, n = k + 1 := ⟨n - 1, by omega⟩
    exact core 0 b n (by omega) (fun a ha w => by have := sgX_lt w (by decide); omega)
  | succ d ih =>
    intro b n h1 h2
    obtain ⟨n, rfl⟩ : ∃ k, n = k + 1 := ⟨n - 1, by omega⟩
    exact core (d + 1) b n (by omega) (fun a ha w => by
      have := sgX_lt w (by decide)
      exact ⟨d, rfl, ih (b + 1) n (by omega) (by omega)⟩)
theorem m_rank3 {o b n : Nat} {P : Nat → RP} (hf : MP m X e o b P (fun h => (fx_B n).1 h m)) : MP m X e o b P (fun h => (fx_B (n + 1)).2 h m (nI 3)) := by
  intro h a0 p code hb r hp
  show Ok ((fx_B (n + 1)).2 h m (nI 3)) _
  rw [fxB_2, fo_X10_readsRank]
  exact ok_t (by decide) (ok_bd (hf h a0 p code hb r hp) (fun q z => ok_some z))
theorem opB_I {rk : Nat} (hr : rk ≤ 2) : (if nI rk = 0 then (0 : Int32) else (if nI rk = (1 : Int32) then (3 : Int32) else (5 : Int32))) = nI (opB rk) := by
  rcases (show rk = 0 ∨ rk = 1 ∨ rk = 2 by omega) with rfl | rfl | rfl <;> rfl
theorem m_rank {pn : Nat → RP} {o b n rk d : Nat} (hr : rk ≤ 2) (ho : pOk e pn) (hf : MP m X e o b pn (fun h => (fx_B n).2 h m (nI (rk + 1)))) (hd : (rk = 0 ∧ d = 1) ∨ (1 ≤ rk ∧ d = 40)) : MP m X e o b (pRk rk d pn X e) (fun h => (fx_B (n + 1)).2 h m (nI rk)) := by
  intro h a0 p code hb r hp
  have hF := FU_big
  have h40 := r.2.2.2.2.2.2.2.1
  show Ok ((fx_B (n + 1)).2 h m (nI rk)) _
  rw [fxB_2, fo_X10_readsRank]
  have e1 : nI rk + (1 : Int32) = nI (rk + 1) := by rw [i1, nI_add]
  have go : ∀ d q x a E n1 c2 h2, d < q → (rk = 0 → (d = 1 ∧ x = (1 : Int32)) ∨ (d = 0 ∧ x = 0)) → (1 ≤ rk → e ≤ a + d ∧ x = 1) → RdM h2 m X e o a (p + n1) c2 → EqP (Du m) h h2 → a0 + n1 ≤ a → Mr c2 p n1 E → (∀ k, k < p → c2 k = code k) → Ok (fo_X10_readsRank_24 (fx_B n).1 (fx_B n).2 m (nI rk) q h2 x) (mpQ m X e o (pCh rk pn X e d a E) h a0 p code) := by
    intro d
    induction d with
    | zero =>
      intro q x a E n1 c2 h2 f1 f2 f3 r2 o2 l1 me px
      obtain ⟨q, rfl⟩ : ∃ k, q = k + 1 := ⟨q - 1, by omega⟩
      have fin : Ok (some ((1 : Int32), h2)) (mpQ m X e o (pCh rk pn X e 0 a E) h a0 p code) := ok_some (mpQ_s o2 r2 (by omega) me px rfl)
      simp only [fo_X10_readsRank_24, lt_u]
      refine ok_if (fun _ => fin) (fun v => ?_)
      have hk : 1 ≤ rk := by
        rcases Nat.eq_zero_or_pos rk with z | z
        · rcases f2 z with y | y
          · omega
          · exact absurd y.2 v
        · exact z
      have hn : opI rk (sgX X e a) = none := by
        rw [show sgX X e a = -1 from if_neg (by have := (f3 hk).1; omega)]
        rcases (show rk = 0 ∨ rk = 1 ∨ rk = 2 by omega) with rfl | rfl | rfl <;> rfl
      rw [fo_X10_readsRank_50, r2.op hr, hn]
      simp only [bd_s]
      exact ok_f (by decide) fin
    | succ d ih =>
      intro q x a E n1 c2 h2 f1 f2 f3 r2 o2 l1 me px
      obtain ⟨q, rfl⟩ : ∃ k, q = k + 1 := ⟨q - 1, by omega⟩
      have hx : x = 1 := by
        rcases Nat.eq_zero_or_pos rk with z | z
        · rcases f2 z with y | y
          · exact y.2
          · omega
        · exact (f3 z).2
      simp only [fo_X10_readsRank_24, lt_u]
      refine ok_f (by rw [hx]; decide) ?_
      rw [fo_X10_readsRank_50, r2.op hr, pCh]
      cases hk : opI rk (sgX X e a) with
      | none =>
        simp only [bd_s]
        exact ok_f (by decide) (ok_some (mpQ_s o2 r2 (by omega) me px rfl))
      | some k =>
        have of := opI_f hr hk
        have la := sgX_m1 of.2.2.2.2.2
        have fw := r2.fw (by omega)
        have po := ho (a + 1) (by omega)
        simp only [bd_s]
        refine ok_t (by rw [i0, nI_leI (by omega) (by omega)]; omega) ?_
        rw [e1]
        refine ok_bd (hf _ (a + 1) (p + n1) c2 (by have := r2; omega) fw.1 (by omega)) (fun q10 ⟨z0, z1⟩ => ?_)
        have oo := o2.tr ((Da.u fw.2).tr z0)
        cases hE : (pn (a + 1)).2 with
        | none =>
          rw [hE] at z1
          obtain ⟨s1, s2, k, c3, s3, s4⟩ := z1
          rw [Nat.add_assoc] at s3
          exact ok_t s1 (ok_some (mpQ_n oo s2 s3 (by omega) rfl))
        | some F =>
          rw [hE] at z1
          obtain ⟨s1, n2, c3, s3, s4, s5, s6⟩ := z1
          have po3 := po.2.2 F hE
          simp only
          refine ok_f (by rw [s1]; decide) ?_
          rw [fo_X10_readsRank_96, opB_I hr, show (2000 : Int32) = nI 2000 by decide, nI_add, nI_add]
          refine ok_bd (s3.cd (by omega) _) (fun h14 ⟨u1, u2⟩ => ?_)
          rw [fo_X10_readsRank_109]
          have ep : p + n1 + n2 + 1 = p + (n1 + n2 + 1) := by omega
          rw [ep] at u1
          have ml := Mr.bin (code := fun j => if j = p + n1 + n2 then nI (2000 + k + opB rk) else c3 j) (p := p) (a := n1) (b := n2) (E := E) (F := F) (c := nI (2000 + k + opB rk)) (me.ext (fun j k1 k2 => (if_neg (by omega)).trans (s6 j (by omega)))) (s5.ext (fun j k1 k2 => if_neg (by omega))) (if_pos rfl) (by rw [show (3000 : Int32) = nI 3000 by decide, nI_eq (by omega) (by omega)]; omega) (by rw [show (2000 : Int32) = nI 2000 by decide, nI_ltI (by omega) (by omega)]; omega)
          rw [show nI (2000 + k + opB rk) - 2000 = nI (k + opB rk) by rw [show (2000 : Int32) = nI 2000 by decide, pk_sub (by omega), show 2000 + k + opB rk - 2000 = k + opB rk by omega]] at ml
          refine ih q _ _ _ (n1 + n2 + 1) _ h14 (by omega) (fun z => Or.inr ⟨?_, ?_⟩) (fun z => ⟨?_, ?_⟩) u1 (oo.tr u2) (by omega) ml (fun j hj => (if_neg (by omega)).trans ((s6 j (by omega)).trans (px j hj)))
          · rcases f2 z with y | y <;> omega
          · subst z; rfl
          · have := (f3 z).1; omega
          · rw [if_neg (by rw [i0, nI_leI (by omega) (by omega)]; omega)]
  refine ok_f (by rw [show (3 : Int32) = nI 3 by decide, nI_eq (by omega) (by omega)]; omega) ?_
  rw [e1]
  refine ok_bd (hf h a0 p code hb r hp) (fun q ⟨z0, z1⟩ => ?_)
  have po := ho a0 r.2.2.2.2.2.2.2.2
  unfold pRk
  cases hE : (pn a0).2 with
  | none =>
    rw [hE] at z1
    obtain ⟨s1, s2, k, c3, s3, s4⟩ := z1
    exact ok_t s1 (ok_some (mpQ_n z0 s2 s3 s4 rfl))
  | some E =>
    rw [hE] at z1
    obtain ⟨s1, n1, c3, s3, s4, s5, s6⟩ := z1
    refine ok_f (by rw [s1]; decide) ?_
    exact go d FU 1 _ E n1 c3 q.2 (by omega) (fun z => Or.inl ⟨by omega, rfl⟩) (fun z => ⟨by omega, rfl⟩) s3 z0 (by omega) s5 s6
theorem m_pX (he : e ≤ X.length) (h40 : e ≤ 40) : ∀ k, k ≤ 4 → ∀ b n, (e - b) + (5 * k + 5) ≤ n → MP m X e (4 - k) b (pX X e k) (fun h => (fx_B n).2 h m 0) := by
  have st : ∀ px o N, o ≤ 4 → (px = none → o = 4) → (∀ P, px = some P → o < 4 ∧ pOk e P ∧ ∀ b n, (e - b) + N ≤ n → MP m X e (o + 1) b P (fun h => (fx_B n).2 h m 0)) → ∀ b n, (e - b) + N + 5 ≤ n → MP m X e o b (pEx px X e) (fun h => (fx_B n).2 h m 0) := fun px o N ho h4 hx b n hn => by
    obtain ⟨n, rfl⟩ : ∃ j, n = j + 4 := ⟨n - 4, by omega⟩
    have o0 := pTh_o (X := X) he (fun P hP => (hx P hP).2.1)
    have o1 := pSg_o (X := X) o0 40
    have o2 := pRk_o (X := X) (r := 2) (d := 40) (by omega) o1
    have o3 := pRk_o (X := X) (r := 1) (d := 40) (by omega) o2
    have m0 := m_thing (m := m) ho h4 hx o0 40 b n (by omega) (by omega)
    exact m_rank (n := n + 3) (rk := 0) (by omega) o3 (m_rank (n := n + 2) (rk := 1) (by omega) o2 (m_rank (n := n + 1) (rk := 2) (by omega) o1 (m_rank3 m0) (Or.inr ⟨by omega, rfl⟩)) (Or.inr ⟨by omega, rfl⟩)) (Or.inl ⟨rfl, rfl⟩)
  intro k
  induction k with
  | zero =>
    intro _ b n hn
    exact st none 4 0 (by omega) (fun _ => rfl) (fun P z => by cases z) b n (by omega)
  | succ k ih =>
    intro hk b n hn
    refine st (some (pX X e k)) _ (5 * k + 5) (by omega) (fun z => by cases z) (fun P z => ?_) b n (by omega)
    cases z
    refine ⟨by omega, pX_o he k, fun b n hn => ?_⟩
    have := ih (by omega) b n (by omega)
    rw [show 4 - k = 4 - (k + 1) + 1 by omega] at this
    exact this
end RPARS
