section RCAMPS2
variable {h h1 : Hp} {A : Ast} {m n : Nat} {T : Fld}
/-- the field with the first j of the lines -/
def Tj (S T : Fld) (j : Nat) : Fld := (fun x => if x = 2 then S.1 2 + j else S.1 x, T.2)
/-- what the lines that are read make of the field -/
def lnT (S T : Fld) (r : Nat) : Prop := wfF T ∧ T.1 2 = S.1 2 + r ∧ T.1 0 = S.1 0 ∧ T.1 1 = S.1 1 ∧ T.1 3 = S.1 3 ∧ T.1 4 = S.1 4 ∧ (∀ j, j < r → T.2 6 (S.1 2 + j) = 0) ∧ ∀ j i, i < S.1 2 → T.2 j i = S.2 j i
theorem lnT.next {S : Fld} {r : Nat} {X : List Int32} {e a : Nat} {T' : Fld} (l : lnT S T r) (h8 : T.1 2 < 8) (hz : lnG X e a T 0 6 = .inr T') : lnT S T' (r + 1) := by
  obtain ⟨l1, l2, l3, l4, l5, l6, l7, l8⟩ := l
  obtain ⟨w1, w2, w3, w4, w5, w6, w7, w8⟩ := lnG_w l1 h8 hz
  refine ⟨w1, by omega, w3.trans l3, w4.trans l4, w5.trans l5, w6.trans l6, fun j hj => ?_, fun j i hi => by rw [w8 j i (by omega)]; exact l8 j i hi⟩
  by_cases z : j = r
  · rw [z, ← l2]; exact w7
  · rw [w8 6 _ (by omega)]; exact l7 j (by omega)
theorem addC_ne {S : Fld} {r k hg wd st sl j i : Nat} (hi : i ≠ S.1 2) : (addC S r k hg wd st sl).2 j i = S.2 j i := by simp [addC, hi]
theorem addC_at {S : Fld} {r k hg wd st sl : Nat} : (addC S r k hg wd st sl).2 0 (S.1 2) = r ∧ (addC S r k hg wd st sl).2 1 (S.1 2) = k ∧ (addC S r k hg wd st sl).2 2 (S.1 2) = hg ∧ (addC S r k hg wd st sl).2 3 (S.1 2) = wd ∧ (addC S r k hg wd st sl).2 4 (S.1 2) = st ∧ (addC S r k hg wd st sl).2 5 (S.1 2) = sl ∧ (addC S r k hg wd st sl).2 6 (S.1 2) = 0 := by simp [addC]
theorem r_adds (c : RM h m A n) (hn : n ≤ 1000) {r : Nat} (l : lnT (aS A) T r) (hr : hpI h m 14 = nI r) (hrd : rdI h m (aS A) T r) : Ok (f_X10_camps_81 m FU h (nI 0)) (fun o => o.1 = nI r ∧ (if r = 0 then RM o.2 m A (n + 1) else RM o.2 m (wK (wP (wS A T) []) noK) (n + 1)) ∧ EqOff (FM m) h o.2) := by
  have hF := FU_big
  obtain ⟨l1, l2, l3, l4, l5, l6, l7, l8⟩ := l
  have b5 := l1.2.2.2.2.1
  have b4 := l1.2.2.2.1
  have b2 := l1.2.1
  have b9 := l1.2.2.2.2.2.2.2.2
  have fin : ∀ h2, RM h2 m (wS A (Tj (aS A) T r)) n → EqOff (FM m) h h2 → hpI h2 m 14 = nI r → Ok (f_X10_camps_184 m h2 m (if nI r ≤ 0 then hpI h2 m 22 else 0)) (fun o => o.1 = nI r ∧ (if r = 0 then RM o.2 m A (n + 1) else RM o.2 m (wK (wP (wS A T) []) noK) (n + 1)) ∧ EqOff (FM m) h o.2) := by
    intro h2 d1 d2 d3
    obtain ⟨ch, k1, k2, k3⟩ := d1.k
    simp only [f_X10_camps_184, f_X10_camps_204]
    refine ok_lt (fun h32 e32 => ?_)
    have o32 : EqP (Dp m) h2 h32 := by rw [e32]; exact EqP.uI (Or.inl ⟨rfl, rfl⟩)
    have q5 : hpI h32 m 5 = nI ch := by rw [o32.1 _ _ (fun z => by unfold Dp at z; omega)]; exact k2
    have q14 : hpI h32 m 14 = nI r := by rw [o32.1 _ _ (fun z => by unfold Dp at z; omega)]; exact d3
    rw [q5, q14]
    by_cases w : r = 0
    · subst w
      rw [if_pos (by decide)] at e32 ⊢
      rw [pf0, bd_s, Int32.add_zero]
      refine ok_lt (fun h35 e35 => ok_some ⟨?_, ?_, ?_⟩)
      · rw [e35, hpI_upI, if_neg (by omega)]; exact q14
      · have same : ∀ x k, hpI h35 x k = hpI h2 x k := fun x k => by
          rw [e35, hpI_upI]
          by_cases z : x = m ∧ k = 5
          · rw [if_pos z, z.1, z.2]; exact k2.symm
          · rw [if_neg z, e32, hpI_upI]
            by_cases z2 : x = m ∧ k = 22
            · rw [if_pos z2, z2.1, z2.2]
            · rw [if_neg z2]
        have d9 : RM h35 m (wS A (Tj (aS A) T 0)) n := d1.ag (fun x _ _ => ⟨same x, fun k => by rw [e35, e32]; rfl, fun k => by rw [e35, e32]; rfl, by rw [e35, e32]; rfl⟩)
        rw [if_pos rfl]
        have d10 := d9.now (S := aS A) (d9.w.ext rfl rfl rfl rfl (fun j i _ hi => l8 j i hi)) rfl rfl EqP.rf
        exact d10.mono (by omega)
      · refine d2.tr ((Dp_FM o32).tr ?_)
        rw [e35]; exact EqOff.uI (by unfold FM; omega)
    · rw [if_neg (by rw [i0, nI_leI (by omega) (by omega)]; omega)] at e32 ⊢
      rw [pf1, bd_s, i1, nI_add]
      refine ok_lt (fun h35 e35 => ok_some ⟨?_, ?_, ?_⟩)
      · rw [e35, hpI_upI, if_neg (by omega)]; exact q14
      · rw [if_neg w]
        have c32 : RM h32 m (wP (wS A (Tj (aS A) T r)) []) n := d1.past ⟨by rw [e32, hpI_upI, if_pos ⟨rfl, rfl⟩]; rfl, by show 0 ≤ 15; omega, fun i hi => absurd hi (Nat.not_lt_zero i)⟩ (DSo.i o32)
        have o35 : EqP (Dk m) h32 h35 := by rw [e35]; exact EqP.uI (Or.inl ⟨rfl, rfl⟩)
        obtain ⟨ch', j1, j2, j3⟩ := c32.k
        have ech : ch' = ch := by rw [q5] at j2; exact ((nI_eq (by omega) (by omega)).mp j2).symm
        subst ech
        have c35 : RM h35 m (wK (wP (wS A (Tj (aS A) T r)) []) noK) (n + 1) := c32.kept ⟨ch' + 1, by omega, by rw [e35, hpI_upI, if_pos ⟨rfl, rfl⟩], fun i hi => by
          obtain ⟨cc, b, f1, f2, f3, f4, f5⟩ := j3 i hi
          refine ⟨cc, b, by omega, by rw [e35, hpI_upI, if_neg (by omega)]; exact f2, by rw [e35, hpI_upI, if_neg (by omega)]; exact f3, ?_, fun T hT => by cases hT⟩
          rw [decide_eq_false (show ¬ cc = ch' + 1 by omega), Bool.and_false]; rfl⟩ (DSo.i o35)
        exact c35.now (S := T) (c35.w.ext l4.symm l2.symm l5.symm l6.symm (fun j i _ _ => rfl)) l3 l4 EqP.rf
      · refine d2.tr ((Dp_FM o32).tr ?_)
        rw [e35]; exact EqOff.uI (by unfold FM; omega)
  have r8 : r ≤ 8 := by omega
  refine okl (fun q (h2 : Hp) j => f_X10_camps_81 m q h2 j) r (fun j h2 => RM h2 m (wS A (Tj (aS A) T j)) n ∧ EqP (DSo m (Dn m)) h h2 ∧ (∀ k, hpI h2 (m + 5) k = hpI h (m + 5) k) ∧ hpI h2 m 14 = nI r) _ (fun q j h2 hj ⟨d1, d2, d3, d4⟩ kk => ?_) (fun q h2 ⟨d1, d2, d3, d4⟩ => ?_) r FU 0 h (by omega) (by omega) ⟨c.now (S := Tj (aS A) T 0) (c.w.ext rfl rfl rfl rfl (fun j i _ hi => (l8 j i hi).symm)) rfl rfl EqP.rf, EqP.rf, fun _ => rfl, hr⟩
  · show Ok (f_X10_camps_81 m (q + 1) h2 (nI j)) _
    have g4 : hpI h2 m 4 = nI (T.1 1) := by rw [l4]; exact d1.g.2.2
    have bj := b9 ((aS A).1 2 + j) (by omega)
    have rd : ∀ f, f < 6 → hpI h2 (m + 5) (6 * j + f) = nI (T.2 f ((aS A).1 2 + j)) := fun f hf => by rw [d3]; exact hrd j hj f hf
    have rd0 : hpI h2 (m + 5) (6 * j) = nI (T.2 0 ((aS A).1 2 + j)) := rd 0 (by omega)
    simp only [f_X10_camps_81]
    refine ok_lt (fun k3 ek => ?_)
    subst ek
    rw [d4, show (6 : Int32) = nI 6 by decide, pk_mul, lt_u, d1.s.r6, d1.s.r13, d1.s.t5, i1, i2, i3, show (4 : Int32) = nI 4 by decide, show (5 : Int32) = nI 5 by decide, nI_add, nI_add, nI_add, nI_add, nI_add, ix_nI (show 6 * j < 2 ^ 31 by omega), ix_nI (show 6 * j + 1 < 2 ^ 31 by omega), ix_nI (show 6 * j + 2 < 2 ^ 31 by omega), ix_nI (show 6 * j + 3 < 2 ^ 31 by omega), ix_nI (show 6 * j + 4 < 2 ^ 31 by omega), ix_nI (show 6 * j + 5 < 2 ^ 31 by omega), rd0, rd 1 (by omega), rd 2 (by omega), rd 3 (by omega), rd 4 (by omega), rd 5 (by omega), g4, pk_mul, nI_add]
    refine ok_f (by rw [nI_leI (by omega) (by omega)]; omega) (ok_gd (nz_t (by omega)) (ok_gd (nz_t (by omega)) (ok_gd (inb_nI (by omega) (by omega)) (ok_gd (inb_nI (by omega) (by omega)) (ok_gd (inb_nI (by omega) (by omega)) (ok_gd (inb_nI (by omega) (by omega)) (ok_gd (inb_nI (by omega) (by omega)) (ok_gd (inb_nI (by omega) (by omega)) (ok_bd (m_comes d1.w (by show (aS A).1 2 + j < 8; omega)) (fun h30 ⟨w30, o30⟩ => ?_))))))))))
    rw [lt_u, nI_add]
    have dm := dm_1 (r := T.2 0 ((aS A).1 2 + j)) (k := T.2 1 ((aS A).1 2 + j)) (m := T.1 1) (by omega)
    have e1 : (Tj (aS A) T j).1 1 = T.1 1 := by show (aS A).1 1 = _; rw [l4]
    refine kk h30 ⟨d1.now (S := Tj (aS A) T (j + 1)) (w30.ext rfl rfl rfl rfl (fun f i hf hi => ?_)) rfl rfl (DW_n o30), d2.tr (DW_n o30), fun k => by rw [o30.1 _ _ (fun z => by unfold DW at z; omega)]; exact d3 k, by rw [o30.1 _ _ (fun z => by unfold DW at z; omega)]; exact d4⟩
    have hi : i < (aS A).1 2 + j + 1 := hi
    show (addC (Tj (aS A) T j) _ _ _ _ _ _).2 f i = T.2 f i
    have x0 : (T.1 1 * T.2 0 ((aS A).1 2 + j) + T.2 1 ((aS A).1 2 + j)) / (aS A).1 1 = T.2 0 ((aS A).1 2 + j) := by rw [← l4, Nat.mul_comm]; exact dm.1
    have x1 : (T.1 1 * T.2 0 ((aS A).1 2 + j) + T.2 1 ((aS A).1 2 + j)) % (aS A).1 1 = T.2 1 ((aS A).1 2 + j) := by rw [← l4, Nat.mul_comm]; exact dm.2
    by_cases z : i = (aS A).1 2 + j
    · have a7 := addC_at (S := Tj (aS A) T j) (r := (T.1 1 * T.2 0 ((aS A).1 2 + j) + T.2 1 ((aS A).1 2 + j)) / (aS A).1 1) (k := (T.1 1 * T.2 0 ((aS A).1 2 + j) + T.2 1 ((aS A).1 2 + j)) % (aS A).1 1) (hg := T.2 2 ((aS A).1 2 + j)) (wd := T.2 3 ((aS A).1 2 + j)) (st := T.2 4 ((aS A).1 2 + j)) (sl := T.2 5 ((aS A).1 2 + j))
      rw [z]
      rcases (show f = 0 ∨ f = 1 ∨ f = 2 ∨ f = 3 ∨ f = 4 ∨ f = 5 ∨ f = 6 by omega) with rfl | rfl | rfl | rfl | rfl | rfl | rfl
      · exact a7.1.trans x0
      · exact a7.2.1.trans x1
      · exact a7.2.2.1
      · exact a7.2.2.2.1
      · exact a7.2.2.2.2.1
      · exact a7.2.2.2.2.2.1
      · exact a7.2.2.2.2.2.2.trans (l7 j hj).symm
    · exact addC_ne z
  · show Ok (f_X10_camps_81 m (q + 1) h2 (nI r)) _
    simp only [f_X10_camps_81]
    refine ok_lt (fun k3 ek => ?_)
    clear ek
    rw [d4]
    exact ok_t (Int32.le_refl _) (fin h2 d1 (d2.ofr FMn) d4)
theorem lnG_fe {X : List Int32} {e a : Nat} : ∀ d j T q, a + j ≤ e → lnG X e a T j d = .inl q → q ≤ e := by
  intro d
  induction d with
  | zero => intro j T q _ h; cases h
  | succ d ih =>
    intro j T q hj h
    rw [lnG] at h
    cases hd : dgL X (a + j) e (bLo j) (bHi T j) with
    | none => rw [hd] at h; cases h; exact hj
    | some x =>
      rw [hd] at h
      have := (dgL_s hd).2.2.1
      exact ih _ _ _ (by omega) h
theorem r_camps (c : RM h m A n) (a : WA A n) : Ok (f_X10_camps h m) (fun o => o.1 = (sp_camps A).1 ∧ RM o.2 m (sp_camps A).2 (n + 1) ∧ EqOff (FM m) h o.2) := by
  have hF := FU_big
  have hw := a.w
  have hn := a.2.2.2.2.2
  rw [f_X10_camps]
  refine r_th c (fun h1 c1 o1 _ => ?_)
  have hx := c1.x.2.1
  rw [show (55 : Int32) = nI 55 by decide]
  refine ok_bd (m_begins c1 (mo := 55) (by omega)) (fun o ⟨z1, c2, tp, z4, z5, z6, z7⟩ => ok_lt (fun h3 e3 => ?_))
  have o3 : EqP (Dc m) o.2 h3 := by rw [e3]; exact EqP.uI (Or.inl ⟨rfl, Or.inr rfl⟩)
  have c3 : RM h3 m (wX A []) n := c2.scr (Dc.s o3)
  have tp3 := tp.ep o3 (fun k z => by unfold Dc at z; omega)
  have r3 : hpI h3 m 14 = nI 0 := by rw [e3, hpI_upI, if_pos ⟨rfl, rfl⟩]; rfl
  have a3 : hpI h3 m 10 = nI 0 := by rw [e3, hpI_upI, if_neg (by omega)]; exact z4
  have t3 : hpI h3 m 11 = nI (min (aX A).length 55) := by rw [e3, hpI_upI, if_neg (by omega)]; exact z5
  have oo : EqOff (FM m) h h3 := o1.ofs.tr (z7.tr (Dc.s o3).ofs)
  rw [z1, f_X10_camps_28]
  have lS : lnT (aS A) (aS A) 0 := ⟨hw, rfl, rfl, rfl, rfl, rfl, fun j hj => by omega, fun _ _ _ => rfl⟩
  unfold sp_camps
  by_cases q0 : (aX A).length = 0
  · rw [if_pos q0, q0, if_pos (by decide)]
    obtain ⟨q, hq⟩ : ∃ q, FU = q + 1 := ⟨FU - 1, by omega⟩
    rw [q0] at t3
    conv => arg 1; rw [hq]
    simp only [f_X10_camps_29]
    refine ok_lt (fun k3 ek => ?_)
    clear ek
    rw [show (55 : Int32) = nI 55 by decide, show (1 : Int32) = nB true from rfl, m_faultOf a3 t3 (by omega) (by omega) (by omega) (by omega), bd_s]
    refine ok_t trivial (ok_t (by decide) (ok_mono (r_adds c3 hn lS r3 (fun j hj => by omega)) (fun o ⟨y1, y2, y3⟩ => ⟨y1, ?_, oo.tr y3⟩)))
    rw [if_pos rfl] at y2
    exact y2
  · rw [if_neg q0, if_neg (by rw [i0, nI_leI (by omega) (by omega)]; omega)]
    generalize he : min (aX A).length 55 = e at *
    have e55 : e ≤ 55 := by omega
    have e80 : e ≤ (aX A).length := by omega
    have go : ∀ f q r a' T h2, 7 * r + 7 * f = 63 → f + 1 < q → a' = 7 * r → a' ≤ e → EqP (Dc m) h3 h2 → hpI h2 m 10 = nI a' → hpI h2 m 11 = nI e → hpI h2 m 14 = nI r → lnT (aS A) T r → rdI h2 m (aS A) T r → Ok (f_X10_camps_29 m q h2 (nI (aX A).length) 1 1) (fun o => o.1 = (match campsG (aX A) e f T a' with
        | .inl b => ((-1 : Int32) - nI b, wX A [])
        | .inr T => if (aX A).length ≤ 55 then (nI (T.1 2) - nI ((aS A).1 2), wX (wK (wP (wS A T) []) noK) []) else (-56, wX A [])).1 ∧ RM o.2 m (match campsG (aX A) e f T a' with
        | .inl b => ((-1 : Int32) - nI b, wX A [])
        | .inr T => if (aX A).length ≤ 55 then (nI (T.1 2) - nI ((aS A).1 2), wX (wK (wP (wS A T) []) noK) []) else (-56, wX A [])).2 (n + 1) ∧ EqOff (FM m) h o.2) := by
      intro f
      induction f with
      | zero => intro q r a' T h2 f1 f2 f3 f4; omega
      | succ f ih =>
        intro q r a' T h2 f1 f2 f3 f4 o2 a2 t2 r2 l2 d2
        obtain ⟨q, rfl⟩ : ∃ k, q = k + 1 := ⟨q - 1, by omega⟩
        have c4 : RM h2 m (wX A []) n := c3.scr (Dc.s o2)
        have tp4 := tp3.ep o2 (fun k z => by unfold Dc at z; omega)
        have b5 := l2.1.2.2.2.2.1
        -- a fault at b
        have bad : ∀ b is h5, EqP (Dc m) h3 h5 → hpI h5 m 10 = nI b → b ≤ e → (is = false ∨ b < e) → Ok (f_X10_camps_29 m q h5 (nI (aX A).length) (nB is) 0) (fun o => o.1 = (-1 : Int32) - nI b ∧ RM o.2 m (wX A []) (n + 1) ∧ EqOff (FM m) h o.2) := fun b is h5 o5 a5 hb hi => by
          have t5 : hpI h5 m 11 = nI e := by rw [o5.1 _ _ (fun z => by unfold Dc at z; omega)]; exact t3
          obtain ⟨q', rfl⟩ : ∃ k, q = k + 1 := ⟨q - 1, by omega⟩
          simp only [f_X10_camps_29]
          refine ok_lt (fun k3 _ => ok_t trivial ?_)
          rw [show (55 : Int32) = nI 55 by decide, m_faultOf a5 t5 (by omega) (by omega) (by omega) (by omega), bd_s]
          have ev : fltV (aX A).length 55 is b e = (-1 : Int32) - nI b := by
            have nc : ¬ (is = true ∧ b = e) := by
              rintro ⟨y1, y2⟩
              rcases hi with y | y
              · rw [y] at y1; cases y1
              · omega
            unfold fltV
            by_cases w1 : (aX A).length ≤ 55
            · rw [if_pos w1, if_neg nc]
            · rw [if_neg w1]
              by_cases w2 : 55 ≤ b
              · rw [if_pos (Or.inr w2), show b = 55 by omega]
              · rw [if_neg (fun y => y.elim nc w2)]
          have neg : ∀ b, b < 100 → ¬ (0 : Int32) ≤ -1 - nI b := by decide +kernel
          rw [ev]
          exact ok_f (neg b (by omega)) (ok_some ⟨rfl, (c3.scr (Dc.s o5)).mono (by omega), oo.tr (Dc.s o5).ofs⟩)
        rw [campsG]
        simp only [f_X10_camps_29, f_X10_camps_55, f_X10_camps_56]
        refine ok_lt (fun k3 ek => ?_)
        subst ek
        refine ok_f (by decide) (ok_bd (m_readsCamp c4.g c4.w l2.1 l2.2.2.1 l2.2.2.2.1 tp4 a2 t2 e80 (by omega) r2 l2.2.1 d2) (fun o ⟨y1, y2⟩ => ?_))
        have o5 : EqP (Dc m) h3 o.2 := o2.tr y2
        by_cases v : 8 ≤ T.1 2
        · rw [if_pos v] at y1 ⊢
          rw [y1]
          exact ok_t rfl (bad a' false h2 o2 a2 f4 (Or.inl rfl))
        · rw [if_neg v] at y1 ⊢
          cases hl : lnG (aX A) e a' T 0 6 with
          | inl b =>
            rw [hl] at y1
            obtain ⟨x1, x2⟩ := (show o.1 = 0 ∧ hpI o.2 m 10 = nI b from y1)
            have hb := lnG_at _ _ _ _ hl
            have hbe : b ≤ e := lnG_fe _ _ _ _ f4 hl
            rw [x1]
            exact ok_t rfl (bad b false o.2 o5 x2 hbe (Or.inl rfl))
          | inr T' =>
            rw [hl] at y1
            obtain ⟨x1, x2, x3, x4⟩ := (show o.1 = 1 ∧ hpI o.2 m 10 = nI (a' + 6) ∧ hpI o.2 m 14 = nI (r + 1) ∧ rdI o.2 m (aS A) T' (r + 1) from y1)
            have n4 := (lnG_e _ _ _ _ hl).resolve_left (by omega)
            have l3 := l2.next (by omega) hl
            have t5 : hpI o.2 m 11 = nI e := by rw [o5.1 _ _ (fun z => by unfold Dc at z; omega)]; exact t3
            have tp5 := tp3.ep o5 (fun k z => by unfold Dc at z; omega)
            rw [x1]
            refine ok_f (by decide) (ok_bd (m_takes (c3.scr (Dc.s o5)).s tp5 x2 t5 e80 (by omega) 59) (fun p ⟨w1, w2, w3⟩ => ?_))
            have o6 : EqP (Dc m) h3 p.2 := o5.tr (w3.mono (fun x k z => Or.inl ⟨z.1, Or.inl z.2⟩))
            rw [w1]
            simp only [nB_0]
            by_cases w6 : a' + 6 < e
            · rw [if_pos w6]
              by_cases w7 : (aX A).getD (a' + 6) 0 = 59
              · rw [if_pos w7]
                rw [if_pos ⟨w6, w7⟩] at w2
                refine ok_f (by rw [decide_eq_true ⟨w6, w7⟩]; simp) ?_
                refine ih q (r + 1) (a' + 7) T' p.2 (by omega) (by omega) (by omega) (by omega) o6 w2 ?_ ?_ l3 ?_
                · rw [w3.1 _ _ (fun z => by unfold Da at z; omega)]; exact t5
                · rw [w3.1 _ _ (fun z => by unfold Da at z; omega)]; exact x3
                · intro j hj f' hf; rw [w3.1 _ _ (fun z => by unfold Da at z; omega)]; exact x4 j hj f' hf
              · rw [if_neg w7]
                rw [if_neg (fun y => w7 y.2)] at w2
                exact ok_t (decide_eq_false (fun y => w7 y.2)) (bad (a' + 6) true p.2 o6 w2 (by omega) (Or.inr w6))
            · rw [if_neg w6]
              rw [if_neg (fun y => w6 y.1)] at w2
              refine ok_t (decide_eq_false (fun y => w6 y.1)) ?_
              have ea : a' + 6 = e := by omega
              obtain ⟨q', rfl⟩ : ∃ k, q = k + 1 := ⟨q - 1, by omega⟩
              simp only [f_X10_camps_29]
              refine ok_lt (fun k3 _ => ok_t trivial ?_)
              have t6 : hpI p.2 m 11 = nI e := by rw [w3.1 _ _ (fun z => by unfold Da at z; omega)]; exact t5
              rw [show (55 : Int32) = nI 55 by decide, show (1 : Int32) = nB true from rfl, m_faultOf w2 t6 (by omega) (by omega) (by omega) (by omega), bd_s]
              by_cases w9 : (aX A).length ≤ 55
              · have ev : fltV (aX A).length 55 true (a' + 6) e = 0 := by
                  unfold fltV
                  rw [if_pos w9, if_pos (show true = true ∧ a' + 6 = e from ⟨rfl, ea⟩)]
                rw [ev]
                simp only [if_pos w9]
                refine ok_t (by decide) (ok_mono (r_adds (c3.scr (Dc.s o6)) hn l3 (by rw [w3.1 _ _ (fun z => by unfold Da at z; omega)]; exact x3) (fun j hj f' hf => by rw [w3.1 _ _ (fun z => by unfold Da at z; omega)]; exact x4 j hj f' hf)) (fun o' ⟨u1, u2, u3⟩ => ⟨?_, ?_, oo.tr ((Dc.s o6).ofs.tr u3)⟩))
                · rw [u1, l3.2.1, pk_sub (by omega)]
                  show nI (r + 1) = nI ((aS A).1 2 + (r + 1) - (aS A).1 2)
                  rw [Nat.add_sub_cancel_left]
                · rw [if_neg (by omega)] at u2; exact u2
              · have ev : fltV (aX A).length 55 true (a' + 6) e = -56 := by
                  unfold fltV
                  rw [if_neg w9, if_pos (Or.inl (show true = true ∧ a' + 6 = e from ⟨rfl, ea⟩))]; decide
                rw [ev]
                simp only [if_neg w9]
                exact ok_f (by decide) (ok_some ⟨rfl, (c3.scr (Dc.s o6)).mono (by omega), oo.tr (Dc.s o6).ofs⟩)
    exact go 9 FU 0 0 (aS A) h3 (by omega) (by omega) (by omega) (by omega) EqP.rf a3 t3 r3 lS (fun j hj => by omega)
end RCAMPS2
