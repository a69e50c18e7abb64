section RSTORY
variable {h h1 : Hp} {A : Ast} {m n : Nat} {S : Fld}
/-- a sign of a given row, read where it lies -/
theorem m_takesOf (s : shM h m) {X : List Int32} {i t : Nat} (tp : mTp h m X) (ha : hpI h m 10 = nI i) (ht : hpI h m 11 = nI t) (h1 : t ≤ X.length) (hi : i < t) (u N : Nat) (hN : txL.getD u 0 = N) (hN9 : N ≤ 9) : f_X10_takesOf h m u = match ff (fun j => decide ((txB.getD u []).getD j 0 = X.getD i 0)) 0 N with
    | some j => some (nI j, upI h m 10 (nI (i + 1)))
    | none => some (-1, h) := by
  have hF := FU_big
  have hX := tp.1
  show f_X10_takesOf_2 m u FU h (nI 0) = _
  refine fo_ff (fun q x => f_X10_takesOf_2 m u q h x) N _ (fun j => some (nI j, upI h m 10 (nI (i + 1)))) (some (-1, h)) (fun q j hj => ?_) (fun q => ?_) N FU 0 (by omega) (by omega)
  · show f_X10_takesOf_2 m u (q + 1) h (nI j) = _
    simp only [f_X10_takesOf_2, lt_u, hN]
    rw [ha, ht, s.r8, s.t4, if_neg (by rw [nI_leI (by omega) (by omega)]; omega), if_neg (by rw [nI_leI (by omega) (by omega)]; omega), gd_t (inb_nI (by omega) (by omega)), gd_t (nz_t (by omega)), gd_t (inb_nI (by omega) (by omega)), ix_nI (by omega), ix_nI (by omega), tp.2 i (by omega), i1, nI_add, nI_add]
    by_cases w : (txB.getD u []).getD j 0 = X.getD i 0
    · rw [if_pos w, if_pos (decide_eq_true w)]
    · rw [if_neg w, if_neg (by rw [decide_eq_false w]; decide)]
  · show f_X10_takesOf_2 m u (q + 1) h (nI N) = _
    simp only [f_X10_takesOf_2, lt_u, hN]
    rw [if_pos (Int32.le_refl _)]
theorem ff_act (v : Int32) : ff (fun j => decide ((txB.getD 4 []).getD j 0 = v)) 0 5 = acI v := by
  simp only [ff, decide_eq_true_eq]
  rw [show (txB.getD 4 []).getD 0 0 = (110 : Int32) from rfl, show (txB.getD 4 []).getD (0 + 1) 0 = (109 : Int32) from rfl, show (txB.getD 4 []).getD (0 + 1 + 1) 0 = (116 : Int32) from rfl, show (txB.getD 4 []).getD (0 + 1 + 1 + 1) 0 = (115 : Int32) from rfl, show (txB.getD 4 []).getD (0 + 1 + 1 + 1 + 1) 0 = (112 : Int32) from rfl]
  unfold acI
  by_cases e0 : v = 110
  · subst e0; rfl
  by_cases e1 : v = 109
  · subst e1; rfl
  by_cases e2 : v = 116
  · subst e2; rfl
  by_cases e3 : v = 115
  · subst e3; rfl
  by_cases e4 : v = 112
  · subst e4; rfl
  rw [if_neg e0, if_neg e1, if_neg e2, if_neg e3, if_neg e4, if_neg (Ne.symm e0), if_neg (Ne.symm e1), if_neg (Ne.symm e2), if_neg (Ne.symm e3), if_neg (Ne.symm e4)]
theorem dgL_dv {X : List Int32} {i e lo hi d : Nat} (he : e ≤ X.length) (z : dgL X i e lo hi = some d) : dv X i = d ∧ d ≤ 9 := by
  unfold dgL at z
  cases q : dgA X i e with
  | none => rw [q] at z; cases z
  | some d' =>
    rw [q] at z
    simp only at z
    by_cases w : lo ≤ d' ∧ d' ≤ hi
    · rw [if_pos w] at z
      cases z
      have l := dgA_le q
      refine ⟨?_, l.1⟩
      unfold dgA at q
      by_cases v : i < e ∧ i < X.length ∧ 48 ≤ X.getD i 0 ∧ X.getD i 0 ≤ 57
      · rw [if_pos v] at q
        unfold dv dgA
        rw [if_pos ⟨v.2.1, v.2⟩, q]
      · rw [if_neg v] at q; cases q
    · rw [if_neg w] at z; cases z
/-- where the r-th act is put down -/
def Dr (m r x k : Nat) : Prop := (x = m ∧ (k = 10 ∨ k = 28)) ∨ (x = m + 12 ∧ k = r) ∨ (x = m + 13 ∧ 6 * r ≤ k)
theorem Dr.s {r : Nat} (e : EqP (Dr m r) h h1) : EqP (DS m) h h1 := e.mono (fun x k z => by unfold Dr at z; unfold DS; omega)
/-- the r-th act lies there: its sign at a -/
def acR (h : Hp) (m : Nat) (X : List Int32) (r a : Nat) : Prop := ∃ k, acI (X.getD a 0) = some k ∧ hpI h (m + 12) r = nI k ∧ ∀ i, i < acN k → hpI h (m + 13) (6 * r + i) = nI (dv X (a + 1 + i))
def raQ (h : Hp) (m : Nat) (X : List Int32) (e a r : Nat) (D : Option (Option Nat)) (o : Int32 × Hp) : Prop := (match D with
  | none => o.1 = 0 ∧ hpI o.2 m 10 = nI a
  | some (some b) => o.1 = 0 ∧ hpI o.2 m 10 = nI b
  | some none => o.1 = 1 ∧ (∀ k, acI (X.getD a 0) = some k → hpI o.2 m 10 = nI (a + 1 + acN k)) ∧ hpI o.2 m 28 = nI (r + 1) ∧ acR o.2 m X r a) ∧ EqP (Dr m r) h o.2
theorem m_readsAct (s : shM h m) {X : List Int32} {a e r : Nat} (tp : mTp h m X) (ha : hpI h m 10 = nI a) (ht : hpI h m 11 = nI e) (h1 : e ≤ X.length) (hae : a < e) (h60 : e ≤ 60) (hr : hpI h m 28 = nI r) (hr8 : r < 60) : Ok (f_X10_readsAct h m) (raQ h m X e a r (match acI (X.getD a 0) with
    | none => none
    | some k => some (dgsG X e a k 0 (acN k)))) := by
  have hF := FU_big
  have hX := tp.1
  rw [f_X10_readsAct, hr, lt_u, s.r26, m_takesOf s tp ha ht h1 hae 4 5 rfl (by omega), ff_act]
  refine ok_gd (nz_t (by omega)) ?_
  cases hk : acI (X.getD a 0) with
  | none =>
    simp only [bd_s]
    rw [s.t12, ix_nI (by omega)]
    refine ok_gd (inb_nI (by omega) (by omega)) (ok_lt (fun h6 e6 => ?_))
    have c6 : hpI h6 m 28 = nI r := by rw [e6, hpI_upI, if_neg (by omega)]; exact hr
    rw [c6, i1, nI_add]
    refine ok_lt (fun h7 e7 => ?_)
    have o6 : EqP (Dr m r) h h6 := by rw [e6]; exact EqP.uI (Or.inr (Or.inl ⟨rfl, rfl⟩))
    have o7 : EqP (Dr m r) h h7 := o6.tr (by rw [e7]; exact EqP.uI (Or.inl ⟨rfl, Or.inr rfl⟩))
    have s7 := s.ep o7
    have v7 : hpI h7 (m + 12) r = -1 := by rw [e7, hpI_upI, if_neg (by omega), e6, hpI_upI, if_pos ⟨rfl, rfl⟩]
    rw [s7.r26, s7.t12, v7]
    refine ok_gd (nz_t (by omega)) (ok_gd (inb_nI (by omega) (by omega)) (ok_f (by decide) (ok_some ⟨⟨rfl, ?_⟩, o7⟩)))
    rw [e7, hpI_upI, if_neg (by omega), e6, hpI_upI, if_neg (by omega)]; exact ha
  | some k =>
    have hl := acI_lt hk
    have hn := acN_le k
    simp only [bd_s]
    rw [show hpT (upI h m 10 (nI (a + 1))) (m + 12) = (2, 60) from s.t12, ix_nI (by omega)]
    refine ok_gd (inb_nI (by omega) (by omega)) (ok_lt (fun h6 e6 => ?_))
    have c6 : hpI h6 m 28 = nI r := by rw [e6, hpI_upI, if_neg (by omega), hpI_upI, if_neg (by omega)]; exact hr
    rw [c6, i1, nI_add]
    refine ok_lt (fun h7 e7 => ?_)
    have o6 : EqP (Dr m r) h h6 := by rw [e6]; exact (EqP.uI (Or.inl ⟨rfl, Or.inl rfl⟩)).tr (EqP.uI (Or.inr (Or.inl ⟨rfl, rfl⟩)))
    have o7 : EqP (Dr m r) h h7 := o6.tr (by rw [e7]; exact EqP.uI (Or.inl ⟨rfl, Or.inr rfl⟩))
    have s7 := s.ep o7
    have v7 : hpI h7 (m + 12) r = nI k := by rw [e7, hpI_upI, if_neg (by omega), e6, hpI_upI, if_pos ⟨rfl, rfl⟩]
    have a7 : hpI h7 m 10 = nI (a + 1) := by rw [e7, hpI_upI, if_neg (by omega), e6, hpI_upI, if_neg (by omega), hpI_upI, if_pos ⟨rfl, rfl⟩]
    have c7 : hpI h7 m 28 = nI (r + 1) := by rw [e7, hpI_upI, if_pos ⟨rfl, rfl⟩]
    have go : ∀ d j q h2, j + d = acN k → d + 1 < q → EqP (Dr m r) h h2 → hpI h2 m 10 = nI (a + 1 + j) → hpI h2 m 28 = nI (r + 1) → hpI h2 (m + 12) r = nI k → (∀ i, i < j → hpI h2 (m + 13) (6 * r + i) = nI (dv X (a + 1 + i))) → Ok (f_X10_readsAct_74 m q h2 (nI r) (nI (acN k)) (nI 1) (nI j)) (raQ h m X e a r (some (dgsG X e a k j d))) := by
      intro d
      induction d with
      | zero =>
        intro j q h2 f1 f2 o2 a2 c2 v2 g2
        obtain ⟨q, rfl⟩ : ∃ k, q = k + 1 := ⟨q - 1, by omega⟩
        have : j = acN k := by omega
        subst this
        simp only [f_X10_readsAct_74, lt_u]
        exact ok_t (Int32.le_refl _) (ok_some ⟨⟨rfl, fun k' hk' => by rw [hk] at hk'; cases hk'; exact a2, c2, k, hk, v2, g2⟩, o2⟩)
      | succ d ih =>
        intro j q h2 f1 f2 o2 a2 c2 v2 g2
        obtain ⟨q, rfl⟩ : ∃ k, q = k + 1 := ⟨q - 1, by omega⟩
        have s2 := s.ep o2
        have tp2 := tp.ep o2 (fun k z => by unfold Dr at z; omega)
        have t2 : hpI h2 m 11 = nI e := by rw [o2.1 _ _ (fun z => by unfold Dr at z; omega)]; exact ht
        have ja : a + 1 + j ≤ 100 := by omega
        have body : ∀ lo, lo = acL k j → Ok (f_X10_readsAct_126 m (f_X10_readsAct_74 m q) h2 (m + 13) (nI (6 * r + j)) m (nI lo) (nI r) (nI (acN k)) (nI j)) (raQ h m X e a r (some (dgsG X e a k j (d + 1)))) := fun lo hlo => by
          subst hlo
          have hl1 : acL k j ≤ 1 := by unfold acL; split <;> omega
          have pf : f_X10_flag h2 (nI (acL k j)) = some (nI (acL k j)) := by
            rcases (show acL k j = 0 ∨ acL k j = 1 by omega) with w | w
            · rw [w]; exact pf0 h2
            · rw [w]; exact pf1 h2
          rw [f_X10_readsAct_126, pf, bd_s, show (9 : Int32) = nI 9 by decide]
          refine ok_bd (m_digitIn s2 tp2 a2 t2 h1 (by omega) (by omega) ja) (fun o ⟨z1, z2, z3⟩ => ?_)
          have s3 := s2.ep z3
          rw [s3.t13, ix_nI (by omega), z1]
          refine ok_gd (inb_nI (by omega) (by omega)) (ok_lt (fun h31 e31 => ?_))
          have o31 : EqP (Dr m r) h h31 := (o2.tr (z3.mono (fun x k z => Or.inl ⟨z.1, Or.inl z.2⟩))).tr (by rw [e31]; exact EqP.uI (Or.inr (Or.inr ⟨rfl, by omega⟩)))
          have s31 := s.ep o31
          have x31 : hpI h31 (m + 13) (6 * r + j) = oI (dgL X (a + 1 + j) e (acL k j) 9) := by rw [e31, hpI_upI, if_pos ⟨rfl, rfl⟩]
          rw [s31.r27, s31.t13, show (6 : Int32) = nI 6 by decide, pk_mul, nI_add, ix_nI (by omega), x31, f_X10_readsAct_155]
          refine ok_gd (nz_t (by omega)) (ok_gd (inb_nI (by omega) (by omega)) ?_)
          rw [lt_u, i1, nI_add, dgsG]
          cases hd : dgL X (a + 1 + j) e (acL k j) 9 with
          | none =>
            rw [hd] at z2
            rw [if_pos (show oI none < 0 by decide)]
            obtain ⟨q, rfl⟩ : ∃ k, q = k + 1 := ⟨q - 1, by omega⟩
            simp only [f_X10_readsAct_74, lt_u]
            have fin : Ok (some ((0 : Int32), h31)) (raQ h m X e a r (some (some (a + 1 + j)))) := ok_some ⟨⟨rfl, by rw [e31, hpI_upI, if_neg (by omega)]; exact z2⟩, o31⟩
            exact ok_if (fun _ => fin) (fun _ => ok_t trivial fin)
          | some x =>
            rw [hd] at z2
            obtain ⟨dx, x9⟩ := dgL_dv h1 hd
            rw [if_neg (show ¬ oI (some x) < 0 from fun z => by
              have z : nI x < 0 := z
              rw [i0, nI_ltI (by omega) (by omega)] at z
              omega)]
            refine ih (j + 1) q h31 (by omega) (by omega) o31 ?_ ?_ ?_ ?_
            · rw [e31, hpI_upI, if_neg (by omega)]; exact z2
            · rw [e31, hpI_upI, if_neg (by omega), z3.1 _ _ (fun z => by unfold Da at z; omega)]; exact c2
            · rw [e31, hpI_upI, if_neg (by omega), z3.1 _ _ (fun z => by unfold Da at z; omega)]; exact v2
            · intro i hi
              by_cases w : i = j
              · rw [w, x31, hd, dx]; rfl
              · rw [e31, hpI_upI, if_neg (by omega), z3.1 _ _ (fun z => by unfold Da at z; omega)]; exact g2 i (by omega)
        simp only [f_X10_readsAct_74, f_X10_readsAct_125, lt_u]
        rw [s2.r27, s2.r26, s2.t12, show (6 : Int32) = nI 6 by decide, pk_mul, nI_add, ix_nI (by omega), v2, show (2 : Int64) = (nI 2).toInt64 by decide, show (3 : Int64) = (nI 3).toInt64 by decide, p_in, bd_s]
        refine ok_f (by rw [nI_leI (by omega) (by omega)]; omega) (ok_f (by decide) (ok_gd (nz_t (by omega)) (ok_if (fun w => ok_gd (nz_t (by omega)) (ok_gd (inb_nI (by omega) (by omega)) ?_)) (fun w => ?_))))
        · rw [i1, nI_eq (by omega) (by omega)] at w
          simp only [nB_0]
          have ek : (nI 2 ≤ nI k ∧ nI k ≤ nI 3) ↔ (k = 2 ∨ k = 3) := by rw [nI_leI (by omega) (by omega), nI_leI (by omega) (by omega)]; omega
          by_cases w2 : k = 2 ∨ k = 3
          · refine ok_f (by rw [decide_eq_true (ek.mpr w2)]; decide) (body 1 ?_)
            unfold acL; rw [if_pos ⟨w, w2⟩]
          · refine ok_t (decide_eq_false (fun y => w2 (ek.mp y))) (body 0 ?_)
            unfold acL; rw [if_neg (fun y => w2 y.2)]
        · rw [i1, nI_eq (by omega) (by omega)] at w
          refine body 0 ?_
          unfold acL; rw [if_neg (fun y => w y.1)]
    rw [s7.r26, s7.t12, v7]
    have e0 : (nI k = 0) ↔ k = 0 := by rw [i0, nI_eq (by omega) (by omega)]
    have e4 : ((4 : Int32) ≤ nI k) ↔ 4 ≤ k := by rw [show (4 : Int32) = nI 4 by decide, nI_leI (by omega) (by omega)]
    have st := go (acN k) 0 FU h7 (by omega) (by omega) o7 a7 c7 v7 (fun i hi => by omega)
    refine ok_gd (nz_t (by omega)) (ok_gd (inb_nI (by omega) (by omega)) (ok_t (nI_pos' (by omega)) (ok_gd (inb_nI (by omega) (by omega)) (ok_if (fun w => ?_) (fun w => ok_gd (inb_nI (by omega) (by omega)) ?_)))))
    · have w := e0.mp w
      rw [f_X10_readsAct_68]
      subst w
      exact st
    · rw [e0] at w
      rw [f_X10_readsAct_68]
      by_cases w4 : 4 ≤ k
      · rw [if_pos (e4.mpr w4)]
        have : k = 4 := by omega
        subst this
        exact st
      · rw [if_neg (fun y => w4 (e4.mp y))]
        have : acN k = 2 := by unfold acN; rw [if_neg w, if_pos (by omega)]
        rw [this] at st ⊢
        exact st
end RSTORY
