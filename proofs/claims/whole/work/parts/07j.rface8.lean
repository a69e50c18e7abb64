section RFACE8
variable {h h1 : Hp} {A : Ast} {m n : Nat} {S : Fld}
theorem wf4 (hw : wfF S) {T : Fld} (h1 : T.1 = S.1) (h2 : ∀ j i, j ≠ 4 → T.2 j i = S.2 j i) (h3 : ∀ i, T.2 4 i ≤ 9 ∨ T.2 4 i = S.2 4 i) : okS S T := by
  obtain ⟨b1, b2, b3, b4, b5, b6, b7, b8, b9⟩ := hw
  refine ⟨⟨by rw [h1]; exact b1, by rw [h1]; exact b2, by rw [h1]; exact b3, by rw [h1]; exact b4, by rw [h1]; exact b5, by rw [h1]; exact b6, by rw [h1]; exact b7, fun j i => ?_, fun i hi => ?_⟩, by rw [h1], by rw [h1], by rw [h1]⟩
  · by_cases q : j = 4
    · subst q
      have := b8 4 i
      rcases h3 i with z | z <;> omega
    · rw [h2 j i q]; exact b8 j i
  · rw [h1] at hi
    have := b9 i hi
    rw [h2 2 i (by omega), h2 3 i (by omega), h2 0 i (by omega), h2 1 i (by omega), h2 5 i (by omega), h1]
    rcases h3 i with z | z <;> omega
/-- the strengths by a sheet up to a camp -/
def shP2 (S : Fld) (kind : Int32) (N : Nat) (f step : Int32) (k : Nat) : Fld := (S.1, fun j i => if j = 4 ∧ i < k then (if kind = 3 ∨ N ≤ i then 0 else ix (dg (ent kind (f + nI i * step)))) else S.2 j i)
theorem shP2_ok (hw : wfF S) (kind f step : Int32) (N k : Nat) : okS S (shP2 S kind N f step k) := wf4 hw rfl (fun j i hj => by simp [shP2, hj]) (fun i => by
  have := (dg_rng (ent kind (f + nI i * step))).2
  by_cases q : i < k
  · left
    simp only [shP2, q, and_self, if_true]
    split <;> omega
  · right; simp [shP2, q])
theorem nI_s1 (i : Nat) (s : Int32) : nI (i + 1) * s = nI i * s + s := by
  rw [← nI_add, Int32.add_mul, show nI 1 * s = s from by rw [← i1, Int32.one_mul]]
theorem r_sheet (c : RM h m A n) (a : WA A n) (kind x2 f step : Int32) : Ok (f_X10_sheet h m kind x2 f step) (fun o => o.1 = (sp_sheet A kind x2 f step).1 ∧ RM o.2 m (sp_sheet A kind x2 f step).2 n ∧ EqOff (FM m) h o.2) := by
  have hF := FU_big
  have b5 := a.w.2.2.2.2.1
  rw [f_X10_sheet]
  refine r_th c (fun h1 c1 o1 _ => ?_)
  rw [z64_0, z64_3, p_in_num, bd_s]
  simp only [nB_0]
  have no : sp_sheet A kind x2 f step = (-1, A) → Ok (some ((-1 : Int32), h1)) (fun o => o.1 = (sp_sheet A kind x2 f step).1 ∧ RM o.2 m (sp_sheet A kind x2 f step).2 n ∧ EqOff (FM m) h o.2) := fun e => ok_some ⟨by rw [e], by rw [e]; exact c1, o1.ofs⟩
  rcases numAlt (lo := 0) (hi := 3) (by omega) (by omega) kind with ⟨e, q⟩ | ⟨kk, e, ek, g1, g2⟩
  · rw [e]
    refine ok_t rfl (no ?_)
    rw [sp_sheet, if_pos]
    rcases q with q | q
    · exact Or.inl q
    · exact Or.inr (Or.inl q)
  · rw [e]
    refine ok_f (by simp) (ok_if (fun q1 => ?_) (fun q1 => no (by rw [sp_sheet, if_pos (Or.inr (Or.inr (Int32.not_le.mp q1)))])))
    have q4 : ¬ (kind < 0 ∨ 3 < kind ∨ 8 < x2) := fun z => by
      rcases z with z | z | z
      · rw [ek, i0, nI_ltI (by omega) (by omega)] at z; omega
      · rw [ek, i3, nI_ltI (by omega) (by omega)] at z; omega
      · exact absurd z (Int32.not_lt.mpr q1)
    have go : (kind = 3 ∨ 0 ≤ x2) → Ok (f_X10_sheet_37 m kind x2 f step h1) (fun o => o.1 = (sp_sheet A kind x2 f step).1 ∧ RM o.2 m (sp_sheet A kind x2 f step).2 n ∧ EqOff (FM m) h o.2) := by
      intro hk
      have lt2 : ¬ kind = 3 → ∀ i, i < 8 → (nI i < x2 ↔ i < ix x2) := fun q i hi => by
        obtain ⟨e1, e2⟩ := nI_ix (hk.resolve_left q)
        conv => lhs; rw [e1]
        rw [nI_ltI (by omega) e2]
      refine okl (fun k (s : Hp × Int32) i => f_X10_sheet_43 m kind x2 f step k s.1 s.2 i) ((aS A).1 2) (fun i s => RM s.1 m (wS A (shP2 (aS A) kind (ix x2) f step i)) n ∧ EqOff (FM m) h s.1 ∧ s.2 = f + nI i * step) _ (fun k i s hi ⟨d1, d2, d3⟩ kk => ?_) (fun k s ⟨d1, d2, d3⟩ => ?_) ((aS A).1 2) FU 0 (h1, f) (by omega) (by omega) ⟨?_, o1.ofs, ?_⟩
      · obtain ⟨h2, v⟩ := s
        have d1 : RM h2 m (wS A (shP2 (aS A) kind (ix x2) f step i)) n := d1
        have d2 : EqOff (FM m) h h2 := d2
        have d3 : v = f + nI i * step := d3
        have dn : hpI h2 (m + 2) 48 = nI ((aS A).1 2) := d1.w.n
        have fin : ∀ v', v' = (if kind = 3 ∨ ix x2 ≤ i then 0 else ix (dg (ent kind (f + nI i * step)))) → Ok (gd (inb ((24 : Int32) + nI i) (2, 51).2) <| lt (upI h2 (m + 2) (ix ((24 : Int32) + nI i)) (nI v')) fun h23 => lt (v + step) fun v24 => lt (nI i + (1 : Int32)) fun v25 => f_X10_sheet_43 m kind x2 f step k h23 v24 v25) (fun o => o.1 = (sp_sheet A kind x2 f step).1 ∧ RM o.2 m (sp_sheet A kind x2 f step).2 n ∧ EqOff (FM m) h o.2) := fun v' ev => by
          rw [j24, ix_nI (by omega)]
          refine ok_gd (inb_nI (by omega) (by omega)) (ok_lt (fun h23 e23 => ?_))
          rw [lt_u, lt_u, i1, nI_add]
          have o23 : EqP (DW (m + 2)) h2 h23 := by rw [e23]; exact EqP.uI rfl
          refine kk (h23, v + step) ⟨?_, d2.tr (DW_FM (by omega) o23), ?_⟩
          · refine d1.now (S := shP2 (aS A) kind (ix x2) f step (i + 1)) ?_ rfl rfl (DW_n o23)
            rw [e23]
            refine (d1.w.w4 b5 (i := i) (v := v') hi).ext rfl rfl rfl rfl (fun j k _ _ => ?_)
            show (if j = 4 ∧ k = i then v' else if j = 4 ∧ k < i then _ else (aS A).2 j k) = if j = 4 ∧ k < i + 1 then _ else (aS A).2 j k
            by_cases j4 : j = 4
            · by_cases ki : k = i
              · rw [if_pos ⟨j4, ki⟩, if_pos ⟨j4, by omega⟩, ev, ki]
              · rw [if_neg (fun z => ki z.2)]
                by_cases z : k < i
                · rw [if_pos (show j = 4 ∧ k < i from ⟨j4, z⟩), if_pos (show j = 4 ∧ k < i + 1 from ⟨j4, by omega⟩)]
                · rw [if_neg (fun y => z y.2), if_neg (fun y => by omega)]
            · rw [if_neg (fun z => j4 z.1), if_neg (fun z => j4 z.1), if_neg (fun z => j4 z.1)]
          · show v + step = f + nI (i + 1) * step
            rw [d3, nI_s1, Int32.add_assoc]
        show Ok (f_X10_sheet_43 m kind x2 f step (k + 1) h2 v (nI i)) _
        simp only [f_X10_sheet_43, f_X10_sheet_78, f_X10_sheet_100, f_X10_sheet_115]
        refine ok_lt (fun k2 ek => ?_)
        subst ek
        rw [d1.s.r6, d1.s.t2, show ix (48 : Int32) = 48 by decide, dn]
        refine ok_gd (nz_t (by omega)) (ok_gd (by decide) (ok_f (by rw [nI_leI (by omega) (by omega)]; omega) (ok_gd (nz_t (by omega)) ?_)))
        refine ok_if (fun q => fin 0 (by rw [if_pos (Or.inl q)])) (fun q => ok_if (fun q2 => ?_) (fun q2 => fin 0 (by rw [if_pos (Or.inr (by rw [lt2 q i (by omega)] at q2; omega))])))
        rw [lt2 q i (by omega)] at q2
        rw [lt_u, lt_u]
        have ed : mx32 0 (mn32 9 (if kind = 0 then v.toInt8.toInt32 else if kind = 1 then v.toInt16.toInt32 else v)) = nI (ix (dg (ent kind (f + nI i * step)))) := by
          rw [← (dg_rng _).1, d3]; rfl
        rw [ed]
        exact fin _ (by rw [if_neg (fun z => z.elim q (fun z => by omega))])
      · obtain ⟨h2, v⟩ := s
        have d1 : RM h2 m (wS A (shP2 (aS A) kind (ix x2) f step ((aS A).1 2))) n := d1
        have d2 : EqOff (FM m) h h2 := d2
        have dn : hpI h2 (m + 2) 48 = nI ((aS A).1 2) := d1.w.n
        show Ok (f_X10_sheet_43 m kind x2 f step (k + 1) h2 v (nI ((aS A).1 2))) _
        simp only [f_X10_sheet_43]
        refine ok_lt (fun k2 ek => ?_)
        clear ek
        rw [d1.s.r6, d1.s.t2, show ix (48 : Int32) = 48 by decide, dn]
        refine ok_gd (nz_t (by omega)) (ok_gd (by decide) (ok_t (Int32.le_refl _) ?_))
        rw [sp_sheet, if_neg q4]
        refine ok_if (fun q => ?_) (fun q => ?_)
        · rw [if_pos q]
          refine ok_some ⟨rfl, ?_, d2⟩
          refine d1.now (S := weakS (aS A) 0) (d1.w.ext rfl rfl rfl rfl (fun j i _ hi => ?_)) rfl rfl (EqP.rf)
          have hi : i < (aS A).1 2 := hi
          show (if j = 4 ∧ i < (aS A).1 2 then (if kind = 3 ∨ ix x2 ≤ i then 0 else ix (dg (ent kind (f + nI i * step)))) else (aS A).2 j i) = if j = 4 ∧ 0 ≤ i ∧ i < (aS A).1 2 then 0 else (aS A).2 j i
          simp [hi, q]
        · rw [if_neg q, if_neg (Int32.not_lt.mpr (hk.resolve_left q))]
          have c3 : RM h2 m (wS A (shtS (aS A) kind (ix x2) f step)) n := by
            refine d1.now (S := shtS (aS A) kind (ix x2) f step) (d1.w.ext rfl rfl rfl rfl (fun j i _ hi => ?_)) rfl rfl (EqP.rf)
            have hi : i < (aS A).1 2 := hi
            show (if j = 4 ∧ i < (aS A).1 2 then (if kind = 3 ∨ ix x2 ≤ i then 0 else ix (dg (ent kind (f + nI i * step)))) else (aS A).2 j i) = if j = 4 ∧ i < (aS A).1 2 then (if i < ix x2 then ix (dg (ent kind (f + nI i * step))) else 0) else (aS A).2 j i
            by_cases z : ix x2 ≤ i
            · simp [hi, z, show ¬ i < ix x2 by omega]
            · simp [hi, q, z, show i < ix x2 by omega]
          have w3 : wfF (shtS (aS A) kind (ix x2) f step) := (wf4 (T := shtS (aS A) kind (ix x2) f step) a.w rfl (fun j i hj => by simp [shtS, hj]) (fun i => by
            have := (dg_rng (ent kind (f + nI i * step))).2
            by_cases z : i < (aS A).1 2
            · left; simp only [shtS, z, and_self, if_true]; split <;> omega
            · right; simp [shtS, z])).1
          rw [m_sumOf c3.w w3, bd_s]
          exact ok_some ⟨rfl, c3, d2⟩
      · refine c1.now (S := shP2 (aS A) kind (ix x2) f step 0) (c1.w.ext rfl rfl rfl rfl (fun j i _ hi => ?_)) rfl rfl (EqP.rf)
        show _ = if j = 4 ∧ i < 0 then _ else (aS A).2 j i
        simp
      · show f = f + nI 0 * step
        rw [show nI 0 = 0 from rfl, Int32.zero_mul, Int32.add_zero]
    refine ok_if (fun q => go (Or.inl q)) (fun q => ok_if (fun q2 => go (Or.inr q2)) (fun q2 => ?_))
    refine ok_some ⟨?_, ?_, o1.ofs⟩
    · rw [sp_sheet, if_neg q4, if_neg q, if_pos (Int32.not_le.mp q2)]
    · rw [sp_sheet, if_neg q4, if_neg q, if_pos (Int32.not_le.mp q2)]; exact c1
/-! reading -/
def mTp (h : Hp) (m : Nat) (X : List Int32) : Prop := X.length ≤ 80 ∧ ∀ i, i < X.length → hpI h (m + 4) i = X.getD i 0
theorem mTp.ep {D : Nat → Nat → Prop} {X : List Int32} (c : mTp h m X) (e : EqP D h h1) (hD : ∀ k, ¬ D (m + 4) k) : mTp h1 m X := ⟨c.1, fun i hi => by rw [e.1 _ _ (hD i)]; exact c.2 i hi⟩
theorem m_begins (c : RM h m A n) {mo : Nat} (hm : mo ≤ 80) : Ok (f_X10_begins h m (nI mo)) (fun o => o.1 = nI (aX A).length ∧ RM o.2 m (wX A []) n ∧ mTp o.2 m (aX A) ∧ hpI o.2 m 10 = nI 0 ∧ hpI o.2 m 11 = nI (min (aX A).length mo) ∧ hpI o.2 m 12 = nI 0 ∧ EqOff (FM m) h o.2) := by
  obtain ⟨x1, x2, x3⟩ := c.x
  rw [f_X10_begins, x1]
  refine ok_lt (fun v1 e1 => ok_lt (fun h2 e2 => ok_lt (fun h3 e3 => ok_lt (fun h4 e4 => ok_lt (fun v5 e5 => ok_lt (fun h6 e6 => ok_some ?_))))))
  have o6 : EqP (DSo m (Dx m)) h h6 := by
    rw [e6, e4, e3, e2]
    exact (EqP.uI (Or.inr (Or.inl ⟨rfl, rfl⟩))).tr ((EqP.uI (Or.inl (Or.inl ⟨rfl, by decide⟩))).tr ((EqP.uI (Or.inl (Or.inl ⟨rfl, by decide⟩))).tr (EqP.uI (Or.inl (Or.inl ⟨rfl, by decide⟩)))))
  have r4 : ∀ k, hpI h6 (m + 4) k = hpI h (m + 4) k := fun k => by
    rw [e6, e4, e3, e2]
    simp only [hpI_upI]
    rw [if_neg (by omega), if_neg (by omega), if_neg (by omega), if_neg (by omega)]
  refine ⟨e1, c.text ⟨?_, by simp, fun i hi => absurd hi (by simp)⟩ o6, ⟨x2, fun i hi => by rw [r4]; exact x3 i hi⟩, ?_, ?_, ?_, o6.ofr FMx⟩
  · rw [e6, e4, e3, e2]; simp [hpI_upI]; rfl
  · rw [e6, e4, e3]; simp [hpI_upI]; rfl
  · rw [e6, hpI_upI, if_pos ⟨rfl, rfl⟩, e5, e1, mn_9 (by omega) (by omega)]
  · rw [e6, e4]; simp [hpI_upI]; rfl
theorem dgA_of {X : List Int32} {i e d : Nat} (h1 : X.getD i 0 = nI (d + 48)) (h2 : d ≤ 9) (h3 : i < e) (h4 : i < X.length) : dgA X i e = some d := by
  unfold dgA
  rw [h1, if_pos ⟨h3, h4, by rw [show (48 : Int32) = nI 48 by decide, nI_leI (by omega) (by omega)]; omega, by rw [show (57 : Int32) = nI 57 by decide, nI_leI (by omega) (by omega)]; omega⟩, ix_nI (by omega), Nat.add_sub_cancel]
def dgL (X : List Int32) (i e lo hi : Nat) : Option Nat := match dgA X i e with
  | some d => if lo ≤ d ∧ d ≤ hi then some d else none
  | none => none
theorem dgL_s {X : List Int32} {i e lo hi d : Nat} (z : dgL X i e lo hi = some d) : lo ≤ d ∧ d ≤ hi ∧ i < e ∧ i < X.length := by
  unfold dgL at z
  cases q : dgA X i e with
  | none => rw [q] at z; cases z
  | some d' =>
    rw [q] at z
    have := dgA_le q
    by_cases w : lo ≤ d' ∧ d' ≤ hi
    · simp only [w, and_self, if_true] at z; cases z; exact ⟨w.1, w.2, this.2.1, this.2.2⟩
    · simp only [w, if_false] at z; cases z
def Da (m x k : Nat) : Prop := x = m ∧ k = 10
theorem Da.s (e : EqP (Da m) h h1) : EqP (DS m) h h1 := e.mono (fun x k z => Or.inl ⟨z.1, by rw [z.2]; decide⟩)
theorem Da.FM (e : EqP (Da m) h h1) : EqOff (FM m) h h1 := (Da.s e).ofs
theorem m_digitIn (s : shM h m) {X : List Int32} {i t lo hi : Nat} (tp : mTp h m X) (ha : hpI h m 10 = nI i) (ht : hpI h m 11 = nI t) (h1 : t ≤ X.length) (hl : lo ≤ 9) (h9 : hi ≤ 9) (hi8 : i ≤ 100) : Ok (f_X10_digitIn h m (nI lo) (nI hi)) (fun o => o.1 = oI (dgL X i t lo hi) ∧ hpI o.2 m 10 = nI (if (dgL X i t lo hi).isSome = true then i + 1 else i) ∧ EqP (Da m) h o.2) := by
  have hX := tp.1
  rw [f_X10_digitIn, ha, ht, s.r8, s.t4]
  simp (disch := omega) only [nI_le0]
  by_cases q : t ≤ i
  · have e : dgL X i t lo hi = none := by
      have : dgA X i t = none := by unfold dgA; rw [if_neg]; rintro ⟨z, -⟩; omega
      simp [dgL, this]
    rw [if_pos q, e]
    exact ok_some ⟨rfl, by rw [ha]; rfl, EqP.rf⟩
  · rw [if_neg q, ix_nI (by omega), tp.2 i (by omega), p_in, bd_s]
    refine ok_gd (nz_t (by omega)) (ok_gd (inb_nI (by omega) (by omega)) ?_)
    simp only [nB_0]
    by_cases q2 : nI lo ≤ X.getD i 0 - 48 ∧ X.getD i 0 - 48 ≤ nI hi
    · refine ok_f (by simp only [q2]; simp) ?_
      have z0 : 0 ≤ X.getD i 0 - 48 := Int32.le_trans (nI_pos' (n := lo) (by omega)) q2.1
      obtain ⟨e1, e2⟩ := nI_ix z0
      generalize ix (X.getD i 0 - 48) = d at e1 e2
      rw [e1, nI_leI (by omega) e2, nI_leI e2 (by omega)] at q2
      have eX : X.getD i 0 = nI (d + 48) := by
        rw [← Int32.sub_add_cancel (X.getD i 0) 48, e1, show (48 : Int32) = nI 48 by decide, nI_add]
      have eL : dgL X i t lo hi = some d := by
        unfold dgL
        rw [dgA_of eX (by omega) (by omega) (by omega)]
        simp only
        rw [if_pos q2]
      rw [eL]
      have ea : hpI h m 10 = nI i := ha
      rw [i1, nI_add]
      refine ok_lt (fun h7 e7 => ?_)
      have o7 : EqP (Da m) h h7 := by rw [e7]; exact EqP.uI ⟨rfl, rfl⟩
      have s7 := s.ep o7
      have a7 : hpI h7 m 10 = nI (i + 1) := by rw [e7, hpI_upI, if_pos ⟨rfl, rfl⟩]
      have t7 : hpI h7 (m + 4) i = X.getD i 0 := by rw [o7.1 _ _ (fun z => by unfold Da at z; omega)]; exact tp.2 i (by omega)
      rw [a7, s7.r8, s7.t4, pk_sub (by omega), Nat.add_sub_cancel, ix_nI (by omega), t7, e1]
      exact ok_gd (nz_t (by omega)) (ok_gd (inb_nI (by omega) (by omega)) (ok_some ⟨rfl, a7, o7⟩))
    · refine ok_t (by simp only [q2]; simp) (ok_some ⟨?_, ?_, EqP.rf⟩)
      all_goals
        have eL : dgL X i t lo hi = none := by
          cases z : dgL X i t lo hi with
          | none => rfl
          | some d =>
            exfalso
            unfold dgL at z
            cases y : dgA X i t with
            | none => rw [y] at z; cases z
            | some d' =>
              rw [y] at z
              simp only at z
              by_cases w : lo ≤ d' ∧ d' ≤ hi
              · unfold dgA at y
                by_cases v : i < t ∧ i < X.length ∧ 48 ≤ X.getD i 0 ∧ X.getD i 0 ≤ 57
                · rw [if_pos v] at y
                  have := dgI v.2.2.1 v.2.2.2
                  cases y
                  apply q2
                  rw [this.1, nI_leI (by omega) (by omega), nI_leI (by omega) (by omega)]
                  exact w
                · rw [if_neg v] at y; cases y
              · rw [if_neg w] at z; cases z
        rw [eL]
      · rfl
      · exact ha
end RFACE8
