def fnU (n l : Nat) (b : Option (Nat × Nat)) (t : Nat) : Option (Nat × Nat) := match b with
  | some p => some p
  | none => if fnP n l t = true then some (l, t) else none
def fnS (n : Nat) (b : Option (Nat × Nat)) (l : Nat) : Option (Nat × Nat) := fo (fnU n l) b 1 (min 3 (n - l))
theorem fnU_s {n l : Nat} {p : Nat × Nat} : ∀ d t, fo (fnU n l) (some p) t d = some p := by
  intro d
  induction d with
  | zero => intro t; rfl
  | succ d ih => intro t; exact ih (t + 1)
theorem fnU_n {n l : Nat} : ∀ d t, fo (fnU n l) none t d = (ff (fnP n l) t d).map (fun t => (l, t)) := by
  intro d
  induction d with
  | zero => intro t; rfl
  | succ d ih =>
    intro t
    rw [fo, ff]
    by_cases q : fnP n l t = true
    · simp only [fnU, if_pos q]; rw [fnU_s]; rfl
    · simp only [fnU, if_neg q]; exact ih (t + 1)
theorem fnO_e (n : Nat) : fo (fnS n) none 0 n = fnO n := by
  have key : ∀ d, fo (fnS n) none 0 d = match ff (fun l => (fnI n l).isSome) 0 d with
      | none => none
      | some l => (fnI n l).map (fun t => (l, t)) := by
    intro d
    induction d with
    | zero => rfl
    | succ d ih =>
      rw [fo_snoc, ff_snoc, ih, Nat.zero_add]
      cases hf : ff (fun l => (fnI n l).isSome) 0 d with
      | none =>
        simp only
        unfold fnS
        rw [fnU_n]
        show (fnI n d).map _ = _
        cases hd : fnI n d with
        | none => simp
        | some t => simp [hd]
      | some l =>
        have h1 := (ff_s _ _ _ hf).2.2
        simp only
        cases hl : fnI n l with
        | none => simp only [hl] at h1; cases h1
        | some t => exact fnU_s _ _
  exact key n
section RFENCE
variable {h h1 : Hp} {A : Ast} {m n : Nat}
def D23 (m x k : Nat) : Prop := x = m + 23
theorem m_worth (s : shM h m) {k : Nat} (hk : k ≤ 40) (hm : nmL h (m + 22) k) : Ok (f_X10_worthOf h m (nI k)) (fun o => o.1 = nI (gN k) ∧ EqP (D23 m) h o.2) := by
  have hF := FU_big
  rw [f_X10_worthOf, show (0 : Int32) = nI 0 from rfl]
  have nm : ∀ {h2 : Hp}, EqP (D23 m) h h2 → nmL h2 (m + 22) k := fun e j hj => by rw [e.1 _ _ (fun z => by unfold D23 at z; omega)]; exact hm j hj
  refine okl (fun q (h2 : Hp) v => f_X10_worthOf_2 m (nI k) q h2 v) 64 (fun v h2 => (∀ j, j < v → hpI h2 (m + 23) j = nB false) ∧ EqP (D23 m) h h2) _ (fun q v h2 hv ⟨d1, d2⟩ kk => ?_) (fun q h2 ⟨d1, d2⟩ => ?_) 64 FU 0 h (by omega) (by omega) ⟨fun j hj => by omega, EqP.rf⟩
  · have s2 := s.ep d2
    show Ok (f_X10_worthOf_2 m (nI k) (q + 1) h2 (nI v)) _
    simp only [f_X10_worthOf_2]
    refine ok_lt (fun k3 ek => ?_)
    subst ek
    rw [s2.r40, s2.t23, ix_nI (by omega)]
    refine ok_f (by rw [show (64 : Int32) = nI 64 by decide, nI_leI (by omega) (by omega)]; omega) (ok_gd (nz_t (by omega)) (ok_gd (inb_nI (by omega) (by omega)) (ok_lt (fun h5 e5 => ?_))))
    rw [lt_u, i1, nI_add]
    refine kk h5 ⟨fun j hj => ?_, d2.tr (by rw [e5]; exact EqP.uI rfl)⟩
    rw [e5, hpI_upI]
    by_cases w : j = v
    · rw [if_pos ⟨rfl, w⟩]; rfl
    · rw [if_neg (fun z => w z.2)]; exact d1 j (by omega)
  · show Ok (f_X10_worthOf_2 m (nI k) (q + 1) h2 (nI 64)) _
    simp only [f_X10_worthOf_2]
    refine ok_lt (fun k3 ek => ?_)
    clear ek
    refine ok_t (by decide) ?_
    rw [i1]
    refine okf (fun q (h3 : Hp) t => f_X10_worthOf_23 m (nI k) q h3 t) 4 (rbT k) (fun _ h3 acc => (∀ j, j < 64 → hpI h3 (m + 23) j = nB (acc.testBit j)) ∧ EqP (D23 m) h h3) _ 1 (fun q t h3 acc t1 t2 ⟨e1, e2⟩ jj => ?_) 3 FU 1 h2 0 (by omega) (by omega) (by omega) ⟨fun j hj => by rw [d1 j hj]; simp, d2⟩ (fun q h3 ⟨e1, e2⟩ => ?_)
    · show Ok (f_X10_worthOf_23 m (nI k) (q + 1) h3 (nI t)) _
      simp only [f_X10_worthOf_23]
      refine ok_lt (fun k3 ek => ?_)
      subst ek
      refine ok_f (by rw [i3, nI_ltI (by omega) (by omega)]; omega) ?_
      have go : ∀ d q' l h4 s', l + d = k + 1 - t → d < q' → (l + t ≤ k + 1 ∨ l = 0) → fo (rbS k t) s' l d = rbT k acc t → (∀ j, j < 64 → hpI h4 (m + 23) j = nB (s'.testBit j)) → EqP (D23 m) h h4 → Ok (f_X10_worthOf_30 m (nI k) (f_X10_worthOf_23 m (nI k) q) q' h4 (nI t) (nI l)) (fun o => o.1 = nI (gN k) ∧ EqP (D23 m) h o.2) := by
        intro d
        induction d with
        | zero =>
          intro q' l h4 s' f1 f2 f3 f4 f5 f6
          obtain ⟨q', rfl⟩ : ∃ k, q' = k + 1 := ⟨q' - 1, by omega⟩
          simp only [f_X10_worthOf_30]
          refine ok_lt (fun k3 ek => ?_)
          clear ek
          rw [nI_add, lt_u, i1, nI_add]
          refine ok_t (by rw [nI_ltI (by omega) (by omega)]; omega) ?_
          have f4 : s' = rbT k acc t := f4
          rw [f4] at f5
          exact jj h4 ⟨f5, f6⟩
        | succ d ih =>
          intro q' l h4 s' f1 f2 f3 f4 f5 f6
          obtain ⟨q', rfl⟩ : ∃ k, q' = k + 1 := ⟨q' - 1, by omega⟩
          have s4 := s.ep f6
          have g1 := gN_lt l
          have g2 := gN_lt (k - t - l)
          have hx := (x16 _ g1 _ g2).1
          simp only [f_X10_worthOf_30]
          refine ok_lt (fun k3 ek => ?_)
          subst ek
          rw [nI_add, s4.r40, s4.r39, s4.t22, s4.t23, pk_sub (by omega), pk_sub (by omega), ix_nI (show l < 2 ^ 31 by omega), ix_nI (show k - t - l < 2 ^ 31 by omega), nm f6 l (by omega), nm f6 (k - t - l) (by omega), nI_xor, ix_nI (by omega)]
          refine ok_f (by rw [nI_ltI (by omega) (by omega)]; omega) (ok_gd (nz_t (by omega)) (ok_gd (nz_t (by omega)) (ok_gd (inb_nI (by omega) (by omega)) (ok_gd (inb_nI (by omega) (by omega)) (ok_gd (inb_nI (by omega) (by omega)) (ok_lt (fun h18 e18 => ?_)))))))
          rw [lt_u, i1, nI_add]
          refine ih q' (l + 1) h18 (rbS k t s' l) (by omega) (by omega) (by omega) f4 (fun j hj => ?_) (f6.tr (by rw [e18]; exact EqP.uI rfl))
          unfold rbS
          rw [e18, hpI_upI, Nat.testBit_or, Nat.testBit_two_pow, show k - l - t = k - t - l by omega]
          by_cases w : j = gN l ^^^ gN (k - t - l)
          · rw [if_pos ⟨rfl, w⟩, w]; simp; rfl
          · rw [if_neg (fun z => w z.2), f5 j hj]
            rw [decide_eq_false (fun z => w (Eq.symm z)), Bool.or_false]
      exact go (k + 1 - t) FU 0 h3 acc (by omega) (by omega) (by omega) rfl e1 e2
    · have e1 : ∀ j, j < 64 → hpI h3 (m + 23) j = nB ((rb k).testBit j) := e1
      have g := rb_m k (by omega)
      have gl := gN_lt k
      have s3 := s.ep e2
      show Ok (f_X10_worthOf_23 m (nI k) (q + 1) h3 (nI 4)) _
      simp only [f_X10_worthOf_23]
      refine ok_lt (fun k3 ek => ?_)
      clear ek
      refine ok_t (by decide) ?_
      have go : ∀ d q' v, v + d = gN k → d < q' → Ok (f_X10_worthOf_74 m (nI k) q' h3 (nI v)) (fun o => o.1 = nI (gN k) ∧ EqP (D23 m) h o.2) := by
        intro d
        induction d with
        | zero =>
          intro q' v f1 f2
          obtain ⟨q', rfl⟩ : ∃ k, q' = k + 1 := ⟨q' - 1, by omega⟩
          have : v = gN k := by omega
          subst this
          simp only [f_X10_worthOf_74]
          refine ok_lt (fun k3 ek => ?_)
          clear ek
          rw [s3.r40, s3.t23, ix_nI (by omega), e1 _ (by omega), g.1]
          exact ok_gd (nz_t (by omega)) (ok_gd (inb_nI (by omega) (by omega)) (ok_t rfl (ok_some ⟨rfl, e2⟩)))
        | succ d ih =>
          intro q' v f1 f2
          obtain ⟨q', rfl⟩ : ∃ k, q' = k + 1 := ⟨q' - 1, by omega⟩
          simp only [f_X10_worthOf_74]
          refine ok_lt (fun k3 ek => ?_)
          subst ek
          rw [s3.r40, s3.t23, ix_nI (by omega), e1 _ (by omega), g.2 v (by omega)]
          refine ok_gd (nz_t (by omega)) (ok_gd (inb_nI (by omega) (by omega)) (ok_f (by decide) ?_))
          rw [lt_u, i1, nI_add]
          exact ih q' (v + 1) (by omega) (by omega)
      exact go (gN k) FU 0 (by omega) (by omega)
theorem r_fence (c : RM h m A n) (x : Int32) : Ok (f_X10_fence h m x) (fun o => o.1 = (sp_fence A x).1 ∧ RM o.2 m (sp_fence A x).2 n ∧ EqOff (FM m) h o.2) := by
  have hF := FU_big
  rw [f_X10_fence]
  refine r_th c (fun h1 c1 o1 _ => ?_)
  rw [z64_0, z64_40, p_in_num, bd_s]
  simp only [nB_0]
  unfold sp_fence
  cases ex : numIn (nI 0) (nI 40) x with
  | none => exact ok_t rfl (ok_some ⟨rfl, c1, o1.ofs⟩)
  | some N =>
    obtain ⟨rfl, g1, g2⟩ := numIn_s (by omega) (by omega) ex
    refine ok_f (by simp) ?_
    rw [show (0 : Int32) = nI 0 from rfl]
    refine okl (fun q (h2 : Hp) k => f_X10_fence_21 m (nI N) q h2 k) (N + 1) (fun k h2 => RM h2 m A n ∧ nmL h2 (m + 22) k ∧ EqOff (FM m) h h2) _ (fun q k h2 hk ⟨d1, d2, d3⟩ kk => ?_) (fun q h2 ⟨d1, d2, d3⟩ => ?_) (N + 1) FU 0 h1 (by omega) (by omega) ⟨c1, fun k hk => by omega, o1.ofs⟩
    · show Ok (f_X10_fence_21 m (nI N) (q + 1) h2 (nI k)) _
      simp only [f_X10_fence_21]
      refine ok_lt (fun k3 ek => ?_)
      subst ek
      rw [d1.s.r39]
      refine ok_f (by rw [nI_ltI (by omega) (by omega)]; omega) (ok_gd (nz_t (by omega)) (ok_bd (m_worth d1.s (by omega) d2) (fun o ⟨y1, y2⟩ => ?_)))
      rw [(d1.s.ep y2).t22, y1, ix_nI (by omega)]
      refine ok_gd (inb_nI (by omega) (by omega)) (ok_lt (fun h10 e10 => ?_))
      rw [lt_u, i1, nI_add]
      have o10 : EqP (DS m) h2 h10 := (y2.mono (fun x k z => by unfold D23 at z; unfold DS; omega)).tr (by rw [e10]; exact EqP.uI (by unfold DS; omega))
      refine kk h10 ⟨d1.scr o10, fun j hj => ?_, d3.tr o10.ofs⟩
      rw [e10, hpI_upI]
      by_cases w : j = k
      · rw [if_pos ⟨rfl, w⟩, w]
      · rw [if_neg (fun z => w z.2), y2.1 _ _ (fun z => by unfold D23 at z; omega)]; exact d2 j (by omega)
    · show Ok (f_X10_fence_21 m (nI N) (q + 1) h2 (nI (N + 1))) _
      simp only [f_X10_fence_21]
      refine ok_lt (fun k3 ek => ?_)
      clear ek
      refine ok_t (by rw [nI_ltI (by omega) (by omega)]; omega) (r_t0 d1 (fun h5 c5 o5 => ?_))
      have m5 : nmL h5 (m + 22) (N + 1) := fun k hk => by rw [o5.1 _ _ (fun z => by unfold Dt at z; omega)]; exact d2 k hk
      rw [show (0 : Int32) = nI 0 from rfl]
      refine okf (fun q (h3 : Hp) l => f_X10_fence_50 m (nI N) q h3 l) N (fnS N) (fun _ h3 acc => RM h3 m (wT A (fnT acc)) n ∧ nmL h3 (m + 22) (N + 1) ∧ EqOff (FM m) h h3) _ 0 (fun q l h3 acc _ hl d kk => ?_) N FU 0 h5 none (by omega) (by omega) (by omega) ⟨c5, m5, d3.tr (Dt_FM o5)⟩ (fun q h3 ⟨e1, e2, e3⟩ => ?_)
      · show Ok (f_X10_fence_50 m (nI N) (q + 1) h3 (nI l)) _
        simp only [f_X10_fence_50]
        refine ok_lt (fun k3 ek => ?_)
        subst ek
        refine ok_f (by rw [nI_leI (by omega) (by omega)]; omega) ?_
        rw [i1]
        refine okf (fun q' (h4 : Hp) t => f_X10_fence_57 m (nI N) (f_X10_fence_50 m (nI N) q) q' h4 (nI l) t) (1 + min 3 (N - l)) (fnU N l) (fun _ h4 acc => RM h4 m (wT A (fnT acc)) n ∧ nmL h4 (m + 22) (N + 1) ∧ EqOff (FM m) h h4) _ 1 (fun q' t h4 acc t1 t2 ⟨f1, f2, f3⟩ jj => ?_) (min 3 (N - l)) FU 1 h3 acc (by omega) (by omega) (by omega) d (fun q' h4 f => ?_)
        · show Ok (f_X10_fence_57 m (nI N) (f_X10_fence_50 m (nI N) q) (q' + 1) h4 (nI l) (nI t)) _
          have hx := (x16 _ (gN_lt l) _ (gN_lt (N - t - l))).2
          have h3' := gN_lt l
          have h4' := gN_lt (N - t - l)
          simp only [f_X10_fence_57, f_X10_fence_106]
          refine ok_lt (fun k3 ek => ?_)
          subst ek
          rw [i3, pk_sub (show l ≤ N by omega), mn_nI (by omega) (by omega), lt_u, f1.t.1, f1.s.r39, f1.s.t22, pk_sub (by omega), pk_sub (by omega), ix_nI (show l < 2 ^ 31 by omega), ix_nI (show N - t - l < 2 ^ 31 by omega), f2 l (by omega), f2 (N - t - l) (by omega), show nI t + (1 : Int32) = nI (t + 1) by rw [i1, nI_add]]
          refine ok_f (by rw [nI_ltI (by omega) (by omega)]; omega) ?_
          simp only [lt_u]
          cases acc with
          | some p =>
            refine ok_f (by show ¬ nI 2 = 0; decide) (jj h4 ⟨f1, f2, f3⟩)
          | none =>
            refine ok_t (by show nI 0 = 0; decide) (ok_gd (nz_t (by omega)) (ok_gd (inb_nI (by omega) (by omega)) (ok_gd (inb_nI (by omega) (by omega)) (ok_if (fun z => ?_) (fun z => ?_)))))
            · rw [nI_eq (by omega) (by omega)] at z
              have ep : fnP N l t = true := by unfold fnP; rw [show N - l - t = N - t - l by omega]; exact decide_eq_true z
              refine ok_bd (m_enters f1 (by simp [aT, wT, mkA, fnT]) _) (fun h24 ⟨c24, o24⟩ => ok_bd (m_enters c24 (by simp [aT, wT, mkA, fnT]) _) (fun h25 ⟨c25, o25⟩ => ?_))
              refine jj h25 ⟨by simp only [fnU, if_pos ep]; exact c25, fun k hk => ?_, EqOff.tr f3 ((Dt_FM o24).tr (Dt_FM o25))⟩
              rw [o25.1 _ _ (fun z => by unfold Dt at z; omega), o24.1 _ _ (fun z => by unfold Dt at z; omega)]; exact f2 k hk
            · rw [nI_eq (by omega) (by omega)] at z
              have ep : ¬ fnP N l t = true := by unfold fnP; rw [show N - l - t = N - t - l by omega, decide_eq_true_eq]; exact z
              exact jj h4 ⟨by simp only [fnU, if_neg ep]; exact f1, f2, f3⟩
        · show Ok (f_X10_fence_57 m (nI N) (f_X10_fence_50 m (nI N) q) (q' + 1) h4 (nI l) (nI (1 + min 3 (N - l)))) _
          simp only [f_X10_fence_57]
          refine ok_lt (fun k3 ek => ?_)
          clear ek
          rw [i3, pk_sub (show l ≤ N by omega), mn_nI (by omega) (by omega), lt_u, lt_u, i1, nI_add]
          exact ok_t (by rw [nI_ltI (by omega) (by omega)]; omega) (kk h4 f)
      · rw [fnO_e] at e1
        show Ok (f_X10_fence_50 m (nI N) (q + 1) h3 (nI N)) _
        simp only [f_X10_fence_50, f_X10_fence_130]
        refine ok_lt (fun k3 ek => ?_)
        clear ek
        rw [e1.t.1]
        refine ok_t (Int32.le_refl _) ?_
        cases hf : fnO N with
        | none =>
          rw [hf] at e1
          rw [if_pos (by show nI 0 ≤ nI 0; decide), pf0, bd_s]
          exact ok_some ⟨rfl, e1, e3⟩
        | some p =>
          rw [hf] at e1
          rw [if_neg (by show ¬ nI 2 ≤ nI 0; decide), pf1, bd_s]
          exact ok_some ⟨rfl, e1, e3⟩
end RFENCE
