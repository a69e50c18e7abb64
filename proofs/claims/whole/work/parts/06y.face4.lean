/-- is a cell slept in, in year n -/
def slY (A : Ast) (kc n : Nat) : Bool := decide (∃ i, i < (yrN A n).1 2 ∧ ocv (yrN A n) kc i = true)
def clS (A : Ast) (kc : Nat) (b : Option Nat × Nat) (n : Nat) : Option Nat × Nat := if slY A kc n = true then (b.1, b.2 + 1) else (match b.1 with
  | none => some n
  | some k => some k, b.2)
def clB (A : Ast) (kc : Nat) : Option Nat × Nat := fo (clS A kc) (none, 0) 0 100
def sp_clears (A : Ast) (x : Int32) : Int32 × Ast := match cellOfI (aS A) x with
  | none => (-1, A)
  | some kc => match (clB A kc).1 with
    | none => (-2, A)
    | some n => (nI n, wT A [(nI (clB A kc).2).toInt64])
/-- how many places from a cell on have room -/
def cntB (p : Nat → Bool) (i d : Nat) : Nat := fo (fun (b : Nat) k => if p k = true then b + 1 else b) 0 i d
def sp_room (A : Ast) (x y : Int32) : Int32 × Ast := match numIn (nI 1) (nI 3) x, numIn (nI 1) (nI 3) y with
  | some hg, some wd => match ff (rmb (aS A) hg wd) 0 (ncl (aS A)) with
    | some k => (nI k, wT A [(nI (cntB (rmb (aS A) hg wd) k (ncl (aS A) - k))).toInt64])
    | none => (-2, A)
  | _, _ => (-1, A)
def sp_when (A : Ast) (x y : Int32) : Int32 × Ast := match numIn (nI 1) (nI 3) x, numIn (nI 1) (nI 3) y with
  | some hg, some wd => match ff (fun n => (ff (rmb (yrN A n) hg wd) 0 (ncl (aS A))).isSome) 0 100 with
    | some n => (nI n, wT A [(oI (ff (rmb (yrN A n) hg wd) 0 (ncl (aS A)))).toInt64])
    | none => (-2, A)
  | _, _ => (-1, A)
def sp_seen (A : Ast) (x : Int32) : Int32 × Ast := if 0 ≤ x ∧ x < nI ((aS A).1 0) then (bitsB (snb (aS A) (ix x)) ((aS A).1 2), wT A [(bc32 (bitsB (snb (aS A) (ix x)) ((aS A).1 2))).toInt64]) else (-1, A)
/-- the strength under a block -/
def stU2 (S : Fld) (hg wd kc : Nat) : Nat := nsum (fun i => S.2 4 i * cmc S i kc hg wd) (S.1 2)
def lsF (S : Fld) (hg wd : Nat) (b : Option (Nat × Nat)) (kc : Nat) : Option (Nat × Nat) := if hld S kc hg wd = true then (match b with
  | none => some (kc, stU2 S hg wd kc)
  | some p => if p.2 ≤ stU2 S hg wd kc then some p else some (kc, stU2 S hg wd kc)) else b
def lsB (S : Fld) (hg wd : Nat) : Option (Nat × Nat) := fo (lsF S hg wd) none 0 (ncl S)
def sp_least (A : Ast) (x y : Int32) : Int32 × Ast := match numIn (nI 1) (nI 3) x, numIn (nI 1) (nI 3) y with
  | some hg, some wd => match lsB (aS A) hg wd with
    | some p => (nI p.1, wT A [(nI p.2).toInt64, (bitsB (und (aS A) p.1 hg wd) ((aS A).1 2)).toInt64])
    | none => (-2, A)
  | _, _ => (-1, A)
section FACE4
variable {h h1 : Hp} {A : Ast} {S : Fld}
theorem yrN_01 (n : Nat) : (yrN A n).1 0 = (aS A).1 0 ∧ (yrN A n).1 1 = (aS A).1 1 := yrs_01 n
theorem yrN_ncl (n : Nat) : ncl (yrN A n) = ncl (aS A) := by simp only [ncl, yrN_01]
theorem clB_ge {kc : Nat} : ∀ d b i, (∀ n, b.1 = some n → n < 1000) → i + d ≤ 500 → ∀ n, (fo (clS A kc) b i d).1 = some n → n < 1000 := by
  intro d
  induction d with
  | zero => intro b i hb _ n hn; exact hb n hn
  | succ d ih =>
    intro b i hb hd n hn
    refine ih _ _ ?_ (by omega) n hn
    intro k hk
    unfold clS at hk
    split at hk
    · exact hb k hk
    · cases hbb : b.1 with
      | none => rw [hbb] at hk; cases hk; omega
      | some j => rw [hbb] at hk; cases hk; exact hb _ hbb
def o2 (o : Option Nat) : Int32 := match o with
  | none => -2
  | some n => nI n
theorem o2_s {o : Option Nat} (ho : ∀ n, o = some n → n < 1000) : (o2 o = -2) ↔ o = none := by
  cases o with
  | none => simp [o2]
  | some n =>
    have := ho n rfl
    simp only [o2]
    constructor
    · intro z
      have := nI_pos' (n := n) (by omega)
      rw [z] at this; exact absurd this (by decide)
    · intro z; cases z
theorem c_clears (c : RC h A) (hw : wfF (aS A)) (hy : (aS A).1 3 < 900000) (x : Int32) : Ok (f_X9_clears h 1 x) (fun o => o.1 = (sp_clears A x).1 ∧ RC o.2 (sp_clears A x).2 ∧ EqOff FX h o.2) := by
  have hF := FU_big
  have hb := ncl_le hw
  rw [f_X9_clears, c.s.r1_2, p_hasCellx c.n, bd_s]
  refine ok_gd (by decide) ?_
  simp only [nB_0]
  unfold sp_clears
  cases hx : cellOfI (aS A) x with
  | none => exact ok_t rfl (ok_some ⟨rfl, c, EqOff.rf⟩)
  | some kc =>
    obtain ⟨rfl, hi⟩ := cellOfI_s (by omega) hx
    refine ok_f (by simp) ?_
    rw [c.s.r1_4]
    refine ok_gd (by decide) (ok_bd (c_copy c (a := 22) (by omega)) (fun h8 ⟨c8, b8, o8⟩ => ?_))
    refine okl (fun n (s : Hp × (Option Nat × Nat)) i => f_X9_clears_32 1 (nI kc) n s.1 (o2 s.2.1) (nI s.2.2) i) 100 (fun i s => s.2 = fo (clS A kc) (none, 0) 0 i ∧ RC s.1 A ∧ atC s.1 22 (yrN A i) ∧ EqOff FX h s.1) _ (fun n i s hi2 ⟨d1, d2, d3, d4⟩ kk => ?_) (fun n s ⟨d1, d2, d3, d4⟩ => ?_) 100 FU 0 (h8, (none, 0)) (by omega) (by omega) ⟨rfl, c8, b8, o8.mono (FC_FX (by omega) (by omega))⟩
    · obtain ⟨h2, b⟩ := s
      have d1 : b = fo (clS A kc) (none, 0) 0 i := d1
      have d2 : RC h2 A := d2
      have d3 : atC h2 22 (yrN A i) := d3
      have d4 : EqOff FX h h2 := d4
      have wk := yrN_w hw hy (n := i) (by omega)
      have ge : ∀ n, b.1 = some n → n < 1000 := fun n hn => clB_ge i (none, 0) 0 (fun n z => by cases z) (by omega) n (by rw [← d1]; exact hn)
      have eB : fo (clS A kc) (none, 0) 0 (i + 1) = clS A kc b i := by rw [fo_snoc, ← d1, Nat.zero_add]
      show Ok (f_X9_clears_32 1 (nI kc) (n + 1) h2 (o2 b.1) (nI b.2) (nI i)) _
      simp only [f_X9_clears_32]
      refine ok_lt (fun k2' ek => ?_)
      subst ek
      rw [d2.s.r1_4, p_onOver d3 wk (by omega), bd_s]
      refine ok_f (by rw [show (100 : Int32) = nI 100 by decide, nI_leI (by omega) (by omega)]; omega) (ok_gd (by decide) ?_)
      have fin : ∀ y z, y = o2 (clS A kc b i).1 → z = nI (clS A kc b i).2 → Ok (f_X9_clears_65 1 (nI kc) (f_X9_clears_32 1 (nI kc) n) h2 y z (nI i)) _ := fun y z z1 z2 => by
        rw [f_X9_clears_65, d2.s.r1_4, d2.s.r1_8]
        refine ok_gd (by decide) (ok_gd (by decide) (ok_bd (c_goBy d2 d3 wk) (fun o ⟨y1, y2, y3, y4⟩ => ?_)))
        rw [i1, nI_add, lt_u, z1, z2]
        exact kk (o.2, clS A kc b i) ⟨eB.symm, y2, y3, d4.tr y4⟩
      have b5k := wk.2.2.2.2.1
      rw [i0]
      simp only [bitsB_0 (show (yrN A i).1 2 ≤ 31 by omega)]
      by_cases q : ∃ j, j < (yrN A i).1 2 ∧ ocv (yrN A i) kc j = true
      · have qs : slY A kc i = true := decide_eq_true q
        refine ok_f (fun z => by obtain ⟨j, z1, z2⟩ := q; rw [z j z1] at z2; cases z2) ?_
        rw [i1, nI_add]
        refine ok_lt (fun v22 e22 => ?_)
        subst e22
        exact fin _ _ (by simp [clS, qs]) (by simp [clS, qs])
      · have qs : slY A kc i = false := decide_eq_false q
        refine ok_t (fun j hj => by
          cases z : ocv (yrN A i) kc j with
          | false => rfl
          | true => exact absurd ⟨j, hj, z⟩ q) ?_
        refine fin _ _ ?_ (by simp [clS, qs])
        simp only [clS, qs, Bool.false_eq_true, if_false]
        cases hb1 : b.1 with
        | none => simp [o2]
        | some j =>
          have : ¬ o2 b.1 = -2 := fun z => by
            have := (o2_s ge).mp z
            rw [hb1] at this; cases this
          rw [hb1] at this
          rw [if_neg this]
    · obtain ⟨h2, b⟩ := s
      have d1 : b = clB A kc := d1
      have d2 : RC h2 A := d2
      have ge : ∀ n, b.1 = some n → n < 1000 := fun n hn => clB_ge 100 (none, 0) 0 (fun n z => by cases z) (by omega) n (by rw [d1] at hn; exact hn)
      show Ok (f_X9_clears_32 1 (nI kc) (n + 1) h2 (o2 b.1) (nI b.2) (nI 100)) _
      simp only [f_X9_clears_32]
      refine ok_lt (fun k2' ek => ?_)
      clear ek
      refine ok_t (by decide) ?_
      rw [← d1]
      cases hb1 : b.1 with
      | none => exact ok_t rfl (ok_some ⟨rfl, d2, d4⟩)
      | some j =>
        have : ¬ o2 b.1 = -2 := fun z => by
          have := (o2_s ge).mp z
          rw [hb1] at this; cases this
        rw [hb1] at this
        refine ok_f this ?_
        rw [d2.s.r1_1]
        refine ok_gd (by decide) (ok_bd (c_t0 d2) (fun h9 ⟨c9, o9⟩ => ?_))
        rw [c9.s.r1_1]
        refine ok_gd (by decide) (ok_bd (c_t1 c9 (by simp [aT, wT, mkA]) _) (fun h13 ⟨c13, o13⟩ => ok_some ⟨rfl, c13, d4.tr ((F24y o9).tr (F24y o13))⟩))
/-- told one number -/
theorem c_say1 (c : RC h A) {x : Int32} {v : Int64} (o2 : EqOff FX h1 h) : Ok (gd (nz (hpR h 1 1)) <| (f_X7_start h (hpR h 1 1)).bind fun q13 => gd (nz (hpR q13 1 1)) <| (f_X7_add q13 (hpR q13 1 1) v).bind fun q16 => some (x, q16)) (fun o => o.1 = x ∧ RC o.2 (wT A [v]) ∧ EqOff FX h1 o.2) := by
  rw [c.s.r1_1]
  refine ok_gd (by decide) (ok_bd (c_t0 c) (fun h9 ⟨c9, o9⟩ => ?_))
  rw [c9.s.r1_1]
  exact ok_gd (by decide) (ok_bd (c_t1 c9 (by simp [aT, wT, mkA]) _) (fun h13 ⟨c13, o13⟩ => ok_some ⟨rfl, c13, o2.tr ((F24y o9).tr (F24y o13))⟩))
theorem ff_s {p : Nat → Bool} : ∀ d i k, ff p i d = some k → i ≤ k ∧ k < i + d ∧ p k = true := by
  intro d
  induction d with
  | zero => intro i k hk; cases hk
  | succ d ih =>
    intro i k hk
    rw [ff] at hk
    by_cases q : p i = true
    · rw [if_pos q] at hk; cases hk; exact ⟨Nat.le_refl _, by omega, q⟩
    · rw [if_neg q] at hk
      have := ih (i + 1) k hk
      exact ⟨by omega, by omega, this.2.2⟩
theorem c_room (c : RC h A) (hw : wfF (aS A)) (x y : Int32) : Ok (f_X9_room h 1 x y) (fun o => o.1 = (sp_room A x y).1 ∧ RC o.2 (sp_room A x y).2 ∧ EqOff FX h o.2) := by
  have hF := FU_big
  have hb := ncl_le hw
  rw [f_X9_room, p_areSides, bd_s, c.s.r1_2]
  simp only [nB_0]
  unfold sp_room
  cases hx : numIn (nI 1) (nI 3) x with
  | none => exact ok_t rfl (ok_some ⟨rfl, c, EqOff.rf⟩)
  | some hg =>
    obtain ⟨rfl, g1, g2⟩ := numIn_s (by omega) (by omega) hx
    cases hy : numIn (nI 1) (nI 3) y with
    | none => exact ok_t rfl (ok_some ⟨rfl, c, EqOff.rf⟩)
    | some wd =>
      obtain ⟨rfl, g3, g4⟩ := numIn_s (by omega) (by omega) hy
      refine ok_f (by simp) ?_
      rw [p_firstRoom c.n hw (by omega) (by omega), bd_s]
      refine ok_gd (by decide) ?_
      dsimp only
      cases hf : ff (rmb (aS A) hg wd) 0 (ncl (aS A)) with
      | none => exact ok_t rfl (ok_some ⟨rfl, c, EqOff.rf⟩)
      | some k =>
        have hk := ff_s _ _ _ hf
        have en : ¬ (nI k = (-1 : Int32)) := by
          intro z
          have := nI_pos' (n := k) (by omega)
          rw [z] at this; exact absurd this (by decide)
        refine ok_f en ?_
        simp only [oI]
        have e := fo_lp2 (fun n (b : Nat) i => f_X9_room_34 1 (nI hg) (nI wd) n h (nI k) (nI b) i) (ncl (aS A)) (fun (b : Nat) j => if rmb (aS A) hg wd j = true then b + 1 else b) (fun b => f_X9_room_34 1 (nI hg) (nI wd) 1 h (nI k) (nI b) (nI (ncl (aS A)))) 0 (fun n b i _ hi => ?_) (fun n b => ?_) (ncl (aS A) - k) FU 0 k (by omega) (by omega) (by omega)
        · rw [i0, show f_X9_room_34 1 (nI hg) (nI wd) FU h (nI k) (nI 0) (nI k) = _ from e]
          simp only [f_X9_room_34]
          refine ok_lt (fun k2' ek => ?_)
          clear ek
          rw [c.s.r1_2, p_cells c.n, bd_s]
          refine ok_gd (by decide) (ok_t (Int32.le_refl _) (c_say1 c EqOff.rf))
        · show f_X9_room_34 1 (nI hg) (nI wd) (n + 1) h (nI k) (nI b) (nI i) = f_X9_room_34 1 (nI hg) (nI wd) n h (nI k) (nI _) (nI (i + 1))
          simp only [f_X9_room_34, f_X9_room_63, lt_u, c.s.r1_2, p_cells c.n, bd_s, show ∀ j, nI j + 1 = nI (j + 1) from fun j => by rw [i1, nI_add], p_isRoom c.n hw (show i < 100 by omega) (show hg < 100 by omega) (show wd < 100 by omega), nB_0]
          rw [gd_t (by decide), if_neg (by rw [nI_leI (by omega) (by omega)]; omega)]
          cases rmb (aS A) hg wd i <;> simp
        · show f_X9_room_34 1 (nI hg) (nI wd) (n + 1) h (nI k) (nI b) (nI (ncl (aS A))) = f_X9_room_34 1 (nI hg) (nI wd) 1 h (nI k) (nI b) (nI (ncl (aS A)))
          simp only [f_X9_room_34, lt_u, c.s.r1_2, p_cells c.n, bd_s]
          rw [gd_t (by decide), if_pos (Int32.le_refl _)]
          rw [gd_t (show nz 6 = true by decide), if_pos (Int32.le_refl _)]
theorem c_when (c : RC h A) (hw : wfF (aS A)) (hy : (aS A).1 3 < 900000) (x y : Int32) : Ok (f_X9_when h 1 x y) (fun o => o.1 = (sp_when A x y).1 ∧ RC o.2 (sp_when A x y).2 ∧ EqOff FX h o.2) := by
  have hF := FU_big
  have hb := ncl_le hw
  rw [f_X9_when, p_areSides, bd_s, c.s.r1_2, c.s.r1_4]
  simp only [nB_0]
  unfold sp_when
  cases hx : numIn (nI 1) (nI 3) x with
  | none => exact ok_t rfl (ok_some ⟨rfl, c, EqOff.rf⟩)
  | some hg =>
    obtain ⟨rfl, g1, g2⟩ := numIn_s (by omega) (by omega) hx
    cases hy2 : numIn (nI 1) (nI 3) y with
    | none => exact ok_t rfl (ok_some ⟨rfl, c, EqOff.rf⟩)
    | some wd =>
      obtain ⟨rfl, g3, g4⟩ := numIn_s (by omega) (by omega) hy2
      refine ok_f (by simp) (ok_gd (by decide) (ok_gd (by decide) (ok_bd (c_copy c (a := 22) (by omega)) (fun h8 ⟨c8, b8, o8⟩ => ?_))))
      rw [i0]
      have go : ∀ d n k h2, k + d = 100 → d < n → RC h2 A → atC h2 22 (yrN A k) → EqOff FX h h2 → Ok (f_X9_when_23 1 (nI hg) (nI wd) n h2 (nI k)) (fun o => o.1 = (match ff (fun n => (ff (rmb (yrN A n) hg wd) 0 (ncl (aS A))).isSome) k d with
        | some n => (nI n, wT A [(oI (ff (rmb (yrN A n) hg wd) 0 (ncl (aS A)))).toInt64])
        | none => ((-2 : Int32), A)).1 ∧ RC o.2 (match ff (fun n => (ff (rmb (yrN A n) hg wd) 0 (ncl (aS A))).isSome) k d with
        | some n => (nI n, wT A [(oI (ff (rmb (yrN A n) hg wd) 0 (ncl (aS A)))).toInt64])
        | none => ((-2 : Int32), A)).2 ∧ EqOff FX h o.2) := by
        intro d
        induction d with
        | zero =>
          intro n k h2 z1 z2 c2 t2 o2
          obtain ⟨n', rfl⟩ : ∃ k, n = k + 1 := ⟨n - 1, by omega⟩
          have : k = 100 := by omega
          subst this
          simp only [f_X9_when_23, ff]
          refine ok_lt (fun k2' ek => ?_)
          exact ok_t (by decide) (ok_some ⟨rfl, c2, o2⟩)
        | succ d ih =>
          intro n k h2 z1 z2 c2 t2 o2
          obtain ⟨n', rfl⟩ : ∃ k, n = k + 1 := ⟨n - 1, by omega⟩
          have wk := yrN_w hw hy (n := k) (by omega)
          simp only [f_X9_when_23, ff]
          refine ok_lt (fun k2' ek => ?_)
          subst ek
          rw [c2.s.r1_4, c2.s.r1_8, p_firstRoom t2 wk (by omega) (by omega), bd_s, yrN_ncl]
          refine ok_f (by rw [show (100 : Int32) = nI 100 by decide, nI_leI (by omega) (by omega)]; omega) (ok_gd (by decide) ?_)
          by_cases ho : (ff (rmb (yrN A k) hg wd) 0 (ncl (aS A))) = none
          · simp only [ho, Option.isSome_none, Bool.false_eq_true, if_false]
            refine ok_t rfl (ok_gd (by decide) (ok_bd (c_goBy c2 t2 wk) (fun o ⟨y1, y2, y3, y4⟩ => ?_)))
            rw [i1, nI_add, lt_u]
            exact ih n' (k + 1) o.2 (by omega) (by omega) y2 y3 (o2.tr y4)
          · obtain ⟨kc, hkc⟩ := Option.ne_none_iff_exists'.mp ho
            have hk := ff_s _ _ _ hkc
            have en : ¬ (oI (ff (rmb (yrN A k) hg wd) 0 (ncl (aS A))) = (-1 : Int32)) := by
              rw [hkc]
              intro z
              have := nI_pos' (n := kc) (by omega)
              simp only [oI] at z
              rw [z] at this; exact absurd this (by decide)
            have es : (ff (rmb (yrN A k) hg wd) 0 (ncl (aS A))).isSome = true := by rw [hkc]; rfl
            simp only [es, if_true]
            exact ok_f en (c_say1 c2 o2)
      exact go 100 FU 0 h8 (by omega) (by omega) c8 b8 (o8.mono (FC_FX (by omega) (by omega)))
theorem c_seen (c : RC h A) (hw : wfF (aS A)) (x : Int32) : Ok (f_X9_seen h 1 x) (fun o => o.1 = (sp_seen A x).1 ∧ RC o.2 (sp_seen A x).2 ∧ EqOff FX h o.2) := by
  have b2 := hw.2.1
  rw [f_X9_seen, c.s.r1_2, c.n.q0]
  unfold sp_seen
  refine ok_if (fun q => ?_) (fun q => ok_gd (by decide) (ok_if (fun q2 => ?_) (fun q2 => ?_)))
  · rw [if_neg (fun z => absurd q (Int32.not_lt.mpr z.1))]; exact ok_some ⟨rfl, c, EqOff.rf⟩
  · rw [if_pos ⟨Int32.not_lt.mp q, q2⟩]
    obtain ⟨e, h3⟩ := nI_ix (Int32.not_lt.mp q)
    rw [e, nI_ltI h3 (by omega)] at q2
    have e2 := p_seenFrom c.n hw (r := ix x) (by omega)
    rw [← e] at e2
    rw [e2, bd_s]
    simp only [p_bc, bd_s]
    exact c_say1 c EqOff.rf
  · rw [if_neg (fun z => q2 z.2)]; exact ok_some ⟨rfl, c, EqOff.rf⟩
end FACE4
