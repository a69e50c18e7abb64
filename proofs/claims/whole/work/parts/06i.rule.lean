theorem okl {σ β : Type} (L : Nat → σ → Int32 → Option β) (N : Nat) (Inv : Nat → σ → Prop) (Q : β → Prop) (hs : ∀ n i s, i < N → Inv i s → (∀ s1, Inv (i + 1) s1 → Ok (L n s1 (nI (i + 1))) Q) → Ok (L (n + 1) s (nI i)) Q) (he : ∀ n s, Inv N s → Ok (L (n + 1) s (nI N)) Q) : ∀ d n i s, i + d = N → d < n → Inv i s → Ok (L n s (nI i)) Q := by
  intro d
  induction d with
  | zero =>
    intro n i s h1 h2 h3
    obtain ⟨k, rfl⟩ : ∃ k, n = k + 1 := ⟨n - 1, by omega⟩
    have e : i = N := by omega
    subst e
    exact he k s h3
  | succ d ih =>
    intro n i s h1 h2 h3
    obtain ⟨k, rfl⟩ : ∃ k, n = k + 1 := ⟨n - 1, by omega⟩
    exact hs k i s (by omega) h3 (fun s1 h4 => ih k (i + 1) s1 (by omega) (by omega) h4)
def bc32 (x : Int32) : Int32 := (f_J6_bitCount_0f7a4 ((fun _ _ => 0), (fun _ _ => 0), (fun _ _ => 0), (fun _ => (0, 0)), 0) x).getD 0
theorem p_bc (h : Hp) (x : Int32) : f_J6_bitCount_0f7a4 h x = some (bc32 x) := rfl
def dg (v : Int32) : Int32 := mx32 0 (mn32 9 v)
theorem p_digitOf (h : Hp) (v : Int32) : f_X9_digitOf h v = some (dg v) := rfl
theorem dg_rng (v : Int32) : dg v = nI (ix (dg v)) ∧ ix (dg v) ≤ 9 := by
  have h1 : 0 ≤ dg v ∧ dg v ≤ 9 := by
    unfold dg mx32 mn32
    constructor <;> grind
  obtain ⟨e, h2⟩ := nI_ix h1.1
  refine ⟨e, ?_⟩
  have := h1.2
  rw [e, i9, nI_leI h2 (by omega)] at this
  exact this
/-- the stack: how many, and which -/
abbrev Stk : Type := Nat × (Nat → Int32)
def stU (f : Nat → Int32) (k : Nat) (x : Int32) : Nat → Int32 := fun j => if j = k then x else f j
def psh (x : Int32) (s : Stk) : Stk := if s.1 < 40 then (s.1 + 1, stU s.2 s.1 x) else s
def pp1 (s : Stk) : Int32 := if 0 < s.1 then s.2 (s.1 - 1) else 0
def pp2 (s : Stk) : Stk := if 0 < s.1 then (s.1 - 1, s.2) else s
def isOp (x : Int32) : Int32 := (f_X4_isOperator ((fun _ _ => 0), (fun _ _ => 0), (fun _ _ => 0), (fun _ => (0, 0)), 0) x).getD 0
def jnd (o x y : Int32) : Int32 := (f_X4_joined ((fun _ _ => 0), (fun _ _ => 0), (fun _ _ => 0), (fun _ => (0, 0)), 0) o x y).getD 0
/-- what a step of a rule does -/
def cst (env : Int32 → Int32) (v : Int32) (s : Stk) : Stk := if v < 0 then (if v = -126 then psh (-(pp1 s)) (pp2 s) else if isOp (-v) = 0 then psh (env (-v)) s else psh (jnd (-v) (pp1 (pp2 s)) (pp1 s)) (pp2 (pp2 s))) else psh v s
def crn (env : Int32 → Int32) (st : Nat → Int32) (s : Stk) : Nat → Stk
  | 0 => s
  | n + 1 => cst env (st n) (crn env st s n)
/-- a Rule at cell r -/
def shR (h : Hp) (r : Nat) : Prop := hpT h r = (1, 4) ∧ hpR h r 0 = r + 1 ∧ hpR h r 1 = r + 2 ∧ hpR h r 2 = r + 3 ∧ hpT h (r + 1) = (2, 40) ∧ hpT h (r + 2) = (2, 40) ∧ hpT h (r + 3) = (2, 8)
def atR (h : Hp) (r sz : Nat) (st : Nat → Int32) : Prop := shR h r ∧ hpI h r 3 = nI sz ∧ sz ≤ 40 ∧ ∀ i, i < sz → hpI h (r + 1) i = st i
/-- its stack holds s -/
def atS (h : Hp) (r : Nat) (s : Stk) : Prop := s.1 ≤ 40 ∧ hpI h r 4 = nI s.1 ∧ ∀ i, i < s.1 → hpI h (r + 2) i = s.2 i
/-- what it writes: its own numbers, the stack -/
def FS (r x : Nat) : Prop := x = r ∨ x = r + 2
/-- but for its numbers 4 and 5, cell r is as it was -/
def kpR (h h1 : Hp) (r : Nat) : Prop := (∀ k, k ≠ 4 → hpI h1 r k = hpI h r k) ∧ hpR h1 = hpR h
theorem som_g {α : Type} {x : Option α} {d : α} (h : x.isSome = true) : x = some (x.getD d) := by
  cases x with
  | none => cases h
  | some v => rfl
theorem ite_som {α : Type} {c : Prop} [Decidable c] {x y : Option α} (hx : x.isSome = true) (hy : y.isSome = true) : (if c then x else y).isSome = true := by
  split
  · exact hx
  · exact hy
theorem ite_eqs {α : Type} {c : Prop} [Decidable c] {x y : Option α} {v : α} (hx : c → x = some v) (hy : ¬ c → y = some v) : (if c then x else y) = some v := by
  split
  · rename_i q; exact hx q
  · rename_i q; exact hy q
theorem isOp_h (h : Hp) (x : Int32) : f_X4_isOperator h x = some (isOp x) := by
  have e : (f_X4_isOperator h x).isSome = true := by
    unfold f_X4_isOperator
    repeat' (first | rfl | refine ite_som ?_ ?_)
  exact som_g e
theorem jnd_h (h : Hp) (o x y : Int32) : f_X4_joined h o x y = some (jnd o x y) := by
  have e : (f_X4_joined h o x y).isSome = true := by
    unfold f_X4_joined
    repeat' split
    all_goals first | rfl | (rw [gd_t (show nz32 y = true from decide_eq_true (by assumption))]; rfl)
  exact som_g e
/-- what a letter means of camp i, o others crossing it -/
def mng (S : Fld) (i : Nat) (o x : Int32) : Int32 := if x = 97 then nI (S.2 6 i) else if x = 99 then nI (S.2 1 i) else if x = 104 then nI (S.2 2 i) else if x = 111 then o else if x = 114 then nI (S.2 0 i) else if x = 115 then nI (S.2 4 i) else if x = 119 then nI (S.2 3 i) else rm32 (nI (S.1 3)) 7
section RULE
variable {h : Hp} {a r : Nat} {S : Fld}
theorem p_meaning (c : atC h a S) {i : Nat} (hi : i < 8) (x : Int32) : f_X4_meaning h r x a (nI i) = some (mng S i (hpI h r 5) x) := by
  unfold f_X4_meaning
  repeat' with_reducible refine ite_eqs (fun e => ?_) (fun e => ?_)
  all_goals ((try simp (disch := omega) only [nz_t, gdT, inb_nI, ix_nI, lt_u, c.q0, c.q1, c.q2, c.q3, c.q4, c.r5, c.r6, c.r7, c.r8, c.r9, c.r10, c.r11, c.t1, c.t2, c.t3, c.t4, c.t5, c.t6, c.t7, c.v0, c.v1, c.v2, c.v3, c.v4, c.v5, c.v6]); simp only [mng]; grind)
theorem p_push (hr : shR h r) {s : Stk} (hs : atS h r s) (x : Int32) : Ok (f_X4_push h r x) (fun h1 => atS h1 r (psh x s) ∧ EqOff (FS r) h h1 ∧ kpR h h1 r) := by
  obtain ⟨k1, k2, k3, k4, k5, k6, k7⟩ := hr
  obtain ⟨s1, s2, s3⟩ := hs
  rw [f_X4_push, k3, k6, s2, gd_t (nz_t (by omega))]
  simp (disch := omega) only [nI_le0]
  by_cases q : s.1 < 40
  · rw [if_neg (by omega), gd_t (inb_nI (by omega) (by omega)), ix_nI (by omega)]
    simp only [lt_u]
    refine ok_some ⟨?_, (EqOff.uI (Or.inr rfl)).tr (EqOff.uI (Or.inl rfl)), fun k hk => ?_, rfl⟩
    · rw [psh, if_pos q]
      refine ⟨by show s.1 + 1 ≤ 40; omega, ?_, fun i hi => ?_⟩
      · rw [hpI_upI, if_pos ⟨rfl, rfl⟩, hpI_upI, if_neg (by omega), s2, i1, nI_add]
      · have hi : i < s.1 + 1 := hi
        rw [hpI_upI, if_neg (by omega), hpI_upI]
        simp only [stU]
        by_cases e : i = s.1
        · simp [e]
        · simp [e]; exact s3 i (by omega)
    · rw [hpI_upI, if_neg (by omega), hpI_upI, if_neg (by omega)]
  · rw [if_pos (by omega)]
    refine ok_some ⟨?_, EqOff.rf, fun k hk => rfl, rfl⟩
    rw [psh, if_neg q]; exact ⟨s1, s2, s3⟩
theorem p_pop (hr : shR h r) {s : Stk} (hs : atS h r s) : Ok (f_X4_pop h r) (fun o => o.1 = pp1 s ∧ atS o.2 r (pp2 s) ∧ EqOff (FS r) h o.2 ∧ kpR h o.2 r) := by
  obtain ⟨k1, k2, k3, k4, k5, k6, k7⟩ := hr
  obtain ⟨s1, s2, s3⟩ := hs
  rw [f_X4_pop, s2, i0]
  simp (disch := omega) only [nI_lt0]
  by_cases q : 0 < s.1
  · rw [if_pos q]
    refine ok_lt (fun h1 e1 => ?_)
    have e2 : hpI h1 r 4 = nI (s.1 - 1) := by rw [e1, hpI_upI, if_pos ⟨rfl, rfl⟩, i1, pk_sub (by omega)]
    have e3 : hpR h1 r 1 = r + 2 := by rw [e1]; exact k3
    have e4 : hpT h1 (r + 2) = (2, 40) := by rw [e1]; exact k6
    rw [e2, e3, e4, gd_t (nz_t (by omega)), gd_t (inb_nI (by omega) (by omega)), ix_nI (by omega)]
    refine ok_some ⟨?_, ⟨?_, ?_, fun i hi => ?_⟩, by rw [e1]; exact EqOff.uI (Or.inl rfl), fun k hk => ?_, by rw [e1]; rfl⟩
    · rw [pp1, if_pos q]
      show hpI h1 (r + 2) (s.1 - 1) = _
      rw [e1, hpI_upI, if_neg (by omega)]; exact s3 _ (by omega)
    · rw [pp2, if_pos q]; show s.1 - 1 ≤ 40; omega
    · rw [pp2, if_pos q]; exact e2
    · rw [pp2, if_pos q] at hi ⊢
      have hi : i < s.1 - 1 := hi
      show hpI h1 (r + 2) i = s.2 i
      rw [e1, hpI_upI, if_neg (by omega)]; exact s3 _ (by omega)
    · show hpI h1 r k = _
      rw [e1, hpI_upI, if_neg (by omega)]
  · rw [if_neg q]
    refine ok_some ⟨by rw [pp1, if_neg q]; rfl, ?_, EqOff.rf, fun k hk => rfl, rfl⟩
    rw [pp2, if_neg q]; exact ⟨s1, s2, s3⟩
theorem kpR.tr {h1 h2 : Hp} (p : kpR h h1 r) (q : kpR h1 h2 r) : kpR h h2 r := ⟨fun k hk => (q.1 k hk).trans (p.1 k hk), q.2.trans p.2⟩
theorem shR.keep {h1 : Hp} (p : shR h r) (e : EqOff (FS r) h h1) (k : kpR h h1 r) : shR h1 r := by
  obtain ⟨k1, k2, k3, k4, k5, k6, k7⟩ := p
  refine ⟨?_, ?_, ?_, ?_, ?_, ?_, ?_⟩ <;> first | (rw [e.2.2.2.1]; assumption) | (rw [k.2]; assumption)
/-- while a loss is counted -/
def Pl (h : Hp) (a r : Nat) (S : Fld) (sz : Nat) (st : Nat → Int32) (h1 : Hp) (s : Stk) : Prop := atS h1 r s ∧ EqOff (FS r) h h1 ∧ kpR h h1 r
theorem p_loss {sz : Nat} {st : Nat → Int32} (c : atC h a S) (hr : atR h r sz st) (hd : a + 7 < r ∨ r + 3 < a) {i : Nat} (hi : i < 8) : Ok (f_X4_loss h r a (nI i)) (fun o => o.1 = dg (pp1 (crn (mng S i (hpI h r 5)) st (0, fun _ => 0) sz)) ∧ EqOff (FS r) h o.2 ∧ kpR h o.2 r) := by
  have hF := FU_big
  obtain ⟨hr1, hr2, hr3, hr4⟩ := hr
  rw [f_X4_loss]
  refine ok_lt (fun h1 e1 => ?_)
  have b0 : EqOff (FS r) h h1 := by rw [e1]; exact EqOff.uI (Or.inl rfl)
  have b1 : kpR h h1 r := by rw [e1]; exact ⟨fun k hk => by rw [hpI_upI, if_neg (by omega)], rfl⟩
  have b2 : atS h1 r (0, fun _ => 0) := ⟨by simp, by rw [e1, hpI_upI, if_pos ⟨rfl, rfl⟩]; rfl, fun i hi => absurd hi (by simp)⟩
  clear e1
  refine okl (f_X4_loss_7 r a (nI i)) sz (fun j h2 => atS h2 r (crn (mng S i (hpI h r 5)) st (0, fun _ => 0) j) ∧ EqOff (FS r) h h2 ∧ kpR h h2 r) _ (fun n j h2 hj ⟨d1, d2, d3⟩ kk => ?_) (fun n h2 ⟨d1, d2, d3⟩ => ?_) sz FU 0 h1 (by omega) (by omega) ⟨b2, b0, b1⟩
  · have r2 := hr1.keep d2 d3
    have q3 : hpI h2 r 3 = nI sz := by rw [d3.1 3 (by omega)]; exact hr2
    have q5 : hpI h2 r 5 = hpI h r 5 := d3.1 5 (by omega)
    have qs : hpI h2 (r + 1) j = st j := by rw [d2.1 (r + 1) j (by unfold FS; omega)]; exact hr4 j hj
    have c2 : atC h2 a S := c.keep d2 (fun x z1 z2 z3 => by unfold FS at z3; omega)
    have fin : ∀ h3, atS h3 r (crn (mng S i (hpI h r 5)) st (0, fun _ => 0) (j + 1)) → EqOff (FS r) h2 h3 → kpR h2 h3 r → Ok (f_X4_loss_107 r a (nI i) (f_X4_loss_7 r a (nI i) n) h3 (nI j)) _ := fun h3 z1 z2 z3 => by
      rw [f_X4_loss_107, i1, nI_add]
      exact kk h3 ⟨z1, d2.tr z2, d3.tr z3⟩
    rw [crn] at fin
    simp (disch := omega) only [f_X4_loss_7, q3, nI_le0, r2.2.1, r2.2.2.2.2.1, nz_t, gdT, inb_nI, ix_nI, qs, lt_u]
    rw [if_neg (by omega)]
    refine ok_if (fun v1 => ok_if (fun v2 => ?_) (fun v2 => ?_)) (fun v1 => ?_)
    · refine ok_bd (p_pop r2 d1) (fun o ⟨o1, o2, o3, o4⟩ => ?_)
      refine ok_bd (p_push (r2.keep o3 o4) o2 (-o.1)) (fun h4 ⟨o5, o6, o7⟩ => fin h4 ?_ (o3.tr o6) (o4.tr o7))
      rw [cst, if_pos v1, if_pos v2, ← o1]; exact o5
    · rw [isOp_h, bd_s]
      refine ok_if (fun v3 => ?_) (fun v3 => ?_)
      · rw [p_meaning c2 hi, bd_s, q5]
        refine ok_bd (p_push r2 d1 _) (fun h4 ⟨o5, o6, o7⟩ => fin h4 ?_ o6 o7)
        rw [cst, if_pos v1, if_neg v2, if_pos v3]; exact o5
      · refine ok_bd (p_pop r2 d1) (fun o ⟨o1, o2, o3, o4⟩ => ?_)
        refine ok_bd (p_pop (r2.keep o3 o4) o2) (fun p ⟨p1, p2, p3, p4⟩ => ?_)
        rw [jnd_h, bd_s]
        refine ok_bd (p_push ((r2.keep o3 o4).keep p3 p4) p2 _) (fun h4 ⟨o5, o6, o7⟩ => fin h4 ?_ (o3.tr (p3.tr o6)) (o4.tr (p4.tr o7)))
        rw [cst, if_pos v1, if_neg v2, if_neg v3, ← o1, ← p1]; exact o5
    · refine ok_bd (p_push r2 d1 _) (fun h4 ⟨o5, o6, o7⟩ => fin h4 ?_ o6 o7)
      rw [cst, if_neg v1]; exact o5
  · have r2 := hr1.keep d2 d3
    have q3 : hpI h2 r 3 = nI sz := by rw [d3.1 3 (by omega)]; exact hr2
    simp only [f_X4_loss_7, lt_u, q3]
    rw [if_pos (Int32.le_refl _)]
    refine ok_bd (p_pop r2 d1) (fun o ⟨o1, o2, o3, o4⟩ => ?_)
    rw [p_digitOf, bd_s]
    exact ok_some ⟨by rw [← o1], d2.tr o3, d3.tr o4⟩
end RULE
