section CPARS
variable {h h1 : Hp} {X : List Int32} {e : Nat}
theorem isLt_h (h : Hp) (x : Int32) : f_X5_isLetter h x = some (nB (ltI x).isSome) := by
  unfold f_X5_isLetter
  repeat' (with_reducible refine ite_eqs (fun e => ?_) (fun e => ?_))
  all_goals first | (subst e; rfl) | (unfold ltI; simp [*]; rfl)
theorem isCm_h (h : Hp) (x : Int32) : f_X4_isComparison h x = some (nB (opI 0 x).isSome) := by
  by_cases e1 : x = 60
  · subst e1; rfl
  by_cases e2 : x = 62
  · subst e2; rfl
  by_cases e3 : x = 61
  · subst e3; rfl
  simp [f_X4_isComparison, opI, e1, e2, e3]
  try rfl
/-- what a reader of the class gives -/
def cpR (X : List Int32) (e : Nat) (R : RP) (h : Hp) (a p : Nat) (st : Nat → Int32) (q : Int32 × Hp) : Prop := EqOff F5 h q.2 ∧ (match R.2 with
  | none => q.1 = 0 ∧ ∃ p' st', RdC q.2 X e R.1 p' st'
  | some E => q.1 = 1 ∧ ∃ n st', RdC q.2 X e R.1 (p + n) st' ∧ n ≤ R.1 - a ∧ Mn st' p n E ∧ ∀ k, k < p → st' k = st k)
def CP (X : List Int32) (e o : Nat) (P : Nat → RP) (f : Hp → Nat → Int32 → Option (Int32 × Hp)) : Prop := ∀ h a p st, RdC h X e a p st → p ≤ a → Ok (f h 161 (nI o)) (cpR X e (P a) h a p st)
theorem p_nextS {a p : Nat} {st : Nat → Int32} (r : RdC h X e a p st) : f_X5_next h 161 = some (sgX X e a) := p_next r
theorem ok_fw {β : Type} {a p : Nat} {st : Nat → Int32} {K : Hp → Option β} {Q : β → Prop} (r : RdC h X e a p st) (ha : a < e) (k : ∀ h2, RdC h2 X e (a + 1) p st → EqOff F5 h h2 → Ok (K h2) Q) : Ok (lt (upI h 161 2 ((hpI h 161 2) + (1 : Int32))) K) Q := by
  have f := r.fw (by omega)
  rw [r.2.1, i1, nI_add]
  exact k _ f.1 f.2
theorem cpR_n {R : RP} {a p : Nat} {st : Nat → Int32} {b p2 : Nat} {st2 : Nat → Int32} (eo : EqOff F5 h h1) (r : RdC h1 X e b p2 st2) (hR : R = (b, none)) : cpR X e R h a p st (0, h1) := by
  subst hR
  exact ⟨eo, rfl, p2, st2, r⟩
theorem c_thing {f : Hp → Nat → Int32 → Option (Int32 × Hp)} {px : Option (Nat → RP)} {o : Nat} (ho : o ≤ 4) (h4 : px = none → o = 4) (hx : ∀ P, px = some P → o < 4 ∧ CP X e (o + 1) P f ∧ pOk e P) : CP X e o (pTh px X e) (fo_X5_thing f) := by
  intro h a p st r hp
  have hX := r.1.2.2.2.2.1
  have h40 := r.1.2.2.2.2.2
  have hae := r.2.2.1
  rw [fo_X5_thing, p_nextS r, bd_s]
  have t23 : ¬ (48 ≤ sgX X e a ∧ sgX X e a ≤ 57) → Ok (fo_X5_thing_23 f 161 (nI o) h (sgX X e a)) (cpR X e (pTh px X e a) h a p st) := fun w => by
    rw [fo_X5_thing_23, isLt_h, bd_s]
    unfold pTh
    rw [if_neg w]
    cases hl : ltI (sgX X e a) with
    | some k =>
      have lf := ltI_f hl
      have la := sgX_m1 lf.2.2.2.2.2
      refine ok_f (show ¬ nB true = 0 by decide) (ok_fw r la (fun h2 r2 o2 => ?_))
      refine ok_bd (p_write r2 (by omega) (sgX X e a)) (fun h3 ⟨r3, o3⟩ => ok_some ⟨o2.tr o3, rfl, 1, _, r3, by show 1 ≤ a + 1 - a; omega, ?_, fun k hk => ?_⟩)
      · have m := Mn.ask (st := stU st p (-(sgX X e a))) (p := p) (x := sgX X e a) (by unfold stU; rw [if_pos rfl]) lf.1 lf.2.1 lf.2.2.1
        rw [lf.2.2.2.1] at m
        exact m
      · unfold stU; rw [if_neg (by omega)]
    | none =>
      refine ok_t (show nB false = 0 by decide) ?_
      simp only
      refine ok_if (fun w2 => ?_) (fun w2 => ?_)
      · rw [if_pos w2]
        have la := sgX_lt w2 (by decide)
        cases px with
        | none =>
          have := h4 rfl
          subst this
          exact ok_f (by decide) (ok_some ⟨EqOff.rf, rfl, p, st, r⟩)
        | some P =>
          obtain ⟨x1, x2, x3⟩ := hx P rfl
          have po := x3 (a + 1) (by omega)
          refine ok_t (by rw [show (4 : Int32) = nI 4 by decide, nI_ltI (by omega) (by omega)]; exact x1) (ok_fw r la (fun h2 r2 o2 => ?_))
          rw [i1, nI_add]
          refine ok_bd (x2 h2 (a + 1) p st r2 (by omega)) (fun q z => ?_)
          obtain ⟨z0, z1⟩ := z
          simp only
          cases hE : (P (a + 1)).2 with
          | none =>
            rw [hE] at z1
            obtain ⟨y1, p2, st2, y2⟩ := z1
            exact ok_t y1 (ok_some ⟨o2.tr z0, rfl, p2, st2, y2⟩)
          | some E =>
            rw [hE] at z1
            obtain ⟨y1, n, st2, y2, y3, y4, y5⟩ := z1
            refine ok_f (by rw [y1]; decide) ?_
            rw [p_nextS y2, bd_s]
            simp only
            refine ok_if (fun w3 => ?_) (fun w3 => ?_)
            · rw [if_pos w3]
              have lb := sgX_lt w3 (by decide)
              refine ok_fw y2 lb (fun h3 r3 o3 => ok_some ⟨(o2.tr z0).tr o3, rfl, n, st2, r3, ?_, y4, y5⟩)
              show n ≤ (P (a + 1)).1 + 1 - a
              omega
            · rw [if_neg w3]
              exact ok_some ⟨o2.tr z0, rfl, p + n, st2, y2⟩
      · rw [if_neg w2]
        exact ok_some ⟨EqOff.rf, rfl, p, st, r⟩
  refine ok_if (fun v => t23 (fun z => absurd z.1 (Int32.not_le.mpr v))) (fun v => ok_if (fun v2 => t23 (fun z => absurd z.2 (Int32.not_le.mpr v2))) (fun v2 => ?_))
  have w : 48 ≤ sgX X e a ∧ sgX X e a ≤ 57 := ⟨Int32.not_lt.mp v, Int32.not_lt.mp v2⟩
  have nl := nuG_lt hX w
  unfold pTh
  rw [if_pos w]
  refine ok_bd (p_num r (by omega)) (fun h2 ⟨r2, o2⟩ => ok_some ⟨o2, rfl, 1, _, r2, ?_, ?_, fun k hk => ?_⟩)
  · show 1 ≤ (nuG X e 3 0 a).2 - a
    omega
  · have nb := (nuG_le (X := X) (e := e) 3 0 a).2.2 1 (by omega)
    exact Mn.num (by unfold stU; rw [if_pos rfl]) (fun z => by rw [i0, nI_ltI (by omega) (by omega)] at z; omega)
  · unfold stU; rw [if_neg (by omega)]
theorem c_signed {f : Hp → Nat → Int32 → Option (Int32 × Hp)} {pt : Nat → RP} {o : Nat} (hf : CP X e o pt f) (ho : pOk e pt) : CP X e o (pSg pt X e 40) (fo_X5_signedThing f) := by
  intro h a0 p st r hp
  have hF := FU_big
  have h40 := r.1.2.2.2.2.2
  rw [fo_X5_signedThing]
  have fin : ∀ b a h2, RdC h2 X e a p st → EqOff F5 h h2 → a0 ≤ a → (b = true → a0 < a) → Ok (fo_X5_signedThing_45 f 161 (nI o) h2 (nB b)) (cpR X e (ngR b (pt a)) h a0 p st) := by
    intro b a h2 r2 o2 l1 l2
    have po := ho a r2.2.2.1
    rw [fo_X5_signedThing_45]
    refine ok_bd (hf h2 a p st r2 (by omega)) (fun q ⟨z0, z1⟩ => ?_)
    cases hE : (pt a).2 with
    | none =>
      rw [hE] at z1
      obtain ⟨y1, p2, st2, y2⟩ := z1
      exact ok_t y1 (ok_some (cpR_n (o2.tr z0) y2 (by unfold ngR; rw [hE]; rfl)))
    | some E =>
      rw [hE] at z1
      obtain ⟨y1, n, st2, y2, y3, y4, y5⟩ := z1
      refine ok_f (by rw [y1]; decide) ?_
      unfold cpR ngR
      rw [hE]
      cases b with
      | false => exact ok_t rfl (ok_some ⟨o2.tr z0, rfl, n, st2, y2, by show n ≤ (pt a).1 - a0; omega, y4, y5⟩)
      | true =>
        have l3 := l2 rfl
        have := y2.2.2.1
        refine ok_f (by decide) (ok_bd (p_write y2 (by omega) 126) (fun h3 ⟨r3, o3⟩ => ok_some ⟨(o2.tr z0).tr o3, rfl, n + 1, _, r3, by show n + 1 ≤ (pt a).1 - a0; omega, ?_, fun k hk => ?_⟩))
        · exact Mn.neg (y4.ext (fun k k1 k2 => by unfold stU; rw [if_neg (by omega)])) (by unfold stU; rw [if_pos rfl])
        · unfold stU; rw [if_neg (by omega)]; exact y5 k hk
  have go : ∀ d i q b a h2, i + d = 40 → d < q → RdC h2 X e a p st → EqOff F5 h h2 → a0 ≤ a → (b = true → a0 < a) → Ok (fo_X5_signedThing_4 f 161 (nI o) q h2 (nB b) (nI i)) (cpR X e (ngR b (pSg pt X e d a)) h a0 p st) := by
    intro d
    induction d with
    | zero =>
      intro i q b a h2 e1 e2 r2 o2 l1 l2
      obtain ⟨q, rfl⟩ : ∃ k, q = k + 1 := ⟨q - 1, by omega⟩
      simp only [fo_X5_signedThing_4, lt_u]
      exact ok_t (by rw [show (40 : Int32) = nI 40 by decide, nI_leI (by omega) (by omega)]; omega) (fin b a h2 r2 o2 l1 l2)
    | succ d ih =>
      intro i q b a h2 e1 e2 r2 o2 l1 l2
      obtain ⟨q, rfl⟩ : ∃ k, q = k + 1 := ⟨q - 1, by omega⟩
      simp only [fo_X5_signedThing_4, lt_u]
      rw [p_nextS r2, bd_s, pSg]
      refine ok_f (by rw [show (40 : Int32) = nI 40 by decide, nI_leI (by omega) (by omega)]; omega) (ok_if (fun w => ?_) (fun w => ?_))
      · rw [if_pos w, ngR_ng]
        have la := sgX_lt w (by decide)
        rw [fo_X5_signedThing_28]
        refine ok_fw r2 la (fun h3 r3 o3 => ?_)
        rw [lt_u, i1, nI_add, show (if nB b = 0 then nI 1 else (0 : Int32)) = nB (!b) by cases b <;> rfl]
        exact ih (i + 1) q (!b) (a + 1) h3 (by omega) (by omega) r3 (o2.tr o3) (by omega) (fun _ => by omega)
      · rw [if_neg w]
        exact fin b a h2 r2 o2 l1 l2
  have g := go 40 0 FU false a0 h (by omega) (by omega) r EqOff.rf (Nat.le_refl _) (fun z => by cases z)
  rw [ngR_f] at g
  exact g
/-- one more operand -/
theorem c_one {f : Hp → Nat → Int32 → Option (Int32 × Hp)} {pn : Nat → RP} {o r k d : Nat} (hr : r ≤ 2) (hf : CP X e o pn f) (ho : pOk e pn) {a0 a p n : Nat} {st st2 : Nat → Int32} {E : RE} {h2 : Hp} {K : Hp → Option (Int32 × Hp)} (h0 : RdC h X e a0 p st) (hp : p ≤ a0) (r2 : RdC h2 X e a (p + n) st2) (o2 : EqOff F5 h h2) (l1 : a0 + n ≤ a) (mn : Mn st2 p n E) (px : ∀ k, k < p → st2 k = st k) (hk : opI r (sgX X e a) = some k)
    (kk : ∀ F h3 n3 st3, (pn (a + 1)).2 = some F → RdC h3 X e (pn (a + 1)).1 (p + n3) st3 → EqOff F5 h h3 → a0 + n3 ≤ (pn (a + 1)).1 → Mn st3 p n3 (opE (k + opB r) E F) → (∀ k, k < p → st3 k = st k) → Ok (K h3) (cpR X e (pCh r pn X e d (pn (a + 1)).1 (opE (k + opB r) E F)) h a0 p st)) : Ok (lt (upI h2 161 2 ((hpI h2 161 2) + (1 : Int32))) fun h9 => (f h9 161 (nI o)).bind fun q10 => if q10.1 = 0 then some ((0 : Int32), q10.2) else (f_X5_write q10.2 161 (sgX X e a)).bind fun q12 => K q12) (cpR X e (pCh r pn X e (d + 1) a E) h a0 p st) := by
  have h40 := h0.1.2.2.2.2.2
  have of := opI_f hr hk
  have la := sgX_m1 of.2.2.2.2.2
  have po := ho (a + 1) (by omega)
  refine ok_fw r2 la (fun h9 r9 o9 => ok_bd (hf h9 (a + 1) (p + n) st2 r9 (by omega)) (fun q ⟨z0, z1⟩ => ?_))
  rw [pCh, hk]
  simp only
  cases hE : (pn (a + 1)).2 with
  | none =>
    rw [hE] at z1
    obtain ⟨y1, p2, st3, y2⟩ := z1
    exact ok_t y1 (ok_some (cpR_n ((o2.tr o9).tr z0) y2 rfl))
  | some F =>
    rw [hE] at z1
    obtain ⟨y1, n2, st3, y2, y3, y4, y5⟩ := z1
    have po3 := po.2.2 F hE
    simp only
    refine ok_f (by rw [y1]; decide) (ok_bd (p_write y2 (by omega) (sgX X e a)) (fun h3 ⟨r3, o3⟩ => ?_))
    have ep : p + n + n2 + 1 = p + (n + n2 + 1) := by omega
    rw [ep] at r3
    refine kk F h3 (n + n2 + 1) _ hE r3 (((o2.tr o9).tr z0).tr o3) (by omega) ?_ (fun k hk => ?_)
    · have m := Mn.bin (st := stU st3 (p + n + n2) (-(sgX X e a))) (p := p) (a := n) (b := n2) (E := E) (F := F) (o := sgX X e a) (mn.ext (fun k k1 k2 => by unfold stU; rw [if_neg (by omega)]; exact y5 k (by omega))) (y4.ext (fun k k1 k2 => by unfold stU; rw [if_neg (by omega)])) (by unfold stU; rw [if_pos rfl]) of.1 of.2.1 of.2.2.1
      have ee : (fun env => jnd (- -(sgX X e a)) (E env) (F env)) = opE (k + opB r) E F := funext (fun env => of.2.2.2.1 _ _)
      rw [ee] at m
      exact m
    · unfold stU; rw [if_neg (by omega), y5 k (by omega)]; exact px k hk
theorem c_product {f : Hp → Nat → Int32 → Option (Int32 × Hp)} {pn : Nat → RP} {o : Nat} (hf : CP X e o pn f) (ho : pOk e pn) : CP X e o (pRk 2 40 pn X e) (fo_X5_product f) := by
  intro h a0 p st r hp
  have hF := FU_big
  have h40 := r.1.2.2.2.2.2
  rw [fo_X5_product]
  have go : ∀ d i q a E n st2 h2, i + d = 40 → d < q → RdC h2 X e a (p + n) st2 → EqOff F5 h h2 → a0 + n ≤ a → Mn st2 p n E → (∀ k, k < p → st2 k = st k) → Ok (fo_X5_product_12 f 161 (nI o) q h2 (nI i)) (cpR X e (pCh 2 pn X e d a E) h a0 p st) := by
    intro d
    induction d with
    | zero =>
      intro i q a E n st2 h2 e1 e2 r2 o2 l1 mn px
      obtain ⟨q, rfl⟩ : ∃ k, q = k + 1 := ⟨q - 1, by omega⟩
      simp only [fo_X5_product_12, lt_u]
      exact ok_t (by rw [show (40 : Int32) = nI 40 by decide, nI_leI (by omega) (by omega)]; omega) (ok_some ⟨o2, rfl, n, st2, r2, by show n ≤ a - a0; omega, mn, px⟩)
    | succ d ih =>
      intro i q a E n st2 h2 e1 e2 r2 o2 l1 mn px
      obtain ⟨q, rfl⟩ : ∃ k, q = k + 1 := ⟨q - 1, by omega⟩
      have step : ∀ k, opI 2 (sgX X e a) = some k → Ok (fo_X5_product_36 f 161 (nI o) (fo_X5_product_12 f 161 (nI o) q) h2 (nI i)) (cpR X e (pCh 2 pn X e (d + 1) a E) h a0 p st) := fun k hk => by
        rw [fo_X5_product_36, p_nextS r2, bd_s]
        simp only [lt_u (nI i + (1 : Int32))]
        refine c_one (by omega) hf ho r hp r2 o2 l1 mn px hk (fun F h3 n3 st3 hF2 r3 o3 l3 mn3 px3 => ?_)
        rw [i1, nI_add]
        exact ih (i + 1) q _ _ n3 st3 h3 (by omega) (by omega) r3 o3 l3 mn3 px3
      simp only [fo_X5_product_12, lt_u]
      rw [p_nextS r2, bd_s, bd_s]
      refine ok_f (by rw [show (40 : Int32) = nI 40 by decide, nI_leI (by omega) (by omega)]; omega) (ok_if (fun w => step 0 (by rw [w]; rfl)) (fun w => ok_if (fun w2 => step 1 (by rw [w2]; rfl)) (fun w2 => ?_)))
      have hn : opI 2 (sgX X e a) = none := by
        show (if sgX X e a = 42 then some 0 else if sgX X e a = 47 then some 1 else none) = none
        rw [if_neg w, if_neg w2]
      rw [pCh, hn]
      exact ok_some ⟨o2, rfl, n, st2, r2, by show n ≤ a - a0; omega, mn, px⟩
  refine ok_bd (hf h a0 p st r hp) (fun q ⟨z0, z1⟩ => ?_)
  unfold pRk
  cases hE : (pn a0).2 with
  | none =>
    rw [hE] at z1
    obtain ⟨y1, p2, st3, y2⟩ := z1
    exact ok_t y1 (ok_some (cpR_n z0 y2 rfl))
  | some E =>
    rw [hE] at z1
    obtain ⟨y1, n, st3, y2, y3, y4, y5⟩ := z1
    have po := ho a0 r.2.2.1
    exact ok_f (by rw [y1]; decide) (go 40 0 FU _ E n st3 q.2 (by omega) (by omega) y2 z0 (by omega) y4 y5)
theorem c_sum {f : Hp → Nat → Int32 → Option (Int32 × Hp)} {pn : Nat → RP} {o : Nat} (hf : CP X e o pn f) (ho : pOk e pn) : CP X e o (pRk 1 40 pn X e) (fo_X5_sum f) := by
  intro h a0 p st r hp
  have hF := FU_big
  have h40 := r.1.2.2.2.2.2
  rw [fo_X5_sum]
  have go : ∀ d i q a E n st2 h2, i + d = 40 → d < q → RdC h2 X e a (p + n) st2 → EqOff F5 h h2 → a0 + n ≤ a → Mn st2 p n E → (∀ k, k < p → st2 k = st k) → Ok (fo_X5_sum_12 f 161 (nI o) q h2 (nI i)) (cpR X e (pCh 1 pn X e d a E) h a0 p st) := by
    intro d
    induction d with
    | zero =>
      intro i q a E n st2 h2 e1 e2 r2 o2 l1 mn px
      obtain ⟨q, rfl⟩ : ∃ k, q = k + 1 := ⟨q - 1, by omega⟩
      simp only [fo_X5_sum_12, lt_u]
      exact ok_t (by rw [show (40 : Int32) = nI 40 by decide, nI_leI (by omega) (by omega)]; omega) (ok_some ⟨o2, rfl, n, st2, r2, by show n ≤ a - a0; omega, mn, px⟩)
    | succ d ih =>
      intro i q a E n st2 h2 e1 e2 r2 o2 l1 mn px
      obtain ⟨q, rfl⟩ : ∃ k, q = k + 1 := ⟨q - 1, by omega⟩
      have step : ∀ k, opI 1 (sgX X e a) = some k → Ok (fo_X5_sum_36 f 161 (nI o) (fo_X5_sum_12 f 161 (nI o) q) h2 (nI i)) (cpR X e (pCh 1 pn X e (d + 1) a E) h a0 p st) := fun k hk => by
        rw [fo_X5_sum_36, p_nextS r2, bd_s]
        simp only [lt_u (nI i + (1 : Int32))]
        refine c_one (by omega) hf ho r hp r2 o2 l1 mn px hk (fun F h3 n3 st3 hF2 r3 o3 l3 mn3 px3 => ?_)
        rw [i1, nI_add]
        exact ih (i + 1) q _ _ n3 st3 h3 (by omega) (by omega) r3 o3 l3 mn3 px3
      simp only [fo_X5_sum_12, lt_u]
      rw [p_nextS r2, bd_s, bd_s]
      refine ok_f (by rw [show (40 : Int32) = nI 40 by decide, nI_leI (by omega) (by omega)]; omega) (ok_if (fun w => step 0 (by rw [w]; rfl)) (fun w => ok_if (fun w2 => step 1 (by rw [w2]; rfl)) (fun w2 => ?_)))
      have hn : opI 1 (sgX X e a) = none := by
        show (if sgX X e a = 43 then some 0 else if sgX X e a = 45 then some 1 else none) = none
        rw [if_neg w, if_neg w2]
      rw [pCh, hn]
      exact ok_some ⟨o2, rfl, n, st2, r2, by show n ≤ a - a0; omega, mn, px⟩
  refine ok_bd (hf h a0 p st r hp) (fun q ⟨z0, z1⟩ => ?_)
  unfold pRk
  cases hE : (pn a0).2 with
  | none =>
    rw [hE] at z1
    obtain ⟨y1, p2, st3, y2⟩ := z1
    exact ok_t y1 (ok_some (cpR_n z0 y2 rfl))
  | some E =>
    rw [hE] at z1
    obtain ⟨y1, n, st3, y2, y3, y4, y5⟩ := z1
    have po := ho a0 r.2.2.1
    exact ok_f (by rw [y1]; decide) (go 40 0 FU _ E n st3 q.2 (by omega) (by omega) y2 z0 (by omega) y4 y5)
theorem c_expr {f : Hp → Nat → Int32 → Option (Int32 × Hp)} {pn : Nat → RP} {o : Nat} (hf : CP X e o pn f) (ho : pOk e pn) : CP X e o (pRk 0 1 pn X e) (fo_X5_expression f) := by
  intro h a0 p st r hp
  have h40 := r.1.2.2.2.2.2
  rw [fo_X5_expression]
  refine ok_bd (hf h a0 p st r hp) (fun q ⟨z0, z1⟩ => ?_)
  unfold pRk
  cases hE : (pn a0).2 with
  | none =>
    rw [hE] at z1
    obtain ⟨y1, p2, st3, y2⟩ := z1
    exact ok_t y1 (ok_some (cpR_n z0 y2 rfl))
  | some E =>
    rw [hE] at z1
    obtain ⟨y1, n, st3, y2, y3, y4, y5⟩ := z1
    have po := ho a0 r.2.2.1
    refine ok_f (by rw [y1]; decide) ?_
    rw [p_nextS y2, bd_s, isCm_h, bd_s]
    simp only
    cases hk : opI 0 (sgX X e (pn a0).1) with
    | none =>
      refine ok_t (show nB false = 0 by decide) ?_
      rw [pCh, hk]
      exact ok_some ⟨z0, rfl, n, st3, y2, y3, y4, y5⟩
    | some k =>
      refine ok_f (show ¬ nB true = 0 by decide) ?_
      refine c_one (by omega) hf ho r hp y2 z0 (by omega) y4 y5 hk (fun F h3 n3 st4 hF2 r3 o3 l3 mn3 px3 => ?_)
      exact ok_some ⟨o3, rfl, n3, st4, r3, by show n3 ≤ (pn ((pn a0).1 + 1)).1 - a0; omega, mn3, px3⟩
theorem fxA_1 (n : Nat) : fx_A (n + 1) = (fo_X5_expression (fx_A n).2.1, fo_X5_sum (fx_A n).2.2.1, fo_X5_product (fx_A n).2.2.2.1, fo_X5_signedThing (fx_A n).2.2.2.2, fo_X5_thing (fx_A n).1) := by
  rw [fx_A, lt_u]
theorem fxA_5 (n : Nat) : (fx_A (n + 5)).1 = fo_X5_expression (fo_X5_sum (fo_X5_product (fo_X5_signedThing (fo_X5_thing (fx_A n).1)))) := by
  rw [show n + 5 = n + 4 + 1 from rfl, fxA_1, show n + 4 = n + 3 + 1 from rfl, fxA_1, show n + 3 = n + 2 + 1 from rfl, fxA_1, show n + 2 = n + 1 + 1 from rfl, fxA_1, fxA_1]
theorem c_pX (he : e ≤ X.length) : ∀ k n, k ≤ 4 → 5 * (k + 1) ≤ n → CP X e (4 - k) (pX X e k) (fx_A n).1 := by
  have st : ∀ px o f, o ≤ 4 → (px = none → o = 4) → (∀ P, px = some P → o < 4 ∧ CP X e (o + 1) P f ∧ pOk e P) → CP X e o (pEx px X e) (fo_X5_expression (fo_X5_sum (fo_X5_product (fo_X5_signedThing (fo_X5_thing f))))) := fun px o f ho h4 hx => by
    have o0 := pTh_o (X := X) he (fun P hP => (hx P hP).2.2)
    have o1 := pSg_o (X := X) o0 40
    have o2 := pRk_o (X := X) (r := 2) (d := 40) (by omega) o1
    have o3 := pRk_o (X := X) (r := 1) (d := 40) (by omega) o2
    exact c_expr (c_sum (c_product (c_signed (c_thing ho h4 hx) o0) o1) o2) o3
  intro k
  induction k with
  | zero =>
    intro n _ hn
    obtain ⟨n, rfl⟩ : ∃ j, n = j + 5 := ⟨n - 5, by omega⟩
    rw [fxA_5]
    exact st none 4 _ (by omega) (fun _ => rfl) (fun P z => by cases z)
  | succ k ih =>
    intro n hk hn
    obtain ⟨n, rfl⟩ : ∃ j, n = j + 5 := ⟨n - 5, by omega⟩
    rw [fxA_5]
    refine st (some (pX X e k)) _ _ (by omega) (fun z => by cases z) (fun P z => ?_)
    cases z
    have := ih n (by omega) (by omega)
    rw [show 4 - k = 4 - (k + 1) + 1 by omega] at this
    exact ⟨by omega, this, pX_o he k⟩
end CPARS
