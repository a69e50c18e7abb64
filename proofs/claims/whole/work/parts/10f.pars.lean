/-! rules: the reading, one for both sides -/
abbrev RP : Type := Nat × Option RE
/-- the sign at a -/
def sgX (X : List Int32) (e a : Nat) : Int32 := if a < e then X.getD a 0 else -1
def ltI (x : Int32) : Option Nat := if x = 115 then some 0 else if x = 97 then some 1 else if x = 111 then some 2 else if x = 104 then some 3 else if x = 119 then some 4 else if x = 99 then some 5 else if x = 114 then some 6 else if x = 110 then some 7 else none
def opI (r : Nat) (x : Int32) : Option Nat := if r = 0 then (if x = 60 then some 0 else if x = 62 then some 1 else if x = 61 then some 2 else none) else if r = 1 then (if x = 43 then some 0 else if x = 45 then some 1 else none) else (if x = 42 then some 0 else if x = 47 then some 1 else none)
def opB (r : Nat) : Nat := if r = 0 then 0 else if r = 1 then 3 else 5
def opE (c : Nat) (E F : RE) : RE := fun env => wrk (nI c) (E env) (F env)
def ngR (b : Bool) (R : RP) : RP := (R.1, R.2.map (fun E => if b = true then (fun env => -(E env)) else E))
def pTh (px : Option (Nat → RP)) (X : List Int32) (e a : Nat) : RP :=
  if 48 ≤ sgX X e a ∧ sgX X e a ≤ 57 then ((nuG X e 3 0 a).2, some (fun _ => nI (nuG X e 3 0 a).1)) else
  match ltI (sgX X e a) with
  | some k => (a + 1, some (fun env => env k))
  | none => if sgX X e a = 40 then (match px with
      | none => (a, none)
      | some f => match (f (a + 1)).2 with
        | none => ((f (a + 1)).1, none)
        | some E => if sgX X e (f (a + 1)).1 = 41 then ((f (a + 1)).1 + 1, some E) else ((f (a + 1)).1, none)) else (a, none)
def pSg (pt : Nat → RP) (X : List Int32) (e : Nat) : Nat → Nat → RP
  | 0, a => pt a
  | d + 1, a => if sgX X e a = 45 then ngR true (pSg pt X e d (a + 1)) else pt a
def pCh (r : Nat) (pn : Nat → RP) (X : List Int32) (e : Nat) : Nat → Nat → RE → RP
  | 0, a, E => (a, some E)
  | d + 1, a, E => match opI r (sgX X e a) with
    | none => (a, some E)
    | some k => match (pn (a + 1)).2 with
      | none => ((pn (a + 1)).1, none)
      | some F => pCh r pn X e d (pn (a + 1)).1 (opE (k + opB r) E F)
def pRk (r d : Nat) (pn : Nat → RP) (X : List Int32) (e a : Nat) : RP := match (pn a).2 with
  | none => ((pn a).1, none)
  | some E => pCh r pn X e d (pn a).1 E
def pEx (px : Option (Nat → RP)) (X : List Int32) (e : Nat) : Nat → RP := pRk 0 1 (pRk 1 40 (pRk 2 40 (pSg (pTh px X e) X e 40) X e) X e) X e
def pX (X : List Int32) (e : Nat) : Nat → Nat → RP
  | 0 => pEx none X e
  | k + 1 => pEx (some (pX X e k)) X e
/-- it goes on, and not too far -/
def pOk (e : Nat) (P : Nat → RP) : Prop := ∀ a, a ≤ e → a ≤ (P a).1 ∧ (P a).1 ≤ e ∧ ∀ E, (P a).2 = some E → a < (P a).1
theorem sgX_lt {X : List Int32} {e a : Nat} {v : Int32} (h : sgX X e a = v) (hv : ¬ v = -1) : a < e := by
  unfold sgX at h
  by_cases w : a < e
  · exact w
  · rw [if_neg w] at h; exact absurd h.symm hv
theorem sgX_m1 {X : List Int32} {e a : Nat} (h : ¬ sgX X e a = -1) : a < e := by
  unfold sgX at h
  by_cases w : a < e
  · exact w
  · rw [if_neg w] at h; exact absurd rfl h
theorem dg_sg {X : List Int32} {e a : Nat} (he : e ≤ X.length) : (dgA X a e).isSome = decide (48 ≤ sgX X e a ∧ sgX X e a ≤ 57) := by
  unfold dgA sgX
  by_cases w : a < e
  · rw [if_pos w]
    by_cases v : (48 : Int32) ≤ X.getD a 0 ∧ X.getD a 0 ≤ 57
    · rw [if_pos ⟨w, by omega, v⟩, decide_eq_true v]; rfl
    · rw [if_neg (fun z => v z.2.2), decide_eq_false v]; rfl
  · rw [if_neg w, if_neg (fun z => w z.1)]; rfl
theorem nuG_lt {X : List Int32} {e a : Nat} (he : e ≤ X.length) (h : 48 ≤ sgX X e a ∧ sgX X e a ≤ 57) : a < (nuG X e 3 0 a).2 ∧ (nuG X e 3 0 a).2 ≤ e := by
  have h1 : (dgA X a e).isSome = true := by rw [dg_sg he]; exact decide_eq_true h
  cases q : dgA X a e with
  | none => rw [q] at h1; cases h1
  | some x =>
    have l := dgA_le q
    have r := nuG_le (X := X) (e := e) 2 (10 * 0 + x) (a + 1)
    rw [show (3 : Nat) = 2 + 1 from rfl, nuG, q]
    exact ⟨by have := r.1; simp only; omega, r.2.1 (by omega)⟩
theorem ltI_f {x : Int32} {k : Nat} (h : ltI x = some k) : (-x < 0) ∧ (¬ -x = -126) ∧ isOp (- -x) = 0 ∧ lIx (- -x) = k ∧ k < 8 ∧ ¬ x = -1 := by
  unfold ltI at h
  split at h
  · rename_i e; subst e; cases h; decide +kernel
  split at h
  · rename_i e; subst e; cases h; decide +kernel
  split at h
  · rename_i e; subst e; cases h; decide +kernel
  split at h
  · rename_i e; subst e; cases h; decide +kernel
  split at h
  · rename_i e; subst e; cases h; decide +kernel
  split at h
  · rename_i e; subst e; cases h; decide +kernel
  split at h
  · rename_i e; subst e; cases h; decide +kernel
  split at h
  · rename_i e; subst e; cases h; decide +kernel
  cases h
theorem opI_f {r : Nat} {x : Int32} {k : Nat} (hr : r ≤ 2) (h : opI r x = some k) : (-x < 0) ∧ (¬ -x = -126) ∧ (¬ isOp (- -x) = 0) ∧ (∀ u v, jnd (- -x) u v = wrk (nI (k + opB r)) u v) ∧ k + opB r < 7 ∧ ¬ x = -1 := by
  unfold opI at h
  rcases (show r = 0 ∨ r = 1 ∨ r = 2 by omega) with rfl | rfl | rfl
  · rw [if_pos rfl] at h
    split at h
    · rename_i e; subst e; cases h; exact ⟨by decide, by decide, by decide +kernel, fun u v => jw0 u v, by decide, by decide⟩
    split at h
    · rename_i e; subst e; cases h; exact ⟨by decide, by decide, by decide +kernel, fun u v => jw1 u v, by decide, by decide⟩
    split at h
    · rename_i e; subst e; cases h; exact ⟨by decide, by decide, by decide +kernel, fun u v => jw2 u v, by decide, by decide⟩
    cases h
  · rw [if_neg (by decide), if_pos rfl] at h
    split at h
    · rename_i e; subst e; cases h; exact ⟨by decide, by decide, by decide +kernel, fun u v => jw3 u v, by decide, by decide⟩
    split at h
    · rename_i e; subst e; cases h; exact ⟨by decide, by decide, by decide +kernel, fun u v => jw4 u v, by decide, by decide⟩
    cases h
  · rw [if_neg (by decide), if_neg (by decide)] at h
    split at h
    · rename_i e; subst e; cases h; exact ⟨by decide, by decide, by decide +kernel, fun u v => jw5 u v, by decide, by decide⟩
    split at h
    · rename_i e; subst e; cases h; exact ⟨by decide, by decide, by decide +kernel, fun u v => jw6 u v, by decide, by decide⟩
    cases h
theorem ngR_ng (b : Bool) (R : RP) : ngR b (ngR true R) = ngR (!b) R := by
  obtain ⟨a, E⟩ := R
  cases E with
  | none => rfl
  | some E =>
    cases b with
    | false => rfl
    | true =>
      show (a, some (fun env => - -(E env))) = (a, some E)
      rw [show (fun env => - -(E env)) = E from funext (fun env => Int32.neg_neg)]
theorem ngR_f (R : RP) : ngR false R = R := by
  obtain ⟨a, E⟩ := R
  cases E <;> rfl
theorem ngR_o {e a : Nat} {b : Bool} {R : RP} (h : a ≤ R.1 ∧ R.1 ≤ e ∧ ∀ E, R.2 = some E → a < R.1) : a ≤ (ngR b R).1 ∧ (ngR b R).1 ≤ e ∧ ∀ E, (ngR b R).2 = some E → a < (ngR b R).1 := by
  refine ⟨h.1, h.2.1, fun E hE => ?_⟩
  cases q : R.2 with
  | none => unfold ngR at hE; rw [q] at hE; cases hE
  | some F => exact h.2.2 F q
theorem pTh_o {px : Option (Nat → RP)} {X : List Int32} {e : Nat} (he : e ≤ X.length) (h : ∀ P, px = some P → pOk e P) : pOk e (pTh px X e) := by
  intro a ha
  unfold pTh
  by_cases w : 48 ≤ sgX X e a ∧ sgX X e a ≤ 57
  · rw [if_pos w]
    have n := nuG_lt he w
    exact ⟨by show a ≤ _; omega, n.2, fun _ _ => n.1⟩
  · rw [if_neg w]
    cases hl : ltI (sgX X e a) with
    | some k =>
      have := sgX_m1 (ltI_f hl).2.2.2.2.2
      exact ⟨by show a ≤ a + 1; omega, by show a + 1 ≤ e; omega, fun _ _ => by show a < a + 1; omega⟩
    | none =>
      simp only
      by_cases w2 : sgX X e a = 40
      · rw [if_pos w2]
        have l := sgX_lt w2 (by decide)
        cases px with
        | none => exact ⟨Nat.le_refl _, ha, fun _ z => by cases z⟩
        | some P =>
          have o := h P rfl (a + 1) (by omega)
          simp only
          cases q : (P (a + 1)).2 with
          | none => exact ⟨by show a ≤ (P (a + 1)).1; omega, o.2.1, fun _ z => by cases z⟩
          | some E =>
            simp only
            by_cases w3 : sgX X e (P (a + 1)).1 = 41
            · rw [if_pos w3]
              have l3 := sgX_lt w3 (by decide)
              exact ⟨by show a ≤ (P (a + 1)).1 + 1; omega, by show (P (a + 1)).1 + 1 ≤ e; omega, fun _ _ => by show a < (P (a + 1)).1 + 1; omega⟩
            · rw [if_neg w3]
              exact ⟨by show a ≤ _; omega, o.2.1, fun _ z => by cases z⟩
      · rw [if_neg w2]; exact ⟨Nat.le_refl _, ha, fun _ z => by cases z⟩
theorem pSg_o {pt : Nat → RP} {X : List Int32} {e : Nat} (h : pOk e pt) : ∀ d, pOk e (pSg pt X e d) := by
  intro d
  induction d with
  | zero => exact h
  | succ d ih =>
    intro a ha
    rw [pSg]
    by_cases w : sgX X e a = 45
    · rw [if_pos w]
      have l := sgX_lt w (by decide)
      have o := ih (a + 1) (by omega)
      exact ngR_o ⟨by omega, o.2.1, fun E hE => by have := o.2.2 E hE; omega⟩
    · rw [if_neg w]; exact h a ha
theorem pCh_o {r : Nat} (hr : r ≤ 2) {pn : Nat → RP} {X : List Int32} {e : Nat} (h : pOk e pn) : ∀ d a E, a ≤ e → a ≤ (pCh r pn X e d a E).1 ∧ (pCh r pn X e d a E).1 ≤ e := by
  intro d
  induction d with
  | zero => intro a E ha; exact ⟨Nat.le_refl _, ha⟩
  | succ d ih =>
    intro a E ha
    rw [pCh]
    cases q : opI r (sgX X e a) with
    | none => exact ⟨Nat.le_refl _, ha⟩
    | some k =>
      have l := sgX_m1 (opI_f hr q).2.2.2.2.2
      have o := h (a + 1) (by omega)
      simp only
      cases q2 : (pn (a + 1)).2 with
      | none => exact ⟨by show a ≤ (pn (a + 1)).1; omega, o.2.1⟩
      | some F =>
        have := ih (pn (a + 1)).1 (opE (k + opB r) E F) o.2.1
        simp only
        omega
theorem pRk_o {r d : Nat} (hr : r ≤ 2) {pn : Nat → RP} {X : List Int32} {e : Nat} (h : pOk e pn) : pOk e (pRk r d pn X e) := by
  intro a ha
  have o := h a ha
  unfold pRk
  cases q : (pn a).2 with
  | none => exact ⟨o.1, o.2.1, fun _ z => by cases z⟩
  | some E =>
    have l := o.2.2 E q
    have c := pCh_o hr h (X := X) d (pn a).1 E o.2.1
    simp only
    exact ⟨by omega, c.2, fun _ _ => by omega⟩
theorem pX_o {X : List Int32} {e : Nat} (he : e ≤ X.length) : ∀ k, pOk e (pX X e k) := by
  have st : ∀ px, (∀ P, px = some P → pOk e P) → pOk e (pEx px X e) := fun px h => pRk_o (by omega) (pRk_o (by omega) (pRk_o (by omega) (pSg_o (pTh_o he h) 40)))
  intro k
  induction k with
  | zero => exact st none (fun P z => by cases z)
  | succ k ih => exact st _ (fun P z => by cases z; exact ih)
