/-! stories: acts by the places where they begin -/
def acI (v : Int32) : Option Nat := if v = 110 then some 0 else if v = 109 then some 1 else if v = 116 then some 2 else if v = 115 then some 3 else if v = 112 then some 4 else none
def acN (k : Nat) : Nat := if k = 0 then 1 else if k < 4 then 2 else 6
def acL (k j : Nat) : Nat := if j = 1 ∧ (k = 2 ∨ k = 3) then 1 else 0
/-- the digits behind an act at a: where one is wanting -/
def dgsG (X : List Int32) (e a k j : Nat) : Nat → Option Nat
  | 0 => none
  | d + 1 => match dgL X (a + 1 + j) e (acL k j) 9 with
    | none => some (a + 1 + j)
    | some _ => dgsG X e a k (j + 1) d
def stG (X : List Int32) (e : Nat) : Nat → List Nat → Nat → Nat ⊕ List Nat
  | 0, ps, _ => .inr ps
  | f + 1, ps, a => if e ≤ a then .inr ps else match acI (X.getD a 0) with
    | none => .inl a
    | some k => match dgsG X e a k 0 (acN k) with
      | some b => .inl b
      | none => stG X e f (ps ++ [a]) (a + 1 + acN k)
def stR (X : List Int32) (e : Nat) (o : Nat ⊕ List Nat) : Int32 := match o with
  | .inl b => nI b
  | .inr _ => if X.length ≤ 60 then -1 else nI e
theorem acI_lt {v : Int32} {k : Nat} (h : acI v = some k) : k ≤ 4 ∧ (k = 0 ↔ v = 110) ∧ (k = 1 ↔ v = 109) ∧ (k = 2 ↔ v = 116) ∧ (k = 3 ↔ v = 115) ∧ (k = 4 ↔ v = 112) := by
  unfold acI at h
  repeat' split at h
  all_goals first
    | (cases h; rename_i e; subst e; decide)
    | (cases h)
theorem acN_le (k : Nat) : 1 ≤ acN k ∧ acN k ≤ 6 := by
  unfold acN
  by_cases a : k = 0
  · rw [if_pos a]; omega
  · rw [if_neg a]
    by_cases b : k < 4
    · rw [if_pos b]; omega
    · rw [if_neg b]; omega
theorem p_dgb (h : Hp) (v : Int32) : f_X9_digitsBehind h v = some (match acI v with
    | none => 0
    | some k => nI (acN k)) := by
  by_cases e0 : v = 110
  · subst e0; rfl
  by_cases e1 : v = 109
  · subst e1; rfl
  by_cases e2 : v = 116
  · subst e2; rfl
  by_cases e3 : v = 115
  · subst e3; rfl
  by_cases e4 : v = 112
  · subst e4; rfl
  unfold f_X9_digitsBehind acI
  simp only [e0, e1, e2, e3, e4, if_false]
  repeat' split
  all_goals rfl
theorem dgsG_b {X : List Int32} {e a k : Nat} : ∀ d j b, a + 1 + j ≤ e → dgsG X e a k j d = some b → b ≤ e := by
  intro d
  induction d with
  | zero => intro j b _ h; cases h
  | succ d ih =>
    intro j b hj h
    rw [dgsG] at h
    cases hd : dgL X (a + 1 + j) e (acL k j) 9 with
    | none => rw [hd] at h; cases h; exact hj
    | some x => rw [hd] at h; have := (dgL_s hd).2.2.1; exact ih (j + 1) b (by omega) h
theorem dgsG_e {X : List Int32} {e a k : Nat} : ∀ d j, dgsG X e a k j d = none → d = 0 ∨ a + 1 + j + d ≤ e := by
  intro d
  induction d with
  | zero => intro j _; exact Or.inl rfl
  | succ d ih =>
    intro j h
    rw [dgsG] at h
    cases hd : dgL X (a + 1 + j) e (acL k j) 9 with
    | none => rw [hd] at h; cases h
    | some x => rw [hd] at h; have := (dgL_s hd).2.2.1; have := ih (j + 1) h; omega
section STORY
variable {h h1 : Hp} {A : Ast}
theorem p_badDig (c : RC h A) {e a k : Nat} (he : e ≤ 60) (hX : e ≤ (aX A).length) (hk : k ≤ 4) {sg R : Int32} (hs : (k = 2 ↔ sg = 116) ∧ (k = 3 ↔ sg = 115)) (hR : ∀ q, e + 1 - (a + 1 + acN k) < q → a + 1 + acN k ≤ e → f_X9_badInStory_20 h 1 q (nI e) (nI 0) sg (nI (a + 1 + acN k)) = some R) : ∀ d j q, j + d = acN k → a + 1 + j ≤ e → e + 1 - (a + 1 + j) < q → f_X9_badInStory_20 h 1 q (nI e) (nI d) sg (nI (a + 1 + j)) = some (match dgsG (aX A) e a k j d with
    | some b => nI b
    | none => R) := by
  intro d
  induction d with
  | zero =>
    intro j q e1 e2 e3
    have : j = acN k := by omega
    subst this
    rw [hR q e3 e2]; rfl
  | succ d ih =>
    intro j q e1 e2 e3
    obtain ⟨q, rfl⟩ : ∃ k, q = k + 1 := ⟨q - 1, by omega⟩
    have hn := acN_le k
    rw [dgsG]
    simp only [f_X9_badInStory_20, f_X9_badInStory_81, f_X9_badInStory_85, f_X9_badInStory_86, f_X9_badInStory_100, f_X9_badInStory_109, f_X9_badInStory_131, lt_u]
    rw [c.s.r1_0]
    by_cases w : e ≤ a + 1 + j
    · rw [if_pos (by rw [nI_leI (by omega) (by omega)]; exact w), if_pos (nI_p (by omega) (by omega))]
      have hd : dgL (aX A) (a + 1 + j) e (acL k j) 9 = none := by
        have : dgA (aX A) (a + 1 + j) e = none := by unfold dgA; rw [if_neg (fun z => by omega)]
        unfold dgL; rw [this]
      rw [hd, show a + 1 + j = e by omega]
    · rw [if_neg (by rw [nI_leI (by omega) (by omega)]; exact w), if_neg (show ¬ nI (d + 1) = 0 by rw [i0, nI_eq (by omega) (by omega)]; omega), gd_t (by decide), p_digit c.x (by omega) (by omega), bd_s, nI_m1 (by omega), Nat.add_sub_cancel, i1, nI_add]
      -- the least digit that may stand here
      have lo : (if nI (d + 1) = nI 1 then (if sg = 116 then (1 : Nat) else if sg = 115 then 1 else 0) else 0) = acL k j := by
        have hz : nI (d + 1) = nI 1 ↔ d = 0 := by rw [nI_eq (by omega) (by omega)]; omega
        unfold acL
        unfold acN at e1
        by_cases z : d = 0
        · rw [if_pos (hz.mpr z)]
          by_cases z2 : sg = 116
          · have := hs.1.mpr z2
            rw [if_pos z2]
            subst this
            rw [if_pos (by simp at e1; omega)]
          · rw [if_neg z2]
            by_cases z3 : sg = 115
            · have := hs.2.mpr z3
              rw [if_pos z3]
              subst this
              rw [if_pos (by simp at e1; omega)]
            · rw [if_neg z3, if_neg (fun y => y.2.elim (fun y2 => z2 (hs.1.mp y2)) (fun y2 => z3 (hs.2.mp y2)))]
        · rw [if_neg (fun y => z (hz.mp y)), if_neg]
          rintro ⟨y1, y2⟩
          rcases y2 with y2 | y2
          · subst y2; simp at e1; omega
          · subst y2; simp at e1; omega
      have step : ∀ L, L = acL k j → (if nI L ≤ oI (dgA (aX A) (a + 1 + j) e) then f_X9_badInStory_20 h 1 q (nI e) (nI d) sg (nI (a + 1 + j + 1)) else some (nI (a + 1 + j))) = some (match (match dgL (aX A) (a + 1 + j) e (acL k j) 9 with
          | none => some (a + 1 + j)
          | some _ => dgsG (aX A) e a k (j + 1) d) with
          | some b => nI b
          | none => R) := fun L hL => by
        subst hL
        have hl1 : acL k j ≤ 1 := by unfold acL; split <;> omega
        have nx := ih (j + 1) q (by omega) (by omega) (by omega)
        rw [show a + 1 + (j + 1) = a + 1 + j + 1 by omega] at nx
        rw [nx]
        unfold dgL
        cases hq : dgA (aX A) (a + 1 + j) e with
        | none =>
          rw [if_neg]
          intro z
          have z : nI (acL k j) ≤ -1 := z
          have := Int32.le_trans (nI_pos' (n := acL k j) (by omega)) z
          exact absurd this (by decide)
        | some y =>
          have hy := (dgA_le hq).1
          have hz : nI (acL k j) ≤ oI (some y) ↔ acL k j ≤ y := by
            show nI (acL k j) ≤ nI y ↔ _
            rw [nI_leI (by omega) (by omega)]
          by_cases z : acL k j ≤ y
          · rw [if_pos (hz.mpr z)]
            simp only [if_pos (show acL k j ≤ y ∧ y ≤ 9 from ⟨z, hy⟩)]
          · rw [if_neg (fun w => z (hz.mp w))]
            simp only [if_neg (show ¬ (acL k j ≤ y ∧ y ≤ 9) from fun w => z w.1)]
      by_cases z : nI (d + 1) = nI 1
      · rw [if_pos z] at lo ⊢
        by_cases z2 : sg = 116
        · rw [if_pos z2] at lo ⊢
          exact step 1 lo
        · rw [if_neg z2] at lo ⊢
          by_cases z3 : sg = 115
          · rw [if_pos z3] at lo ⊢; exact step 1 lo
          · rw [if_neg z3] at lo ⊢; exact step 0 lo
      · rw [if_neg z] at lo ⊢
        exact step 0 lo
theorem p_badStory (c : RC h A) : f_X9_badInStory h 1 = some (stR (aX A) (min (aX A).length 60) (stG (aX A) (min (aX A).length 60) 61 [] 0)) := by
  have hF := FU_big
  have hx := c.x.2.2.2.1
  have hx2 := c.x.2.2.2.2.1
  rw [f_X9_badInStory, c.s.r1_0, hx, show (60 : Int32) = nI 60 by decide, mn_nI (by omega) (by omega), lt_u, gd_t (by decide)]
  generalize he : min (aX A).length 60 = e
  have go : ∀ f q a ps sg, e ≤ a + 2 * f → a ≤ e → e + 1 - a < q → f_X9_badInStory_20 h 1 q (nI e) (nI 0) sg (nI a) = some (stR (aX A) e (stG (aX A) e (f + 1) ps a)) := by
    intro f
    induction f with
    | zero =>
      intro q a ps sg e1 e2 e3
      obtain ⟨q, rfl⟩ : ∃ k, q = k + 1 := ⟨q - 1, by omega⟩
      have : a = e := by omega
      subst this
      rw [stG, if_pos (Nat.le_refl _)]
      simp only [f_X9_badInStory_20, f_X9_badInStory_131, lt_u]
      rw [if_pos (Int32.le_refl _), if_neg (by decide), c.s.r1_0, hx, gd_t (by decide), show (60 : Int32) = nI 60 by decide]
      unfold stR
      simp only [nI_le0 (show (aX A).length < 2 ^ 31 by omega) (show 60 < 2 ^ 31 by omega)]
      by_cases w : (aX A).length ≤ 60
      · rw [if_pos w, if_pos w]
      · rw [if_neg w, if_neg w]
    | succ f ih =>
      intro q a ps sg e1 e2 e3
      obtain ⟨q, rfl⟩ : ∃ k, q = k + 1 := ⟨q - 1, by omega⟩
      rw [stG]
      simp only [f_X9_badInStory_20, f_X9_badInStory_109, f_X9_badInStory_131, lt_u]
      by_cases w : e ≤ a
      · have : a = e := by omega
        subst this
        rw [if_pos (Int32.le_refl _), if_neg (by decide), c.s.r1_0, hx, gd_t (by decide), show (60 : Int32) = nI 60 by decide, if_pos (Nat.le_refl _)]
        unfold stR
        simp only [nI_le0 (show (aX A).length < 2 ^ 31 by omega) (show 60 < 2 ^ 31 by omega)]
        by_cases w : (aX A).length ≤ 60
        · rw [if_pos w, if_pos w]
        · rw [if_neg w, if_neg w]
      · have es : sgA (aX A) a = (aX A).getD a 0 := by unfold sgA; rw [if_pos (by omega)]
        rw [if_neg (by rw [nI_leI (by omega) (by omega)]; exact w), if_pos (show nI 0 = 0 by decide), c.s.r1_0, gd_t (by decide), p_get c.x (by omega), bd_s, es, p_dgb, bd_s, if_neg w]
        cases hk : acI ((aX A).getD a 0) with
        | none => rw [if_pos rfl]; rfl
        | some k =>
          have hl := acI_lt hk
          have hn := acN_le k
          simp only
          rw [if_neg (by rw [i0, nI_eq (by omega) (by omega)]; omega), i1, nI_add]
          have := p_badDig c (e := e) (a := a) (k := k) (sg := (aX A).getD a 0) (R := stR (aX A) e (stG (aX A) e (f + 1) (ps ++ [a]) (a + 1 + acN k))) (by omega) (by omega) hl.1 ⟨hl.2.2.2.1, hl.2.2.2.2.1⟩ (fun q' hq1 hq2 => ih q' _ _ _ (by omega) hq2 hq1) (acN k) 0 q (by omega) (by omega) (by omega)
          rw [show a + 1 + 0 = a + 1 from rfl] at this
          rw [this]
          cases dgsG (aX A) e a k 0 (acN k) <;> rfl
  exact go 60 FU 0 [] 0 (by omega) (by omega) (by omega)
end STORY
