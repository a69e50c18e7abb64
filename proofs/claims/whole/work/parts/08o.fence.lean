def gT : List Nat := [0, 1, 2, 3, 4, 1, 6, 3, 2, 1, 6, 7, 4, 5, 8, 1, 10, 5, 4, 7, 6, 1, 2, 3, 6, 1, 4, 3, 2, 1, 8, 10, 4, 14, 16, 1, 2, 3, 4, 1, 6]
def gN (i : Nat) : Nat := gT.getD i 0
theorem gN_lt (i : Nat) : gN i < 32 := by
  by_cases hi : i < 41
  · have : ∀ i, i < 41 → gN i < 32 := by decide +kernel
    exact this i hi
  · have : gT.length ≤ i := by have e : gT.length = 41 := rfl; omega
    unfold gN
    rw [List.getD_eq_getElem?_getD, List.getElem?_eq_none this]; decide
def rbS (n t acc l : Nat) : Nat := acc ||| 2 ^ (gN l ^^^ gN (n - l - t))
def rbT (n acc t : Nat) : Nat := fo (rbS n t) acc 0 (n + 1 - t)
def rb (n : Nat) : Nat := fo (rbT n) 0 1 3
theorem x16 : ∀ a, a < 32 → ∀ b, b < 32 → a ^^^ b < 32 ∧ ((nI a ^^^ nI b = 0) ↔ a = b) := by decide +kernel
theorem fni_h (h : Hp) (y : Int64) : ∀ n, f_X9_firstNotIn_2 h y n = f_X9_firstNotIn_2 h0 y n := by
  intro n
  induction n with
  | zero => rfl
  | succ n ih => funext x; simp only [f_X9_firstNotIn_2, ih]
theorem rb_f : ∀ n, n < 41 → f_X9_firstNotIn h0 (lN (rb n)) = some (nI (gN n)) := by decide +kernel
theorem rb_m : ∀ n, n < 41 → (rb n).testBit (gN n) = false ∧ ∀ v, v < gN n → (rb n).testBit v = true := by decide +kernel
def fnP (n l t : Nat) : Bool := decide (gN l = gN (n - l - t))
def fnI (n l : Nat) : Option Nat := ff (fnP n l) 1 (min 3 (n - l))
def fnO (n : Nat) : Option (Nat × Nat) := match ff (fun l => (fnI n l).isSome) 0 n with
  | none => none
  | some l => (fnI n l).map (fun t => (l, t))
def fnT (o : Option (Nat × Nat)) : List Int64 := match o with
  | none => []
  | some p => [(nI p.1).toInt64, (nI p.2).toInt64]
def sp_fence (A : Ast) (x : Int32) : Int32 × Ast := match numIn (nI 0) (nI 40) x with
  | some n => (nB (fnO n).isSome, wT A (fnT (fnO n)))
  | none => (-1, A)
section FENCE
variable {h h1 : Hp} {A : Ast} {m n : Nat}
/-- the nimbers are laid out below i -/
def nmL (h : Hp) (r i : Nat) : Prop := ∀ k, k < i → hpI h r k = nI (gN k)
theorem c_count1 (c : RC h A) {N k : Nat} (hk : k ≤ 40) (hm : nmL h 177 k) (k2 : Hp → Int32 → Option Hp) {Q : Hp → Prop} (kk : ∀ h3, RC h3 A → nmL h3 177 (k + 1) → EqOff (fun x => x = 177) h h3 → Ok (k2 h3 (nI (k + 1))) Q) : Ok (f_X9_countNimbers_12 1 (nI N) k2 FU h (nI k) 0 (nI 1)) Q := by
  have hF := FU_big
  refine okf (fun q (s : Nat) t => f_X9_countNimbers_12 1 (nI N) k2 q h (nI k) (lN s) t) 4 (rbT k) (fun _ s acc => s = acc) Q 1 (fun q t s acc t1 t2 d jj => ?_) 3 FU 1 0 0 (by omega) (by omega) (by omega) rfl (fun q s d => ?_)
  · subst d
    show Ok (f_X9_countNimbers_12 1 (nI N) k2 (q + 1) h (nI k) (lN s) (nI t)) Q
    simp only [f_X9_countNimbers_12]
    refine ok_lt (fun k2' ek => ?_)
    subst ek
    refine ok_f (by rw [i3, nI_ltI (by omega) (by omega)]; omega) ?_
    have go : ∀ d q' l s', l + d = k + 1 - t → d < q' → (l + t ≤ k + 1 ∨ l = 0) → fo (rbS k t) s' l d = rbT k s t → Ok (f_X9_countNimbers_21 1 (nI N) k2 (f_X9_countNimbers_12 1 (nI N) k2 q) q' h (nI k) (lN s') (nI t) (nI l)) Q := by
      intro d
      induction d with
      | zero =>
        intro q' l s' e1 e2 e4 e3
        obtain ⟨q', rfl⟩ : ∃ k, q' = k + 1 := ⟨q' - 1, by omega⟩
        simp only [f_X9_countNimbers_21]
        refine ok_lt (fun k3 ek => ?_)
        clear ek
        rw [nI_add, lt_u, i1, nI_add]
        refine ok_t (by rw [nI_ltI (by omega) (by omega)]; omega) ?_
        have e3 : s' = rbT k s t := e3
        rw [e3]
        exact jj _ rfl
      | succ d ih =>
        intro q' l s' e1 e2 e4 e3
        obtain ⟨q', rfl⟩ : ∃ k, q' = k + 1 := ⟨q' - 1, by omega⟩
        simp only [f_X9_countNimbers_21]
        refine ok_lt (fun k3 ek => ?_)
        subst ek
        have g1 := gN_lt l
        have g2 := gN_lt (k - l - t)
        have hx := (x16 _ g1 _ g2).1
        rw [nI_add, c.s.r1_15, c.s.t177, pk_sub (by omega), pk_sub (by omega), ix_nI (by omega), ix_nI (by omega), hm l (by omega), hm (k - l - t) (by omega), nI_xor, shl_1L _ (by omega)]
        simp only [lt_u]
        rw [lN_or, show nI l + (1 : Int32) = nI (l + 1) by rw [i1, nI_add]]
        refine ok_f (by rw [nI_ltI (by omega) (by omega)]; omega) (ok_gd (by decide) (ok_gd (inb_nI (by omega) (by omega)) (ok_gd (inb_nI (by omega) (by omega)) ?_)))
        exact ih q' (l + 1) _ (by omega) (by omega) (by omega) e3
    exact go (k + 1 - t) FU 0 s (by omega) (by omega) (by omega) rfl
  · have d : s = rb k := d
    subst d
    show Ok (f_X9_countNimbers_12 1 (nI N) k2 (q + 1) h (nI k) (lN (rb k)) (nI 4)) Q
    simp only [f_X9_countNimbers_12]
    refine ok_lt (fun k3 ek => ?_)
    clear ek
    rw [c.s.r1_15, c.s.t177, show f_X9_firstNotIn h (lN (rb k)) = f_X9_firstNotIn h0 (lN (rb k)) by unfold f_X9_firstNotIn; rw [fni_h], rb_f k (by omega), bd_s, ix_nI (by omega)]
    refine ok_t (by decide) (ok_gd (by decide) (ok_gd (inb_nI (by omega) (by omega)) (ok_lt (fun h7 e7 => ?_))))
    rw [lt_u, i1, nI_add]
    have o7 : EqOff (fun x => x = 177) h h7 := by rw [e7]; exact EqOff.uI rfl
    refine kk h7 (c.scr (o7.mono (fun x z => by unfold Fs; omega))) (fun j hj => ?_) o7
    rw [e7, hpI_upI]
    by_cases w : j = k
    · rw [if_pos ⟨rfl, w⟩, w]
    · rw [if_neg (fun z => w z.2)]; exact hm j (by omega)
theorem c_nimb (c : RC h A) {N : Nat} (hN : N ≤ 40) : Ok (f_X9_countNimbers h 1 (nI N)) (fun h1 => RC h1 A ∧ nmL h1 177 (N + 1) ∧ EqOff FX h h1) := by
  have hF := FU_big
  refine okl (fun q (h2 : Hp) k => f_X9_countNimbers_2 1 (nI N) q h2 k) (N + 1) (fun k h2 => RC h2 A ∧ nmL h2 177 k ∧ EqOff FX h h2) _ (fun q k h2 hk ⟨d1, d2, d3⟩ kk => ?_) (fun q h2 ⟨d1, d2, d3⟩ => ?_) (N + 1) FU 0 h (by omega) (by omega) ⟨c, fun k hk => by omega, EqOff.rf⟩
  · show Ok (f_X9_countNimbers_2 1 (nI N) (q + 1) h2 (nI k)) _
    simp only [f_X9_countNimbers_2]
    refine ok_lt (fun k3 ek => ?_)
    subst ek
    refine ok_f (by rw [nI_ltI (by omega) (by omega)]; omega) ?_
    exact c_count1 d1 (by omega) d2 _ (fun h3 z1 z2 z3 => kk h3 ⟨z1, z2, d3.tr (z3.mono (fun x z => by unfold FX; omega))⟩)
  · show Ok (f_X9_countNimbers_2 1 (nI N) (q + 1) h2 (nI (N + 1))) _
    simp only [f_X9_countNimbers_2]
    refine ok_lt (fun k3 ek => ?_)
    exact ok_t (by rw [nI_ltI (by omega) (by omega)]; omega) (ok_some ⟨d1, d2, d3⟩)
theorem c_fence (c : RC h A) (x : Int32) : Ok (f_X9_fence h 1 x) (fun o => o.1 = (sp_fence A x).1 ∧ RC o.2 (sp_fence A x).2 ∧ EqOff FX h o.2) := by
  have hF := FU_big
  rw [f_X9_fence, i0, show (40 : Int32) = nI 40 by decide]
  unfold sp_fence
  rcases numAlt (lo := 0) (hi := 40) (by omega) (by omega) x with ⟨e, q⟩ | ⟨N, e, rfl, g1, g2⟩
  · rw [e]
    refine ok_if (fun _ => ok_some ⟨rfl, c, EqOff.rf⟩) (fun q2 => ok_f (fun w => ?_) (ok_some ⟨rfl, c, EqOff.rf⟩))
    exact absurd (q.resolve_left q2) (Int32.not_lt.mpr w)
  · rw [e]
    refine ok_f (by rw [nI_ltI (by omega) (by omega)]; omega) (ok_t (by rw [nI_leI (by omega) (by omega)]; omega) (ok_bd (c_nimb c g2) (fun h3 ⟨c3, m3, o3⟩ => ?_)))
    rw [c3.s.r1_1]
    refine ok_gd (by decide) (ok_bd (c_t0 c3) (fun h6 ⟨c6, o6⟩ => ?_))
    have m6 : nmL h6 177 (N + 1) := fun k hk => by rw [o6.1 _ _ (by unfold F2; omega)]; exact m3 k hk
    have o36 : EqOff FX h h6 := o3.tr (F24y o6)
    have go : ∀ d q l, l + d = N → d < q → Ok (f_X9_fence_26 1 (nI N) q h6 (nI l)) (fun o => o.1 = nB (match ff (fun l => (fnI N l).isSome) l d with
        | none => none
        | some l => (fnI N l).map (fun t => (l, t))).isSome ∧ RC o.2 (wT A (fnT (match ff (fun l => (fnI N l).isSome) l d with
        | none => none
        | some l => (fnI N l).map (fun t => (l, t))))) ∧ EqOff FX h o.2) := by
      intro d
      induction d with
      | zero =>
        intro q l e1 e2
        obtain ⟨q, rfl⟩ : ∃ k, q = k + 1 := ⟨q - 1, by omega⟩
        have : l = N := by omega
        subst this
        simp only [f_X9_fence_26, ff]
        refine ok_lt (fun k3 ek => ?_)
        exact ok_t (Int32.le_refl _) (ok_some ⟨rfl, c6, o36⟩)
      | succ d ih =>
        intro q l e1 e2
        obtain ⟨q, rfl⟩ : ∃ k, q = k + 1 := ⟨q - 1, by omega⟩
        rw [ff]
        simp only [f_X9_fence_26]
        refine ok_lt (fun k3 ek => ?_)
        subst ek
        refine ok_f (by rw [nI_leI (by omega) (by omega)]; omega) ?_
        have inn : ∀ d' q' t, 1 ≤ t → t + d' = 1 + min 3 (N - l) → d' < q' → (fnI N l = ff (fnP N l) t d') → Ok (f_X9_fence_33 1 (nI N) (f_X9_fence_26 1 (nI N) q) q' h6 (nI l) (nI t)) (fun o => o.1 = nB (match (if (fnI N l).isSome = true then some l else ff (fun l => (fnI N l).isSome) (l + 1) d) with
            | none => none
            | some l => (fnI N l).map (fun t => (l, t))).isSome ∧ RC o.2 (wT A (fnT (match (if (fnI N l).isSome = true then some l else ff (fun l => (fnI N l).isSome) (l + 1) d) with
            | none => none
            | some l => (fnI N l).map (fun t => (l, t))))) ∧ EqOff FX h o.2) := by
          intro d'
          induction d' with
          | zero =>
            intro q' t t1 e3 e4 e5
            obtain ⟨q', rfl⟩ : ∃ k, q' = k + 1 := ⟨q' - 1, by omega⟩
            have e5 : fnI N l = none := e5
            simp only [f_X9_fence_33, f_X9_fence_91]
            refine ok_lt (fun k3 ek => ?_)
            clear ek
            rw [nI_add, lt_u, i1, nI_add, e5]
            have nxt := ih q (l + 1) (by omega) (by omega)
            simp only [Option.isSome_none, Bool.false_eq_true, if_false]
            by_cases w : 3 < t
            · exact ok_t (by rw [i3, nI_ltI (by omega) (by omega)]; exact w) nxt
            · exact ok_f (by rw [i3, nI_ltI (by omega) (by omega)]; exact w) (ok_t (by rw [nI_ltI (by omega) (by omega)]; omega) nxt)
          | succ d' ih' =>
            intro q' t t1 e3 e4 e5
            obtain ⟨q', rfl⟩ : ∃ k, q' = k + 1 := ⟨q' - 1, by omega⟩
            simp only [f_X9_fence_33]
            refine ok_lt (fun k3 ek => ?_)
            subst ek
            have g1 := gN_lt l
            have g2 := gN_lt (N - l - t)
            have hx := (x16 _ g1 _ g2).2
            rw [nI_add, c6.s.r1_15, c6.s.t177, pk_sub (by omega), pk_sub (by omega), ix_nI (by omega), ix_nI (by omega), m6 l (by omega), m6 (N - l - t) (by omega), c6.s.r1_1]
            refine ok_f (by rw [i3, nI_ltI (by omega) (by omega)]; omega) (ok_f (by rw [nI_ltI (by omega) (by omega)]; omega) (ok_gd (by decide) (ok_gd (inb_nI (by omega) (by omega)) (ok_gd (inb_nI (by omega) (by omega)) ?_))))
            rw [ff] at e5
            refine ok_if (fun z => ?_) (fun z => ?_)
            · have ep : fnP N l t = true := decide_eq_true (hx.mp z)
              rw [if_pos ep] at e5
              rw [e5]
              refine ok_gd (by decide) (ok_bd (c_t1 c6 (by simp [aT, wT, mkA]) _) (fun h19 ⟨c19, o19⟩ => ?_))
              rw [c19.s.r1_1]
              refine ok_gd (by decide) (ok_bd (c_t1 c19 (by simp [aT, wT, mkA]) _) (fun h22 ⟨c22, o22⟩ => ok_some ?_))
              simp only [Option.isSome_some, if_true, e5, Option.map_some]
              exact ⟨rfl, c22, o36.tr ((F24y o19).tr (F24y o22))⟩
            · have ep : fnP N l t = false := decide_eq_false (fun y => z (hx.mpr y))
              rw [ep, if_neg (by simp)] at e5
              rw [lt_u, i1, nI_add]
              exact ih' q' (t + 1) (by omega) (by omega) (by omega) e5
        exact inn (min 3 (N - l)) FU 1 (by omega) (by omega) (by omega) rfl
    exact go N FU 0 (by omega) (by omega)
end FENCE
