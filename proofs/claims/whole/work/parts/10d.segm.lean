/-! rules: what a stretch of the reference's code does -/
def sgm (env : Nat → Int32) (code : Nat → Int32) (p : Nat) : Nat → Stk → Stk
  | 0, s => s
  | n + 1, s => mst env (code (p + n)) (sgm env code p n s)
def Mr (code : Nat → Int32) (p n : Nat) (E : RE) : Prop := 1 ≤ n ∧ ∀ env s, s.1 + n ≤ 80 → (∀ k, k < n → mOk (code (p + k)) (sgm env code p k s).1) ∧ (sgm env code p n s).1 = s.1 + 1 ∧ (sgm env code p n s).2 s.1 = E env ∧ ∀ i, i < s.1 → (sgm env code p n s).2 i = s.2 i
theorem sgm_add {env : Nat → Int32} {code : Nat → Int32} {p a : Nat} {s : Stk} : ∀ b, sgm env code p (a + b) s = sgm env code (p + a) b (sgm env code p a s) := by
  intro b
  induction b with
  | zero => rfl
  | succ b ih => rw [← Nat.add_assoc, sgm, sgm, ih, Nat.add_assoc]
theorem sgm_0 {env : Nat → Int32} {code : Nat → Int32} : ∀ n, sgm env code 0 n (0, fun _ => 0) = mrn env code n := by
  intro n
  induction n with
  | zero => rfl
  | succ n ih => rw [sgm, mrn, ih, Nat.zero_add]
theorem sgm_ext {env : Nat → Int32} {code c2 : Nat → Int32} {p : Nat} {s : Stk} : ∀ n, (∀ k, p ≤ k → k < p + n → c2 k = code k) → sgm env c2 p n s = sgm env code p n s := by
  intro n
  induction n with
  | zero => intro _; rfl
  | succ n ih => intro h; rw [sgm, sgm, ih (fun k h1 h2 => h k h1 (by omega)), h (p + n) (by omega) (by omega)]
theorem Mr.ext {code c2 : Nat → Int32} {p n : Nat} {E : RE} (m : Mr code p n E) (h : ∀ k, p ≤ k → k < p + n → c2 k = code k) : Mr c2 p n E := ⟨m.1, fun env s hs => by
  obtain ⟨m1, m2⟩ := m.2 env s hs
  rw [sgm_ext n h]
  refine ⟨fun k hk => ?_, m2⟩
  rw [sgm_ext k (fun i h1 h2 => h i h1 (by omega)), h (p + k) (by omega) (by omega)]
  exact m1 k hk⟩
/-- a whole code -/
theorem Mr.rd {code : Nat → Int32} {n : Nat} {E : RE} (m : Mr code 0 n E) (hn : n ≤ 80) : rdM n code E := by
  refine ⟨hn, fun env => ?_⟩
  obtain ⟨m1, m2, m3, m4⟩ := m.2 env (0, fun _ => 0) (by show 0 + n ≤ 80; omega)
  have m0 := m.1
  rw [sgm_0] at m2 m3
  refine ⟨fun k hk => ?_, ?_⟩
  · have := m1 k hk
    rw [sgm_0, Nat.zero_add] at this
    exact this
  · rw [if_neg (by omega)]
    exact ⟨by omega, m3.symm⟩
theorem Mr.psh {code : Nat → Int32} {p : Nat} {c : Int32} {E : RE} (h : code p = c) (h1 : ¬ c = 3000) (h2 : c < 2000) (h3 : ¬ c < 1000 → c < 1008) (hE : ∀ env : Nat → Int32, (if c < 1000 then c else env (ix (c - 1000))) = E env) : Mr code p 1 E := ⟨Nat.le_refl _, fun env s hs => by
  have e : sgm env code p 1 s = (s.1 + 1, stU s.2 s.1 (E env)) := by
    show mst env (code (p + 0)) s = _
    rw [Nat.add_zero, h]
    unfold mst
    rw [if_neg h1, if_pos h2, hE env]
  rw [e]
  refine ⟨fun k hk => ?_, rfl, ?_, fun i hi => ?_⟩
  · have : k = 0 := by omega
    subst this
    rw [Nat.add_zero, h]
    unfold mOk
    rw [if_neg h1, if_pos h2]
    exact ⟨show s.1 < 80 by omega, h3⟩
  · show stU s.2 s.1 (E env) s.1 = _
    unfold stU; rw [if_pos rfl]
  · show stU s.2 s.1 (E env) i = _
    unfold stU; rw [if_neg (by omega)]⟩
theorem Mr.neg {code : Nat → Int32} {p n : Nat} {E : RE} (m : Mr code p n E) (h : code (p + n) = 3000) : Mr code p (n + 1) (fun env => -(E env)) := ⟨by omega, fun env s hs => by
  obtain ⟨m0, m1, m2, m3⟩ := m.2 env s (by omega)
  have e : sgm env code p (n + 1) s = ((sgm env code p n s).1, stU (sgm env code p n s).2 s.1 (-(E env))) := by
    rw [sgm, h]
    unfold mst
    rw [if_pos rfl, m1, Nat.add_sub_cancel, m2]
  refine ⟨fun k hk => ?_, ?_⟩
  · by_cases w : k = n
    · subst w
      rw [h, m1]
      unfold mOk
      rw [if_pos rfl]; omega
    · exact m0 k (by omega)
  · rw [e]
    refine ⟨m1, ?_, fun i hi => ?_⟩
    · show stU _ s.1 _ s.1 = _
      unfold stU; rw [if_pos rfl]
    · show stU _ s.1 _ i = _
      unfold stU; rw [if_neg (by omega)]; exact m3 i hi⟩
theorem Mr.bin {code : Nat → Int32} {p a b : Nat} {E F : RE} {c : Int32} (m : Mr code p a E) (n : Mr code (p + a) b F) (h : code (p + a + b) = c) (h1 : ¬ c = 3000) (h2 : ¬ c < 2000) : Mr code p (a + b + 1) (fun env => wrk (c - 2000) (E env) (F env)) := ⟨by omega, fun env s hs => by
  have a1 := m.1
  obtain ⟨m0, m1, m2, m3⟩ := m.2 env s (by omega)
  obtain ⟨n0, n1, n2, n3⟩ := n.2 env (sgm env code p a s) (by omega)
  have x1 : (sgm env code p (a + b) s).1 = s.1 + 2 := by rw [sgm_add, n1, m1]
  have e : sgm env code p (a + b + 1) s = (s.1 + 1, stU (sgm env code p (a + b) s).2 s.1 (wrk (c - 2000) (E env) (F env))) := by
    rw [sgm, ← Nat.add_assoc, h]
    unfold mst
    rw [if_neg h1, if_neg h2, x1, show s.1 + 2 - 1 = s.1 + 1 by omega, show s.1 + 2 - 2 = s.1 by omega]
    have y1 : (sgm env code p (a + b) s).2 s.1 = E env := by rw [sgm_add, n3 s.1 (by omega), m2]
    have y2 : (sgm env code p (a + b) s).2 (s.1 + 1) = F env := by rw [sgm_add, ← m1]; exact n2
    rw [y1, y2]
  refine ⟨fun k hk => ?_, ?_⟩
  · by_cases w : k = a + b
    · subst w
      rw [← Nat.add_assoc, h, x1]
      unfold mOk
      rw [if_neg h1, if_neg h2]; omega
    · by_cases w2 : k < a
      · exact m0 k w2
      · have := n0 (k - a) (by omega)
        rw [← sgm_add, show p + a + (k - a) = p + k by omega, show a + (k - a) = k by omega] at this
        exact this
  · rw [e]
    refine ⟨rfl, ?_, fun i hi => ?_⟩
    · show stU _ s.1 _ s.1 = _
      unfold stU; rw [if_pos rfl]
    · show stU _ s.1 _ i = _
      unfold stU; rw [if_neg (by omega), sgm_add, n3 i (by omega)]; exact m3 i hi⟩
