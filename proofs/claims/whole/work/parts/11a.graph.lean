/-! ways: a graph whose places are numbers; nx u s the place at side s < 4 of u; w what it costs to come to a place; g the end; D what is yet to go -/
def NVR : Nat := 1000000
def Yt (V : Nat → Prop) (nx : Nat → Nat → Option Nat) (w : Nat → Nat) (g : Nat) (D : Nat → Nat) : Prop := D g = 0 ∧ (∀ u, V u → D u ≤ NVR) ∧ (∀ u s v, V u → s < 4 → nx u s = some v → D u ≤ D v + w v) ∧ ∀ u, V u → D u < NVR → u = g ∨ ∃ s v, s < 4 ∧ nx u s = some v ∧ D u = D v + w v
/-- the places next to one stand in the graph, and each costs something -/
def Gr (V : Nat → Prop) (nx : Nat → Nat → Option Nat) (w : Nat → Nat) : Prop := ∀ u s v, V u → s < 4 → nx u s = some v → V v ∧ 1 ≤ w v
def stq (nx : Nat → Nat → Option Nat) (w D : Nat → Nat) (u s : Nat) : Bool := match nx u s with
  | some v => decide (D v + w v = D u)
  | none => false
/-- the first side on which one goes on -/
def stp (nx : Nat → Nat → Option Nat) (w D : Nat → Nat) (u : Nat) : Option Nat := match ff (stq nx w D u) 0 4 with
  | some s => nx u s
  | none => none
def nxt (nx : Nat → Nat → Option Nat) (w D : Nat → Nat) (u : Nat) : Nat := (stp nx w D u).getD u
def pth (nx : Nat → Nat → Option Nat) (w D : Nat → Nat) (u : Nat) : Nat → Nat
  | 0 => u
  | k + 1 => nxt nx w D (pth nx w D u k)
theorem inj_le : ∀ N n (f : Nat → Nat), (∀ i, i < n → f i < N) → (∀ i j, i < j → j < n → f i ≠ f j) → n ≤ N := by
  intro N
  induction N with
  | zero =>
    intro n f h1 _
    by_cases w : n = 0
    · omega
    · exact absurd (h1 0 (by omega)) (Nat.not_lt_zero _)
  | succ N ih =>
    intro n f h1 h2
    by_cases w : ∃ i, i < n ∧ f i = N
    · obtain ⟨a, ha, ea⟩ := w
      have := ih (n - 1) (fun j => if j < a then f j else f (j + 1)) (fun j hj => ?_) (fun i j hi hj => ?_)
      · omega
      · show (if j < a then f j else f (j + 1)) < N
        by_cases q : j < a
        · rw [if_pos q]
          have := h1 j (by omega)
          have := h2 j a q ha
          omega
        · rw [if_neg q]
          have := h1 (j + 1) (by omega)
          have := h2 a (j + 1) (by omega) (by omega)
          omega
      · show (if i < a then f i else f (i + 1)) ≠ (if j < a then f j else f (j + 1))
        by_cases q : i < a
        · rw [if_pos q]
          by_cases q2 : j < a
          · rw [if_pos q2]; exact h2 i j hi (by omega)
          · rw [if_neg q2]; exact h2 i (j + 1) (by omega) (by omega)
        · rw [if_neg q, if_neg (by omega)]; exact h2 (i + 1) (j + 1) (by omega) (by omega)
    · have := ih n f (fun i hi => ?_) h2
      · omega
      · have := h1 i hi
        have : f i ≠ N := fun z => w ⟨i, hi, z⟩
        omega
section GRAPH
variable {V : Nat → Prop} {nx : Nat → Nat → Option Nat} {w : Nat → Nat} {g : Nat} {D D2 : Nat → Nat}
theorem Yt.le (gr : Gr V nx w) (y : Yt V nx w g D) (z : Yt V nx w g D2) : ∀ k u, V u → D u ≤ k → D2 u ≤ D u := by
  intro k
  induction k with
  | zero =>
    intro u hu hk
    rcases y.2.2.2 u hu (by unfold NVR; omega) with rfl | ⟨s, v, hs, hv, e⟩
    · rw [z.1]; omega
    · have := (gr u s v hu hs hv).2
      omega
  | succ k ih =>
    intro u hu hk
    by_cases q : D u < NVR
    · rcases y.2.2.2 u hu q with rfl | ⟨s, v, hs, hv, e⟩
      · rw [z.1]; omega
      · have g2 := gr u s v hu hs hv
        have := ih v g2.1 (by omega)
        have := z.2.2.1 u s v hu hs hv
        omega
    · have := z.2.1 u hu
      omega
theorem Yt.uq (gr : Gr V nx w) (y : Yt V nx w g D) (z : Yt V nx w g D2) {u : Nat} (hu : V u) : D u = D2 u := Nat.le_antisymm (Yt.le gr z y _ u hu (Nat.le_refl _)) (Yt.le gr y z _ u hu (Nat.le_refl _))
theorem Yt.z (gr : Gr V nx w) (y : Yt V nx w g D) {u : Nat} (hu : V u) (h0 : D u = 0) : u = g := by
  rcases y.2.2.2 u hu (by unfold NVR; omega) with e | ⟨s, v, hs, hv, e⟩
  · exact e
  · have := (gr u s v hu hs hv).2
    omega
/-- where one goes on -/
theorem stp_s (y : Yt V nx w g D) {u : Nat} (hu : V u) (h0 : 0 < D u) (h1 : D u < NVR) : ∃ s, s < 4 ∧ nx u s = some (nxt nx w D u) ∧ stp nx w D u = some (nxt nx w D u) ∧ D (nxt nx w D u) + w (nxt nx w D u) = D u ∧ ∀ t, t < s → stq nx w D u t = false := by
  cases e : ff (stq nx w D u) 0 4 with
  | none =>
    rcases y.2.2.2 u hu h1 with rfl | ⟨s, v, hs, hv, e2⟩
    · rw [y.1] at h0; omega
    · have := (ff_none 4 0).mp e s (by omega) (by omega)
      unfold stq at this
      rw [hv] at this
      simp only [decide_eq_false_iff_not] at this
      exact absurd e2.symm this
  | some s =>
    obtain ⟨_, hs, hq⟩ := ff_s 4 0 s e
    have hf := ff_f 4 0 s e
    have hq2 := hq
    unfold stq at hq2
    cases hv : nx u s with
    | none => rw [hv] at hq2; cases hq2
    | some v =>
      rw [hv] at hq2
      simp only [decide_eq_true_eq] at hq2
      have es : stp nx w D u = some v := by unfold stp; rw [e]; exact hv
      have en : nxt nx w D u = v := by unfold nxt; rw [es]; rfl
      exact ⟨s, by omega, by rw [en]; exact hv, by rw [en]; exact es, by rw [en]; exact hq2, fun t ht => hf t (by omega) ht⟩
/-- the way that is told has L steps -/
def Way (V : Nat → Prop) (nx : Nat → Nat → Option Nat) (w D : Nat → Nat) (u L : Nat) : Prop := (∀ k, k ≤ L → V (pth nx w D u k) ∧ D (pth nx w D u k) < NVR) ∧ D (pth nx w D u L) = 0 ∧ ∀ k, k < L → 0 < D (pth nx w D u k)
theorem pth_s {u : Nat} : ∀ k, pth nx w D (nxt nx w D u) k = pth nx w D u (k + 1) := by
  intro k
  induction k with
  | zero => rfl
  | succ k ih => rw [pth, ih]; rfl
theorem way_ex (gr : Gr V nx w) (y : Yt V nx w g D) : ∀ n u, V u → D u ≤ n → D u < NVR → ∃ L, L ≤ D u ∧ Way V nx w D u L := by
  intro n
  induction n with
  | zero =>
    intro u hu hn hN
    exact ⟨0, Nat.zero_le _, fun k hk => by rw [show k = 0 by omega]; exact ⟨hu, hN⟩, show D u = 0 by omega, fun k hk => absurd hk (Nat.not_lt_zero k)⟩
  | succ n ih =>
    intro u hu hn hN
    by_cases q : D u = 0
    · exact ⟨0, Nat.zero_le _, fun k hk => by rw [show k = 0 by omega]; exact ⟨hu, hN⟩, q, fun k hk => absurd hk (Nat.not_lt_zero k)⟩
    · obtain ⟨s, hs, hv, _, e, _⟩ := stp_s y hu (by omega) hN
      have g2 := gr u s _ hu hs hv
      obtain ⟨L, l0, l1, l2, l3⟩ := ih _ g2.1 (by omega) (by omega)
      refine ⟨L + 1, by omega, fun k hk => ?_, ?_, fun k hk => ?_⟩
      · cases k with
        | zero => exact ⟨hu, hN⟩
        | succ k => rw [← pth_s]; exact l1 k (by omega)
      · rw [← pth_s]; exact l2
      · cases k with
        | zero => exact Nat.pos_of_ne_zero q
        | succ k => rw [← pth_s]; exact l3 k (by omega)
theorem Way.st (y : Yt V nx w g D) {u L : Nat} (a : Way V nx w D u L) {k : Nat} (hk : k < L) : ∃ s, s < 4 ∧ nx (pth nx w D u k) s = some (pth nx w D u (k + 1)) ∧ stp nx w D (pth nx w D u k) = some (pth nx w D u (k + 1)) ∧ D (pth nx w D u (k + 1)) + w (pth nx w D u (k + 1)) = D (pth nx w D u k) ∧ ∀ t, t < s → stq nx w D (pth nx w D u k) t = false :=
  stp_s y (a.1 k (by omega)).1 (a.2.2 k hk) (a.1 k (by omega)).2
theorem Way.dec (gr : Gr V nx w) (y : Yt V nx w g D) {u L : Nat} (a : Way V nx w D u L) : ∀ d k, k + d ≤ L → D (pth nx w D u (k + d)) + d ≤ D (pth nx w D u k) := by
  intro d
  induction d with
  | zero => intro k _; exact Nat.le_refl _
  | succ d ih =>
    intro k hk
    have := ih k (by omega)
    obtain ⟨s, hs, hv, _, e, _⟩ := a.st y (k := k + d) (by omega)
    have g2 := gr _ s _ (a.1 (k + d) (by omega)).1 hs hv
    show D (pth nx w D u (k + d + 1)) + (d + 1) ≤ _
    omega
theorem Way.inj (gr : Gr V nx w) (y : Yt V nx w g D) {u L : Nat} (a : Way V nx w D u L) {i j : Nat} (h1 : i < j) (h2 : j ≤ L) : pth nx w D u i ≠ pth nx w D u j := fun z => by
  have := a.dec gr y (j - i) i (by omega)
  rw [show i + (j - i) = j by omega, ← z] at this
  omega
theorem Way.gl (gr : Gr V nx w) (y : Yt V nx w g D) {u L : Nat} (a : Way V nx w D u L) : pth nx w D u L = g := y.z gr (a.1 L (Nat.le_refl _)).1 a.2.1
theorem Way.uq {u L L2 : Nat} (a : Way V nx w D u L) (b : Way V nx w D u L2) : L = L2 := by
  rcases Nat.lt_trichotomy L L2 with q | q | q
  · have := b.2.2 L q
    rw [a.2.1] at this; omega
  · exact q
  · have := a.2.2 L2 q
    rw [b.2.1] at this; omega
/-- all steps cost 1 -/
theorem Way.one (y : Yt V nx w g D) {u L : Nat} (a : Way V nx w D u L) (h1 : ∀ k, k < L → w (pth nx w D u (k + 1)) = 1) : ∀ k, k ≤ L → D (pth nx w D u k) + k = D u := by
  intro k
  induction k with
  | zero => intro _; rfl
  | succ k ih =>
    intro hk
    obtain ⟨s, hs, hv, _, e, _⟩ := a.st y (k := k) (by omega)
    have := h1 k (by omega)
    have := ih (by omega)
    omega
theorem pth_congr {D2 : Nat → Nat} (gr : Gr V nx w) (h : ∀ u, V u → D u = D2 u) (y : Yt V nx w g D) {u L : Nat} (a : Way V nx w D u L) : ∀ k, k ≤ L → pth nx w D2 u k = pth nx w D u k := by
  intro k
  induction k with
  | zero => intro _; rfl
  | succ k ih =>
    intro hk
    have hV := (a.1 k (by omega)).1
    have e : ∀ s, 0 ≤ s → s < 0 + 4 → stq nx w D2 (pth nx w D u k) s = stq nx w D (pth nx w D u k) s := fun s _ hs => by
      unfold stq
      cases hv : nx (pth nx w D u k) s with
      | none => rfl
      | some v => simp only; rw [h v (gr _ s v hV (by omega) hv).1, h _ hV]
    show nxt nx w D2 (pth nx w D2 u k) = nxt nx w D (pth nx w D u k)
    rw [ih (by omega)]
    unfold nxt stp
    rw [ff_congr 4 0 e]
end GRAPH
