/-! ways: a row of places, each reached by one ahead of it -/
/-- the row q of n places, pr by which one, dp how far, nc the neighbours, a the first; those below i are done, of i the sides below s -/
def Bq (V : Nat → Prop) (nc : Nat → Nat → Option Nat) (a : Nat) (q pr dp : Nat → Nat) (n i s : Nat) : Prop := (1 ≤ n ∧ q 0 = a ∧ dp 0 = 0) ∧ (∀ j, j < n → V (q j)) ∧ (∀ j k, j < k → k < n → q j ≠ q k) ∧ (∀ j, 0 < j → j < n → pr j < j ∧ pr j ≤ i ∧ dp j = dp (pr j) + 1 ∧ ∃ t, t < 4 ∧ nc (q (pr j)) t = some (q j) ∧ (pr j = i → t < s)) ∧ (∀ j k, 0 < j → j ≤ k → k < n → pr j ≤ pr k) ∧ (∀ j k, 0 < j → j < k → k < n → pr j = pr k → ∃ t1 t2, t1 < t2 ∧ t2 < 4 ∧ nc (q (pr j)) t1 = some (q j) ∧ nc (q (pr j)) t2 = some (q k)) ∧ (∀ j, 0 < j → j < n → ∀ b t, b < pr j → t < 4 → nc (q b) t ≠ some (q j)) ∧ ∀ b t v, (b < i ∨ (b = i ∧ t < s)) → b < n → t < 4 → nc (q b) t = some v → ∃ k, k < n ∧ q k = v
section BFS
variable {V : Nat → Prop} {nc : Nat → Nat → Option Nat} {a : Nat} {q pr dp : Nat → Nat} {n i s : Nat}
theorem Bq.ini (ha : V a) (hq : q 0 = a) (hd : dp 0 = 0) : Bq V nc a q pr dp 1 0 0 := ⟨⟨Nat.le_refl _, hq, hd⟩, fun j hj => by rw [show j = 0 by omega, hq]; exact ha, fun j k _ _ => by omega, fun j _ _ => by omega, fun j k _ _ _ => by omega, fun j k _ _ _ => by omega, fun j _ _ => by omega, fun b t v z _ _ _ => by omega⟩
theorem Bq.old (b : Bq V nc a q pr dp n i s) (h : ∀ v, nc (q i) s = some v → ∃ k, k < n ∧ q k = v) : Bq V nc a q pr dp n i (s + 1) := by
  obtain ⟨b1, b2, b3, b4, b5, b6, b7, b8⟩ := b
  refine ⟨b1, b2, b3, fun j h1 h2 => ?_, b5, b6, b7, fun c t v z h1 h2 h3 => ?_⟩
  · obtain ⟨c1, c2, c3, t, c4, c5, c6⟩ := b4 j h1 h2
    exact ⟨c1, c2, c3, t, c4, c5, fun z => by have := c6 z; omega⟩
  · by_cases w : c = i ∧ t = s
    · obtain ⟨rfl, rfl⟩ := w
      exact h v h3
    · exact b8 c t v (by omega) h1 h2 h3
theorem Bq.up (b : Bq V nc a q pr dp n i 4) : Bq V nc a q pr dp n (i + 1) 0 := by
  obtain ⟨b1, b2, b3, b4, b5, b6, b7, b8⟩ := b
  refine ⟨b1, b2, b3, fun j h1 h2 => ?_, b5, b6, b7, fun c t v z h1 h2 h3 => ?_⟩
  · obtain ⟨c1, c2, c3, t, c4, c5, c6⟩ := b4 j h1 h2
    exact ⟨c1, by omega, c3, t, c4, c5, fun z => by omega⟩
  · exact b8 c t v (by omega) h1 h2 h3
theorem Bq.new (b : Bq V nc a q pr dp n i s) {q2 pr2 dp2 : Nat → Nat} {v : Nat} (hi : i < n) (hs : s < 4) (hv : nc (q i) s = some v) (hV : V v) (hn : ∀ k, k < n → q k ≠ v) (eq : ∀ j, j < n → q2 j = q j) (ep : ∀ j, j < n → pr2 j = pr j) (ed : ∀ j, j < n → dp2 j = dp j) (nq : q2 n = v) (np : pr2 n = i) (nd : dp2 n = dp i + 1) : Bq V nc a q2 pr2 dp2 (n + 1) i (s + 1) := by
  obtain ⟨b1, b2, b3, b4, b5, b6, b7, b8⟩ := b
  have C : ∀ j, j < n + 1 → j < n ∨ j = n := fun j hj => by omega
  refine ⟨⟨by omega, by rw [eq 0 (by omega)]; exact b1.2.1, by rw [ed 0 (by omega)]; exact b1.2.2⟩, fun j hj => ?_, fun j k h1 h2 => ?_, fun j h1 h2 => ?_, fun j k h1 h2 h3 => ?_, fun j k h1 h2 h3 h4 => ?_, fun j h1 h2 c t h3 h4 => ?_, fun c t x z h1 h2 h3 => ?_⟩
  · rcases C j hj with w | rfl
    · rw [eq j w]; exact b2 j w
    · rw [nq]; exact hV
  · rcases C k h2 with w | rfl
    · rw [eq j (by omega), eq k w]; exact b3 j k h1 w
    · rw [eq j (by omega), nq]; exact hn j h1
  · rcases C j h2 with w | rfl
    · obtain ⟨c1, c2, c3, t, c4, c5, c6⟩ := b4 j h1 w
      rw [ep j w, ed j w, eq j w, ed _ (by omega), eq _ (by omega)]
      exact ⟨c1, c2, c3, t, c4, c5, fun z => by have := c6 z; omega⟩
    · rw [np, nd, nq, ed i hi, eq i hi]
      exact ⟨hi, Nat.le_refl _, rfl, s, hs, hv, fun _ => Nat.lt_succ_self _⟩
  · rcases C k h3 with w | rfl
    · rw [ep j (by omega), ep k w]; exact b5 j k h1 h2 w
    · rw [np]
      rcases C j (by omega) with w | rfl
      · rw [ep j w]; exact (b4 j h1 w).2.1
      · rw [np]; exact Nat.le_refl _
  · rcases C k h3 with w | rfl
    · have hj := b4 j h1 (by omega)
      rw [ep j (by omega), ep k w] at h4
      obtain ⟨t1, t2, d⟩ := b6 j k h1 h2 w h4
      rw [ep j (by omega), eq j (by omega), eq k w, eq _ (by omega)]
      exact ⟨t1, t2, d⟩
    · rw [np, ep j (by omega)] at h4
      obtain ⟨c1, c2, c3, t, c4, c5, c6⟩ := b4 j h1 h2
      rw [ep j (by omega), nq, eq j h2, h4, eq i hi]
      rw [h4] at c5
      exact ⟨t, s, c6 h4, hs, c5, hv⟩
  · rcases C j h2 with w | rfl
    · have hj := b4 j h1 w
      rw [ep j w] at h3
      rw [eq j w, eq c (by omega)]
      exact b7 j h1 w c t h3 h4
    · rw [np] at h3
      rw [nq, eq c (by omega)]
      intro e
      obtain ⟨k, k1, k2⟩ := b8 c t v (Or.inl h3) (by omega) h4 e
      exact hn k k1 k2
  · rcases C c h1 with w | rfl
    · rw [eq c w] at h3
      by_cases e : c = i ∧ t = s
      · obtain ⟨rfl, rfl⟩ := e
        rw [hv] at h3
        exact ⟨n, Nat.lt_succ_self _, by rw [nq]; exact Option.some.inj h3⟩
      · obtain ⟨k, k1, k2⟩ := b8 c t x (by omega) w h2 h3
        exact ⟨k, by omega, by rw [eq k k1]; exact k2⟩
    · omega
theorem Bq.dm (b : Bq V nc a q pr dp n i s) : ∀ N k, k ≤ N → ∀ j, j ≤ k → k < n → dp j ≤ dp k := by
  intro N
  induction N with
  | zero =>
    intro k hk j hj hn
    rw [show j = k by omega]
    exact Nat.le_refl _
  | succ N ih =>
    intro k hk j hj hn
    by_cases w : j = 0
    · rw [w, b.1.2.2]; omega
    · obtain ⟨c1, _, c3, _⟩ := b.2.2.2.1 j (by omega) (by omega)
      obtain ⟨d1, _, d3, _⟩ := b.2.2.2.1 k (by omega) hn
      have := b.2.2.2.2.1 j k (by omega) hj hn
      have := ih (pr k) (by omega) (pr j) this (by omega)
      omega
theorem Bq.dl (b : Bq V nc a q pr dp n i s) : ∀ N k, k ≤ N → k < n → dp k ≤ k := by
  intro N
  induction N with
  | zero =>
    intro k hk hn
    rw [show k = 0 by omega, b.1.2.2]
    exact Nat.le_refl _
  | succ N ih =>
    intro k hk hn
    by_cases w : k = 0
    · rw [w, b.1.2.2]; omega
    · obtain ⟨d1, _, d3, _⟩ := b.2.2.2.1 k (by omega) hn
      have := ih (pr k) (by omega) (by omega)
      omega
theorem Bq.ds (b : Bq V nc a q pr dp n i s) {j k : Nat} (hj : j < n) (hk : k < n) (e : q j = q k) : j = k := by
  rcases Nat.lt_trichotomy j k with w | w | w
  · exact absurd e (b.2.2.1 j k w hk)
  · exact w
  · exact absurd e.symm (b.2.2.1 k j w hj)
/-- the fewest steps: none is passed over -/
def H1 (V : Nat → Prop) (nc : Nat → Nat → Option Nat) (a : Nat) (D : Nat → Nat) : Prop := ∀ u t v, V u → t < 4 → nc u t = some v → v ≠ a → D u ≤ D v + 1
theorem Bq.ed {D : Nat → Nat} (b : Bq V nc a q pr dp n i s) (H : H1 V nc a D) {j : Nat} (h1 : 0 < j) (h2 : j < n) : D (q (pr j)) ≤ D (q j) + 1 := by
  obtain ⟨d1, _, d3, t, d4, d5, _⟩ := b.2.2.2.1 j h1 h2
  refine H _ t _ (b.2.1 _ (by omega)) d4 d5 (fun z => ?_)
  have := b.ds (j := j) (k := 0) h2 (by omega) (by rw [z]; exact b.1.2.1.symm)
  omega
theorem Bq.lo {D : Nat → Nat} (b : Bq V nc a q pr dp n i s) (H : H1 V nc a D) : ∀ N k, k ≤ N → k < n → D a ≤ dp k + D (q k) := by
  intro N
  induction N with
  | zero =>
    intro k hk hn
    rw [show k = 0 by omega, b.1.2.1]
    omega
  | succ N ih =>
    intro k hk hn
    by_cases w : k = 0
    · rw [w, b.1.2.1]; omega
    · obtain ⟨d1, _, d3, _⟩ := b.2.2.2.1 k (by omega) hn
      have := ih (pr k) (by omega) (by omega)
      have := b.ed H (j := k) (by omega) hn
      omega
/-- what is found is the way that is told: r its places, L its steps -/
theorem bfs_way {D r : Nat → Nat} {g L : Nat} (b : Bq V nc a q pr dp n i 0) (hs : ∀ j, j < i → q j ≠ g) (he : i = n ∨ (i < n ∧ q i = g)) (H : H1 V nc a D) (r0 : r 0 = a) (rL : r L = g) (hD : ∀ k, k ≤ L → D (r k) + k = L) (H2 : ∀ k, k < L → ∃ t, t < 4 ∧ nc (r k) t = some (r (k + 1)) ∧ ∀ t2 v, t2 < t → nc (r k) t2 = some v → D v + 1 ≠ D (r k)) (H4 : ∀ u t t2 v, V u → t < 4 → t2 < 4 → nc u t = some v → nc u t2 = some v → t = t2) : (i < n ∧ q i = g ∧ dp i = L) ∧ ∀ k x, k < L → x < n → q x = r (k + 1) → 0 < x ∧ q (pr x) = r k := by
  have hg : D g = 0 := by
    have := hD L (Nat.le_refl _)
    rw [rL] at this; omega
  have ha : D a = L := by
    have := hD 0 (Nat.zero_le _)
    rw [r0] at this; omega
  have iv : ∀ k, k ≤ L → ∃ x, x < n ∧ q x = r k ∧ dp x = k ∧ (∀ j, j < n → dp j = k → D (q j) + k = L → x ≤ j) ∧ (0 < k → 0 < x ∧ q (pr x) = r (k - 1)) := by
    intro k
    induction k with
    | zero => intro _; exact ⟨0, by have := b.1.1; omega, by rw [b.1.2.1, r0], b.1.2.2, fun j _ _ _ => Nat.zero_le _, fun z => absurd z (Nat.lt_irrefl 0)⟩
    | succ k ih =>
      intro hk
      obtain ⟨x, x1, x2, x3, x4, _⟩ := ih (by omega)
      have xi : x < i := by
        rcases he with e | ⟨e1, e2⟩
        · omega
        · have l := b.lo H i i (Nat.le_refl _) e1
          rw [e2, hg, ha] at l
          by_cases w : x < i
          · exact w
          · have := b.dm x x (Nat.le_refl _) i (by omega) x1
            omega
      obtain ⟨t, t1, t2, t3⟩ := H2 k (by omega)
      rw [← x2] at t2 t3
      obtain ⟨z, z1, z2⟩ := b.2.2.2.2.2.2.2 x t _ (Or.inl xi) x1 t1 t2
      have dk : D (q x) + k = L := by rw [x2]; exact hD k (by omega)
      have dz : D (q z) + (k + 1) = L := by rw [z2]; exact hD (k + 1) hk
      have z0 : 0 < z := by
        by_cases w : z = 0
        · rw [w, b.1.2.1, ha] at dz; omega
        · omega
      obtain ⟨d1, _, d3, _⟩ := b.2.2.2.1 z z0 z1
      have pz : pr z ≤ x := by
        by_cases w : x < pr z
        · exact absurd (by rw [z2]; exact t2) (b.2.2.2.2.2.2.1 z z0 z1 x t w t1)
        · omega
      have m1 := b.dm x x (Nat.le_refl _) (pr z) pz x1
      have l1 := b.lo H z z (Nat.le_refl _) z1
      have l2 := b.ed H z0 z1
      have l3 := b.lo H (pr z) (pr z) (Nat.le_refl _) (by omega)
      have ez : x ≤ pr z := x4 (pr z) (by omega) (by omega) (by omega)
      have pe : pr z = x := by omega
      refine ⟨z, z1, z2, by omega, fun j j1 j2 j3 => ?_, fun _ => ⟨z0, by rw [pe]; exact x2⟩⟩
      by_cases w : j < z
      · exfalso
        have j0 : 0 < j := by
          by_cases v : j = 0
          · rw [v, b.1.2.2] at j2; omega
          · omega
        obtain ⟨f1, _, f3, _⟩ := b.2.2.2.1 j j0 j1
        have p1 := b.2.2.2.2.1 j z j0 (by omega) z1
        have g2 := b.ed H j0 j1
        have g3 := b.lo H (pr j) (pr j) (Nat.le_refl _) (by omega)
        have ej : x ≤ pr j := x4 (pr j) (by omega) (by omega) (by omega)
        have pj : pr j = x := by omega
        obtain ⟨s1, s2, y1, y2, y3, y4⟩ := b.2.2.2.2.2.1 j z j0 w z1 (by omega)
        rw [pj] at y3 y4
        have : t = s2 := H4 (q x) t s2 (q z) (b.2.1 x x1) t1 y2 (by rw [z2]; exact t2) y4
        exact t3 s1 (q j) (by omega) y3 (by omega)
      · omega
  obtain ⟨x, x1, x2, x3, _, _⟩ := iv L (Nat.le_refl _)
  rw [rL] at x2
  have xi : i ≤ x := by
    by_cases w : x < i
    · exact absurd x2 (hs x w)
    · omega
  have hi : i < n ∧ q i = g := by
    rcases he with e | e
    · omega
    · exact e
  have : i = x := b.ds hi.1 x1 (by rw [hi.2, x2])
  refine ⟨⟨hi.1, hi.2, by rw [this]; exact x3⟩, fun k y hk hy e => ?_⟩
  obtain ⟨z, z1, z2, _, _, z3⟩ := iv (k + 1) (by omega)
  have : y = z := b.ds hy z1 (by rw [e, z2])
  rw [this]
  exact z3 (by omega)
end BFS
