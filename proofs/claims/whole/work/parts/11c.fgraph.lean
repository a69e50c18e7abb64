/-! ways: the field's graph; a place is a cell times 256 and the camps met -/
def ovA (S : Fld) (al c : Nat) : Nat := nb (ocv S c) (S.1 2) &&& al
def nxU (S : Fld) (al u s : Nat) : Option Nat := match bsd S (u / 256) s with
  | some t => some (t * 256 + (u % 256 ||| ovA S al t))
  | none => none
def VU (S : Fld) (al u : Nat) : Prop := u / 256 < ncl S ∧ u % 256 &&& al = u % 256
/-- what it costs to come to a place, by its cell -/
def wU (pc : Nat → Nat) (v : Nat) : Nat := pc (v / 256)
theorem cl_dm {C r k : Nat} (hk : k < C) : (C * r + k) / C = r ∧ (C * r + k) % C = k := ⟨by rw [Nat.mul_add_div (by omega), Nat.div_eq_of_lt hk, Nat.add_zero], by rw [Nat.mul_add_mod, Nat.mod_eq_of_lt hk]⟩
/-- rows and columns of the cells beside one -/
theorem bsd_f {S : Fld} (hw : wfF S) {r k s t : Nat} (hr : r < S.1 0) (hk : k < S.1 1) (h : bsd S (S.1 1 * r + k) s = some t) (hs : s < 4) : (s = 0 ∧ 0 < r ∧ t = S.1 1 * (r - 1) + k) ∨ (s = 1 ∧ 0 < k ∧ t = S.1 1 * r + (k - 1)) ∨ (s = 2 ∧ k + 1 < S.1 1 ∧ t = S.1 1 * r + (k + 1)) ∨ (s = 3 ∧ r + 1 < S.1 0 ∧ t = S.1 1 * (r + 1) + k) := by
  have d := cl_dm (r := r) hk
  unfold bsd at h
  rw [d.1, d.2] at h
  rcases (show s = 0 ∨ s = 1 ∨ s = 2 ∨ s = 3 by omega) with rfl | rfl | rfl | rfl
  · rw [if_pos rfl] at h
    by_cases q : 0 < r
    · rw [if_pos q] at h
      refine Or.inl ⟨rfl, q, ?_⟩
      obtain ⟨p, rfl⟩ : ∃ p, r = p + 1 := ⟨r - 1, by omega⟩
      rw [Nat.add_sub_cancel]
      have e := Option.some.inj h
      rw [Nat.mul_succ] at e
      omega
    · rw [if_neg q] at h; cases h
  · rw [if_neg (by omega), if_pos rfl] at h
    by_cases q : 0 < k
    · rw [if_pos q] at h
      have e := Option.some.inj h
      exact Or.inr (Or.inl ⟨rfl, q, by omega⟩)
    · rw [if_neg q] at h; cases h
  · rw [if_neg (by omega), if_neg (by omega), if_pos rfl] at h
    by_cases q : k + 1 < S.1 1
    · rw [if_pos q] at h
      have e := Option.some.inj h
      exact Or.inr (Or.inr (Or.inl ⟨rfl, q, by omega⟩))
    · rw [if_neg q] at h; cases h
  · rw [if_neg (by omega), if_neg (by omega), if_neg (by omega)] at h
    by_cases q : r + 1 < S.1 0
    · rw [if_pos q] at h
      have e := Option.some.inj h
      refine Or.inr (Or.inr (Or.inr ⟨rfl, q, ?_⟩))
      rw [Nat.mul_succ]; omega
    · rw [if_neg q] at h; cases h
theorem bsd_i {S : Fld} {r k s : Nat} (hk : k < S.1 1) : (s = 0 → 0 < r → bsd S (S.1 1 * r + k) s = some (S.1 1 * (r - 1) + k)) ∧ (s = 1 → 0 < k → bsd S (S.1 1 * r + k) s = some (S.1 1 * r + (k - 1))) ∧ (s = 2 → k + 1 < S.1 1 → bsd S (S.1 1 * r + k) s = some (S.1 1 * r + (k + 1))) ∧ (s = 3 → r + 1 < S.1 0 → bsd S (S.1 1 * r + k) s = some (S.1 1 * (r + 1) + k)) := by
  have d := cl_dm (r := r) hk
  refine ⟨fun e q => ?_, fun e q => ?_, fun e q => ?_, fun e q => ?_⟩
  · subst e
    unfold bsd
    rw [d.1, if_pos rfl, if_pos q]
    obtain ⟨p, rfl⟩ : ∃ p, r = p + 1 := ⟨r - 1, by omega⟩
    rw [Nat.add_sub_cancel, Nat.mul_succ]
    congr 1; omega
  · subst e
    unfold bsd
    rw [d.2, if_neg (by omega), if_pos rfl, if_pos q]
    congr 1; omega
  · subst e
    unfold bsd
    rw [d.2, if_neg (by omega), if_neg (by omega), if_pos rfl, if_pos q]
    congr 1
  · subst e
    unfold bsd
    rw [d.1, if_neg (by omega), if_neg (by omega), if_neg (by omega), if_pos q, Nat.mul_succ]
    congr 1; omega
/-- a cell by its row and column -/
theorem cl_rc {S : Fld} (hw : wfF S) {c : Nat} (hc : c < ncl S) : c / S.1 1 < S.1 0 ∧ c % S.1 1 < S.1 1 ∧ S.1 1 * (c / S.1 1) + c % S.1 1 = c := ⟨Nat.div_lt_of_lt_mul (by rw [Nat.mul_comm]; exact hc), Nat.mod_lt _ (by have := hw.2.2.1; omega), Nat.div_add_mod c (S.1 1)⟩
theorem cl_lt {S : Fld} {r k : Nat} (hr : r < S.1 0) (hk : k < S.1 1) : S.1 1 * r + k < ncl S := by
  have : S.1 1 * (r + 1) ≤ S.1 1 * S.1 0 := Nat.mul_le_mul_left _ hr
  rw [Nat.mul_succ] at this
  unfold ncl
  rw [Nat.mul_comm (S.1 0)]
  omega
theorem bsd_lt {S : Fld} (hw : wfF S) {c s t : Nat} (hc : c < ncl S) (hs : s < 4) (h : bsd S c s = some t) : t < ncl S := by
  obtain ⟨h1, h2, h3⟩ := cl_rc hw hc
  rw [← h3] at h
  rcases bsd_f hw h1 h2 h hs with ⟨_, q, e⟩ | ⟨_, q, e⟩ | ⟨_, q, e⟩ | ⟨_, q, e⟩
  · rw [e]; exact cl_lt (by omega) h2
  · rw [e]; exact cl_lt h1 (by omega)
  · rw [e]; exact cl_lt h1 q
  · rw [e]; exact cl_lt q h2
/-- the sides stand in the order of the cells' numbers -/
theorem bsd_o {S : Fld} (hw : wfF S) {c s s2 t t2 : Nat} (hc : c < ncl S) (h1 : s < s2) (h2 : s2 < 4) (e1 : bsd S c s = some t) (e2 : bsd S c s2 = some t2) : t < t2 := by
  have b3 := hw.2.2.1
  unfold bsd at e1 e2
  have g : c / S.1 1 * S.1 1 + c % S.1 1 = c := Nat.div_add_mod' c (S.1 1)
  have L : ∀ {p : Prop} [Decidable p] {x y : Nat}, (if p then some x else none) = some y → p ∧ x = y := fun {p} _ {x y} z => by
    by_cases q : p
    · rw [if_pos q] at z; exact ⟨q, Option.some.inj z⟩
    · rw [if_neg q] at z; cases z
  have P : 0 < c / S.1 1 → S.1 1 ≤ c := fun z => by
    have := Nat.le_mul_of_pos_left (S.1 1) z
    omega
  rcases (show (s = 0 ∧ s2 = 1) ∨ (s = 0 ∧ s2 = 2) ∨ (s = 0 ∧ s2 = 3) ∨ (s = 1 ∧ s2 = 2) ∨ (s = 1 ∧ s2 = 3) ∨ (s = 2 ∧ s2 = 3) by omega) with ⟨rfl, rfl⟩ | ⟨rfl, rfl⟩ | ⟨rfl, rfl⟩ | ⟨rfl, rfl⟩ | ⟨rfl, rfl⟩ | ⟨rfl, rfl⟩
  all_goals
    simp only [if_true, if_false, Nat.reduceEqDiff, Nat.succ_ne_zero] at e1 e2
    have z1 := L e1
    have z2 := L e2
    have z3 := P
    omega
theorem or_lt8 {a b : Nat} (ha : a < 256) (hb : b < 256) : a ||| b < 256 := Nat.or_lt_two_pow (n := 8) ha hb
theorem ovA_lt {S : Fld} {al c : Nat} (ha : al < 256) : ovA S al c < 256 := Nat.lt_of_le_of_lt Nat.and_le_right ha
theorem sub_bit {a b : Nat} (h : a &&& b = a) {i : Nat} (hi : a.testBit i = true) : b.testBit i = true := by
  have e := congrArg (fun x => Nat.testBit x i) h
  simp only [Nat.testBit_and, hi, Bool.true_and] at e
  exact e
theorem sub_of {a b : Nat} (h : ∀ i, a.testBit i = true → b.testBit i = true) : a &&& b = a := by
  apply Nat.eq_of_testBit_eq
  intro i
  rw [Nat.testBit_and]
  cases q : a.testBit i with
  | false => rfl
  | true => rw [h i q]; rfl
theorem nxU_s {S : Fld} {al u s v : Nat} (ha : al < 256) (h : nxU S al u s = some v) : bsd S (u / 256) s = some (v / 256) ∧ v % 256 = (u % 256 ||| ovA S al (v / 256)) := by
  unfold nxU at h
  cases e : bsd S (u / 256) s with
  | none => rw [e] at h; cases h
  | some t =>
    rw [e] at h
    have o := or_lt8 (Nat.mod_lt u (show 0 < 256 by omega)) (ovA_lt (S := S) (c := t) ha)
    have e2 := Option.some.inj h
    have t1 : v / 256 = t := by omega
    have t2 : v % 256 = (u % 256 ||| ovA S al t) := by omega
    exact ⟨by rw [t1], by rw [t1]; exact t2⟩
theorem nxU_V {S : Fld} (hw : wfF S) {al u s v : Nat} (ha : al < 256) (hu : VU S al u) (hs : s < 4) (h : nxU S al u s = some v) : VU S al v := by
  obtain ⟨h1, h2⟩ := nxU_s ha h
  refine ⟨bsd_lt hw hu.1 hs h1, ?_⟩
  rw [h2]
  refine sub_of (fun i hi => ?_)
  rw [Nat.testBit_or, Bool.or_eq_true] at hi
  rcases hi with q | q
  · exact sub_bit hu.2 q
  · unfold ovA at q
    rw [Nat.testBit_and, Bool.and_eq_true] at q
    exact q.2
theorem nxU_j {S : Fld} (hw : wfF S) {al u s s2 v : Nat} (ha : al < 256) (hu : u / 256 < ncl S) (h1 : s < 4) (h2 : s2 < 4) (e1 : nxU S al u s = some v) (e2 : nxU S al u s2 = some v) : s = s2 := by
  have z1 := (nxU_s ha e1).1
  have z2 := (nxU_s ha e2).1
  rcases Nat.lt_trichotomy s s2 with q | q | q
  · have := bsd_o hw hu q h2 z1 z2
    omega
  · exact q
  · have := bsd_o hw hu q h1 z2 z1
    omega
theorem VU_lt {S : Fld} (hw : wfF S) {al u : Nat} (hu : VU S al u) : u < 9216 := by
  have := (ncl_le hw).1
  have := hu.1
  omega
theorem grU {S : Fld} (hw : wfF S) {al : Nat} {pc : Nat → Nat} (ha : al < 256) (hp : ∀ c, c < ncl S → 1 ≤ pc c) : Gr (VU S al) (nxU S al) (wU pc) := fun u s v hu hs h => by
  have := nxU_V hw ha hu hs h
  exact ⟨this, hp _ this.1⟩
/-! how far: every cell is at most ten steps off, so nine parts of ten steps do -/
def okm (S : Fld) (al u : Nat) : Prop := ∀ i, (ovA S al (u / 256)).testBit i = true → (u % 256).testBit i = true
theorem nxU_k {S : Fld} {al u s v : Nat} (ha : al < 256) (h : nxU S al u s = some v) : okm S al v ∧ ∀ i, (u % 256).testBit i = true → (v % 256).testBit i = true := by
  obtain ⟨h1, h2⟩ := nxU_s ha h
  refine ⟨fun i hi => ?_, fun i hi => ?_⟩
  · rw [h2, Nat.testBit_or, hi, Bool.or_true]
  · rw [h2, Nat.testBit_or, hi, Bool.true_or]
def dRC2 (S : Fld) (c t : Nat) : Nat := (c / S.1 1 - t / S.1 1) + (t / S.1 1 - c / S.1 1) + ((c % S.1 1 - t % S.1 1) + (t % S.1 1 - c % S.1 1))
section FARS
variable {S : Fld} {al g : Nat} {D : Nat → Nat} {pc : Nat → Nat}
theorem man1 (hw : wfF S) {c t : Nat} (hc : c < ncl S) (ht : t < ncl S) (hd : 0 < dRC2 S c t) : ∃ s b, s < 4 ∧ bsd S c s = some b ∧ dRC2 S b t + 1 = dRC2 S c t := by
  obtain ⟨c1, c2, c3⟩ := cl_rc hw hc
  obtain ⟨t1, t2, t3⟩ := cl_rc hw ht
  unfold dRC2 at hd ⊢
  generalize er : c / S.1 1 = r at *
  generalize ek : c % S.1 1 = k at *
  generalize er2 : t / S.1 1 = r2 at *
  generalize ek2 : t % S.1 1 = k2 at *
  have I := fun s => bsd_i (S := S) (r := r) (k := k) (s := s) c2
  by_cases w1 : r2 < r
  · refine ⟨0, _, by omega, by rw [← c3]; exact (I 0).1 rfl (by omega), ?_⟩
    have d := cl_dm (r := r - 1) c2
    rw [d.1, d.2]; omega
  by_cases w2 : r < r2
  · refine ⟨3, _, by omega, by rw [← c3]; exact (I 3).2.2.2 rfl (by omega), ?_⟩
    have d := cl_dm (r := r + 1) c2
    rw [d.1, d.2]; omega
  by_cases w3 : k2 < k
  · refine ⟨1, _, by omega, by rw [← c3]; exact (I 1).2.1 rfl (by omega), ?_⟩
    have d := cl_dm (C := S.1 1) (r := r) (k := k - 1) (by omega)
    rw [d.1, d.2]; omega
  · refine ⟨2, _, by omega, by rw [← c3]; exact (I 2).2.2.1 rfl (by omega), ?_⟩
    have d := cl_dm (C := S.1 1) (r := r) (k := k + 1) (by omega)
    rw [d.1, d.2]; omega
theorem dRC2_z (hw : wfF S) {c t : Nat} (hc : c < ncl S) (ht : t < ncl S) (hd : dRC2 S c t = 0) : c = t := by
  obtain ⟨c1, c2, c3⟩ := cl_rc hw hc
  obtain ⟨t1, t2, t3⟩ := cl_rc hw ht
  unfold dRC2 at hd
  have e1 : c / S.1 1 = t / S.1 1 := by omega
  have e2 : c % S.1 1 = t % S.1 1 := by omega
  rw [← c3, ← t3, e1, e2]
theorem dRC2_10 (hw : wfF S) {c t : Nat} (hc : c < ncl S) (ht : t < ncl S) : dRC2 S c t ≤ 10 := by
  obtain ⟨c1, c2, c3⟩ := cl_rc hw hc
  obtain ⟨t1, t2, t3⟩ := cl_rc hw ht
  have b2 := hw.2.1
  have b4 := hw.2.2.2.1
  unfold dRC2
  clear c3 t3
  generalize c / S.1 1 = r at *
  generalize c % S.1 1 = k at *
  generalize t / S.1 1 = r2 at *
  generalize t % S.1 1 = k2 at *
  omega
theorem man_go {P : Nat} (hw : wfF S) (ha : al < 256) (h1 : ∀ c, c < ncl S → pc c ≤ P) (y : Yt (VU S al) (nxU S al) (wU pc) g D) {t : Nat} (ht : t < ncl S) : ∀ d u, VU S al u → okm S al u → dRC2 S (u / 256) t = d → ∃ v, VU S al v ∧ okm S al v ∧ v / 256 = t ∧ (∀ i, (u % 256).testBit i = true → (v % 256).testBit i = true) ∧ D u ≤ d * P + D v := by
  intro d
  induction d with
  | zero => intro u hu hk e; exact ⟨u, hu, hk, dRC2_z hw hu.1 ht e, fun _ z => z, by omega⟩
  | succ d ih =>
    intro u hu hk e
    obtain ⟨s, b, hs, hb, e2⟩ := man1 hw hu.1 ht (by omega)
    have hv : nxU S al u s = some (b * 256 + (u % 256 ||| ovA S al b)) := by unfold nxU; rw [hb]
    have s1 := nxU_s ha hv
    generalize b * 256 + (u % 256 ||| ovA S al b) = v at hv s1
    rw [hb] at s1
    have eb := Option.some.inj s1.1
    have V2 := nxU_V hw ha hu hs hv
    have K2 := nxU_k ha hv
    obtain ⟨x, x1, x2, x3, x4, x5⟩ := ih v V2 K2.1 (by rw [← eb]; omega)
    have := y.2.2.1 u s v hu hs hv
    have w1 : wU pc v ≤ P := h1 _ V2.1
    exact ⟨x, x1, x2, x3, fun i hi => x4 i (K2.2 i hi), by rw [Nat.succ_mul]; omega⟩
theorem far90 (hw : wfF S) (ha : al < 256) (h1 : ∀ c, c < ncl S → pc c ≤ 1) {gc : Nat} (hg : gc < ncl S) (y : Yt (VU S al) (nxU S al) (wU pc) (gc * 256 + al) D) (hon : ∀ i, al.testBit i = true → onb S i = true) : ∀ j, j ≤ 8 → ∀ u, VU S al u → okm S al u → (∀ i, j ≤ i → al.testBit i = true → (u % 256).testBit i = true) → D u ≤ 10 * (j + 1) := by
  intro j
  induction j with
  | zero =>
    intro _ u hu hk hb
    obtain ⟨v, v1, v2, v3, v4, v5⟩ := man_go hw ha h1 y hg _ u hu hk rfl
    have l := dRC2_10 hw hu.1 hg
    have e : v % 256 = al := by
      have s1 : al &&& (v % 256) = al := sub_of (fun i hi => v4 i (hb i (Nat.zero_le _) hi))
      rw [Nat.and_comm] at s1
      rw [← v1.2]; exact s1
    have : v = gc * 256 + al := by omega
    rw [this, y.1, Nat.mul_one] at v5
    omega
  | succ j ih =>
    intro hj u hu hk hb
    by_cases w : al.testBit j = true ∧ (u % 256).testBit j = false
    · have oj := hon j w.1
      have oj2 : j < S.1 2 := by
        unfold onb at oj
        rw [Bool.and_eq_true, decide_eq_true_eq] at oj
        exact oj.1
      obtain ⟨f1, f2, f3⟩ := fcl_dm hw oj2
      have sh := hw.2.2.2.2.2.2.2.2 j oj2
      obtain ⟨v, v1, v2, v3, v4, v5⟩ := man_go hw ha h1 y f3 _ u hu hk rfl
      rw [Nat.mul_one] at v5
      have l := dRC2_10 hw hu.1 f3
      have bj : (v % 256).testBit j = true := by
        refine v2 j ?_
        unfold ovA
        rw [v3, Nat.testBit_and, nb_bit, w.1, Bool.and_true, decide_eq_true oj2, Bool.true_and]
        unfold ocv ovr ovc
        rw [oj, f1, f2, decide_eq_true oj2, decide_eq_true (Nat.le_refl _), decide_eq_true (Nat.le_refl _), decide_eq_true (show S.2 0 j < S.2 0 j + S.2 2 j by omega), decide_eq_true (show S.2 1 j < S.2 1 j + S.2 3 j by omega)]
        rfl
      have := ih (by omega) v v1 v2 (fun i h2 h3 => by
        by_cases e : i = j
        · rw [e]; exact bj
        · exact v4 i (hb i (by omega) h3))
      omega
    · have := ih (by omega) u hu hk (fun i h2 h3 => by
        by_cases e : i = j
        · subst e
          cases q : (u % 256).testBit i with
          | true => rfl
          | false => exact absurd ⟨h3, q⟩ w
        · exact hb i (by omega) h3)
      omega
end FARS
