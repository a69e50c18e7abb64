/-! What is well formed, n calls after the start -/
def wfB (S T : Fld) (n : Nat) : Prop := wfF T ∧ T.1 0 = S.1 0 ∧ T.1 1 = S.1 1 ∧ T.1 3 ≤ 300 * n
def WA (A : Ast) (n : Nat) : Prop := wfB (aS A) (aS A) n ∧ (∀ i, i < (aP A).length → wfB (aS A) ((aP A).getD i S00) n) ∧ (∀ k T, aK A k = some T → wfB (aS A) T n) ∧ (∀ i, i < (aM A).length → ∃ k y z, (aM A).getD i (0, 0, 0) = (nI k, nI y, nI z) ∧ k < 8 ∧ y ≤ 30 ∧ z ≤ 1) ∧ (∀ i, i < (aN A).length → ∃ k y, (aN A).getD i (0, 0, 0) = (nI k, nI y, 0) ∧ k ≤ 4 ∧ y ≤ 99) ∧ n ≤ 1000
theorem WA.w {A : Ast} {n : Nat} (a : WA A n) : wfF (aS A) := a.1.1
theorem WA.y {A : Ast} {n : Nat} (a : WA A n) : (aS A).1 3 < 900000 := by
  have h1 := a.1.2.2.2
  have h2 := a.2.2.2.2.2
  omega
theorem i51 : (51 : Int32) = nI 51 := by decide
section RACT
variable {h h1 : Hp} {A : Ast} {m n : Nat}
theorem RM.t0 (c : RM h m A n) : RM (upI h m 1 (0 : Int32)) m (wT A []) n := c.told ⟨by rw [hpI_upI, if_pos ⟨rfl, rfl⟩]; rfl, by simp, fun i hi => absurd hi (by simp)⟩ (EqP.uI (Or.inr (Or.inl ⟨rfl, rfl⟩)))
theorem Dt0 : EqP (Dt m) h (upI h m 1 (0 : Int32)) := EqP.uI (Or.inl ⟨rfl, rfl⟩)
theorem m_enters (c : RM h m A n) (hl : (aT A).length < 128) (v : Int64) : Ok (f_X10_enters h m v) (fun h1 => RM h1 m (wT A (aT A ++ [v])) n ∧ EqP (Dt m) h h1) := by
  obtain ⟨t1, t2, t3⟩ := c.t
  rw [f_X10_enters, c.s.r2, c.s.t1, t1, ix_nI (by omega)]
  refine ok_gd (nz_t (by omega)) (ok_gd (inb_nI (by omega) (by omega)) (ok_lt (fun h4 e4 => ?_)))
  have q1 : hpI h4 m 1 = nI (aT A).length := by rw [e4]; exact t1
  rw [q1, i1, nI_add]
  refine ok_lt (fun h5 e5 => ?_)
  have p5 : EqP (Dt m) h h5 := by rw [e5, e4]; exact (EqP.uL (Or.inr rfl)).tr (EqP.uI (Or.inl ⟨rfl, rfl⟩))
  refine ok_some ⟨c.told ⟨?_, by simp; omega, fun i hi => ?_⟩ (DSo.i p5), p5⟩
  · rw [e5, hpI_upI, if_pos ⟨rfl, rfl⟩, List.length_append]; rfl
  · have hi : i < (aT A).length + 1 := by simpa using hi
    rw [e5, e4, hpL_upI, hpL_upL, getD_snoc hi]
    by_cases e : i = (aT A).length
    · simp [e]
    · simp only [e, and_false, if_false]; exact t3 i (by omega)
/-- behind what can be undone lies T -/
def mQ (h : Hp) (m l : Nat) (T : Fld) : Prop := atV (fun k => hpI h (m + 10) (51 * l + k)) T
theorem mQ.ep {D : Nat → Nat → Prop} {l : Nat} {T : Fld} (q : mQ h m l T) (e : EqP D h h1) (hD : ∀ k, ¬ D (m + 10) k) : mQ h1 m l T := by
  have e2 : (fun k => hpI h1 (m + 10) (51 * l + k)) = (fun k => hpI h (m + 10) (51 * l + k)) := funext (fun k => e.1 _ _ (hD _))
  unfold mQ
  rw [e2]; exact q
def Dq (m l x k : Nat) : Prop := x = m + 10 ∧ 51 * l ≤ k
theorem WA.p8 (a : WA A n) {i : Nat} (hi : i < (aP A).length) : ((aP A).getD i S00).1 2 ≤ 8 := (a.2.1 i hi).1.2.2.2.2.1
theorem RM.q (c : RM h m A n) (a : WA A n) (e : EqP (Dq m (aP A).length) h h1) : RM h1 m A n := by
  have w : ∀ j k, j ≠ 10 → ¬ Dq m (aP A).length (m + j) k := fun j k hj z => by unfold Dq at z; omega
  refine ⟨⟨c.g.ep e (w 0 _ (by omega)) (w 0 _ (by omega)), c.w.ep e (fun _ => w 2 _ (by omega))⟩, c.x.ep e (w 0 _ (by omega)) (fun _ => w 4 _ (by omega)), c.t.ep e (w 0 _ (by omega)) (fun _ => w 1 _ (by omega)), c.e.ep e (w 0 _ (by omega)) (w 0 _ (by omega)) (fun _ => w 6 _ (by omega)), ⟨by rw [e.1 m 22 (w 0 _ (by omega))]; exact c.p.1, c.p.2.1, fun i hi => ?_⟩, c.k.ep e (w 0 _ (by omega)) (fun _ => w 25 _ (by omega)) (fun _ => w 26 _ (by omega)) (fun _ => w 27 _ (by omega)), c.mm.ep e (w 0 _ (by omega)) (fun _ => w 16 _ (by omega)) (fun _ => w 17 _ (by omega)) (fun _ => w 18 _ (by omega)), c.nn.ep e (w 0 _ (by omega)) (fun _ => w 20 _ (by omega)) (fun _ => w 21 _ (by omega))⟩
  exact (c.p.2.2 i hi).cp (a.p8 hi) (fun k hk => e.1 _ _ (fun z => by unfold Dq at z; omega))
theorem m_putsBy (c : RM h m A n) (a : WA A n) : Ok (f_X10_putsBy h m) (fun h1 => RM h1 m A n ∧ mQ h1 m (aP A).length (aS A) ∧ EqP (Dq m (aP A).length) h h1) := by
  have hF := FU_big
  have hl := c.p.2.1
  rw [f_X10_putsBy, i0]
  refine okl (fun k h2 i => f_X10_putsBy_2 m k h2 i) 51 (fun j h2 => (∀ k, k < j → hpI h2 (m + 10) (51 * (aP A).length + k) = hpI h (m + 2) k) ∧ EqP (Dq m (aP A).length) h h2) _ (fun q j h2 hj ⟨d1, d2⟩ kk => ?_) (fun q h2 ⟨d1, d2⟩ => ?_) 51 FU 0 h (by omega) (by omega) ⟨fun k hk => by omega, EqP.rf⟩
  · have s2 := c.s.ep d2
    have u : hpI h2 m 22 = nI (aP A).length := by rw [d2.1 _ _ (fun z => by unfold Dq at z; omega)]; exact c.p.1
    show Ok (f_X10_putsBy_2 m (q + 1) h2 (nI j)) _
    simp only [f_X10_putsBy_2]
    refine ok_lt (fun k2 ek => ?_)
    subst ek
    simp (disch := omega) only [s2.r23, s2.r6, s2.t2, s2.t10, u, i51, i1, pk_mul, nI_add, nI_le0, ix_nI]
    refine ok_f (by omega) (ok_gd (nz_t (by omega)) (ok_gd (nz_t (by omega)) (ok_gd (inb_nI (by omega) (by omega)) (ok_gd (inb_nI (by omega) (by omega)) (ok_lt (fun h8 e8 => ?_))))))
    rw [lt_u]
    refine kk h8 ⟨fun k hk => ?_, d2.tr (by rw [e8]; exact EqP.uI ⟨rfl, by omega⟩)⟩
    rw [e8, hpI_upI]
    by_cases z : k = j
    · rw [if_pos ⟨rfl, by omega⟩, d2.1 _ _ (fun z => by unfold Dq at z; omega), z]
    · rw [if_neg (by omega)]; exact d1 k (by omega)
  · show Ok (f_X10_putsBy_2 m (q + 1) h2 (nI 51)) _
    simp only [f_X10_putsBy_2]
    refine ok_lt (fun k2 ek => ?_)
    exact ok_t (by decide) (ok_some ⟨c.q a d2, c.w.V.cp a.w.2.2.2.2.1 d1, d2⟩)
theorem m_copies (c : RM h m A n) (a : WA A n) : Ok (f_X10_copies h m) (fun h1 => RM h1 m A n ∧ atW h1 (m + 3) (aS A) ∧ EqP (DW (m + 3)) h h1) := by
  have hF := FU_big
  have hl := c.p.2.1
  rw [f_X10_copies, i0]
  refine okl (fun k h2 i => f_X10_copies_2 m k h2 i) 51 (fun j h2 => (∀ k, k < j → hpI h2 (m + 3) k = hpI h (m + 2) k) ∧ EqP (DW (m + 3)) h h2) _ (fun q j h2 hj ⟨d1, d2⟩ kk => ?_) (fun q h2 ⟨d1, d2⟩ => ?_) 51 FU 0 h (by omega) (by omega) ⟨fun k hk => by omega, EqP.rf⟩
  · have s2 := c.s.ep d2
    show Ok (f_X10_copies_2 m (q + 1) h2 (nI j)) _
    simp only [f_X10_copies_2]
    refine ok_lt (fun k2 ek => ?_)
    subst ek
    simp (disch := omega) only [s2.r7, s2.r6, s2.t2, s2.t3, i51, i1, nI_add, nI_le0, ix_nI]
    refine ok_f (by omega) (ok_gd (nz_t (by omega)) (ok_gd (nz_t (by omega)) (ok_gd (inb_nI (by omega) (by omega)) (ok_gd (inb_nI (by omega) (by omega)) (ok_lt (fun h8 e8 => ?_))))))
    rw [lt_u]
    refine kk h8 ⟨fun k hk => ?_, d2.tr (by rw [e8]; exact EqP.uI rfl)⟩
    rw [e8, hpI_upI]
    by_cases z : k = j
    · rw [if_pos ⟨rfl, by omega⟩, d2.1 _ _ (fun z => by unfold DW at z; omega), z]
    · rw [if_neg (by omega)]; exact d1 k (by omega)
  · show Ok (f_X10_copies_2 m (q + 1) h2 (nI 51)) _
    simp only [f_X10_copies_2]
    refine ok_lt (fun k2 ek => ?_)
    exact ok_t (by decide) (ok_some ⟨c.scr (d2.mono (fun x k z => by unfold DW at z; unfold DS; omega)), (c.w.V.cp a.w.2.2.2.2.1 d1).W (c.s.ep d2).t3, d2⟩)
theorem m_adds {T : Fld} (c : RM h m A n) (hP : ∀ i, i < (aP A).length → ((aP A).getD i S00).1 2 ≤ 8) (hT : T.1 2 ≤ 8) (q : mQ h m (aP A).length T) (x : Int32) : Ok (f_X10_adds h m x) (fun o => o.1 = x ∧ RM o.2 m (wP A (pushL (aP A) T)) n ∧ EqP (Dp m) h o.2) := by
  have hF := FU_big
  obtain ⟨p1, p2, p3⟩ := c.p
  rw [f_X10_adds, p1, i1, nI_add]
  refine ok_lt (fun h1 e1 => ?_)
  have v1 : hpI h1 m 22 = nI ((aP A).length + 1) := by rw [e1, hpI_upI, if_pos ⟨rfl, rfl⟩]
  have o1 : EqP (Dp m) h h1 := by rw [e1]; exact EqP.uI (Or.inl ⟨rfl, rfl⟩)
  have r1 : ∀ k, hpI h1 (m + 10) k = hpI h (m + 10) k := fun k => by rw [e1, hpI_upI, if_neg (by omega)]
  clear e1
  rw [v1, show (15 : Int32) = nI 15 by decide]
  simp (disch := omega) only [nI_le0]
  by_cases z : (aP A).length + 1 ≤ 15
  · refine ok_t z (ok_some ⟨rfl, c.past ⟨?_, ?_, fun i hi => ?_⟩ (DSo.i o1), o1⟩)
    · rw [pushL, if_neg (by omega), List.length_append]; exact v1
    · rw [pushL, if_neg (by omega), List.length_append]; simp; omega
    · rw [pushL, if_neg (by omega)] at hi ⊢
      have hi : i < (aP A).length + 1 := by simpa using hi
      have e2 : (fun k => hpI h1 (m + 10) (51 * i + k)) = (fun k => hpI h (m + 10) (51 * i + k)) := funext (fun k => r1 _)
      rw [getD_snoc hi, e2]
      by_cases e : i = (aP A).length
      · rw [if_pos e, e]; exact q
      · rw [if_neg e]; exact p3 i (by omega)
  · refine ok_f z ?_
    have hl : (aP A).length = 15 := by omega
    rw [hl] at v1
    rw [i0]
    refine okl (fun k h2 i => f_X10_adds_21 m x k h2 i) 765 (fun j h2 => (∀ k, k < j → hpI h2 (m + 10) k = hpI h (m + 10) (k + 51)) ∧ (∀ k, j ≤ k → hpI h2 (m + 10) k = hpI h (m + 10) k) ∧ hpI h2 m 22 = nI 16 ∧ EqP (Dp m) h h2) _ (fun q j h2 hj ⟨d1, d2, d3, d4⟩ kk => ?_) (fun q0 h2 ⟨d1, d2, d3, d4⟩ => ?_) 765 FU 0 h1 (by omega) (by omega) ⟨fun k hk => by omega, fun k _ => r1 k, v1, o1⟩
    · have s2 := c.s.ep d4
      show Ok (f_X10_adds_21 m x (q + 1) h2 (nI j)) _
      simp only [f_X10_adds_21]
      refine ok_lt (fun k2 ek => ?_)
      subst ek
      simp (disch := omega) only [s2.r23, s2.t10, i51, i1, show (765 : Int32) = nI 765 by decide, nI_add, nI_le0, ix_nI]
      refine ok_f (by omega) (ok_gd (nz_t (by omega)) (ok_gd (inb_nI (by omega) (by omega)) (ok_gd (inb_nI (by omega) (by omega)) (ok_lt (fun h8 e8 => ?_)))))
      rw [lt_u]
      refine kk h8 ⟨fun k hk => ?_, fun k hk => ?_, ?_, d4.tr (by rw [e8]; exact EqP.uI (Or.inr rfl))⟩
      · rw [e8, hpI_upI]
        by_cases z : k = j
        · rw [if_pos ⟨rfl, by omega⟩, d2 _ (by omega), z]
        · rw [if_neg (by omega)]; exact d1 k (by omega)
      · rw [e8, hpI_upI, if_neg (by omega)]; exact d2 k (by omega)
      · rw [e8, hpI_upI, if_neg (by omega)]; exact d3
    · show Ok (f_X10_adds_21 m x (q0 + 1) h2 (nI 765)) _
      simp only [f_X10_adds_21]
      refine ok_lt (fun k2 ek => ?_)
      clear ek
      rw [d3, i1, pk_sub (by omega)]
      refine ok_t (by decide) (ok_lt (fun h4 e4 => ?_))
      have o4 : EqP (Dp m) h h4 := by rw [e4]; exact d4.tr (EqP.uI (Or.inl ⟨rfl, rfl⟩))
      refine ok_some ⟨rfl, c.past ⟨?_, ?_, fun i hi => ?_⟩ (DSo.i o4), o4⟩
      · rw [pushL, if_pos hl, List.length_append, List.length_tail, hl, e4, hpI_upI, if_pos ⟨rfl, rfl⟩]; rfl
      · rw [pushL, if_pos hl, List.length_append, List.length_tail, hl]; simp
      · rw [pushL, if_pos hl] at hi ⊢
        have hi : i < 15 := by rw [List.length_append, List.length_tail, hl] at hi; simpa using hi
        have rd : ∀ k, k < 51 → hpI h4 (m + 10) (51 * i + k) = hpI h (m + 10) (51 * (i + 1) + k) := fun k hk => by
          rw [e4, hpI_upI, if_neg (by omega), d1 _ (by omega)]; congr 1; omega
        rw [getD_snoc (by rw [List.length_tail, hl]; omega), List.length_tail, hl]
        by_cases e : i = 14
        · rw [if_pos (by omega)]
          rw [hl] at q
          subst e
          exact atV.cp q hT rd
        · rw [if_neg (by omega)]
          have e5 : (aP A).tail.getD i S00 = (aP A).getD (i + 1) S00 := by
            simp only [List.getD_eq_getElem?_getD, List.getElem?_tail]
          rw [e5]
          exact (p3 (i + 1) (by omega)).cp (hP _ (by omega)) rd
end RACT
