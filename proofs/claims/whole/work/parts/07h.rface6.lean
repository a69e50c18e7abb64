def sb (b c : Nat) : Prop := ∀ q, b.testBit q = true → c.testBit q = true
theorem sb.rf {b : Nat} : sb b b := fun _ z => z
theorem sb.tr {a b c : Nat} (x : sb a b) (y : sb b c) : sb a c := fun q z => y q (x q z)
theorem sb.eq {a b : Nat} (x : sb a b) (y : sb b a) : a = b := by
  apply Nat.eq_of_testBit_eq
  intro q
  cases z : a.testBit q with
  | true => exact (x q z).symm
  | false =>
    cases z2 : b.testBit q with
    | false => rfl
    | true => rw [y q z2] at z; cases z
theorem sb.orl {a b : Nat} : sb a (a ||| b) := fun q z => by rw [Nat.testBit_or, z]; rfl
theorem sb.orr {a b : Nat} : sb b (a ||| b) := fun q z => by rw [Nat.testBit_or, z, Bool.or_true]
theorem sb.or {a b c : Nat} (x : sb a c) (y : sb b c) : sb (a ||| b) c := fun q z => by
  rw [Nat.testBit_or, Bool.or_eq_true] at z
  exact z.elim (x q) (y q)
theorem fo_sb {st : Nat → Nat → Nat} (hs : ∀ x j, sb x (st x j)) : ∀ d x i, sb x (fo st x i d) := by
  intro d
  induction d with
  | zero => intro x i; exact sb.rf
  | succ d ih => intro x i; exact (hs x i).tr (ih _ _)
theorem fo_sc {st : Nat → Nat → Nat} {C N : Nat} (hs : ∀ x j, j < N → sb x C → sb (st x j) C) : ∀ d x i, i + d ≤ N → sb x C → sb (fo st x i d) C := by
  intro d
  induction d with
  | zero => intro x i _ hx; exact hx
  | succ d ih => intro x i hi hx; exact ih _ _ (by omega) (hs x i (by omega) hx)
theorem fo_at {st : Nat → Nat → Nat} (hs : ∀ x j, sb x (st x j)) : ∀ d x i j, i ≤ j → j < i + d → ∃ y, sb x y ∧ sb (st y j) (fo st x i d) := by
  intro d
  induction d with
  | zero => intro x i j h1 h2; omega
  | succ d ih =>
    intro x i j h1 h2
    by_cases e : j = i
    · subst e; exact ⟨x, sb.rf, fo_sb hs d _ _⟩
    · obtain ⟨y, y1, y2⟩ := ih (st x i) (i + 1) j (by omega) (by omega)
      exact ⟨y, (hs x i).tr y1, y2⟩
theorem cnt_acc {p : Nat → Bool} : ∀ d a i, fo (fun (b : Nat) k => if p k = true then b + 1 else b) a i d = a + cntB p i d := by
  intro d
  induction d with
  | zero => intro a i; rfl
  | succ d ih =>
    intro a i
    unfold cntB
    rw [fo, ih, fo, ih]
    by_cases q : p i = true
    · simp only [q, if_true]; omega
    · simp only [q, Bool.false_eq_true, if_false]; omega
theorem cnt_cons {p : Nat → Bool} {i d : Nat} : cntB p i (d + 1) = (if p i = true then 1 else 0) + cntB p (i + 1) d := by
  conv => lhs; unfold cntB
  rw [fo, cnt_acc]
theorem cnt_le {p : Nat → Bool} : ∀ d i, cntB p i d ≤ d := by
  intro d
  induction d with
  | zero => intro i; exact Nat.le_refl _
  | succ d ih => intro i; rw [cnt_cons]; have := ih (i + 1); split <;> omega
theorem cnt_mono {p q : Nat → Bool} (h : ∀ k, p k = true → q k = true) : ∀ d i, cntB p i d ≤ cntB q i d := by
  intro d
  induction d with
  | zero => intro i; exact Nat.le_refl _
  | succ d ih =>
    intro i
    rw [cnt_cons, cnt_cons]
    have := ih (i + 1)
    by_cases z : p i = true
    · rw [if_pos z, if_pos (h i z)]; omega
    · rw [if_neg z]; omega
theorem cnt_lt {p q : Nat → Bool} (h : ∀ k, p k = true → q k = true) {k : Nat} (h1 : p k = false) (h2 : q k = true) : ∀ d i, i ≤ k → k < i + d → cntB p i d < cntB q i d := by
  intro d
  induction d with
  | zero => intro i _ _; omega
  | succ d ih =>
    intro i g1 g2
    rw [cnt_cons, cnt_cons]
    by_cases e : i = k
    · subst e
      rw [h1, h2]
      have := cnt_mono h d (i + 1)
      simp only [Bool.false_eq_true, if_false, if_true]; omega
    · have := ih (i + 1) (by omega) (by omega)
      by_cases z : p i = true
      · rw [if_pos z, if_pos (h i z)]; omega
      · rw [if_neg z]; omega
/-- a row of sets that grow is at rest after as many steps as there are places -/
theorem it_rest {R : Nat → Nat} {N : Nat} {b0 : Nat} (hR : ∀ b, sb b (R b)) (hB : ∀ b, (∀ q, b.testBit q = true → q < N) → ∀ q, (R b).testBit q = true → q < N) (h0 : ∀ q, b0.testBit q = true → q < N) (h1 : ∃ q, b0.testBit q = true) : ∀ t, N ≤ t → R (fo (fun acc _ => R acc) b0 0 t) = fo (fun acc _ => R acc) b0 0 t := by
  have hb : ∀ t q, (fo (fun acc _ => R acc) b0 0 t).testBit q = true → q < N := by
    intro t
    induction t with
    | zero => exact h0
    | succ t ih => rw [fo_snoc]; exact hB _ ih
  have key : ∀ t, R (fo (fun acc _ => R acc) b0 0 t) = fo (fun acc _ => R acc) b0 0 t ∨ t + 1 ≤ cntB (fun q => (fo (fun acc _ => R acc) b0 0 t).testBit q) 0 N := by
    intro t
    induction t with
    | zero =>
      right
      obtain ⟨q, hq⟩ := h1
      have := cnt_lt (p := fun _ => false) (q := fun q => b0.testBit q) (fun k z => by cases z) (k := q) rfl hq N 0 (by omega) (by have := h0 q hq; omega)
      show 0 + 1 ≤ cntB (fun q => b0.testBit q) 0 N
      omega
    | succ t ih =>
      rw [fo_snoc]
      rcases ih with ih | ih
      · left; rw [ih, ih]
      · by_cases e : R (fo (fun acc _ => R acc) b0 0 t) = fo (fun acc _ => R acc) b0 0 t
        · left; rw [e, e]
        · right
          obtain ⟨q, hq1, hq2⟩ : ∃ q, (R (fo (fun acc _ => R acc) b0 0 t)).testBit q = true ∧ (fo (fun acc _ => R acc) b0 0 t).testBit q = false := by
            apply Classical.byContradiction
            intro z
            refine e (sb.eq (fun q hq => ?_) (hR _))
            cases z2 : (fo (fun acc _ => R acc) b0 0 t).testBit q with
            | true => rfl
            | false => exact absurd ⟨q, hq, z2⟩ z
          have := cnt_lt (p := fun q => (fo (fun acc _ => R acc) b0 0 t).testBit q) (q := fun q => (R (fo (fun acc _ => R acc) b0 0 t)).testBit q) (hR _) hq2 hq1 N 0 (by omega) (by have := hB _ (hb t) q hq1; omega)
          omega
  intro t ht
  rcases key t with k | k
  · exact k
  · have := cnt_le (p := fun q => (fo (fun acc _ => R acc) b0 0 t).testBit q) N 0
    omega
/-- the reference's round -/
def jcS (S : Fld) (b acc j : Nat) : Nat := if b.testBit j = true then acc ||| nb (crs S j) (S.1 2) else acc
def jcR (S : Fld) (b : Nat) : Nat := fo (jcS S b) b 0 (S.1 2)
def jhang (S : Fld) (i : Nat) : Nat := fo (fun acc _ => jcR S acc) (2 ^ i) 0 8
section HEAP
variable {S : Fld}
theorem hgS_sb (x j : Nat) : sb x (hgS S x j) := by
  unfold hgS; split
  · exact sb.orl
  · exact sb.rf
theorem jcS_sb (b x j : Nat) : sb x (jcS S b x j) := by
  unfold jcS; split
  · exact sb.orl
  · exact sb.rf
/-- closed: who crosses one that is in, is in -/
def clo (S : Fld) (C : Nat) : Prop := ∀ j, j < S.1 2 → C.testBit j = true → sb (nb (crs S j) (S.1 2)) C
theorem clo_hg {b : Nat} (e : hgR S b = b) : clo S b := fun j hj hb => by
  obtain ⟨y, y1, y2⟩ := fo_at (hgS_sb (S := S)) (S.1 2) b 0 j (by omega) (by omega)
  have y3 : sb (hgS S y j) (hgR S b) := y2
  rw [e, hgS, if_pos (y1 j hb)] at y3
  exact sb.orr.tr y3
theorem clo_jc {b : Nat} (e : jcR S b = b) : clo S b := fun j hj hb => by
  obtain ⟨y, y1, y2⟩ := fo_at (jcS_sb (S := S) b) (S.1 2) b 0 j (by omega) (by omega)
  have y3 : sb (jcS S b y j) (jcR S b) := y2
  rw [e, jcS, if_pos hb] at y3
  exact sb.orr.tr y3
theorem hg_in {C b : Nat} (hC : clo S C) (h : sb b C) : sb (hgR S b) C := fo_sc (N := S.1 2) (fun x j hj hx => by
  unfold hgS; split
  · rename_i q; exact sb.or hx (hC j hj (hx j q))
  · exact hx) _ _ _ (by omega) h
theorem jc_in {C b : Nat} (hC : clo S C) (h : sb b C) : sb (jcR S b) C := fo_sc (N := S.1 2) (fun x j hj hx => by
  unfold jcS; split
  · rename_i q; exact sb.or hx (hC j hj (h j q))
  · exact hx) _ _ _ (by omega) h
theorem it_in {R : Nat → Nat} {C : Nat} (hR : ∀ b, sb b C → sb (R b) C) {b0 : Nat} (h : sb b0 C) : ∀ t, sb (fo (fun acc _ => R acc) b0 0 t) C := by
  intro t
  induction t with
  | zero => exact h
  | succ t ih => rw [fo_snoc]; exact hR _ ih
theorem tb_nb {j q : Nat} (z : (nb (crs S j) (S.1 2)).testBit q = true) : q < S.1 2 := by
  rw [nb_bit] at z
  simp only [Bool.and_eq_true, decide_eq_true_eq] at z
  exact z.1
def ful (n : Nat) : Nat := nb (fun _ => true) n
theorem ful_b {n q : Nat} : (ful n).testBit q = true ↔ q < n := by unfold ful; rw [nb_bit]; simp
theorem clo_ful : clo S (ful (S.1 2)) := fun j _ _ q z => ful_b.mpr (tb_nb z)
theorem hang_eq {i : Nat} (hi : i < S.1 2) (b5 : S.1 2 ≤ 8) : hang S i = jhang S i := by
  have p0 : ∀ q, (2 ^ i).testBit q = true → q < S.1 2 := fun q z => by
    rw [Nat.testBit_two_pow] at z
    have := of_decide_eq_true z; omega
  have p1 : ∃ q, (2 ^ i).testBit q = true := ⟨i, by rw [Nat.testBit_two_pow]; simp⟩
  have f1 : hgR S (hang S i) = hang S i := it_rest (R := hgR S) (N := S.1 2) (fun b => fo_sb hgS_sb _ _ _) (fun b hb q z => ful_b.mp (hg_in clo_ful (fun q z => ful_b.mpr (hb q z)) q z)) p0 p1 (S.1 2) (Nat.le_refl _)
  have f2 : jcR S (jhang S i) = jhang S i := it_rest (R := jcR S) (N := S.1 2) (fun b => fo_sb (jcS_sb b) _ _ _) (fun b hb q z => ful_b.mp (jc_in clo_ful (fun q z => ful_b.mpr (hb q z)) q z)) p0 p1 8 b5
  have g1 : sb (2 ^ i) (hang S i) := by
    have : ∀ t, sb (2 ^ i) (fo (fun acc _ => hgR S acc) (2 ^ i) 0 t) := fun t => by
      induction t with
      | zero => exact sb.rf
      | succ t ih => rw [fo_snoc]; exact ih.tr (fo_sb hgS_sb _ _ _)
    exact this _
  have g2 : sb (2 ^ i) (jhang S i) := by
    have : ∀ t, sb (2 ^ i) (fo (fun acc _ => jcR S acc) (2 ^ i) 0 t) := fun t => by
      induction t with
      | zero => exact sb.rf
      | succ t ih => rw [fo_snoc]; exact ih.tr (fo_sb (jcS_sb _) _ _ _)
    exact this _
  exact sb.eq (it_in (fun b => hg_in (clo_jc f2)) g2 _) (it_in (fun b => jc_in (clo_hg f1)) g1 _)
/-- who is in a heap is on -/
theorem hang_on {i j : Nat} (hi : i < S.1 2) (ho : onb S i = true) (hj : (hang S i).testBit j = true) : j < S.1 2 ∧ onb S j = true := by
  have hC : clo S (nb (onb S) (S.1 2)) := fun k hk hb q z => by
    rw [nb_bit] at z ⊢
    simp only [Bool.and_eq_true, decide_eq_true_eq] at z ⊢
    refine ⟨z.1, ?_⟩
    have z2 := z.2
    unfold crs crb at z2
    simp only [Bool.and_eq_true, decide_eq_true_eq] at z2
    unfold onb
    simp [z.1, z2.2.1.1.1.1.2]
  have h0 : sb (2 ^ i) (nb (onb S) (S.1 2)) := fun q z => by
    rw [Nat.testBit_two_pow] at z
    have := of_decide_eq_true z
    subst this
    rw [nb_bit, ho]; simp [hi]
  have := it_in (fun b => hg_in hC) h0 (S.1 2) j hj
  rw [nb_bit] at this
  simpa using this
end HEAP
section RFACE6
variable {h h1 : Hp} {A : Ast} {m n : Nat} {S : Fld}
theorem jcS_lt {b acc j : Nat} (b5 : S.1 2 ≤ 8) (ha : acc < 2 ^ 8) : jcS S b acc j < 2 ^ 8 := by
  unfold jcS; split
  · exact Nat.or_lt_two_pow ha (Nat.lt_of_lt_of_le (nb_lt _ _) (Nat.pow_le_pow_right (by omega) b5))
  · exact ha
theorem jcR_lt {b : Nat} (b5 : S.1 2 ≤ 8) (ha : b < 2 ^ 8) : jcR S b < 2 ^ 8 := fo_inv (P := fun x => x < 2 ^ 8) (step := jcS S b) (fun x i hx => jcS_lt b5 hx) _ _ _ ha
theorem r_heap (c : RM h m A n) (a : WA A n) (x : Int32) : Ok (f_X10_heap h m x) (fun o => o.1 = (sp_heap A x).1 ∧ RM o.2 m (sp_heap A x).2 n ∧ EqOff (FM m) h o.2) := by
  have hF := FU_big
  have hb := ncl_le a.w
  have b5 := a.w.2.2.2.2.1
  rw [f_X10_heap]
  refine r_th c (fun h1 c1 o1 _ => ?_)
  have s := c1.s
  rw [m_isCamp c1.g c1.w a.w, bd_s, s.r6]
  simp only [nB_0]
  unfold sp_heap
  cases hx : campOf (aS A) x with
  | none => exact ok_t rfl (ok_some ⟨rfl, c1, o1.ofs⟩)
  | some i =>
    obtain ⟨rfl, hi⟩ := campOf_s (by omega) hx
    refine ok_f (by simp) (ok_gd (nz_t (by omega)) ?_)
    rw [m_isOn c1.w a.w (by omega), bd_s]
    simp only [nB_0]
    cases ho : onb (aS A) i with
    | false => exact ok_t rfl (ok_some ⟨rfl, c1, o1.ofs⟩)
    | true =>
      refine ok_f (by simp) ?_
      rw [i1, shl_1 i (by omega), lt_u, hang_eq hi b5]
      have inn : ∀ (k35 : Hp → Int32 → Int32 → Option (Int32 × Hp)) (b : Nat) (r : Int32), b < 2 ^ 8 → f_X10_heap_47 m (nI i) k35 FU h1 (nI b) r (nI b) (nI 0) = k35 h1 (nI (jcR (aS A) b)) (r + 1) := by
        intro k35 b r hb8
        have e := fo_lpI (fun k (acc : Nat) j => f_X10_heap_47 m (nI i) k35 k h1 (nI b) r (nI acc) j) ((aS A).1 2) (jcS (aS A) b) (fun acc => k35 h1 (nI acc) (r + 1)) (fun acc _ => acc < 2 ^ 8) (fun acc j _ ha => jcS_lt b5 ha) (fun k acc j hj ha => ?_) (fun k acc ha => ?_) ((aS A).1 2) FU b 0 hb8 (by omega) (by omega)
        · exact e.1
        · show f_X10_heap_47 m (nI i) k35 (k + 1) h1 (nI b) r (nI acc) (nI j) = f_X10_heap_47 m (nI i) k35 k h1 (nI b) r (nI (jcS (aS A) b acc j)) (nI (j + 1))
          simp only [f_X10_heap_47, f_X10_heap_85, lt_u]
          rw [s.r6, s.t2, show ix (48 : Int32) = 48 by decide, c1.w.n, gd_t (nz_t (by omega)), gd_t (by decide), if_neg (by rw [nI_leI (by omega) (by omega)]; omega), p_hasI h1 (by omega) (by omega), bd_s, m_crossing c1.g c1.w a.w hj, bd_s, i1, nI_add, bitsB_nb _ _ (by omega), nI_or, i0, nI_or, Nat.or_zero]
          simp only [nB_00]
          unfold jcS
          cases b.testBit j <;> simp
        · show f_X10_heap_47 m (nI i) k35 (k + 1) h1 (nI b) r (nI acc) (nI ((aS A).1 2)) = _
          simp only [f_X10_heap_47, lt_u]
          rw [s.r6, s.t2, show ix (48 : Int32) = 48 by decide, c1.w.n, gd_t (nz_t (by omega)), gd_t (by decide), if_pos (Int32.le_refl _)]
      have e := fo_lpI (fun k (acc : Nat) j => f_X10_heap_35 m (nI i) k h1 (nI acc) j) 8 (fun acc _ => jcR (aS A) acc) (fun acc => f_X10_heap_35 m (nI i) 1 h1 (nI acc) (nI 8)) (fun acc _ => acc < 2 ^ 8) (fun acc j _ ha => jcR_lt b5 ha) (fun k acc j hj ha => ?_) (fun k acc ha => ?_) 8 FU (2 ^ i) 0 (Nat.pow_lt_pow_right (by omega) (by omega)) (by omega) (by omega)
      · have hl : jhang (aS A) i < 2 ^ 8 := e.2
        rw [i0, show f_X10_heap_35 m (nI i) FU h1 (nI (2 ^ i)) (nI 0) = f_X10_heap_35 m (nI i) 1 h1 (nI (jhang (aS A) i)) (nI 8) from e.1]
        simp only [f_X10_heap_35]
        refine ok_lt (fun k ek => ?_)
        clear ek
        refine ok_t (by decide) (r_t0 c1 (fun h10 c10 o10 => ?_))
        rw [p_bc, bd_s]
        refine ok_bd (m_enters c10 (by simp [aT, wT, mkA]) _) (fun h12 ⟨c12, o12⟩ => ?_)
        rw [c12.s.r6, m_sleptBy c12.g c12.w a.w (by omega), bd_s]
        have es : bitsL (slp (aS A) (fun j => (jhang (aS A) i).testBit j)) (ncl (aS A)) = bitsL (fun kc => decide (∃ j, j < (aS A).1 2 ∧ (jhang (aS A) i).testBit j = true ∧ cov (aS A) kc j = true)) (ncl (aS A)) := bitsL_congr (fun kc _ => by
          unfold slp
          congr 1
          apply propext
          constructor
          · rintro ⟨j, z1, z2, z3, z4⟩; exact ⟨j, z1, z3, z4⟩
          · rintro ⟨j, z1, z3, z4⟩
            exact ⟨j, z1, (hang_on hi ho (by rw [hang_eq hi b5]; exact z3)).2, z3, z4⟩)
        have es2 : bitsL (slp (aS (wT (wT A []) (aT (wT A []) ++ [(bc32 (nI (jhang (aS A) i))).toInt64]))) (fun j => (jhang (aS A) i).testBit j)) (ncl (aS (wT (wT A []) (aT (wT A []) ++ [(bc32 (nI (jhang (aS A) i))).toInt64])))) = bitsL (slp (aS A) (fun j => (jhang (aS A) i).testBit j)) (ncl (aS A)) := rfl
        rw [es2, es]
        refine ok_gd (nz_t (by omega)) (ok_bd (m_enters c12 (by simp [aT, wT, mkA]) _) (fun h16 ⟨c16, o16⟩ => ok_some ⟨rfl, c16, o1.ofs.tr ((Dt_FM o10).tr ((Dt_FM o12).tr (Dt_FM o16)))⟩))
      · show f_X10_heap_35 m (nI i) (k + 1) h1 (nI acc) (nI j) = f_X10_heap_35 m (nI i) k h1 (nI (jcR (aS A) acc)) (nI (j + 1))
        simp only [f_X10_heap_35, lt_u]
        rw [if_neg (by rw [i8, nI_leI (by omega) (by omega)]; omega), show (0 : Int32) = nI 0 from rfl, inn _ _ _ ha, i1, nI_add]
      · show f_X10_heap_35 m (nI i) (k + 1) h1 (nI acc) (nI 8) = f_X10_heap_35 m (nI i) 1 h1 (nI acc) (nI 8)
        simp only [f_X10_heap_35, lt_u]
        rw [if_pos (by decide), if_pos (by decide)]
end RFACE6
