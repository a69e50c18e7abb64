section RFACE5
variable {h h1 : Hp} {A : Ast} {m n : Nat} {S : Fld}
/-- what a row of cells shows: camps on over a cell of row r -/
theorem ocv_rc (hw : wfF S) {r k i : Nat} (hk : k < S.1 1) : ocv S (S.1 1 * r + k) i = (onb S i && ovr S i r && ovc S i k) := by
  obtain ⟨e1, e2⟩ := dm_1 (r := r) hk
  rw [Nat.mul_comm] at e1 e2
  unfold ocv
  rw [e1, e2]
/-- bits seen by now, the highest by now -/
def svI (S : Fld) (r c : Nat) (s : Nat × Nat) : Prop := (∀ k, s.1.testBit k = (decide (k < S.1 2) && snb S r k && decide (S.2 1 k < c))) ∧ (∀ j, j < S.1 2 → onb S j = true → ovr S j r = true → S.2 1 j < c → S.2 4 j ≤ s.2) ∧ (s.2 = 0 ∨ ∃ j, j < S.1 2 ∧ onb S j = true ∧ ovr S j r = true ∧ S.2 1 j < c ∧ S.2 4 j = s.2) ∧ s.2 ≤ 9
def svJ (S : Fld) (r c : Nat) (s : Nat × Nat) (k : Nat) (t : Nat × Nat) : Prop := (∀ j, t.1.testBit j = (s.1.testBit j || (decide (j < k) && (onb S j && ovr S j r && ovc S j c) && decide (s.2 ≤ S.2 4 j)))) ∧ (∀ j, j < k → (onb S j && ovr S j r && ovc S j c) = true → S.2 4 j ≤ t.2) ∧ (t.2 = 0 ∨ ∃ j, j < k ∧ (onb S j && ovr S j r && ovc S j c) = true ∧ S.2 4 j = t.2) ∧ t.2 ≤ 9
theorem tb_lt8 {x n : Nat} (hn : n ≤ 8) (hx : ∀ k, x.testBit k = true → k < n) : x < 2 ^ 8 := by
  apply Nat.lt_pow_two_of_testBit
  intro k hk
  cases z : x.testBit k with
  | false => rfl
  | true => have := hx k z; omega
theorem svI.lt {r c : Nat} {s : Nat × Nat} (hw : wfF S) (d : svI S r c s) : s.1 < 2 ^ 8 := tb_lt8 hw.2.2.2.2.1 (fun k z => by
  rw [d.1 k] at z
  simp only [Bool.and_eq_true, decide_eq_true_eq] at z
  exact z.1.1)
theorem svJ.lt {r c k : Nat} {s t : Nat × Nat} (hw : wfF S) (d : svI S r c s) (hk : k ≤ S.1 2) (e : svJ S r c s k t) : t.1 < 2 ^ 8 := tb_lt8 hw.2.2.2.2.1 (fun j z => by
  rw [e.1 j, d.1 j] at z
  simp only [Bool.or_eq_true, Bool.and_eq_true, decide_eq_true_eq] at z
  rcases z with z | z
  · exact z.1.1
  · have := z.1.1; omega)
theorem hid_iff {r i : Nat} : hid S i r = true ↔ ∃ j, j < S.1 2 ∧ ovr S j r = true ∧ S.2 1 j < S.2 1 i ∧ S.2 4 i < S.2 4 j := by
  unfold hid; simp
theorem svJ.next {r c : Nat} {s t : Nat × Nat} (hw : wfF S) (d : svI S r c s) (e : svJ S r c s (S.1 2) t) : svI S r (c + 1) (t.1, max s.2 t.2) := by
  obtain ⟨d1, d2, d3, d4⟩ := d
  obtain ⟨e1, e2, e3, e4⟩ := e
  have wd : ∀ j, j < S.1 2 → 1 ≤ S.2 3 j := fun j hj => (hw.2.2.2.2.2.2.2.2 j hj).2.2.1
  have ov : ∀ j, j < S.1 2 → (ovc S j c = true ↔ S.2 1 j ≤ c ∧ c < S.2 1 j + S.2 3 j) := fun j hj => by unfold ovc; simp [hj]
  have on4 : ∀ j, j < S.1 2 → 0 < S.2 4 j → onb S j = true := fun j hj z => by unfold onb; simp [hj, z]
  refine ⟨fun k => ?_, fun j hj z1 z2 z3 => ?_, ?_, by simp only; omega⟩
  · show t.1.testBit k = _
    rw [e1 k, d1 k]
    by_cases hk : k < S.1 2
    · have key : (snb S r k = true ∧ S.2 1 k < c + 1) ↔ ((snb S r k = true ∧ S.2 1 k < c) ∨ ((onb S k = true ∧ ovr S k r = true ∧ ovc S k c = true) ∧ s.2 ≤ S.2 4 k)) := by
        have hs : snb S r k = true ↔ (onb S k = true ∧ ovr S k r = true ∧ ¬ hid S k r = true) := by unfold snb; simp [and_assoc]
        rw [hs, ov k hk, hid_iff]
        constructor
        · rintro ⟨⟨z1, z2, z3⟩, z4⟩
          by_cases q : S.2 1 k < c
          · exact Or.inl ⟨⟨z1, z2, z3⟩, q⟩
          · have := wd k hk
            refine Or.inr ⟨⟨z1, z2, by omega, by omega⟩, ?_⟩
            apply Classical.byContradiction
            intro q2
            rcases d3 with d3 | ⟨j, f1, f2, f3, f4, f5⟩
            · omega
            · exact z3 ⟨j, f1, f3, by omega, by omega⟩
        · rintro (⟨z, q⟩ | ⟨⟨z1, z2, z3, z4⟩, z5⟩)
          · exact ⟨z, by omega⟩
          · refine ⟨⟨z1, z2, ?_⟩, by omega⟩
            rintro ⟨j, f1, f2, f3, f4⟩
            have := d2 j f1 (on4 j f1 (by omega)) f2 (by omega)
            omega
      have e0 : (decide (k < S.1 2) && snb S r k && decide (S.2 1 k < c + 1)) = decide (snb S r k = true ∧ S.2 1 k < c + 1) := by simp [hk]
      rw [e0]
      simp only [key]
      simp [hk, Bool.and_assoc]
    · simp [hk]
  · show S.2 4 j ≤ max s.2 t.2
    by_cases q : S.2 1 j < c
    · have := d2 j hj z1 z2 q; omega
    · have := wd j hj
      have := e2 j hj (by simp only [z1, z2, Bool.true_and]; exact (ov j hj).mpr ⟨by omega, by omega⟩)
      omega
  · show max s.2 t.2 = 0 ∨ ∃ j, j < S.1 2 ∧ onb S j = true ∧ ovr S j r = true ∧ S.2 1 j < c + 1 ∧ S.2 4 j = max s.2 t.2
    by_cases q : t.2 ≤ s.2
    · rw [Nat.max_eq_left q]
      rcases d3 with d3 | ⟨j, f1, f2, f3, f4, f5⟩
      · exact Or.inl d3
      · exact Or.inr ⟨j, f1, f2, f3, by omega, f5⟩
    · rw [Nat.max_eq_right (by omega)]
      rcases e3 with e3 | ⟨j, f1, f2, f3⟩
      · exact Or.inl e3
      · simp only [Bool.and_eq_true] at f2
        have := (ov j f1).mp f2.2
        exact Or.inr ⟨j, f1, f2.1.1, f2.1.2, by omega, f3⟩
theorem mx_nI {a b : Nat} (ha : a < 2 ^ 31) (hb : b < 2 ^ 31) : mx32 (nI a) (nI b) = nI (max a b) := by
  unfold mx32
  simp only [nI_lt0 ha hb]
  by_cases q : a < b
  · rw [if_pos q, Nat.max_eq_right (by omega)]
  · rw [if_neg q, Nat.max_eq_left (by omega)]
theorem m_seenFrom (g : atG h m S) (w : atW h (m + 2) S) (hw : wfF S) {r : Nat} (hr : r < S.1 0) : f_X10_seenFrom h m (nI r) = some (bitsB (snb S r) (S.1 2)) := by
  have hF := FU_big
  have b2 := hw.2.1
  have b4 := hw.2.2.2.1
  have b5 := hw.2.2.2.2.1
  have sM := g.1
  have hcell := ncl_le hw
  suffices H : Ok (f_X10_seenFrom h m (nI r)) (fun o => o = bitsB (snb S r) (S.1 2)) by
    obtain ⟨o, e1, e2⟩ := H
    rw [e1, e2]
  refine okl (fun k (s : Nat × Nat) i => f_X10_seenFrom_7 h m (nI r) k (nI s.1) (nI s.2) i) (S.1 1) (fun c s => svI S r c s) _ (fun k c s hc d kk => ?_) (fun k s d => ?_) (S.1 1) FU 0 (0, 0) (by omega) (by omega) ⟨fun k => by simp, fun j _ _ _ z => by omega, Or.inl rfl, by simp⟩
  · have hs1 := d.lt hw
    have hs2 := d.2.2.2
    show Ok (f_X10_seenFrom_7 h m (nI r) (k + 1) (nI s.1) (nI s.2) (nI c)) _
    simp only [f_X10_seenFrom_7]
    refine ok_lt (fun k2 ek => ?_)
    subst ek
    have hrc : S.1 1 * r + c < 1000 := by
      have : S.1 1 * r ≤ 6 * 6 := Nat.mul_le_mul b4 (by omega)
      omega
    rw [g.2.2, sM.r6, pk_mul, nI_add, m_campsOver g w hw hrc, bd_s]
    refine ok_f (by rw [nI_leI (by omega) (by omega)]; omega) (ok_gd (nz_t (by omega)) ?_)
    refine okl (fun q (t : Nat × Nat) i => f_X10_seenFrom_41 h m (nI r) (f_X10_seenFrom_7 h m (nI r) k) q (nI t.1) (nI s.2) (nI c) (bitsB (ocv S (S.1 1 * r + c)) (S.1 2)) (nI t.2) i) (S.1 2) (fun j t => svJ S r c s j t) _ (fun q j t hj e jj => ?_) (fun q t e => ?_) (S.1 2) FU 0 (s.1, 0) (by omega) (by omega) ⟨fun j => by simp, fun j z => by omega, Or.inl rfl, by simp⟩
    · have ht1 := e.lt hw d (by omega)
      have ht2 := e.2.2.2
      have hst : S.2 4 j ≤ 99 := hw.2.2.2.2.2.2.2.1 4 j
      have hst9 : S.2 4 j ≤ 9 := (hw.2.2.2.2.2.2.2.2 j hj).2.2.2.2.2.2.1
      show Ok (f_X10_seenFrom_41 h m (nI r) (f_X10_seenFrom_7 h m (nI r) k) (q + 1) (nI t.1) (nI s.2) (nI c) (bitsB (ocv S (S.1 1 * r + c)) (S.1 2)) (nI t.2) (nI j)) _
      simp only [f_X10_seenFrom_41, f_X10_seenFrom_86, f_X10_seenFrom_87, f_X10_seenFrom_116]
      refine ok_lt (fun k2 ek => ?_)
      subst ek
      rw [sM.r6, sM.t2, show ix (48 : Int32) = 48 by decide, w.n, p_hasB h (by omega) (by omega), bd_s, ocv_rc hw hc, j24, ix_nI (by omega), w.v4 hj]
      refine ok_gd (nz_t (by omega)) (ok_gd (by decide) (ok_f (by rw [nI_leI (by omega) (by omega)]; omega) ?_))
      simp only [nB_0, bd_s]
      have fin : ∀ t', svJ S r c s (j + 1) t' → Ok (lt (nI j + 1) fun v24 => f_X10_seenFrom_41 h m (nI r) (f_X10_seenFrom_7 h m (nI r) k) q (nI t'.1) (nI s.2) (nI c) (bitsB (ocv S (S.1 1 * r + c)) (S.1 2)) (nI t'.2) v24) (fun o => o = bitsB (snb S r) (S.1 2)) := fun t' e' => by
        rw [lt_u, i1, nI_add]; exact jj t' e'
      obtain ⟨e1, e2, e3, e4⟩ := e
      have sp : ∀ {P : Nat → Prop}, (∃ i, i < j ∧ P i) → ∃ i, i < j + 1 ∧ P i := fun ⟨i, z1, z2⟩ => ⟨i, by omega, z2⟩
      cases hb : (onb S j && ovr S j r && ovc S j c) with
      | false =>
        refine ok_t (by simp [hj]) ?_
        simp only [lt_u, hb, Bool.and_false, if_true]
        rw [i0, nI_or, mx_nI (by omega) (by omega), Nat.or_zero, Nat.max_eq_left (by omega)]
        refine fin t ⟨fun i => ?_, fun i hi z => ?_, ?_, e4⟩
        · rw [e1 i]
          by_cases q : i = j
          · subst q; simp [hb]
          · simp only [show (i < j + 1) = (i < j) from propext ⟨fun z => by omega, fun z => by omega⟩]
        · by_cases q : i = j
          · subst q; rw [hb] at z; cases z
          · exact e2 i (by omega) z
        · exact e3.imp id sp
      | true =>
        refine ok_f (by simp [hj]) (ok_gd (inb_nI (by omega) (by omega)) ?_)
        simp only [lt_u, hb, hj, decide_true, Bool.and_self, Bool.true_eq_false, if_false]
        have e3' : max t.2 (S.2 4 j) = 0 ∨ ∃ i, i < j + 1 ∧ (onb S i && ovr S i r && ovc S i c) = true ∧ S.2 4 i = max t.2 (S.2 4 j) := by
          by_cases q : S.2 4 j ≤ t.2
          · rw [Nat.max_eq_left q]; exact e3.imp id sp
          · rw [Nat.max_eq_right (by omega)]; exact Or.inr ⟨j, by omega, hb, rfl⟩
        have e2' : ∀ i, i < j + 1 → (onb S i && ovr S i r && ovc S i c) = true → S.2 4 i ≤ max t.2 (S.2 4 j) := fun i hi z => by
          by_cases q : i = j
          · subst q; omega
          · have := e2 i (by omega) z; omega
        refine ok_if (fun q => ok_gd (nz_t (by omega)) (ok_gd (inb_nI (by omega) (by omega)) ?_)) (fun q => ok_gd (nz_t (by omega)) (ok_gd (inb_nI (by omega) (by omega)) ?_))
        · rw [nI_ltI (by omega) (by omega)] at q
          rw [i0, nI_or, mx_nI (by omega) (by omega), Nat.or_zero]
          refine fin (t.1, max t.2 (S.2 4 j)) ⟨fun i => ?_, e2', e3', by simp only; omega⟩
          show t.1.testBit i = _
          rw [e1 i]
          by_cases q2 : i = j
          · subst q2; simp [show ¬ s.2 ≤ S.2 4 i by omega]
          · simp only [show (i < j + 1) = (i < j) from propext ⟨fun z => by omega, fun z => by omega⟩]
        · rw [nI_ltI (by omega) (by omega)] at q
          rw [i1, shl_1 j (by omega), nI_or, mx_nI (by omega) (by omega), ← i1]
          refine fin (t.1 ||| 2 ^ j, max t.2 (S.2 4 j)) ⟨fun i => ?_, e2', e3', by simp only; omega⟩
          show (t.1 ||| 2 ^ j).testBit i = _
          rw [Nat.testBit_or, Nat.testBit_two_pow, e1 i]
          by_cases q2 : i = j
          · subst q2
            simp only [Nat.lt_irrefl, decide_false, Bool.false_and, Bool.or_false, decide_true, Bool.or_true, Nat.lt_succ_self, hb, Bool.true_and]
            rw [decide_eq_true (show s.2 ≤ S.2 4 i by omega), Bool.or_true]
          · simp only [show (i < j + 1) = (i < j) from propext ⟨fun z => by omega, fun z => by omega⟩, show ¬ j = i by omega, decide_false, Bool.or_false]
    · have ht1 := e.lt hw d (Nat.le_refl _)
      have ht2 := e.2.2.2
      show Ok (f_X10_seenFrom_41 h m (nI r) (f_X10_seenFrom_7 h m (nI r) k) (q + 1) (nI t.1) (nI s.2) (nI c) (bitsB (ocv S (S.1 1 * r + c)) (S.1 2)) (nI t.2) (nI (S.1 2))) _
      simp only [f_X10_seenFrom_41]
      refine ok_lt (fun k2 ek => ?_)
      clear ek
      rw [sM.r6, sM.t2, show ix (48 : Int32) = 48 by decide, w.n]
      refine ok_gd (nz_t (by omega)) (ok_gd (by decide) (ok_t (Int32.le_refl _) ?_))
      rw [lt_u, lt_u, mx_nI (by omega) (by omega), i1, nI_add]
      exact kk (t.1, max s.2 t.2) (e.next hw d)
  · show Ok (f_X10_seenFrom_7 h m (nI r) (k + 1) (nI s.1) (nI s.2) (nI (S.1 1))) _
    simp only [f_X10_seenFrom_7]
    refine ok_lt (fun k2 ek => ?_)
    clear ek
    rw [g.2.2]
    refine ok_t (Int32.le_refl _) (ok_some ?_)
    rw [bitsB_nb _ _ (by omega)]
    congr 1
    apply Nat.eq_of_testBit_eq
    intro j
    rw [d.1 j, nb_bit]
    by_cases hj : j < S.1 2
    · have h9 := hw.2.2.2.2.2.2.2.2 j hj
      rw [decide_eq_true (show S.2 1 j < S.1 1 by omega), Bool.and_true]
    · simp [hj]
theorem r_seen (c : RM h m A n) (a : WA A n) (x : Int32) : Ok (f_X10_seen h m x) (fun o => o.1 = (sp_seen A x).1 ∧ RM o.2 m (sp_seen A x).2 n ∧ EqOff (FM m) h o.2) := by
  have b1 := a.w.1
  have b2 := a.w.2.1
  rw [f_X10_seen]
  refine r_th c (fun h1 c1 o1 _ => ?_)
  rw [c1.g.2.1, z64_0, i1, p_in, bd_s]
  simp only [nB_0, le_m1 (show (aS A).1 0 < 2 ^ 31 by omega)]
  unfold sp_seen
  by_cases q : 0 ≤ x ∧ x < nI ((aS A).1 0)
  · rw [if_pos q]
    refine ok_f (by simp [q]) ?_
    obtain ⟨e, h3⟩ := nI_ix q.1
    have q2 := q.2
    rw [e, nI_ltI h3 (by omega)] at q2
    have e2 := m_seenFrom c1.g c1.w a.w (r := ix x) q2
    rw [← e] at e2
    rw [e2, bd_s]
    simp only [p_bc, bd_s]
    exact r_say1 c1 o1.ofs
  · rw [if_neg q]
    exact ok_t (decide_eq_false q) (ok_some ⟨rfl, c1, o1.ofs⟩)
end RFACE5
