/-! ways: the class tells a way -/
theorem getD_rev {l : List Int64} {j : Nat} (hj : j < l.length) : l.reverse.getD j 0 = l.getD (l.length - 1 - j) 0 := by
  rw [List.getD_eq_getElem?_getD, List.getD_eq_getElem?_getD, List.getElem?_reverse hj]
theorem p_turn {h : Hp} {a : Nat} {l : List Int64} (c : atT h a l) : Ok (f_X7_turnRound h a) (fun h1 => atT h1 a l.reverse ∧ EqOff (F2 a) h h1) := by
  have hF := FU_big
  obtain ⟨c1, c2, c3, c4, c5, c6⟩ := c
  rw [f_X7_turnRound, i0]
  refine okl (fun q s i => f_X7_turnRound_2 a q s i) (l.length / 2) (fun i s => (∀ j, j < l.length → hpL s (a + 1) j = if j < i ∨ l.length - i ≤ j then l.getD (l.length - 1 - j) 0 else l.getD j 0) ∧ hpI s a 1 = nI l.length ∧ EqOff (F2 a) h s) _ (fun q i s hi ⟨v1, v2, v3⟩ k => ?_) (fun q s ⟨v1, v2, v3⟩ => ?_) (l.length / 2) FU 0 h (by omega) (by omega) ⟨fun j hj => ?_, c4, EqOff.rf⟩
  · have r2 : hpR s a 0 = a + 1 := by rw [v3.2.2.1]; exact c2
    have t2 : hpT s (a + 1) = (3, 128) := by rw [v3.2.2.2.1]; exact c3
    have e1 : nI l.length - (1 : Int32) - nI i = nI (l.length - 1 - i) := by rw [i1, pk_sub (by omega), pk_sub (by omega)]
    have ew : nI i + (1 : Int32) = nI (i + 1) := by rw [i1, nI_add]
    have vi : hpL s (a + 1) i = l.getD i 0 := by rw [v1 i (by omega), if_neg (by omega)]
    have vj : hpL s (a + 1) (l.length - 1 - i) = l.getD (l.length - 1 - i) 0 := by rw [v1 _ (by omega), if_neg (by omega)]
    simp only [f_X7_turnRound_2, lt_u, hpI_upL]
    rw [v2, show (2 : Int32) = nI 2 by decide, pk_div (by omega) (by omega) (by omega), r2, t2, e1, ix_nI (by omega), ix_nI (by omega), vi, vj, ew]
    have R1 : ∀ u, hpR (upL s (a + 1) i u) a 0 = a + 1 := fun u => r2
    have T1 : ∀ u, hpT (upL s (a + 1) i u) (a + 1) = (3, 128) := fun u => t2
    rw [R1, T1]
    refine ok_f (by rw [nI_leI (by omega) (by omega)]; omega) (ok_gd (nz_t (by omega)) (ok_gd (inb_nI (by omega) (by omega)) (ok_gd (inb_nI (by omega) (by omega)) (ok_gd (inb_nI (by omega) (by omega)) (ok_gd (nz_t (by omega)) (ok_gd (inb_nI (by omega) (by omega)) (k _ ⟨fun j hj => ?_, ?_, ?_⟩)))))))
    · rw [hpL_upL, hpL_upL]
      by_cases q1 : j = l.length - 1 - i
      · rw [if_pos ⟨rfl, q1⟩, if_pos (by omega), q1, show l.length - 1 - (l.length - 1 - i) = i by omega]
      · rw [if_neg (fun z => q1 z.2)]
        by_cases q2 : j = i
        · rw [if_pos ⟨rfl, q2⟩, if_pos (by omega), q2]
        · rw [if_neg (fun z => q2 z.2), v1 j hj]
          by_cases q3 : j < i ∨ l.length - i ≤ j
          · rw [if_pos q3, if_pos (by omega)]
          · rw [if_neg q3, if_neg (by omega)]
    · rw [hpI_upL, hpI_upL]; exact v2
    · exact v3.tr ((EqOff.uL (Or.inr rfl)).tr (EqOff.uL (Or.inr rfl)))
  · simp only [f_X7_turnRound_2, lt_u]
    rw [v2, show (2 : Int32) = nI 2 by decide, pk_div (by omega) (by omega) (by omega)]
    refine ok_t (Int32.le_refl _) (ok_some ⟨⟨by rw [v3.2.2.2.1]; exact c1, by rw [v3.2.2.1]; exact c2, by rw [v3.2.2.2.1]; exact c3, by rw [List.length_reverse]; exact v2, by rw [List.length_reverse]; exact c5, fun j hj => ?_⟩, v3⟩)
    rw [List.length_reverse] at hj
    rw [getD_rev hj, v1 j hj]
    by_cases q3 : j < l.length / 2 ∨ l.length - l.length / 2 ≤ j
    · rw [if_pos q3]
    · rw [if_neg q3, show l.length - 1 - j = j by omega]
  · rw [if_neg (by omega)]; exact c6 j hj
def rowR (r : Nat → Nat) (k : Nat) : List Int64 := (List.range k).map (fun t => (nI (r t / 256)).toInt64)
def rowB (r : Nat → Nat) (L k : Nat) : List Int64 := (List.range k).map (fun t => (nI (r (L - t) / 256)).toInt64)
theorem rowB_s {r : Nat → Nat} {L k : Nat} : rowB r L (k + 1) = rowB r L k ++ [(nI (r (L - k) / 256)).toInt64] := by
  unfold rowB; rw [List.range_succ, List.map_append]; rfl
theorem rowB_n {r : Nat → Nat} {L k : Nat} : (rowB r L k).length = k := by unfold rowB; rw [List.length_map, List.length_range]
theorem rowB_r {r : Nat → Nat} {L : Nat} : (rowB r L (L + 1)).reverse = rowR r (L + 1) := by
  unfold rowB rowR
  apply List.ext_getElem
  · rw [List.length_reverse, List.length_map, List.length_map]
  · intro i h1 h2
    rw [List.length_map, List.length_range] at h2
    simp only [List.getElem_reverse, List.getElem_map, List.getElem_range, List.length_map, List.length_range]
    rw [show L - (L + 1 - 1 - i) = i by omega]
section CTELL
variable {h : Hp} {A : Ast} {q pr r : Nat → Nat} {n L i : Nat}
theorem c_tell (c : RC h A) (hn : n ≤ 9216) (n1 : 0 < n) (H : ∀ j, j < n → hpI h 171 j = nI (pr j * 16384 + q j)) (hq : ∀ j, j < n → q j < 9216) (hp : ∀ j, j < n → pr j < n) (hd : ∀ j, j < n → q j = r 0 → j = 0) (q0 : q 0 = r 0) (hL : L ≤ 127) (hi : i < n) (ei : q i = r L) (ch : ∀ k x, k < L → x < n → q x = r (k + 1) → 0 < x ∧ q (pr x) = r k) : Ok (f_X8_tellWay h 170 (nI i) 4) (fun o => o.1 = nI L ∧ RC o.2 (wT A (rowR r (L + 1))) ∧ EqOff FX h o.2) := by
  have hF := FU_big
  rw [f_X8_tellWay]
  refine ok_bd (c_t0 c) (fun h1 ⟨c1, o1⟩ => ?_)
  have fin : ∀ s, RC s (wT A (rowB r L L)) → EqOff (F2 4) h s → Ok (f_X8_tellWay_68 170 (nI i) 4 s) (fun o => o.1 = nI L ∧ RC o.2 (wT A (rowR r (L + 1))) ∧ EqOff FX h o.2) := fun s cs os => by
    have v0 : hpI s 171 0 = nI (pr 0 * 16384 + q 0) := by rw [os.1 _ _ (fun z => by unfold F2 at z; omega)]; exact H 0 n1
    have b0 := hq 0 n1
    have b1 := hp 0 n1
    rw [f_X8_tellWay_68, cs.s.r170_0, cs.s.t171, show ix (0 : Int32) = 0 by decide, v0, show (16384 : Int32) = nI 16384 by decide, rm_nI (by omega) (by omega) (by omega), show (pr 0 * 16384 + q 0) % 16384 = q 0 by omega, lt_u, show (256 : Int32) = nI 256 by decide, pk_div (by omega) (by omega) (by omega), q0]
    refine ok_gd (by decide) (ok_gd (by decide) (ok_bd (c_t1 cs (by show (rowB r L L).length < 128; rw [rowB_n]; omega) _) (fun h21 ⟨c21, o21⟩ => ?_)))
    have e : rowB r L (L + 1) = rowB r L L ++ [(nI (r 0 / 256)).toInt64] := by rw [rowB_s, Nat.sub_self]
    have c21 : RC h21 (wT A (rowB r L (L + 1))) := by rw [e]; exact c21
    refine ok_bd (p_turn c21.t) (fun h22 ⟨t22, o22⟩ => ok_some ⟨?_, ?_, ?_⟩)
    · have := t22.2.2.2.1
      show hpI h22 4 1 - 1 = nI L
      rw [this, List.length_reverse]
      show nI (rowB r L (L + 1)).length - 1 = nI L
      rw [rowB_n, i1, pk_sub (by omega), Nat.add_sub_cancel]
    · have c22 := c21.told t22 o22
      have : aT (wT A (rowB r L (L + 1))) = rowB r L (L + 1) := rfl
      rw [this, rowB_r] at c22
      exact c22
    · exact F24y (os.tr (o21.tr o22))
  have go : ∀ k f s x, k < f → k ≤ L → x < n → q x = r k → RC s (wT A (rowB r L (L - k))) → EqOff (F2 4) h s → Ok (f_X8_tellWay_9 170 (nI i) 4 f s (nI x) (nI (L - k))) (fun o => o.1 = nI L ∧ RC o.2 (wT A (rowR r (L + 1))) ∧ EqOff FX h o.2) := by
    intro k
    induction k with
    | zero =>
      intro f s x e1 e2 hx ex cs os
      obtain ⟨f, rfl⟩ : ∃ j, f = j + 1 := ⟨f - 1, by omega⟩
      have := hd x hx ex
      subst this
      simp only [f_X8_tellWay_9, lt_u]
      rw [cs.s.r170_0, cs.s.t171]
      exact ok_gd (by decide) (ok_f (by rw [nI_leI (by omega) (by omega)]; omega) (ok_t (by decide) (fin s cs os)))
    | succ k ih =>
      intro f s x e1 e2 hx ex cs os
      obtain ⟨f, rfl⟩ : ∃ j, f = j + 1 := ⟨f - 1, by omega⟩
      obtain ⟨x0, x1⟩ := ch k x (by omega) hx ex
      have vx : hpI s 171 x = nI (pr x * 16384 + q x) := by rw [os.1 _ _ (fun z => by unfold F2 at z; omega)]; exact H x hx
      have b0 := hq x hx
      have b1 := hp x hx
      have ew : nI (L - (k + 1)) + (1 : Int32) = nI (L - k) := by rw [i1, nI_add, show L - (k + 1) + 1 = L - k by omega]
      simp only [f_X8_tellWay_9, lt_u]
      rw [cs.s.r170_0, cs.s.t171, ix_nI (by omega), vx, show (16384 : Int32) = nI 16384 by decide, rm_nI (by omega) (by omega) (by omega), show (pr x * 16384 + q x) % 16384 = q x by omega, show (256 : Int32) = nI 256 by decide, pk_div (by omega) (by omega) (by omega), ex, ew]
      refine ok_gd (by decide) (ok_f (by rw [nI_leI (by omega) (by omega)]; omega) (ok_f (by rw [i0, nI_leI (by omega) (by omega)]; omega) (ok_f (by rw [nI_leI (by omega) (by omega)]; omega) (ok_gd (inb_nI (by omega) (by omega)) (ok_bd (c_t1 cs (by show (rowB r L (L - (k + 1))).length < 128; rw [rowB_n]; omega) _) (fun h11 ⟨c11, o11⟩ => ?_))))))
      have vx2 : hpI h11 171 x = nI (pr x * 16384 + q x) := by rw [o11.1 _ _ (fun z => by unfold F2 at z; omega)]; exact vx
      rw [c11.s.r170_0, c11.s.t171, vx2, pk_div (by omega) (by omega) (by omega), show (pr x * 16384 + q x) / 16384 = pr x by omega]
      refine ok_gd (by decide) (ok_gd (inb_nI (by omega) (by omega)) (ih f h11 (pr x) (by omega) (by omega) b1 x1 ?_ (os.tr o11)))
      have e : rowB r L (L - k) = rowB r L (L - (k + 1)) ++ [(nI (r (k + 1) / 256)).toInt64] := by
        rw [show L - k = L - (k + 1) + 1 by omega, rowB_s, show L - (L - (k + 1)) = k + 1 by omega]
      rw [e]
      exact c11
  have g0 := go L FU h1 i (by omega) (Nat.le_refl _) hi ei (by rw [Nat.sub_self]; exact c1) o1
  rw [Nat.sub_self] at g0
  exact g0
end CTELL
