/-! ways: the class's meets and quiet -/
theorem nb_0 {p : Nat → Bool} {n : Nat} : nb p n = 0 ↔ ∀ i, i < n → p i = false := by
  constructor
  · intro h i hi
    have e := nb_bit p n i
    rw [h, Nat.zero_testBit, decide_eq_true hi, Bool.true_and] at e
    exact e.symm
  · intro h
    apply Nat.eq_of_testBit_eq
    intro k
    rw [nb_bit, Nat.zero_testBit]
    by_cases w : k < n
    · rw [h k w, Bool.and_false]
    · rw [decide_eq_false w, Bool.false_and]
theorem numIn_z {z : Int32} {N : Nat} (h1 : 1 ≤ N) (h2 : N ≤ 256) : numIn (nI 0) (nI (N - 1)) z = none ↔ (z < 0 ∨ ¬ z < nI N) := by
  unfold numIn
  by_cases w : z < 0
  · rw [if_neg (fun q => by have := q.1; rw [← i0] at this; exact absurd w (Int32.not_lt.mpr this))]
    exact ⟨fun _ => Or.inl w, fun _ => rfl⟩
  · obtain ⟨e, l⟩ := nI_ix (Int32.not_lt.mp w)
    have c1 : nI 0 ≤ z := Int32.not_lt.mp w
    by_cases w2 : z < nI N
    · have c2 : z ≤ nI (N - 1) := by
        rw [e, nI_ltI l (by omega)] at w2
        rw [e, nI_leI l (by omega)]
        omega
      rw [if_pos ⟨c1, c2⟩]
      refine ⟨(fun q => by cases q), fun q => ?_⟩
      rcases q with q | q
      · exact absurd q w
      · exact absurd w2 q
    · refine ⟨fun _ => Or.inr w2, fun _ => if_neg (fun q => w2 ?_)⟩
      have c2 := q.2
      rw [e, nI_leI l (by omega)] at c2
      rw [e, nI_ltI l (by omega)]
      omega
section CWAYS
variable {h : Hp} {A : Ast} {n : Nat}
/-- a way in the sense of the graph comes out of the class -/
theorem c_way (rc : RC h A) (hw : wfF (aS A)) {al fr gc L : Nat} {pc D : Nat → Nat} {ob : Nat → Bool} {op : Int64} (ha : al < 256) (hob : ∀ c, c < ncl (aS A) → ((lg_cmp (shr64 op (nI c) &&& 1) 0 = 0) ↔ ob c = false)) (hfr : fr < ncl (aS A)) (hgc : gc < ncl (aS A)) (hp : ∀ c, c < ncl (aS A) → 1 ≤ pc c) (y : Yt (VU (aS A) al) (nxU (aS A) al) (wU pc) (gc * 256 + al) D) (wy : Way (VU (aS A) al) (nxU (aS A) al) (wU pc) D (fr * 256 + ovA (aS A) al fr) L) (hL : L ≤ 127) (h1 : ∀ v, VU (aS A) al v → ob (v / 256) = true → v ≠ fr * 256 + ovA (aS A) al fr → wU pc v = 1) (h2 : ∀ k, k < L → wU pc (pth (nxU (aS A) al) (wU pc) D (fr * 256 + ovA (aS A) al fr) (k + 1)) = 1 ∧ ob (pth (nxU (aS A) al) (wU pc) D (fr * 256 + ovA (aS A) al fr) (k + 1) / 256) = true) : Ok (f_X8_shortest h 170 6 (nI fr) (nI gc) (nI al) op 4) (fun o => o.1 = nI L ∧ RC o.2 (wT A (rowW (aS A) al pc D (fr * 256 + ovA (aS A) al fr) (L + 1))) ∧ EqOff FX h o.2) := by
  have gr := grU hw ha hp
  have one := wy.one y (fun k hk => (h2 k hk).1)
  have gl := wy.gl gr y
  have e0 : D (fr * 256 + ovA (aS A) al fr) = L := by
    have := one L (Nat.le_refl _)
    rw [wy.2.1] at this
    omega
  have hD : ∀ k, k ≤ L → D (pth (nxU (aS A) al) (wU pc) D (fr * 256 + ovA (aS A) al fr) k) + k = L := fun k hk => by rw [one k hk, e0]
  have H : H1 (VU (aS A) al) (ncU (aS A) al ob) (fr * 256 + ovA (aS A) al fr) D := fun u t v hu ht hv hne => by
    obtain ⟨z1, z2⟩ := ncU_n hv
    have := y.2.2.1 u t v hu ht z1
    rw [h1 v (nxU_V hw ha hu ht z1) z2 hne] at this
    exact this
  have H2 : ∀ k, k < L → ∃ t, t < 4 ∧ ncU (aS A) al ob (pth (nxU (aS A) al) (wU pc) D (fr * 256 + ovA (aS A) al fr) k) t = some (pth (nxU (aS A) al) (wU pc) D (fr * 256 + ovA (aS A) al fr) (k + 1)) ∧ ∀ t2 v, t2 < t → ncU (aS A) al ob (pth (nxU (aS A) al) (wU pc) D (fr * 256 + ovA (aS A) al fr) k) t2 = some v → D v + 1 ≠ D (pth (nxU (aS A) al) (wU pc) D (fr * 256 + ovA (aS A) al fr) k) := fun k hk => by
    obtain ⟨s, s1, s2, _, s4, s5⟩ := wy.st y hk
    refine ⟨s, s1, ?_, fun t2 v ht hv e => ?_⟩
    · unfold ncU
      rw [s2]
      simp only
      rw [if_pos (h2 k hk).2]
    · obtain ⟨z1, z2⟩ := ncU_n hv
      have hu := (wy.1 k (by omega)).1
      have hV := nxU_V hw ha hu (show t2 < 4 by omega) z1
      by_cases q : v = fr * 256 + ovA (aS A) al fr
      · rw [q, e0] at e
        have := hD k (by omega)
        omega
      · have := s5 t2 ht
        unfold stq at this
        rw [z1] at this
        simp only [decide_eq_false_iff_not] at this
        rw [h1 v hV z2 q] at this
        exact this e
  have H4 : ∀ u t t2 v, VU (aS A) al u → t < 4 → t2 < 4 → ncU (aS A) al ob u t = some v → ncU (aS A) al ob u t2 = some v → t = t2 := fun u t t2 v hu a1 a2 a3 a4 => nxU_j hw ha hu.1 a1 a2 (ncU_n a3).1 (ncU_n a4).1
  refine c_short rc hw ha hob hfr hgc (fun h0 h2' q pr dp n i c0 o0 iv hi hq => ?_) (fun h0 h2' q pr dp n c0 o0 iv => ?_)
  · have n9 := iv.2.1.n9 hw
    obtain ⟨f1, f2⟩ := bfs_way iv.2.1 iv.2.2.1 (Or.inr ⟨hi, hq⟩) H rfl gl hD H2 H4
    have c2 : RC h2' A := c0.scr (FW_s iv.2.2.2.1)
    refine ok_bd (c_tell (r := pth (nxU (aS A) al) (wU pc) D (fr * 256 + ovA (aS A) al fr)) c2 n9 (by omega) iv.1.1 (fun j hj => VU_lt hw (iv.2.1.2.1 j hj)) (fun j hj => ?_) (fun j hj e => iv.2.1.ds hj (by omega) (by rw [e, iv.2.1.1.2.1]; rfl)) iv.2.1.1.2.1 hL hi (by rw [hq, gl]) f2) (fun o ⟨z1, z2, z3⟩ => ok_some ⟨z1, z2, ?_⟩)
    · by_cases e : j = 0
      · rw [e, iv.2.2.2.2]; omega
      · have := (iv.2.1.2.2.2.1 j (by omega) hj).1
        omega
    · exact (o0.mono Fs_FX).tr (((FW_s iv.2.2.2.1).mono Fs_FX).tr z3)
  · obtain ⟨f1, f2⟩ := bfs_way iv.2.1 iv.2.2.1 (Or.inl rfl) H rfl gl hD H2 H4
    omega
/-- without a way -/
theorem c_noway (rc : RC h A) (hw : wfF (aS A)) {al fr gc : Nat} {pc D : Nat → Nat} {ob : Nat → Bool} {op : Int64} (ha : al < 256) (hob : ∀ c, c < ncl (aS A) → ((lg_cmp (shr64 op (nI c) &&& 1) 0 = 0) ↔ ob c = false)) (hfr : fr < ncl (aS A)) (hgc : gc < ncl (aS A)) (y : Yt (VU (aS A) al) (nxU (aS A) al) (wU pc) (gc * 256 + al) D) (hD : ¬ D (fr * 256 + ovA (aS A) al fr) < NVR) (h1 : ∀ v, VU (aS A) al v → ob (v / 256) = true → v ≠ fr * 256 + ovA (aS A) al fr → wU pc v = 1) : Ok (f_X8_shortest h 170 6 (nI fr) (nI gc) (nI al) op 4) (fun o => o.1 = -2 ∧ RC o.2 A ∧ EqOff FX h o.2) := by
  have hN := NVR_e
  have H : H1 (VU (aS A) al) (ncU (aS A) al ob) (fr * 256 + ovA (aS A) al fr) D := fun u t v hu ht hv hne => by
    obtain ⟨z1, z2⟩ := ncU_n hv
    have := y.2.2.1 u t v hu ht z1
    rw [h1 v (nxU_V hw ha hu ht z1) z2 hne] at this
    exact this
  refine c_short rc hw ha hob hfr hgc (fun h0 h2' q pr dp n i c0 o0 iv hi hq => ?_) (fun h0 h2' q pr dp n c0 o0 iv => ?_)
  · exfalso
    have n9 := iv.2.1.n9 hw
    have l1 := iv.2.1.lo H i i (Nat.le_refl _) hi
    have l2 := iv.2.1.dl i i (Nat.le_refl _) hi
    rw [hq, y.1] at l1
    omega
  · exact ⟨rfl, c0.scr (FW_s iv.2.2.2.1), (o0.mono Fs_FX).tr ((FW_s iv.2.2.2.1).mono Fs_FX)⟩
theorem c_meets (c : RC h A) (a : WA A n) (x y z : Int32) {v : Int32} {B : Ast} (hR : Rmt A x y z v B) : Ok (f_X9_meets h 1 x y z) (fun o => o.1 = v ∧ RC o.2 B ∧ EqOff FX h o.2) := by
  have hw := a.w
  have hb := ncl_le hw
  have b5 := hw.2.2.2.2.1
  have hN := NVR_e
  have p2 := pow_256 b5
  have p1 : 1 ≤ 2 ^ (aS A).1 2 := Nat.one_le_two_pow
  unfold Rmt at hR
  rw [f_X9_meets, c.s.r1_2, p_hasCellx c.n, bd_s, p_hasCellx c.n, bd_s, c.n.q2, show shl32 (1 : Int32) (nI ((aS A).1 2)) = nI (2 ^ (aS A).1 2) by rw [i1]; exact shl_1 _ (by omega), lt_u, p_onBits c.n hw, bd_s, bitsB_nb _ _ (by omega)]
  refine ok_gd (by decide) ?_
  cases hx : cellOfI (aS A) x with
  | none => rw [hx] at hR; exact ok_t rfl (ok_some ⟨hR.1.symm, by rw [hR.2]; exact c, EqOff.rf⟩)
  | some fr =>
    obtain ⟨rfl, hf⟩ := cellOfI_s (by omega) hx
    refine ok_f (by show ¬ nB true = 0; decide) ?_
    cases hy : cellOfI (aS A) y with
    | none => rw [hx, hy] at hR; exact ok_t rfl (ok_some ⟨hR.1.symm, by rw [hR.2]; exact c, EqOff.rf⟩)
    | some gc =>
      obtain ⟨rfl, hg⟩ := cellOfI_s (by omega) hy
      refine ok_f (by show ¬ nB true = 0; decide) ?_
      cases hz : numIn (nI 0) (nI (2 ^ (aS A).1 2 - 1)) z with
      | none =>
        rw [hx, hy, hz] at hR
        have hz2 := (numIn_z p1 p2).mp hz
        have r : Ok (some ((-1 : Int32), h)) (fun o => o.1 = v ∧ RC o.2 B ∧ EqOff FX h o.2) := ok_some ⟨hR.1.symm, by rw [hR.2]; exact c, EqOff.rf⟩
        refine ok_if (fun _ => r) (fun w => ok_f (fun w2 => ?_) r)
        rcases hz2 with q | q
        · exact w q
        · exact q w2
      | some al =>
        rw [hx, hy, hz] at hR
        simp only at hR
        have hz2 := fun q => (show ¬ numIn (nI 0) (nI (2 ^ (aS A).1 2 - 1)) z = none by rw [hz]; exact fun e => by cases e) ((numIn_z p1 p2).mpr q)
        obtain ⟨rfl, _, hal⟩ := numIn_s (by omega) (by omega) hz
        have ha : al < 256 := by omega
        refine ok_f (fun q => hz2 (Or.inl q)) (ok_t (by
          by_cases q : nI al < nI (2 ^ (aS A).1 2)
          · exact q
          · exact absurd (Or.inr q) hz2) ?_)
        by_cases qa : al &&& nb (onb (aS A)) ((aS A).1 2) = al
        · rw [if_pos qa] at hR
          obtain ⟨D, L, y1, w1, e1, e2⟩ := hR
          refine ok_t ((andN (by omega)).mpr qa) ?_
          rw [c.s.r1_13, c.s.r1_1]
          have V0 := VU_st (S := aS A) (fr := fr) ha hf
          have gr := grU hw (pc := one1) ha (fun c _ => Nat.le_refl 1)
          have hon : ∀ i, al.testBit i = true → onb (aS A) i = true := fun i hi => by
            have := sub_bit qa hi
            rw [nb_bit, Bool.and_eq_true] at this
            exact this.2
          have d90 := far90 hw ha (fun c _ => Nat.le_refl 1) hg y1 hon 8 (by omega) _ V0.1 V0.2 (fun i h3 h4 => by
            have : al.testBit i = false := Nat.testBit_lt_two_pow (Nat.lt_of_lt_of_le ha (by rw [show 256 = 2 ^ 8 by decide]; exact Nat.pow_le_pow_right (by omega) h3))
            rw [this] at h4; cases h4)
          obtain ⟨L2, l0, wa⟩ := way_ex gr y1 _ _ V0.1 (Nat.le_refl _) (by omega)
          have := w1.uq wa
          refine ok_gd (by decide) (ok_gd (by decide) (ok_bd (c_way (ob := fun _ => true) c hw ha (fun cc hcc => ?_) hf hg (fun _ _ => Nat.le_refl 1) y1 w1 (by omega) (fun v _ _ _ => rfl) (fun k _ => ⟨rfl, rfl⟩)) (fun o ⟨z1, z2, z3⟩ => ok_some ⟨by rw [z1, e1], by rw [e2]; exact z2, z3⟩)))
          rw [sh_bit _ (by omega), show (-1 : Int64).toBitVec = BitVec.allOnes 64 by decide, BitVec.getLsbD_allOnes, decide_eq_true (show cc < 64 by omega)]
        · rw [if_neg qa] at hR
          exact ok_f (fun q => qa ((andN (by omega)).mp q)) (ok_some ⟨hR.1.symm, by rw [hR.2]; exact c, EqOff.rf⟩)
theorem c_quiet (c : RC h A) (a : WA A n) (x y : Int32) {v : Int32} {B : Ast} (hR : Rqt A x y v B) : Ok (f_X9_quiet h 1 x y) (fun o => o.1 = v ∧ RC o.2 B ∧ EqOff FX h o.2) := by
  have hw := a.w
  have hb := ncl_le hw
  have b5 := hw.2.2.2.2.1
  have hN := NVR_e
  unfold Rqt at hR
  rw [f_X9_quiet, c.s.r1_2, p_hasCellx c.n, bd_s, p_hasCellx c.n, bd_s]
  refine ok_gd (by decide) ?_
  cases hx : cellOfI (aS A) x with
  | none => rw [hx] at hR; exact ok_t rfl (ok_some ⟨hR.1.symm, by rw [hR.2]; exact c, EqOff.rf⟩)
  | some fr =>
    obtain ⟨rfl, hf⟩ := cellOfI_s (by omega) hx
    refine ok_f (by show ¬ nB true = 0; decide) ?_
    cases hy : cellOfI (aS A) y with
    | none => rw [hx, hy] at hR; exact ok_t rfl (ok_some ⟨hR.1.symm, by rw [hR.2]; exact c, EqOff.rf⟩)
    | some gc =>
      obtain ⟨rfl, hg⟩ := cellOfI_s (by omega) hy
      rw [hx, hy] at hR
      simp only at hR
      refine ok_f (by show ¬ nB true = 0; decide) ?_
      rw [p_sleptCells c.n hw, bd_s, shl_1L fr (by omega), lt_u, shl_1L gc (by omega), lt_u, lt_u, c.s.r1_13, c.s.r1_1, bitsL_nb _ _ (by omega), i0]
      -- which cells are open
      have sl : ∀ cc, (decide (∃ i, i < (aS A).1 2 ∧ ocv (aS A) cc i = true) = false) ↔ nb (ocv (aS A) cc) ((aS A).1 2) = 0 := fun cc => by
        rw [decide_eq_false_iff_not, nb_0]
        exact ⟨fun q i hi => by
          cases e : ocv (aS A) cc i with
          | false => rfl
          | true => exact absurd ⟨i, hi, e⟩ q, fun q ⟨i, hi, e⟩ => by rw [q i hi] at e; cases e⟩
      have hob : ∀ cc, cc < ncl (aS A) → ((lg_cmp (shr64 ((lN (nb (fun cell => decide (∃ i, i < (aS A).1 2 ∧ ocv (aS A) cell i = true)) (ncl (aS A))) ^^^ (-1) ||| lN (2 ^ fr)) ||| lN (2 ^ gc)) (nI cc) &&& 1) 0 = 0) ↔ (decide (nb (ocv (aS A) cc) ((aS A).1 2) = 0) || (decide (fr = cc) || decide (gc = cc))) = false) := fun cc hcc => by
        rw [sh_bit _ (by omega), Int64.toBitVec_or, Int64.toBitVec_or, Int64.toBitVec_xor, BitVec.getLsbD_or, BitVec.getLsbD_or, BitVec.getLsbD_xor, show (-1 : Int64).toBitVec = BitVec.allOnes 64 by decide, BitVec.getLsbD_allOnes, decide_eq_true (show cc < 64 by omega), lN_bit (by omega), lN_bit (by omega), lN_bit (by omega), nb_bit, decide_eq_true hcc, Bool.true_and, Nat.testBit_two_pow, Nat.testBit_two_pow, Bool.or_assoc]
        have e : (decide (∃ i, i < (aS A).1 2 ∧ ocv (aS A) cc i = true) ^^ true) = decide (nb (ocv (aS A) cc) ((aS A).1 2) = 0) := by
          by_cases q : nb (ocv (aS A) cc) ((aS A).1 2) = 0
          · rw [(sl cc).mpr q, decide_eq_true q]; rfl
          · rw [decide_eq_false q]
            cases e : decide (∃ i, i < (aS A).1 2 ∧ ocv (aS A) cc i = true) with
            | true => rfl
            | false => exact absurd ((sl cc).mp e) q
        rw [e]
      have h1 : ∀ v, VU (aS A) 0 v → (decide (nb (ocv (aS A) (v / 256)) ((aS A).1 2) = 0) || (decide (fr = v / 256) || decide (gc = v / 256))) = true → v ≠ fr * 256 + ovA (aS A) 0 fr → wU (pq (aS A) gc) v = 1 := fun v hv ho hne => by
        unfold wU pq
        rw [Bool.or_eq_true, Bool.or_eq_true, decide_eq_true_eq, decide_eq_true_eq, decide_eq_true_eq] at ho
        rcases ho with q | q | q
        · rw [if_pos (Or.inr q)]
        · rw [ovA_0] at hne
          have := VU_0 hv
          omega
        · rw [if_pos (Or.inl q.symm)]
      obtain ⟨D, y1, hR⟩ := hR
      by_cases q : D (fr * 256 + ovA (aS A) 0 fr) < NVR
      · rw [if_pos q] at hR
        obtain ⟨L, w1, e1, e2⟩ := hR
        have l35 := way_35 hw (fun c _ => (pq_1 c).1) y1 w1
        refine ok_gd (by decide) (ok_gd (by decide) (ok_bd (c_way (ob := fun cc => decide (nb (ocv (aS A) cc) ((aS A).1 2) = 0) || (decide (fr = cc) || decide (gc = cc))) c hw (by omega) hob hf hg (fun c _ => (pq_1 c).1) y1 w1 (by omega) h1 (fun k hk => ?_)) (fun o ⟨z1, z2, z3⟩ => ok_some ⟨by rw [z1, e1], by rw [e2]; exact z2, z3⟩)))
        obtain ⟨s, _, _, _, s4, _⟩ := w1.st y1 hk
        have lk := (w1.1 k (by omega)).2
        generalize pth (nxU (aS A) 0) (wU (pq (aS A) gc)) D (fr * 256 + ovA (aS A) 0 fr) (k + 1) = p at s4 ⊢
        rw [show wU (pq (aS A) gc) p = (if p / 256 = gc ∨ nb (ocv (aS A) (p / 256)) ((aS A).1 2) = 0 then 1 else NVR) from rfl] at s4 ⊢
        by_cases q2 : p / 256 = gc ∨ nb (ocv (aS A) (p / 256)) ((aS A).1 2) = 0
        · rw [if_pos q2]
          refine ⟨rfl, ?_⟩
          rw [Bool.or_eq_true, Bool.or_eq_true, decide_eq_true_eq, decide_eq_true_eq, decide_eq_true_eq]
          rcases q2 with q3 | q3
          · exact Or.inr (Or.inr q3.symm)
          · exact Or.inl q3
        · rw [if_neg q2] at s4
          omega
      · rw [if_neg q] at hR
        refine ok_gd (by decide) (ok_gd (by decide) (ok_bd (c_noway (ob := fun cc => decide (nb (ocv (aS A) cc) ((aS A).1 2) = 0) || (decide (fr = cc) || decide (gc = cc))) c hw (by omega) hob hf hg y1 q h1) (fun o ⟨z1, z2, z3⟩ => ok_some ⟨by rw [z1, hR.1], by rw [hR.2]; exact z2, z3⟩)))
end CWAYS
