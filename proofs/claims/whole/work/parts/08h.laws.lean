section RULEW
variable {h h1 : Hp} {r : Nat}
theorem shR.of (s : shR h r) (eR : hpR h1 = hpR h) (eT : hpT h1 = hpT h) : shR h1 r := by
  simp only [shR, eR, eT] at s ⊢; exact s
theorem p_rstart (s : shR h r) : Ok (f_X4_start h r) (fun h1 => atR h1 r 0 (fun _ => 0) ∧ EqOff (FR r) h h1) := by
  rw [f_X4_start]
  refine ok_lt (fun h2 e2 => ok_some ?_)
  rw [e2]
  exact ⟨⟨s, by rw [hpI_upI, if_pos ⟨rfl, rfl⟩]; rfl, by omega, fun i hi => by omega⟩, EqOff.uI ⟨by omega, by omega⟩⟩
theorem p_addN {sz : Nat} {st : Nat → Int32} (c : atR h r sz st) (hz : sz < 40) (x : Int32) : Ok (f_X4_addNumber h r x) (fun h1 => atR h1 r (sz + 1) (stU st sz x) ∧ EqOff (FR r) h h1) := by
  obtain ⟨s, c1, c2, c3⟩ := c
  obtain ⟨s1, s2, s3, s4, s5, s6, s7⟩ := s
  rw [f_X4_addNumber, s2, s5, c1, ix_nI (by omega)]
  refine ok_gd (nz_t (by omega)) (ok_f (by rw [nI_leI (by omega) (by omega)]; omega) (ok_gd (inb_nI (by omega) (by omega)) (ok_lt (fun h6 e6 => ?_))))
  have q6 : hpI h6 r 3 = nI sz := by rw [e6, hpI_upI, if_neg (by omega)]; exact c1
  rw [q6, i1, nI_add]
  refine ok_lt (fun h7 e7 => ok_some ⟨⟨?_, ?_, by omega, fun i hi => ?_⟩, ?_⟩)
  · rw [e7, e6]; exact ⟨s1, s2, s3, s4, s5, s6, s7⟩
  · rw [e7, hpI_upI, if_pos ⟨rfl, rfl⟩]
  · rw [e7, hpI_upI, if_neg (by omega), e6, hpI_upI]
    unfold stU
    by_cases q : i = sz
    · rw [if_pos ⟨rfl, q⟩, if_pos q]
    · rw [if_neg (fun z => q z.2), if_neg q]; exact c3 i (by omega)
  · rw [e7, e6]
    exact (EqOff.uI (F := FR r) ⟨by omega, by omega⟩).tr (EqOff.uI ⟨by omega, by omega⟩)
theorem p_addS {sz : Nat} {st : Nat → Int32} (c : atR h r sz st) (hz : sz < 40) (x : Int32) : Ok (f_X4_addSign h r x) (fun h1 => atR h1 r (sz + 1) (stU st sz (-x)) ∧ EqOff (FR r) h h1) := by
  rw [f_X4_addSign]
  exact ok_bd (p_addN c hz (-x)) (fun o ho => ok_some ho)
theorem cst_n {env : Int32 → Int32} {v : Int32} {s : Stk} (h : 0 ≤ v) : cst env v s = psh v s := by
  unfold cst; rw [if_neg (Int32.not_lt.mpr h)]
theorem cst_o {env : Int32 → Int32} {v : Int32} {s : Stk} (h1 : v < 0) (h2 : ¬ v = -126) (h3 : ¬ isOp (-v) = 0) : cst env v s = psh (jnd (-v) (pp1 (pp2 s)) (pp1 s)) (pp2 (pp2 s)) := by
  unfold cst; rw [if_pos h1, if_neg h2, if_neg h3]
theorem cst_l {env : Int32 → Int32} {v : Int32} {s : Stk} (h1 : v < 0) (h2 : ¬ v = -126) (h3 : isOp (-v) = 0) : cst env v s = psh (env (-v)) s := by
  unfold cst; rw [if_pos h1, if_neg h2, if_pos h3]
theorem jnd_mul (x y : Int32) : jnd 42 x y = x * y := rfl
theorem jnd_add (x y : Int32) : jnd 43 x y = x + y := rfl
theorem jnd_gt (x y : Int32) : jnd 62 x y = nB (decide (y < x)) := by
  have e : jnd 62 x y = (if x ≤ y then some (0 : Int32) else some 1).getD 0 := rfl
  rw [e]
  by_cases q : x ≤ y
  · rw [if_pos q, decide_eq_false (Int32.not_lt.mpr q)]; rfl
  · rw [if_neg q, decide_eq_true (Int32.not_le.mp q)]; rfl
def lwE (l : Nat) : RE := fun env => nI (l / 4) + nI (l % 4) * env 2
def nE : RE := fun env => 1 + nB (decide (1 < env 2))
theorem p_putLaw (s : shR h r) {l : Nat} (hl : l < 16) : Ok (f_X4_putLaw h r (nI (l / 4)) (nI (l % 4))) (fun h1 => (∃ sz st, atR h1 r sz st ∧ rdC (sz, st) (lwE l)) ∧ EqOff (FR r) h h1) := by
  rw [f_X4_putLaw]
  refine ok_bd (p_rstart s) (fun h2 ⟨c2, o2⟩ => ok_bd (p_addN c2 (by omega) _) (fun h3 ⟨c3, o3⟩ => ok_bd (p_addN c3 (by omega) _) (fun h4 ⟨c4, o4⟩ => ok_bd (p_addS c4 (by omega) _) (fun h5 ⟨c5, o5⟩ => ok_bd (p_addS c5 (by omega) _) (fun h6 ⟨c6, o6⟩ => ok_bd (p_addS c6 (by omega) _) (fun h7 ⟨c7, o7⟩ => ok_some ⟨⟨_, _, c7, ?_⟩, o2.tr (o3.tr (o4.tr (o5.tr (o6.tr o7))))⟩))))))
  intro env
  have p1 : (0 : Int32) ≤ nI (l / 4) := nI_pos' (by omega)
  have p2 : (0 : Int32) ≤ nI (l % 4) := nI_pos' (by omega)
  simp only [crn]
  rw [show stU (stU (stU (stU (stU (fun _ => (0 : Int32)) 0 (nI (l / 4))) (0 + 1) (nI (l % 4))) (0 + 1 + 1) (-111)) (0 + 1 + 1 + 1) (-42)) (0 + 1 + 1 + 1 + 1) (-43) 0 = nI (l / 4) from rfl, show stU (stU (stU (stU (stU (fun _ => (0 : Int32)) 0 (nI (l / 4))) (0 + 1) (nI (l % 4))) (0 + 1 + 1) (-111)) (0 + 1 + 1 + 1) (-42)) (0 + 1 + 1 + 1 + 1) (-43) 1 = nI (l % 4) from rfl, show stU (stU (stU (stU (stU (fun _ => (0 : Int32)) 0 (nI (l / 4))) (0 + 1) (nI (l % 4))) (0 + 1 + 1) (-111)) (0 + 1 + 1 + 1) (-42)) (0 + 1 + 1 + 1 + 1) (-43) 2 = -111 from rfl, show stU (stU (stU (stU (stU (fun _ => (0 : Int32)) 0 (nI (l / 4))) (0 + 1) (nI (l % 4))) (0 + 1 + 1) (-111)) (0 + 1 + 1 + 1) (-42)) (0 + 1 + 1 + 1 + 1) (-43) 3 = -42 from rfl, show stU (stU (stU (stU (stU (fun _ => (0 : Int32)) 0 (nI (l / 4))) (0 + 1) (nI (l % 4))) (0 + 1 + 1) (-111)) (0 + 1 + 1 + 1) (-42)) (0 + 1 + 1 + 1 + 1) (-43) 4 = -43 from rfl, cst_n p1, cst_n p2, cst_l (v := -111) (by decide) (by decide) (by decide), cst_o (v := -42) (by decide) (by decide) (by decide), cst_o (v := -43) (by decide) (by decide) (by decide)]
  simp only [Int32.neg_neg]
  rw [jnd_mul, jnd_add]
  rfl
theorem p_putNone (s : shR h r) : Ok (f_X4_putNone h r) (fun h1 => (∃ sz st, atR h1 r sz st ∧ rdC (sz, st) nE) ∧ EqOff (FR r) h h1) := by
  rw [f_X4_putNone]
  refine ok_bd (p_rstart s) (fun h2 ⟨c2, o2⟩ => ok_bd (p_addN c2 (by omega) _) (fun h3 ⟨c3, o3⟩ => ok_bd (p_addS c3 (by omega) _) (fun h4 ⟨c4, o4⟩ => ok_bd (p_addN c4 (by omega) _) (fun h5 ⟨c5, o5⟩ => ok_bd (p_addS c5 (by omega) _) (fun h6 ⟨c6, o6⟩ => ok_bd (p_addS c6 (by omega) _) (fun h7 ⟨c7, o7⟩ => ok_some ⟨⟨_, _, c7, ?_⟩, o2.tr (o3.tr (o4.tr (o5.tr (o6.tr o7))))⟩))))))
  intro env
  simp only [crn]
  generalize hs : stU (stU (stU (stU (stU (fun _ => (0 : Int32)) 0 1) (0 + 1) (-111)) (0 + 1 + 1) 1) (0 + 1 + 1 + 1) (-62)) (0 + 1 + 1 + 1 + 1) (-43) = st
  have e0 : st 0 = 1 := by rw [← hs]; rfl
  have e1 : st 1 = -111 := by rw [← hs]; rfl
  have e2 : st 2 = 1 := by rw [← hs]; rfl
  have e3 : st 3 = -62 := by rw [← hs]; rfl
  have e4 : st 4 = -43 := by rw [← hs]; rfl
  show pp1 (cst _ (st 4) (cst _ (st 3) (cst _ (st 2) (cst _ (st 1) (cst _ (st 0) _))))) = _
  rw [e0, e1, e2, e3, e4, cst_n (show (0 : Int32) ≤ 1 by decide), cst_n (show (0 : Int32) ≤ 1 by decide), cst_l (v := -111) (by decide) (by decide) (by decide), cst_o (v := -62) (by decide) (by decide) (by decide), cst_o (v := -43) (by decide) (by decide) (by decide)]
  simp only [Int32.neg_neg]
  rw [jnd_gt, jnd_add]
  rfl
end RULEW
def yL (S : Fld) (l y : Nat) : Fld := (yrs (lossE (lwE l)) S y).2
theorem yrs_q {L : Fld → Nat → Nat} {S : Fld} : ∀ n, (yrs L S n).2.1 2 = S.1 2 := by
  intro n
  induction n with
  | zero => rfl
  | succ n ih => exact ih
def mkF (S : Fld) (l : Nat) (t : T3) : Bool := (decide (ix t.1 < S.1 2) && onb (yL S l (ix t.2.1)) (ix t.1)) == decide (ix t.2.2 = 1)
def asM (S : Fld) (M : List T3) (l : Nat) : Bool := (ff (fun i => !(mkF S l (M.getD i (0, 0, 0)))) 0 M.length).isNone
/-- who is on, by law and year -/
def onL (S : Fld) (l y : Nat) : Int32 := bitsB (onb (yL S l y)) (S.1 2)
theorem nB_eq {a b : Bool} : (nB a = nB b) ↔ a = b := by cases a <;> cases b <;> decide
theorem nI_i1 {z : Nat} (hz : z ≤ 1) : (if nI z = (1 : Int32) then (1 : Int32) else 0) = nB (decide (z = 1)) := by
  rcases (show z = 0 ∨ z = 1 by omega) with rfl | rfl <;> decide
section LAWS
variable {h h1 : Hp} {A : Ast} {m n : Nat}
theorem p_asMarked (c : RC h A) (a : WA A n) {l : Nat} (hl : l < 16) (ht : ∀ y, y < 31 → hpI h 176 (l * 31 + y) = onL (aS A) l y) : f_X9_isAsMarked h 1 (nI l) = some (nB (asM (aS A) (aM A) l)) := by
  have hF := FU_big
  have b5 := a.w.2.2.2.2.1
  obtain ⟨g1, g2, g3, g4, g5, g6⟩ := c.m
  have e := fo_ff (fun q i => f_X9_isAsMarked_2 h 1 (nI l) q i) (aM A).length (fun i => !(mkF (aS A) l ((aM A).getD i (0, 0, 0)))) (fun _ => some 0) (some 1) (fun q i hi => ?_) (fun q => ?_) (aM A).length FU 0 (by omega) (by omega)
  · rw [show f_X9_isAsMarked h 1 (nI l) = _ from e]
    unfold asM
    cases ff (fun i => !(mkF (aS A) l ((aM A).getD i (0, 0, 0)))) 0 (aM A).length <;> rfl
  · show f_X9_isAsMarked_2 h 1 (nI l) (q + 1) (nI i) = _
    obtain ⟨k, y, z, ek, z1, z2, z3⟩ := a.2.2.2.1 i hi
    have g6 := g6 i hi
    rw [ek] at g6 ⊢
    simp only [f_X9_isAsMarked_2, f_X9_isAsMarked_64, lt_u]
    rw [c.s.r1_11, c.s.r1_14, g3, (g2 0 (by omega)).1, (g2 1 (by omega)).1, (g2 2 (by omega)).1, (g2 0 (by omega)).2, (g2 1 (by omega)).2, (g2 2 (by omega)).2, c.s.t176, ix_nI (by omega), g6.1, g6.2.1, g6.2.2, show (31 : Int32) = nI 31 by decide, pk_mul, nI_add, ix_nI (by omega), ht y (by omega), show onL (aS A) l y = bitsB (onb (yL (aS A) l y)) ((aS A).1 2) from rfl, p_isInB (by omega) (by omega), bd_s, nI_i1 z3, gd_t (by decide), if_neg (by rw [nI_leI (by omega) (by omega)]; omega), gd_t (by decide), gd_t (by decide), gd_t (inb_nI (by omega) (by omega)), gd_t (inb_nI (by omega) (by omega)), gd_t (by decide), gd_t (inb_nI (by omega) (by omega)), gd_t (by decide), gd_t (inb_nI (by omega) (by omega)), i1, nI_add]
    simp only [nB_eq]
    have em : mkF (aS A) l (nI k, nI y, nI z) = ((decide (k < (aS A).1 2) && onb (yL (aS A) l y) k) == decide (z = 1)) := by
      unfold mkF; simp only; rw [ix_nI (by omega), ix_nI (by omega), ix_nI (by omega)]
    rw [em]
    by_cases w : (decide (k < (aS A).1 2) && onb (yL (aS A) l y) k) = decide (z = 1)
    · rw [if_pos w, w]; simp
    · rw [if_neg w]; simp [w]
  · show f_X9_isAsMarked_2 h 1 (nI l) (q + 1) (nI (aM A).length) = _
    simp only [f_X9_isAsMarked_2, lt_u]
    rw [c.s.r1_11, g3, gd_t (by decide), if_pos (Int32.le_refl _)]
/-- the laws laid out up to law l -/
def lay (h : Hp) (S : Fld) (l : Nat) : Prop := ∀ l', l' < l → ∀ y, y < 31 → hpI h 176 (l' * 31 + y) = onL S l' y
theorem c_fitting (c : RC h A) (a : WA A n) : Ok (f_X9_fittingLaws h 1) (fun o => o.1 = bitsB (asM (aS A) (aM A)) 16 ∧ RC o.2 A ∧ lay o.2 (aS A) 16 ∧ EqOff FX h o.2) := by
  have hF := FU_big
  have hw := a.w
  have hy := a.y
  rw [f_X9_fittingLaws]
  refine okf (fun q (s : Hp × Int32) i => f_X9_fittingLaws_4 1 q s.1 s.2 i) 16 (stB (asM (aS A) (aM A))) (fun i s acc => s.2 = acc ∧ RC s.1 A ∧ lay s.1 (aS A) i ∧ EqOff FX h s.1) _ 0 (fun q l s acc _ hl ⟨d1, d2, d3, d4⟩ kk => ?_) 16 FU 0 (h, 0) (nI 0) (by omega) (by omega) (by omega) ⟨rfl, c, fun l hl => by omega, EqOff.rf⟩ (fun q s ⟨d1, d2, d3, d4⟩ => ?_)
  · obtain ⟨h2, b⟩ := s
    have d1 : b = acc := d1
    subst d1
    have d2 : RC h2 A := d2
    show Ok (f_X9_fittingLaws_4 1 (q + 1) h2 b (nI l)) _
    simp only [f_X9_fittingLaws_4]
    refine ok_lt (fun k2 ek2 => ?_)
    subst ek2
    rw [d2.s.r1_9, show (4 : Int32) = nI 4 by decide, rm_nI (by omega) (by omega) (by omega), lt_u, pk_div (by omega) (by omega) (by omega)]
    refine ok_f (by rw [show (16 : Int32) = nI 16 by decide, nI_leI (by omega) (by omega)]; omega) (ok_gd (by decide) (ok_bd (p_putLaw d2.1.2.2.2.1 hl) (fun h5 ⟨⟨sz, st, r5, e5⟩, o5⟩ => ?_)))
    have c5 : RC h5 A := d2.scr (o5.mono (fun x z => by unfold FR at z; unfold Fs; omega))
    rw [c5.s.r1_4, c5.s.r1_2]
    refine ok_gd (by decide) (ok_gd (by decide) (ok_bd (c_copy c5 (a := 22) (by omega)) (fun h10 ⟨c10, b10, o10⟩ => ?_)))
    have r10 : atR h10 157 sz st := r5.keep o10 (fun x z1 z2 => by unfold FR at z1; unfold FC at z2; omega)
    have lay5 : lay h10 (aS A) l := fun l' hl' y hyy => by
      rw [o10.1 _ _ (by unfold FC; omega), o5.1 _ _ (by unfold FR; omega)]; exact d3 l' hl' y hyy
    refine okl (fun q' (h3 : Hp) y => f_X9_fittingLaws_36 1 (f_X9_fittingLaws_4 1 q) q' h3 b (nI l) y) 31 (fun y h3 => RC h3 A ∧ atC h3 22 (yL (aS A) l y) ∧ atR h3 157 sz st ∧ lay h3 (aS A) l ∧ (∀ y', y' < y → hpI h3 176 (l * 31 + y') = onL (aS A) l y') ∧ EqOff FX h h3) _ (fun q' y h3 hyy ⟨e1, e2, e3, e4, e5', e6⟩ yy => ?_) (fun q' h3 ⟨e1, e2, e3, e4, e5', e6⟩ => ?_) 31 FU 0 h10 (by omega) (by omega) ⟨c10, b10, r10, lay5, fun y' hy' => by omega, EqOff.tr d4 ((o5.mono (FR_FX (by omega) (by omega))).tr (o10.mono (FC_FX (by omega) (by omega))))⟩
    · have wy : wfF (yL (aS A) l y) := wf_yrs hw y (by omega)
      show Ok (f_X9_fittingLaws_36 1 (f_X9_fittingLaws_4 1 q) (q' + 1) h3 b (nI l) (nI y)) _
      simp only [f_X9_fittingLaws_36]
      refine ok_lt (fun k2 ek2 => ?_)
      subst ek2
      rw [e1.s.r1_14, e1.s.r1_4, e1.s.t176, p_onBits e2 wy, bd_s, show (31 : Int32) = nI 31 by decide, pk_mul, nI_add, ix_nI (by omega)]
      refine ok_f (by rw [nI_leI (by omega) (by omega)]; omega) (ok_gd (by decide) (ok_gd (by decide) (ok_gd (inb_nI (by omega) (by omega)) (ok_lt (fun h22 e22 => ?_)))))
      have o22 : EqOff (fun x => x = 176) h3 h22 := by rw [e22]; exact EqOff.uI rfl
      have c22 : RC h22 A := e1.scr (o22.mono (fun x z => by unfold Fs; omega))
      have b22 : atC h22 22 (yL (aS A) l y) := e2.keep o22 (fun x z1 z2 z3 => by omega)
      have r22 : atR h22 157 sz st := e3.keep o22 (fun x z1 z2 => by unfold FR at z1; omega)
      rw [c22.s.r1_4, c22.s.r1_9]
      refine ok_gd (by decide) (ok_gd (by decide) (ok_bd (p_goBy b22 wy r22 (by omega)) (fun o ⟨y1, y2, y3, y4⟩ => ?_)))
      rw [lossN_E e5] at y2
      rw [lt_u, i1, nI_add]
      have D : ∀ x, FY 22 157 x → Fs x := fun x z => by unfold FY FC FR at z; unfold Fs; omega
      have t22 : ∀ k, hpI o.2 176 k = hpI h22 176 k := fun k => y4.1 _ _ (by unfold FY FC FR; omega)
      have eq0 : onL (aS A) l y = bitsB (onb (yL (aS A) l y)) ((yL (aS A) l y).1 2) := by unfold onL; rw [show (yL (aS A) l y).1 2 = (aS A).1 2 from yrs_q y]
      refine yy o.2 ⟨c22.scr (y4.mono D), y2, y3, fun l' hl' y' hy' => ?_, fun y' hy' => ?_, e6.tr ((o22.mono (fun x z => by unfold FX; omega)).tr (y4.mono (fun x z => Fs_FX x (D x z))))⟩
      · rw [t22, e22, hpI_upI, if_neg (by omega)]; exact e4 l' hl' y' hy'
      · rw [t22, e22, hpI_upI]
        by_cases w : y' = y
        · rw [if_pos ⟨rfl, by omega⟩, w, eq0]
        · rw [if_neg (by omega)]; exact e5' y' (by omega)
    · show Ok (f_X9_fittingLaws_36 1 (f_X9_fittingLaws_4 1 q) (q' + 1) h3 b (nI l) (nI 31)) _
      simp only [f_X9_fittingLaws_36, f_X9_fittingLaws_92]
      refine ok_lt (fun k2 ek2 => ?_)
      clear ek2
      rw [p_asMarked e1 a hl e5', bd_s, i1, shl_1 l (by omega)]
      refine ok_t (by decide) ?_
      simp only [nB_0, lt_u, nI_add]
      have lay' : lay h3 (aS A) (l + 1) := fun l' hl' y hyy => by
        by_cases w : l' = l
        · rw [w]; exact e5' y hyy
        · exact e4 l' (by omega) y hyy
      refine ok_if (fun z => kk (h3, b) ⟨by simp [stB, z], e1, lay', e6⟩) (fun z => kk (h3, b ||| nI (2 ^ l)) ⟨?_, e1, lay', e6⟩)
      rw [stB, if_pos (by simpa using z), shl_1 l (by omega)]
  · show Ok (f_X9_fittingLaws_4 1 (q + 1) s.1 s.2 (nI 16)) _
    simp only [f_X9_fittingLaws_4]
    refine ok_lt (fun k2 ek2 => ?_)
    exact ok_t (by decide) (ok_some ⟨d1, d2, d3, d4⟩)
end LAWS
