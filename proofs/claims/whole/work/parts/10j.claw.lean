/-! how another rule would do: the class -/
def lwR (E : RE) (S : Fld) (k : Nat) : List Int64 := (List.range k).map (fun i => (nI (lossE E S i)).toInt64)
theorem lwR_s {E : RE} {S : Fld} {k : Nat} : lwR E S (k + 1) = lwR E S k ++ [(nI (lossE E S k)).toInt64] := by
  unfold lwR; rw [List.range_succ, List.map_append]; rfl
theorem lwR_n {E : RE} {S : Fld} {k : Nat} : (lwR E S k).length = k := by unfold lwR; rw [List.length_map, List.length_range]
def on9 (E : RE) (A : Ast) : Int32 := onC (yrs (lossE E) (aS A) 9).2
def sp_law (A : Ast) : Int32 × Ast := match rdG (aX A) with
  | .inl b => (-10000 - nI b, wX A [])
  | .inr E => (on9 E A - on9 (aE A) A, wT (wX A []) ([(on9 E A).toInt64, (on9 (aE A) A).toInt64] ++ lwR E (aS A) ((aS A).1 2)))
section CLAW
variable {h h1 : Hp} {A : Ast}
theorem c_nine (c : RC h A) (hw : wfF (aS A)) (hy : (aS A).1 3 + 9 < 1000000) {E : RE} (re : atRE h 157 E) : Ok (f_X9_onInNineYears h 1 157) (fun o => o.1 = on9 E A ∧ RC o.2 A ∧ atRE o.2 157 E ∧ EqOff FX h o.2) := by
  rw [f_X9_onInNineYears, c.s.r1_4, c.s.r1_2]
  refine ok_gd (by decide) (ok_gd (by decide) (ok_bd (c_copy c (a := 22) (by omega)) (fun h5 ⟨c5, t5, o5⟩ => ?_)))
  rw [c5.s.r1_4]
  obtain ⟨sz, st, r1, r2⟩ := re.keep o5 (fun x z1 z2 => by unfold FR at z1; unfold FC at z2; omega)
  rw [show (9 : Int32) = nI 9 by decide]
  refine ok_gd (by decide) (ok_bd (p_goByTimes t5 hw r1 (by omega) (n := 9) (by omega) hy) (fun q ⟨z1, z2, z3, z4⟩ => ?_))
  rw [lossN_E r2] at z2
  have cq : RC q.2 A := c5.scr (z4.mono (fun x z => by unfold FY FC FR at z; unfold Fs; omega))
  rw [cq.s.r1_4, p_onCount z2 (wf_yrs hw 9 hy), bd_s]
  exact ok_gd (by decide) (ok_some ⟨rfl, cq, ⟨sz, st, z3, r2⟩, (o5.mono (FC_FX (by omega) (by omega))).tr (z4.mono (fun x z => by unfold FY FC FR at z; unfold FX; omega))⟩)
theorem c_nineR (c : RC h A) (hw : wfF (aS A)) (hy : (aS A).1 3 + 9 < 1000000) {E : RE} (re : atRE h 157 E) : Ok (f_X9_onInNineYears h 1 153) (fun o => o.1 = on9 (aE A) A ∧ RC o.2 A ∧ atRE o.2 157 E ∧ EqOff FX h o.2) := by
  rw [f_X9_onInNineYears, c.s.r1_4, c.s.r1_2]
  refine ok_gd (by decide) (ok_gd (by decide) (ok_bd (c_copy c (a := 22) (by omega)) (fun h5 ⟨c5, t5, o5⟩ => ?_)))
  rw [c5.s.r1_4]
  have re5 := re.keep o5 (fun x z1 z2 => by unfold FR at z1; unfold FC at z2; omega)
  rw [show (9 : Int32) = nI 9 by decide]
  have k1 := c_goByTimes c5 t5 hw (n := 9) (by omega) hy
  obtain ⟨sz, st, r1, r2⟩ := c5.r
  have k2 := p_goByTimes t5 hw r1 (by omega) (n := 9) (by omega) hy
  refine ok_gd (by decide) (ok_bd (ok_and k1 k2) (fun q ⟨⟨z1, z2, z3, z4⟩, _, _, _, z5⟩ => ?_))
  rw [z2.s.r1_4, p_onCount z3 (wf_yrs hw 9 hy), bd_s]
  exact ok_gd (by decide) (ok_some ⟨rfl, z2, re5.keep z5 (fun x z1 z2 => by unfold FR at z1; unfold FY FC FR at z2; omega), (o5.mono (FC_FX (by omega) (by omega))).tr z4⟩)
theorem c_law (c : RC h A) (hw : wfF (aS A)) (hy : (aS A).1 3 < 900000) : Ok (f_X9_law h 1) (fun o => o.1 = (sp_law A).1 ∧ RC o.2 (sp_law A).2 ∧ FrN h o.2) := by
  have hF := FU_big
  have b5 := hw.2.2.2.2.1
  rw [f_X9_law, c.s.r1_10, c.s.r1_0, c.s.r1_9]
  refine ok_gd (by decide) (ok_gd (by decide) (ok_gd (by decide) (ok_bd (c_read c) (fun q ⟨z1, z2, z3⟩ => ?_))))
  rw [z2.s.r1_0]
  refine ok_gd (by decide) (ok_lt (fun h10 e10 => ?_))
  have x := c_xclr z2
  rw [← e10] at x
  have f10 := z3.tr (FrN.of x.2)
  unfold sp_law
  cases hR : rdG (aX A) with
  | inl b =>
    rw [hR] at z1
    obtain ⟨y1, y2⟩ := z1
    rw [y1]
    exact ok_f (nI_n1 (by omega)) (ok_some ⟨rfl, x.1, f10⟩)
  | inr E =>
    rw [hR] at z1
    obtain ⟨y1, y2⟩ := z1
    refine ok_t y1 ?_
    rw [x.1.s.r1_9]
    have y3 : atRE h10 157 E := y2.keep (F := fun x => x = 2) (by rw [e10]; exact EqOff.uI rfl) (fun x z1 z2 => by unfold FR at z1; omega)
    refine ok_gd (by decide) (ok_bd (c_nine x.1 hw (by show (aS A).1 3 + 9 < _; omega) y3) (fun q14 ⟨a1, a2, a3, a4⟩ => ?_))
    rw [a2.s.r1_8]
    refine ok_gd (by decide) (ok_bd (c_nineR a2 hw (by show (aS A).1 3 + 9 < _; omega) a3) (fun q17 ⟨d1, d2, d3, d4⟩ => ?_))
    rw [d2.s.r1_1, a1, d1]
    refine ok_gd (by decide) (ok_bd (c_t0 d2) (fun h20 ⟨c20, o20⟩ => ?_))
    rw [c20.s.r1_1]
    refine ok_gd (by decide) (ok_bd (c_t1 c20 (by simp [aT, wT, mkA]) _) (fun h23 ⟨c23, o23⟩ => ?_))
    rw [c23.s.r1_1]
    refine ok_gd (by decide) (ok_bd (c_t1 c23 (by simp [aT, wT, mkA]) _) (fun h26 ⟨c26, o26⟩ => ?_))
    rw [c26.s.r1_9, c26.s.r1_2]
    have kk : ∀ x, FR 157 x → ¬ F2 4 x := fun x z1 z2 => by unfold FR at z1; unfold F2 at z2; omega
    obtain ⟨sz, st, r1, r2⟩ := ((d3.keep o20 kk).keep o23 kk).keep o26 kk
    refine ok_gd (by decide) (ok_gd (by decide) (ok_bd (p_losses c26.n hw r1 (by omega)) (fun q31 ⟨l1, l2, l3, l4⟩ => ?_)))
    rw [lossN_E r2] at l2
    have c31 := c26.scr (l3.mono (fun x z => by unfold FR at z; unfold Fs; omega))
    have f31 : FrN h q31.2 := f10.tr ((FrN.of a4).tr ((FrN.of d4).tr ((FrN.of (F24y o20)).tr ((FrN.of (F24y o23)).tr ((FrN.of (F24y o26)).tr (FrN.of (l3.mono (FR_FX (by omega) (by omega)))))))))
    rw [l1]
    have go : ∀ d n i h2, i + d = (aS A).1 2 → d < n → RC h2 (wT (wX A []) ([(on9 E A).toInt64, (on9 (aE A) A).toInt64] ++ lwR E (aS A) i)) → (∀ j, j < 8 → hpI h2 (157 + 3) j = nI (lossE E (aS A) j)) → EqOff FX q31.2 h2 → Ok (f_X9_law_94 1 n h2 (on9 E A) (on9 (aE A) A) (157 + 3) (nI i)) (fun o => o.1 = on9 E A - on9 (aE A) A ∧ RC o.2 (wT (wX A []) ([(on9 E A).toInt64, (on9 (aE A) A).toInt64] ++ lwR E (aS A) ((aS A).1 2))) ∧ EqOff FX q31.2 o.2) := by
      intro d
      induction d with
      | zero =>
        intro n i h2 e1 e2 c2 v2 o2
        obtain ⟨n, rfl⟩ : ∃ k, n = k + 1 := ⟨n - 1, by omega⟩
        have n2 : atC h2 6 (aS A) := c2.n
        simp only [f_X9_law_94, lt_u]
        rw [c2.s.r1_2, n2.q2]
        have : i = (aS A).1 2 := by omega
        subst this
        exact ok_gd (by decide) (ok_t (Int32.le_refl _) (ok_some ⟨rfl, c2, o2⟩))
      | succ d ih =>
        intro n i h2 e1 e2 c2 v2 o2
        obtain ⟨n, rfl⟩ : ∃ k, n = k + 1 := ⟨n - 1, by omega⟩
        have n2 : atC h2 6 (aS A) := c2.n
        have t2 : hpT h2 (157 + 3) = (2, 8) := c2.1.2.2.2.1.2.2.2.2.2.2
        simp only [f_X9_law_94, lt_u]
        rw [c2.s.r1_2, n2.q2, c2.s.r1_1, t2, ix_nI (by omega), v2 i (by omega), i1, nI_add]
        refine ok_gd (by decide) (ok_f (by rw [nI_leI (by omega) (by omega)]; omega) (ok_gd (by decide) (ok_gd (inb_nI (by omega) (by omega)) (ok_bd (c_t1 c2 ?_ _) (fun h38 ⟨c38, o38⟩ => ?_)))))
        · show ([(on9 E A).toInt64, (on9 (aE A) A).toInt64] ++ lwR E (aS A) i).length < 128
          rw [List.length_append, lwR_n]
          show 2 + i < 128
          omega
        · refine ih n (i + 1) h38 (by omega) (by omega) ?_ (fun j hj => ?_) (o2.tr (F24y o38))
          · rw [lwR_s, ← List.append_assoc]
            exact c38
          · rw [o38.1 _ _ (fun z => by unfold F2 at z; omega)]; exact v2 j hj
    exact ok_mono (go ((aS A).1 2) FU 0 q31.2 (by omega) (by omega) c31 l2 EqOff.rf) (fun o ⟨u1, u2, u3⟩ => ⟨u1, u2, f31.tr (FrN.of u3)⟩)
end CLAW
