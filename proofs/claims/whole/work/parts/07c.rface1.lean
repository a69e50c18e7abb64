def okS (S T : Fld) : Prop := wfF T ∧ T.1 0 = S.1 0 ∧ T.1 1 = S.1 1 ∧ T.1 3 = S.1 3
section OKS
variable {S : Fld}
theorem okS.rf (hw : wfF S) : okS S S := ⟨hw, rfl, rfl, rfl⟩
theorem wf_set4 (hw : wfF S) {i v : Nat} (hv : v ≤ 9) : okS S (setF S 4 i v) := by
  obtain ⟨b1, b2, b3, b4, b5, b6, b7, b8, b9⟩ := hw
  refine ⟨⟨b1, b2, b3, b4, b5, b6, b7, fun j k => ?_, fun k hk => ?_⟩, rfl, rfl, rfl⟩
  · simp only [setF]; split
    · omega
    · exact b8 j k
  · obtain ⟨g1, g2, g3, g4, g5, g6, g7, g8⟩ := b9 k hk
    simp [setF]
    exact ⟨g1, g2, g3, g4, g5, g6, by split <;> omega, g8⟩
theorem wf_tread (hw : wfF S) (x y : Int32) : okS S (treadS S x y).2 := by
  unfold treadS
  split
  · rename_i i n e1 e2
    obtain ⟨-, hi⟩ := campOf_s (by have := hw.2.2.2.2.1; omega) e1
    have := (hw.2.2.2.2.2.2.2.2 i hi).2.2.2.2.2.2.1
    split
    · exact wf_set4 hw (by omega)
    · exact okS.rf hw
  · exact okS.rf hw
theorem wf_sing (hw : wfF S) (x y : Int32) : okS S (singS S x y).2 := by
  unfold singS
  split
  · exact wf_set4 hw (by omega)
  · exact okS.rf hw
theorem wf_add (hw : wfF S) {r k hg wd st sl : Nat} (h1 : S.1 2 < 8) (h2 : 1 ≤ hg) (h3 : hg ≤ 3) (h4 : 1 ≤ wd) (h5 : wd ≤ 3) (h6 : r + hg ≤ S.1 0) (h7 : k + wd ≤ S.1 1) (h8 : st ≤ 9) (h9 : sl ≤ 9) : okS S (addC S r k hg wd st sl) := by
  obtain ⟨b1, b2, b3, b4, b5, b6, b7, b8, b9⟩ := hw
  refine ⟨⟨b1, b2, b3, b4, ?_, b6, b7, fun j i => ?_, fun i hi => ?_⟩, rfl, rfl, rfl⟩
  · show (if (2 : Nat) = 2 then S.1 2 + 1 else S.1 2) ≤ 8
    rw [if_pos rfl]; omega
  · simp only [addC]
    by_cases e : i = S.1 2
    · rw [if_pos e]
      split <;> first | omega | exact b8 _ _
    · rw [if_neg e]; exact b8 j i
  · have hi : i < S.1 2 + 1 := by simpa [addC] using hi
    simp only [addC]
    by_cases e : i = S.1 2
    · simp [e]; omega
    · simp [e]; exact b9 i (by omega)
theorem wf_pitch (hw : wfF S) (x1 x2 x3 x4 x5 : Int32) : okS S (pitchS S x1 x2 x3 x4 x5).2 := by
  unfold pitchS
  split
  · rename_i kc hg wd st sl e1 e2 e3 e4 e5
    obtain ⟨-, g2, g2'⟩ := numIn_s (by omega) (by omega) e2
    obtain ⟨-, g3, g3'⟩ := numIn_s (by omega) (by omega) e3
    obtain ⟨-, g4, g4'⟩ := numIn_s (by omega) (by omega) e4
    obtain ⟨-, g5, g5'⟩ := numIn_s (by omega) (by omega) e5
    split
    · exact okS.rf hw
    · rename_i q1
      split
      · exact okS.rf hw
      · rename_i q2
        split
        · exact okS.rf hw
        · have q1 : hld S kc hg wd = true := by simpa using q1
          simp [hld] at q1
          exact wf_add hw (by omega) g2 g2' g3 g3' q1.1.2 q1.2 g4' g5'
  · exact okS.rf hw
theorem wf_set01 (hw : wfF S) {i r k : Nat} (hi : i < S.1 2) (h1 : r + S.2 2 i ≤ S.1 0) (h2 : k + S.2 3 i ≤ S.1 1) : okS S (setF (setF S 0 i r) 1 i k) := by
  obtain ⟨b1, b2, b3, b4, b5, b6, b7, b8, b9⟩ := hw
  refine ⟨⟨b1, b2, b3, b4, b5, b6, b7, fun j l => ?_, fun l hl => ?_⟩, rfl, rfl, rfl⟩
  · simp only [setF]; split
    · omega
    · split
      · omega
      · exact b8 j l
  · obtain ⟨g1, g2, g3, g4, g5, g6, g7, g8⟩ := b9 l hl
    by_cases e : l = i
    · subst e; simp [setF]; exact ⟨g1, g2, g3, g4, h1, h2, g7, g8⟩
    · simp [setF, e]; exact ⟨g1, g2, g3, g4, g5, g6, g7, g8⟩
theorem wf_move (hw : wfF S) (x y : Int32) : okS S (moveS S x y).2 := by
  unfold moveS
  split
  · rename_i i w e1 e2
    obtain ⟨-, hi⟩ := campOf_s (by have := hw.2.2.2.2.1; omega) e1
    obtain ⟨g1, g2, g3, g4, g5, g6, g7, g8⟩ := hw.2.2.2.2.2.2.2.2 i hi
    split
    · rename_i r k e3
      unfold mvT at e3
      split at e3 <;> split at e3 <;> first | (cases e3; exact wf_set01 hw hi (by omega) (by omega)) | cases e3
    · exact okS.rf hw
  · exact okS.rf hw
end OKS
theorem j3 {a : Nat} (i : Nat) : nI (a + i) = nI a + nI i := (nI_add a i).symm
theorem msk (i : Nat) (hi : i < 32) : (255#32).getLsbD i = decide (i < 8) := by
  have : ∀ i, i < 32 → (255#32).getLsbD i = decide (i < 8) := by decide
  exact this i hi
theorem bt_eq {v : Int32} {s : Nat} {x y : Int32} (hs : s ≤ 24) (hx : x.toBitVec = v.toBitVec.sshiftRight s) (hy : y.toBitVec = v.toBitVec >>> s) : x &&& 255 = y &&& 255 := by
  apply Int32.toBitVec_inj.1
  show x.toBitVec &&& 255#32 = y.toBitVec &&& 255#32
  rw [hx, hy]
  apply BitVec.eq_of_getLsbD_eq
  intro i hi
  rw [BitVec.getLsbD_and, BitVec.getLsbD_and, msk i hi]
  by_cases q : i < 8
  · rw [BitVec.getLsbD_sshiftRight, BitVec.getLsbD_ushiftRight]
    simp [q, hi, show s + i < 32 by omega]
  · simp [q]
theorem bt24 (v : Int32) : shr32 v 24 &&& 255 = bt v 24 := bt_eq (v := v) (s := 24) (by omega) rfl rfl
theorem bt16 (v : Int32) : shr32 v 16 &&& 255 = bt v 16 := bt_eq (v := v) (s := 16) (by omega) rfl rfl
theorem bt8 (v : Int32) : shr32 v 8 &&& 255 = bt v 8 := bt_eq (v := v) (s := 8) (by omega) rfl rfl
theorem bt0 (v : Int32) : shr32 v 0 &&& 255 = bt v 0 := bt_eq (v := v) (s := 0) (by omega) rfl rfl
def btk (v : Int32) (k : Nat) : Int32 := if k = 0 then bt v 24 else if k = 1 then bt v 16 else if k = 2 then bt v 8 else bt v 0
theorem btk_e (v : Int32) {k : Nat} (hk : k < 4) : shr32 v ((24 : Int32) - ((8 : Int32) * nI k)) &&& 255 = btk v k := by
  rcases (show k = 0 ∨ k = 1 ∨ k = 2 ∨ k = 3 by omega) with rfl | rfl | rfl | rfl
  · exact bt24 v
  · exact bt16 v
  · exact bt8 v
  · exact bt0 v
section RFACE1
variable {h h1 : Hp} {A : Ast} {m n : Nat}
theorem r_sign (c : RM h m A n) (v : Int32) : Ok (f_X10_sign h m v) (fun o => o.1 = (sp_sign A v).1 ∧ RM o.2 m (sp_sign A v).2 n ∧ EqOff (FM m) h o.2) := by
  have hF := FU_big
  rw [f_X10_sign]
  refine ok_lt (fun h1 e1 => ?_)
  have c1 : RM h1 m A n := by rw [e1]; exact c.th 0
  have o1 : EqP (DS m) h h1 := by rw [e1]; exact DS.th 0
  clear e1
  obtain ⟨x1, x2, x3⟩ := c1.x
  rw [x1, show (76 : Int32) = nI 76 by decide]
  simp (disch := omega) only [nI_le0]
  unfold sp_sign
  by_cases q : (aX A).length + 4 ≤ 80
  · rw [if_pos q, if_pos (by omega), i0]
    refine okl (fun k h2 i => f_X10_sign_18 m v k h2 i) 4 (fun j h2 => (∀ k, k < j → hpI h2 (m + 4) ((aX A).length + k) = btk v k) ∧ EqP (fun x y => x = m + 4 ∧ (aX A).length ≤ y) h1 h2) _ (fun q j h2 hj ⟨d1, d2⟩ kk => ?_) (fun q0 h2 ⟨d1, d2⟩ => ?_) 4 FU 0 h1 (by omega) (by omega) ⟨fun k hk => by omega, EqP.rf⟩
    · have s2 := c1.s.ep d2
      have u : hpI h2 m 9 = nI (aX A).length := by rw [d2.1 _ _ (by omega)]; exact x1
      show Ok (f_X10_sign_18 m v (q + 1) h2 (nI j)) _
      simp only [f_X10_sign_18]
      refine ok_lt (fun k2 ek => ?_)
      subst ek
      rw [s2.r8, s2.t4, u, nI_add, ix_nI (by omega), i1, nI_add]
      refine ok_f (by rw [show (4 : Int32) = nI 4 by decide, nI_leI (by omega) (by omega)]; omega) (ok_gd (nz_t (by omega)) (ok_lt (fun v7 e7 => ok_gd (inb_nI (by omega) (by omega)) (ok_lt (fun h9 e9 => ?_)))))
      rw [e7, btk_e v hj] at e9
      rw [lt_u]
      refine kk h9 ⟨fun k hk => ?_, d2.tr (by rw [e9]; exact EqP.uI ⟨rfl, by omega⟩)⟩
      rw [e9, hpI_upI]
      by_cases z : k = j
      · rw [if_pos ⟨rfl, by omega⟩, z]
      · rw [if_neg (by omega)]; exact d1 k (by omega)
    · show Ok (f_X10_sign_18 m v (q0 + 1) h2 (nI 4)) _
      have u : hpI h2 m 9 = nI (aX A).length := by rw [d2.1 _ _ (by omega)]; exact x1
      simp only [f_X10_sign_18]
      refine ok_lt (fun k2 ek => ?_)
      clear ek
      rw [u, show (4 : Int32) = nI 4 by decide, nI_add]
      refine ok_t (Int32.le_refl _) (ok_lt (fun h4 e4 => ?_))
      have v4 : hpI h4 m 9 = nI ((aX A).length + 4) := by rw [e4, hpI_upI, if_pos ⟨rfl, rfl⟩]
      have o4 : EqP (DSo m (Dx m)) h1 h4 := by rw [e4]; exact (d2.mono (fun x k z => Or.inr (Or.inr z.1))).tr (EqP.uI (Or.inr (Or.inl ⟨rfl, rfl⟩)))
      refine ok_some ⟨v4, c1.text ⟨by rw [v4]; simp, by simp; omega, fun i hi => ?_⟩ o4, o1.ofs.tr (o4.ofr FMx)⟩
      have hi : i < (aX A).length + 4 := by simpa using hi
      have rd : hpI h4 (m + 4) i = hpI h2 (m + 4) i := by rw [e4, hpI_upI, if_neg (by omega)]
      have L1 : ((aX A) ++ [bt v 24]).length = (aX A).length + 1 := by simp
      have L2 : ((aX A) ++ [bt v 24] ++ [bt v 16]).length = (aX A).length + 2 := by simp
      have L3 : ((aX A) ++ [bt v 24] ++ [bt v 16] ++ [bt v 8]).length = (aX A).length + 3 := by simp
      rw [rd, getD_snoc (by rw [L3]; omega), L3]
      by_cases z3 : i = (aX A).length + 3
      · rw [if_pos z3, z3, d1 3 (by omega)]; rfl
      · rw [if_neg z3, getD_snoc (by rw [L2]; omega), L2]
        by_cases z2 : i = (aX A).length + 2
        · rw [if_pos z2, z2, d1 2 (by omega)]; rfl
        · rw [if_neg z2, getD_snoc (by rw [L1]; omega), L1]
          by_cases z1 : i = (aX A).length + 1
          · rw [if_pos z1, z1, d1 1 (by omega)]; rfl
          · rw [if_neg z1, getD_snoc (by omega)]
            by_cases z0 : i = (aX A).length
            · rw [if_pos z0]
              have y0 : hpI h2 (m + 4) (aX A).length = btk v 0 := d1 0 (by omega)
              rw [z0, y0]; rfl
            · rw [if_neg z0, d2.1 _ _ (by omega)]; exact x3 i (by omega)
  · rw [if_neg q, if_neg (by omega)]
    exact ok_some ⟨rfl, c1, o1.ofs⟩
theorem getD_tk {α : Type} {l : List α} {d : α} {i k : Nat} (h : i < k) : (l.take k).getD i d = l.getD i d := getD_take h
theorem r_end (c : RM h m A n) (x : Int32) : Ok (f_X10_end h m x) (fun o => o.1 = (sp_end A x).1 ∧ RM o.2 m (sp_end A x).2 n ∧ EqOff (FM m) h o.2) := by
  rw [f_X10_end]
  refine ok_lt (fun h1 e1 => ?_)
  have c1 : RM h1 m A n := by rw [e1]; exact c.th 0
  have o1 : EqP (DS m) h h1 := by rw [e1]; exact DS.th 0
  clear e1
  obtain ⟨x1, x2, x3⟩ := c1.x
  rw [x1, z64_0, p_in, bd_s]
  simp only [nB_0]
  unfold sp_end
  rw [i0]
  by_cases q : nI 0 ≤ x ∧ x ≤ nI (aX A).length
  · rw [if_pos q]
    refine ok_f (by simp [q]) (ok_lt (fun h4 e4 => ?_))
    obtain ⟨e, h3⟩ := nI_ix (x := x) q.1
    have q2 := q.2
    rw [e, nI_leI h3 (by omega)] at q2
    have o4 : EqP (DSo m (Dx m)) h1 h4 := by rw [e4]; exact EqP.uI (Or.inr (Or.inl ⟨rfl, rfl⟩))
    have el : ((aX A).take (ix x)).length = ix x := by simp; omega
    refine ok_some ⟨rfl, c1.text ⟨?_, by rw [el]; omega, fun i hi => ?_⟩ o4, o1.ofs.tr (o4.ofr FMx)⟩
    · rw [e4, hpI_upI, if_pos ⟨rfl, rfl⟩, el]; exact e
    · rw [el] at hi
      rw [getD_tk hi, e4, hpI_upI, if_neg (by omega)]; exact x3 i (by omega)
  · rw [if_neg q]
    exact ok_t (by simp [q]) (ok_some ⟨rfl, c1, o1.ofs⟩)
end RFACE1
