section WAS
variable {A : Ast} {n : Nat}
theorem wfB.mono {S T : Fld} (b : wfB S T n) : wfB S T (n + 1) := ⟨b.1, b.2.1, b.2.2.1, by have := b.2.2.2; omega⟩
theorem WA.up (a : WA A n) (hn : n < 1000) : WA A (n + 1) := ⟨a.1.mono, fun i hi => (a.2.1 i hi).mono, fun k T hT => (a.2.2.1 k T hT).mono, a.2.2.2.1, a.2.2.2.2.1, by omega⟩
/-- another field of the same sides -/
theorem WA.fld (a : WA A n) (hn : n < 1000) {S : Fld} (hw : wfF S) (h0 : S.1 0 = (aS A).1 0) (h1 : S.1 1 = (aS A).1 1) (h3 : S.1 3 ≤ 300 * (n + 1)) : WA (wS A S) (n + 1) := by
  refine ⟨⟨hw, rfl, rfl, h3⟩, fun i hi => ?_, fun k T hT => ?_, a.2.2.2.1, a.2.2.2.2.1, by omega⟩
  · have := (a.2.1 i hi).mono
    exact ⟨this.1, this.2.1.trans h0.symm, this.2.2.1.trans h1.symm, this.2.2.2⟩
  · have := (a.2.2.1 k T hT).mono
    exact ⟨this.1, this.2.1.trans h0.symm, this.2.2.1.trans h1.symm, this.2.2.2⟩
theorem pushL_get {l : List Fld} {S : Fld} {i : Nat} (hi : i < (pushL l S).length) : (pushL l S).getD i S00 = S ∨ ∃ j, j < l.length ∧ (pushL l S).getD i S00 = l.getD j S00 := by
  unfold pushL at hi ⊢
  by_cases q : l.length = 15
  · simp only [q, if_true] at hi ⊢
    have hl : l.tail.length = 14 := by simp [q]
    have hi' : i < l.tail.length + 1 := by simpa using hi
    rw [getD_snoc hi']
    by_cases w : i = l.tail.length
    · left; rw [if_pos w]
    · right
      rw [if_neg w]
      refine ⟨i + 1, by omega, ?_⟩
      cases l with
      | nil => simp at q
      | cons x xs => simp
  · simp only [q, if_false] at hi ⊢
    have hi' : i < l.length + 1 := by simpa using hi
    rw [getD_snoc hi']
    by_cases w : i = l.length
    · left; rw [if_pos w]
    · right; rw [if_neg w]; exact ⟨i, by omega, rfl⟩
/-- what was is put by, and another field comes -/
theorem WA.push (a : WA A n) (hn : n < 1000) {S : Fld} (hw : wfF S) (h0 : S.1 0 = (aS A).1 0) (h1 : S.1 1 = (aS A).1 1) (h3 : S.1 3 ≤ 300 * (n + 1)) : WA (wP (wS A S) (pushL (aP A) (aS A))) (n + 1) := by
  have b := a.fld hn hw h0 h1 h3
  refine ⟨b.1, fun i hi => ?_, b.2.2.1, b.2.2.2.1, b.2.2.2.2.1, b.2.2.2.2.2⟩
  show wfB S ((pushL (aP A) (aS A)).getD i S00) (n + 1)
  rcases pushL_get hi with e | ⟨j, hj, e⟩
  · rw [e]; have := a.1.mono; exact ⟨this.1, h0.symm, h1.symm, this.2.2.2⟩
  · rw [e]; exact b.2.1 j hj
theorem wa_act (a : WA A n) (hn : n < 1000) {R : Int32 × Fld} (h : okS (aS A) R.2) : WA (sp_act A R).2 (n + 1) := by
  have h3 : R.2.1 3 ≤ 300 * (n + 1) := by rw [h.2.2.2]; have := a.1.2.2.2; omega
  unfold sp_act
  split
  · exact a.fld hn h.1 h.2.1 h.2.2.1 h3
  · exact a.push hn h.1 h.2.1 h.2.2.1 h3
theorem wa_years (a : WA A n) (hn : n < 1000) (x : Int32) : WA (sp_years A x).2 (n + 1) := by
  have h3 := a.1.2.2.2
  have hy := a.y
  unfold sp_years
  cases ex : numIn (nI 0) (nI 60) x with
  | none => exact a.up hn
  | some k =>
    obtain ⟨_, g1, g2⟩ := numIn_s (by omega) (by omega) ex
    exact a.push hn (wf_yrs a.w k (by omega)) (yrs_01 k).1 (yrs_01 k).2 (by show (yrs (lossE (aE A)) (aS A) k).2.1 3 ≤ _; rw [yrs_y]; omega)
theorem wa_undo (a : WA A n) (hn : n < 1000) : WA (sp_undo A).2 (n + 1) := by
  unfold sp_undo
  split
  · exact a.up hn
  · rename_i q
    have b := a.2.1 ((aP A).length - 1) (by omega)
    have c := a.fld hn b.1 b.2.1 b.2.2.1 (by have := b.2.2.2; omega)
    refine ⟨c.1, fun i hi => ?_, c.2.2.1, c.2.2.2.1, c.2.2.2.2.1, c.2.2.2.2.2⟩
    have hi : i < ((aP A).take ((aP A).length - 1)).length := hi
    rw [List.length_take] at hi
    show wfB _ (((aP A).take ((aP A).length - 1)).getD i S00) (n + 1)
    rw [getD_take (by omega)]
    exact c.2.1 i (show i < (aP A).length by omega)
theorem wa_keep (a : WA A n) (hn : n < 1000) (x : Int32) : WA (sp_keep A x).2 (n + 1) := by
  unfold sp_keep
  cases ex : numIn (nI 0) (nI 2) x with
  | none => exact a.up hn
  | some i =>
    have b := a.up hn
    refine ⟨b.1, b.2.1, fun k T hT => ?_, b.2.2.2.1, b.2.2.2.2.1, b.2.2.2.2.2⟩
    have hT : (if k = i then some (aS A) else aK A k) = some T := hT
    by_cases w : k = i
    · rw [if_pos w] at hT; cases hT; exact b.1
    · rw [if_neg w] at hT; exact b.2.2.1 k T hT
theorem wa_again (a : WA A n) (hn : n < 1000) (x : Int32) : WA (sp_again A x).2 (n + 1) := by
  unfold sp_again
  cases ex : numIn (nI 0) (nI 2) x with
  | none => exact a.up hn
  | some i =>
    cases hk : aK A i with
    | none => simp only [hk]; exact a.up hn
    | some T =>
      simp only [hk]
      have b := a.2.2.1 i T hk
      have c := a.fld hn b.1 b.2.1 b.2.2.1 (by have := b.2.2.2; omega)
      exact ⟨c.1, fun i hi => absurd hi (Nat.not_lt_zero i), c.2.2.1, c.2.2.2.1, c.2.2.2.2.1, c.2.2.2.2.2⟩
theorem wa_field (a : WA A n) (hn : n < 1000) : WA (sp_field A).2 (n + 1) := by
  have hd : ∀ {o : Option Nat} {r : Nat}, dg36 o = some r → 3 ≤ r ∧ r ≤ 6 := fun {o r} e => by
    unfold dg36 at e
    cases o with
    | none => cases e
    | some d =>
      simp only at e
      by_cases w : 3 ≤ d ∧ d ≤ 6
      · rw [if_pos w] at e; cases e; exact w
      · rw [if_neg w] at e; cases e
  unfold sp_field
  cases hr : dg36 (dgA (aX A) 0 (aX A).length) with
  | none => exact a.up hn
  | some r =>
    cases hk : dg36 (dgA (aX A) 1 (aX A).length) with
    | none => exact a.up hn
    | some k =>
      simp only
      split
      · have h1 := hd hr
        have h2 := hd hk
        refine ⟨⟨⟨h1.1, h1.2, h2.1, h2.2, Nat.zero_le _, by show 0 < 1000000; omega, by show 0 ≤ 999; omega, a.w.2.2.2.2.2.2.2.1, fun i hi => absurd hi (Nat.not_lt_zero i)⟩, rfl, rfl, Nat.zero_le _⟩, fun i hi => absurd hi (Nat.not_lt_zero i), fun k T hT => (by cases hT), fun i hi => absurd hi (Nat.not_lt_zero i), a.2.2.2.2.1, by omega⟩
      · exact a.up hn
theorem campsG_w {X : List Int32} {e : Nat} {S : Fld} : ∀ f T p T', wfF T → T.1 0 = S.1 0 → T.1 1 = S.1 1 → T.1 3 = S.1 3 → campsG X e f T p = .inr T' → wfF T' ∧ T'.1 0 = S.1 0 ∧ T'.1 1 = S.1 1 ∧ T'.1 3 = S.1 3 := by
  intro f
  induction f with
  | zero => intro T p T' _ _ _ _ h; cases h
  | succ f ih =>
    intro T p T' hw h0 h1 h3 h
    rw [campsG] at h
    split at h
    · cases h
    · rename_i h8
      cases hl : lnG X e p T 0 6 with
      | inl b => rw [hl] at h; cases h
      | inr T2 =>
        rw [hl] at h
        obtain ⟨w1, w2, w3, w4, w5, _⟩ := lnG_w hw (by omega) hl
        simp only at h
        split at h
        · split at h
          · exact ih T2 _ T' w1 (w3.trans h0) (w4.trans h1) (w5.trans h3) h
          · cases h
        · cases h; exact ⟨w1, w3.trans h0, w4.trans h1, w5.trans h3⟩
theorem wa_camps (a : WA A n) (hn : n < 1000) : WA (sp_camps A).2 (n + 1) := by
  unfold sp_camps
  split
  · exact a.up hn
  · cases hc : campsG (aX A) (min (aX A).length 55) 9 (aS A) 0 with
    | inl b => exact a.up hn
    | inr T =>
      simp only
      split
      · obtain ⟨w1, w2, w3, w4⟩ := campsG_w (S := aS A) _ _ _ _ a.w rfl rfl rfl hc
        have c := a.fld hn w1 w2 w3 (by rw [w4]; have := a.1.2.2.2; omega)
        exact ⟨c.1, fun i hi => absurd hi (Nat.not_lt_zero i), fun k T hT => (by cases hT), c.2.2.2.1, c.2.2.2.2.1, c.2.2.2.2.2⟩
      · exact a.up hn
theorem wa_sheet (a : WA A n) (hn : n < 1000) (kind x f step : Int32) : WA (sp_sheet A kind x f step).2 (n + 1) := by
  have h3 := a.1.2.2.2
  unfold sp_sheet
  split
  · exact a.up hn
  · split
    · have h := wf4 (T := weakS (aS A) 0) a.w rfl (fun j i hj => by simp [weakS, hj]) (fun i => by
        by_cases z : i < (aS A).1 2
        · left; simp [weakS, z]
        · right; simp [weakS, z])
      exact a.fld hn h.1 h.2.1 h.2.2.1 (by rw [h.2.2.2]; omega)
    · split
      · exact a.up hn
      · have h := wf4 (T := shtS (aS A) kind (ix x) f step) a.w rfl (fun j i hj => by simp [shtS, hj]) (fun i => by
          have := (dg_rng (ent kind (f + nI i * step))).2
          by_cases z : i < (aS A).1 2
          · left; simp only [shtS, z, and_self, if_true]; split <;> omega
          · right; simp [shtS, z])
        exact a.fld hn h.1 h.2.1 h.2.2.1 (by rw [h.2.2.2]; omega)
theorem wa_marked (a : WA A n) (hn : n < 1000) (x y z : Int32) : WA (sp_marked A x y z).2 (n + 1) := by
  have b := a.up hn
  have b5 := a.w.2.2.2.2.1
  unfold sp_marked
  split
  · rename_i q
    obtain ⟨q1, q2, q3, q4⟩ := q
    obtain ⟨k, hk⟩ := Option.isSome_iff_exists.mp q1
    obtain ⟨y', hy⟩ := Option.isSome_iff_exists.mp q2
    obtain ⟨z', hz⟩ := Option.isSome_iff_exists.mp q3
    obtain ⟨e1, g1⟩ := campOf_s (by omega) hk
    obtain ⟨e2, g2, g3⟩ := numIn_s (by omega) (by omega) hy
    obtain ⟨e3, g4, g5⟩ := numIn_s (by omega) (by omega) hz
    refine ⟨b.1, b.2.1, b.2.2.1, fun i hi => ?_, b.2.2.2.2.1, b.2.2.2.2.2⟩
    have hi : i < (aM A).length + 1 := by simpa [aM, wM, mkA] using hi
    show ∃ k y' w, (aM A ++ [(x, y, z)]).getD i (0, 0, 0) = (nI k, nI y', nI w) ∧ k < 8 ∧ y' ≤ 30 ∧ w ≤ 1
    rw [getD_snoc hi]
    by_cases w : i = (aM A).length
    · rw [if_pos w]; exact ⟨k, y', z', by rw [e1, e2, e3], by omega, g3, g5⟩
    · rw [if_neg w]; exact a.2.2.2.1 i (by omega)
  · exact b
theorem wa_heard (a : WA A n) (hn : n < 1000) (x v : Int32) : WA (sp_heard A x v).2 (n + 1) := by
  have b := a.up hn
  unfold sp_heard
  split
  · rename_i q
    obtain ⟨q1, q2, q3⟩ := q
    have key : ∃ k, k ≤ 4 ∧ x = nI k ∧ mostH x ≤ nI 99 := by
      unfold mostH at q2 ⊢
      by_cases e0 : x = 0
      · exact ⟨0, by omega, e0, by rw [if_pos e0]; decide⟩
      rw [if_neg e0] at q2 ⊢
      by_cases e1 : x = 1
      · exact ⟨1, by omega, e1, by rw [if_pos e1]; decide⟩
      rw [if_neg e1] at q2 ⊢
      by_cases e2 : x = 2
      · exact ⟨2, by omega, e2, by rw [if_pos e2]; decide⟩
      rw [if_neg e2] at q2 ⊢
      by_cases e3 : x = 3
      · exact ⟨3, by omega, e3, by rw [if_pos e3]; decide⟩
      rw [if_neg e3] at q2 ⊢
      by_cases e4 : x = 4
      · exact ⟨4, by omega, e4, by rw [if_pos e4]; decide⟩
      rw [if_neg e4] at q2
      exact absurd (Int32.le_trans q1 q2) (by decide)
    obtain ⟨k, hk, ek, hm⟩ := key
    obtain ⟨e1, e2⟩ := nI_ix q1
    have hv := Int32.le_trans q2 hm
    rw [e1, nI_leI e2 (by omega)] at hv
    refine ⟨b.1, b.2.1, b.2.2.1, b.2.2.2.1, fun i hi => ?_, b.2.2.2.2.2⟩
    have hi : i < (aN A).length + 1 := by simpa [aN, wN, mkA] using hi
    show ∃ k y, (aN A ++ [(x, v, 0)]).getD i (0, 0, 0) = (nI k, nI y, 0) ∧ k ≤ 4 ∧ y ≤ 99
    rw [getD_snoc hi]
    by_cases w : i = (aN A).length
    · rw [if_pos w]; exact ⟨k, ix v, by rw [ek, ← e1], hk, hv⟩
    · rw [if_neg w]; exact a.2.2.2.2.1 i (by omega)
  · exact b
end WAS
