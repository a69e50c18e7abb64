section INIT2
variable {h h1 : Hp} {a m : Nat}
def mSl (i : Nat) : Nat := (mFl.getD i (0, 0, 0, 0)).1
def mTy (i : Nat) : Nat × Nat := (mFl.getD i (0, 0, 0, 0)).2.2
/-- j rows of the reference -/
def RwM (h0 h : Hp) (a : Nat) (I : Nat → Int32) (j : Nat) : Prop := hpN h = a + j ∧ hpT h a = (1, 10) ∧ (∀ q, hpI h a q = I q) ∧ (∀ i, i < j → hpR h a (mSl i) = a + 1 + i ∧ hpT h (a + 1 + i) = mTy i ∧ ∀ q, hpI h (a + 1 + i) q = 0) ∧ Ag h0 h 0 (a - 1)
theorem RwM.nx {h0 : Hp} {j k : Nat} {t : Nat × Nat} {I : Nat → Int32} (r : RwM h0 h a I j) (h1' : 1 ≤ a) (hk : k = mSl j) (ht : t = mTy j) (hi : ∀ i, i < j → mSl i ≠ mSl j) (n : NW h a k t h1) : RwM h0 h1 a I (j + 1) := by
  subst hk
  subst ht
  obtain ⟨r1, r2, r3, r4, r5⟩ := r
  have ag := Ag.nw n (by omega) h1'
  obtain ⟨n1, n2, n3, n4, n5⟩ := n
  refine ⟨by omega, by rw [(n5 a (by omega)).2.2.2]; exact r2, fun q => by rw [(n5 a (by omega)).1]; exact r3 q, fun i hi2 => ?_, r5.tr ag⟩
  by_cases w : i = j
  · subst w
    rw [r1] at n2 n3 n4
    rw [show a + 1 + i = a + i + 1 by omega]
    exact ⟨n2, n3, n4⟩
  · have p := r4 i (by omega)
    exact ⟨by rw [(n5 a (by omega)).2.2.1 _ (fun _ => hi i (by omega))]; exact p.1, by rw [(n5 _ (by omega)).2.2.2]; exact p.2.1, fun q => by rw [(n5 _ (by omega)).1]; exact p.2.2 q⟩
theorem RwM.up {h0 : Hp} {j k : Nat} {v : Int32} {I : Nat → Int32} (r : RwM h0 h a I j) (h1' : 1 ≤ a) (e : h1 = upI h a k v) : RwM h0 h1 a (fun q => if q = k then v else I q) j := by
  obtain ⟨r1, r2, r3, r4, r5⟩ := r
  refine ⟨by rw [e]; exact r1, by rw [e]; exact r2, fun q => ?_, fun i hi => ⟨by rw [e]; exact (r4 i hi).1, by rw [e]; exact (r4 i hi).2.1, fun q => ?_⟩, r5.tr (fun x _ hx => ⟨fun q => ?_, fun q => by rw [e]; rfl, fun q => by rw [e]; rfl, by rw [e]; rfl⟩)⟩
  · rw [e, hpI_upI]
    by_cases w : q = k
    · simp [w]
    · rw [if_neg (fun z => w z.2)]; simp only [if_neg w]; exact r3 q
  · rw [e, hpI_upI, if_neg (by omega)]; exact (r4 i hi).2.2 q
  · rw [e, hpI_upI, if_neg (by omega)]
/-- the first state -/
def A00 : Ast := mkA S40 [] noK [] [] nE [] []
theorem none0 (P : Nat → Prop) : ∀ k, k < 0 → P k := fun k hk => absurd hk (Nat.not_lt_zero k)
theorem rdM0 (code : Nat → Int32) : rdM 0 code nE := by
  refine ⟨by omega, fun env => ⟨?_, ?_⟩⟩
  · exact none0 (fun k => mOk (code k) (mrn env code k).1)
  · rw [if_pos rfl, nE]
theorem r_init (f : Frs h m (1, 10)) : Ok (f_X10_init h m) (fun h1 => RM h1 m A00 0 ∧ hpN h1 = m + 27 ∧ Ag h h1 0 (m - 1)) := by
  have f1 := f.1
  rw [f_X10_init]
  have r0 : RwM h h m (fun _ => 0) 0 := ⟨f.2.1, f.2.2.1, f.2.2.2, fun i hi => by omega, fun x _ _ => ⟨fun _ => rfl, fun _ => rfl, fun _ => rfl, rfl⟩⟩
  refine ok_nw (by rw [r0.1]; omega) (fun g n => ?_)
  have r1 := r0.nx f1 (by decide) (by decide) (by decide) n
  clear r0 n
  refine ok_lt (fun g e => ?_)
  have r2 := r1.up f1 e
  clear r1 e
  refine ok_lt (fun g e => ?_)
  have r3 := r2.up f1 e
  clear r2 e
  refine ok_nw (by rw [r3.1]; omega) (fun g n => ?_)
  have r4 := r3.nx f1 (by decide) (by decide) (by decide) n
  clear r3 n
  refine ok_nw (by rw [r4.1]; omega) (fun g n => ?_)
  have r5 := r4.nx f1 (by decide) (by decide) (by decide) n
  clear r4 n
  refine ok_nw (by rw [r5.1]; omega) (fun g n => ?_)
  have r6 := r5.nx f1 (by decide) (by decide) (by decide) n
  clear r5 n
  refine ok_nw (by rw [r6.1]; omega) (fun g n => ?_)
  have r7 := r6.nx f1 (by decide) (by decide) (by decide) n
  clear r6 n
  refine ok_nw (by rw [r7.1]; omega) (fun g n => ?_)
  have r8 := r7.nx f1 (by decide) (by decide) (by decide) n
  clear r7 n
  refine ok_nw (by rw [r8.1]; omega) (fun g n => ?_)
  have r9 := r8.nx f1 (by decide) (by decide) (by decide) n
  clear r8 n
  refine ok_nw (by rw [r9.1]; omega) (fun g n => ?_)
  have r10 := r9.nx f1 (by decide) (by decide) (by decide) n
  clear r9 n
  refine ok_nw (by rw [r10.1]; omega) (fun g n => ?_)
  have r11 := r10.nx f1 (by decide) (by decide) (by decide) n
  clear r10 n
  refine ok_lt (fun g e => ?_)
  have r12 := r11.up f1 e
  clear r11 e
  refine ok_nw (by rw [r12.1]; omega) (fun g n => ?_)
  have r13 := r12.nx f1 (by decide) (by decide) (by decide) n
  clear r12 n
  refine ok_nw (by rw [r13.1]; omega) (fun g n => ?_)
  have r14 := r13.nx f1 (by decide) (by decide) (by decide) n
  clear r13 n
  refine ok_nw (by rw [r14.1]; omega) (fun g n => ?_)
  have r15 := r14.nx f1 (by decide) (by decide) (by decide) n
  clear r14 n
  refine ok_nw (by rw [r15.1]; omega) (fun g n => ?_)
  have r16 := r15.nx f1 (by decide) (by decide) (by decide) n
  clear r15 n
  refine ok_nw (by rw [r16.1]; omega) (fun g n => ?_)
  have r17 := r16.nx f1 (by decide) (by decide) (by decide) n
  clear r16 n
  refine ok_nw (by rw [r17.1]; omega) (fun g n => ?_)
  have r18 := r17.nx f1 (by decide) (by decide) (by decide) n
  clear r17 n
  refine ok_nw (by rw [r18.1]; omega) (fun g n => ?_)
  have r19 := r18.nx f1 (by decide) (by decide) (by decide) n
  clear r18 n
  refine ok_nw (by rw [r19.1]; omega) (fun g n => ?_)
  have r20 := r19.nx f1 (by decide) (by decide) (by decide) n
  clear r19 n
  refine ok_nw (by rw [r20.1]; omega) (fun g n => ?_)
  have r21 := r20.nx f1 (by decide) (by decide) (by decide) n
  clear r20 n
  refine ok_nw (by rw [r21.1]; omega) (fun g n => ?_)
  have r22 := r21.nx f1 (by decide) (by decide) (by decide) n
  clear r21 n
  refine ok_nw (by rw [r22.1]; omega) (fun g n => ?_)
  have r23 := r22.nx f1 (by decide) (by decide) (by decide) n
  clear r22 n
  refine ok_nw (by rw [r23.1]; omega) (fun g n => ?_)
  have r24 := r23.nx f1 (by decide) (by decide) (by decide) n
  clear r23 n
  refine ok_nw (by rw [r24.1]; omega) (fun g n => ?_)
  have r25 := r24.nx f1 (by decide) (by decide) (by decide) n
  clear r24 n
  refine ok_nw (by rw [r25.1]; omega) (fun g n => ?_)
  have r26 := r25.nx f1 (by decide) (by decide) (by decide) n
  clear r25 n
  refine ok_nw (by rw [r26.1]; omega) (fun g n => ?_)
  have r27 := r26.nx f1 (by decide) (by decide) (by decide) n
  clear r26 n
  refine ok_nw (by rw [r27.1]; omega) (fun g n => ?_)
  have r28 := r27.nx f1 (by decide) (by decide) (by decide) n
  clear r27 n
  refine ok_nw (by rw [r28.1]; omega) (fun g n => ?_)
  have r29 := r28.nx f1 (by decide) (by decide) (by decide) n
  clear r28 n
  refine ok_nw (by rw [r29.1]; omega) (fun g n => ?_)
  have r30 := r29.nx f1 (by decide) (by decide) (by decide) n
  clear r29 n
  obtain ⟨q1, q2, q3, q4, q5⟩ := r30
  have sh : shM g m := ⟨q2, fun x hx => ?_⟩
  · have z : ∀ i, 1 ≤ i → i ≤ 27 → ∀ q, hpI g (m + i) q = 0 := fun i i1 i2 q => by
      have := (q4 (i - 1) (by omega)).2.2 q
      rw [show m + 1 + (i - 1) = m + i by omega] at this
      exact this
    have iv : ∀ q, hpI g m q = if q = 21 then -1 else if q = 4 then 4 else if q = 3 then 4 else 0 := q3
    have e3 : hpI g m 3 = nI 4 := by rw [iv]; decide
    have e4 : hpI g m 4 = nI 4 := by rw [iv]; decide
    have e21 : hpI g m 21 = -1 := by rw [iv]; decide
    have ez : ∀ q, q ≠ 21 → q ≠ 4 → q ≠ 3 → hpI g m q = nI 0 := fun q z1 z2 z3 => by rw [iv, if_neg z1, if_neg z2, if_neg z3]; rfl
    have rd0 := rdM0 (hpI g (m + 6))
    refine ok_some ⟨⟨⟨⟨sh, e3, e4⟩, sh.t2, z 2 (by omega) (by omega) 48, z 2 (by omega) (by omega) 49, z 2 (by omega) (by omega) 50, fun i hi => absurd hi (Nat.not_lt_zero i)⟩, ⟨ez 9 (by decide) (by decide) (by decide), by simp [A00, aX, mkA], fun i hi => absurd hi (by simp [A00, aX, mkA])⟩, ⟨ez 1 (by decide) (by decide) (by decide), by simp [A00, aT, mkA], fun i hi => absurd hi (by simp [A00, aT, mkA])⟩, ⟨e21, 0, hpI g (m + 6), ez 17 (by decide) (by decide) (by decide), fun k _ => rfl, rd0⟩, ⟨ez 22 (by decide) (by decide) (by decide), by simp [A00, aP, mkA], fun i hi => absurd hi (by simp [A00, aP, mkA])⟩, ⟨0, by omega, ez 5 (by decide) (by decide) (by decide), fun i hi => ⟨0, false, by omega, z 26 (by omega) (by omega) i, z 25 (by omega) (by omega) i, rfl, fun T hT => by cases hT⟩⟩, ⟨ez 31 (by decide) (by decide) (by decide), by simp [A00, aM, mkA], fun i hi => absurd hi (by simp [A00, aM, mkA])⟩, ⟨ez 36 (by decide) (by decide) (by decide), by simp [A00, aN, mkA], fun i hi => absurd hi (by simp [A00, aN, mkA])⟩⟩, q1, q5⟩
  · have all : ∀ y, y ∈ mFl → ∃ i, i < 27 ∧ y.1 = mSl i ∧ y.2.1 = 1 + i ∧ y.2.2 = mTy i := by decide
    obtain ⟨i, i1, i2, i3, i4⟩ := all x hx
    rw [i2, i3, i4, show m + (1 + i) = m + 1 + i by omega]
    exact ⟨(q4 i i1).1, (q4 i i1).2.1⟩
theorem wf40 : wfF S40 := ⟨by decide, by decide, by decide, by decide, by decide, by decide, by decide, fun _ _ => Nat.zero_le _, fun i hi => absurd hi (Nat.not_lt_zero i)⟩
theorem wa_init : WA A00 0 := ⟨⟨wf40, rfl, rfl, Nat.le_refl _⟩, fun i hi => absurd hi (Nat.not_lt_zero i), fun k T hT => (by cases hT), fun i hi => absurd hi (Nat.not_lt_zero i), fun i hi => absurd hi (Nat.not_lt_zero i), by omega⟩
end INIT2
