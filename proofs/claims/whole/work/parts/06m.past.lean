def S00 : Fld := (fun _ => 4, fun _ _ => 0)
/-- the past at p: a ring of fifteen Camps behind it -/
def shP (h : Hp) (p : Nat) : Prop := hpT h p = (1, 3) ∧ hpR h p 0 = p + 1 ∧ hpT h (p + 1) = (5, 15) ∧ ∀ k, k < 15 → hpR h (p + 1) k = p + 2 + 8 * k ∧ shC h (p + 2 + 8 * k)
def atP (h : Hp) (p : Nat) (l : List Fld) : Prop := shP h p ∧ l.length ≤ 15 ∧ hpI h p 2 = nI l.length ∧ ∃ f, f < 15 ∧ hpI h p 1 = nI f ∧ ∀ i, i < l.length → atC h (p + 2 + 8 * ((f + i) % 15)) (l.getD i S00)
/-- its cells -/
def FPa (p x : Nat) : Prop := p ≤ x ∧ x ≤ p + 121
theorem shC.keep {h h1 : Hp} {a : Nat} {F : Nat → Prop} (c : shC h a) (e : EqOff F h h1) (hF : ¬ F a) : shC h1 a := ⟨by rw [e.2.2.2.1]; exact c.1, fun j hj => ⟨by rw [e.2.2.1]; exact (c.2 j hj).1, by rw [e.2.2.2.1]; exact (c.2 j hj).2⟩⟩
theorem shP.keep {h h1 : Hp} {p : Nat} {F : Nat → Prop} (c : shP h p) (e : EqOff F h h1) (hF : ∀ x, FPa p x → ¬ F x) : shP h1 p := by
  obtain ⟨c1, c2, c3, c4⟩ := c
  refine ⟨by rw [e.2.2.2.1]; exact c1, by rw [e.2.2.1]; exact c2, by rw [e.2.2.2.1]; exact c3, fun k hk => ⟨by rw [e.2.2.1]; exact (c4 k hk).1, (c4 k hk).2.keep e (hF _ (by unfold FPa; omega))⟩⟩
theorem atP.keep {h h1 : Hp} {p : Nat} {l : List Fld} {F : Nat → Prop} (c : atP h p l) (e : EqOff F h h1) (hF : ∀ x, FPa p x → ¬ F x) : atP h1 p l := by
  obtain ⟨c1, c2, c3, f, c4, c5, c6⟩ := c
  refine ⟨c1.keep e hF, c2, by rw [e.1 _ _ (hF p (by unfold FPa; omega))]; exact c3, f, c4, by rw [e.1 _ _ (hF p (by unfold FPa; omega))]; exact c5, fun i hi => (c6 i hi).keep e (fun x z1 z2 => hF x ?_)⟩
  have : (f + i) % 15 < 15 := Nat.mod_lt _ (by omega)
  unfold FPa; omega
/-- the list with one more, at most fifteen -/
def pushL (l : List Fld) (S : Fld) : List Fld := (if l.length = 15 then l.tail else l) ++ [S]
section PAST
variable {h : Hp} {p : Nat} {l : List Fld}
theorem p_pwipe (c : atP h p l) : Ok (f_X3_wipe h p) (fun h1 => atP h1 p [] ∧ EqOff (FPa p) h h1) := by
  obtain ⟨c1, c2, c3, f, c4, c5, c6⟩ := c
  have e : EqOff (fun _ => False) h h := EqOff.rf
  refine ok_some ⟨⟨⟨c1.1, c1.2.1, c1.2.2.1, c1.2.2.2⟩, by simp, by rw [hpI_upI, if_pos ⟨rfl, rfl⟩]; rfl, 0, by omega, by rw [hpI_upI, if_neg (by omega), hpI_upI, if_pos ⟨rfl, rfl⟩]; rfl, fun i hi => absurd hi (by simp)⟩, (EqOff.uI (by unfold FPa; omega)).tr (EqOff.uI (by unfold FPa; omega))⟩
theorem rm15 {n : Nat} (h : n < 1000) : rm32 (nI n) (15 : Int32) = nI (n % 15) := by
  rw [show (15 : Int32) = nI 15 by decide, rm32, pk_rem (by omega) (by omega) (by omega)]
theorem mod15_ne {f i j : Nat} (hi : i < 15) (hj : j < 15) (hn : i ≠ j) : (f + i) % 15 ≠ (f + j) % 15 := by omega
theorem p_push32 {b f n : Nat} {S : Fld} (sp : shP h p) (hn : n < 15) (hf : f < 15) (q1 : hpI h p 1 = nI f) (q2 : hpI h p 2 = nI n) (L : Nat → Fld) (hL : ∀ i, i < n → atC h (p + 2 + 8 * ((f + i) % 15)) (L i)) (cb : atC h b S) (hb : b + 7 < p ∨ p + 121 < b) : Ok (f_X3_push_32 p b h) (fun h1 => shP h1 p ∧ hpI h1 p 1 = nI f ∧ hpI h1 p 2 = nI (n + 1) ∧ (∀ i, i < n → atC h1 (p + 2 + 8 * ((f + i) % 15)) (L i)) ∧ atC h1 (p + 2 + 8 * ((f + n) % 15)) S ∧ EqOff (FPa p) h h1) := by
  obtain ⟨c1, c2, c3, c4⟩ := sp
  have hm : (f + n) % 15 < 15 := Nat.mod_lt _ (by omega)
  obtain ⟨g1, g2⟩ := c4 _ hm
  have er := rm15 (n := f + n) (by omega)
  simp (disch := omega) only [f_X3_push_32, c2, q1, q2, nI_add, er, lt_u, c3, nz_t, gdT, inb_nI, ix_nI, g1]
  refine ok_bd (p_copy g2 cb (by omega)) (fun h1 ⟨z1, z2⟩ => ?_)
  have k1 : hpI h1 p 1 = nI f := by rw [z2.1 _ _ (by unfold FC; omega)]; exact q1
  have k2 : hpI h1 p 2 = nI n := by rw [z2.1 _ _ (by unfold FC; omega)]; exact q2
  rw [k2, i1, nI_add]
  have e2 : EqOff (fun x => x = p) h1 (upI h1 p 2 (nI (n + 1))) := EqOff.uI rfl
  have e3 : EqOff (fun x => x = p ∨ FC (p + 2 + 8 * ((f + n) % 15)) x) h (upI h1 p 2 (nI (n + 1))) := (z2.mono (fun x z => Or.inr z)).tr (e2.mono (fun x z => Or.inl z))
  refine ok_some ⟨⟨by rw [e3.2.2.2.1]; exact c1, ?_, by rw [e3.2.2.2.1]; exact c3, fun k hk => ⟨?_, ?_⟩⟩, ?_, by rw [hpI_upI, if_pos ⟨rfl, rfl⟩], fun i hi => ?_, z1.keep e2 (fun x z3 z4 z5 => by omega), e3.mono (fun x z => by unfold FPa; unfold FC at z; omega)⟩
  · rw [hpR_upI, z2.2.2.1]; exact c2
  · rw [e3.2.2.1]; exact (c4 k hk).1
  · by_cases e : k = (f + n) % 15
    · subst e; exact (z1.keep e2 (fun x z3 z4 z5 => by omega)).1
    · exact (c4 k hk).2.keep e3 (by unfold FC; omega)
  · rw [hpI_upI, if_neg (by omega)]; exact k1
  · have hne := mod15_ne (f := f) (i := i) (j := n) (by omega) hn (by omega)
    have hm2 : (f + i) % 15 < 15 := Nat.mod_lt _ (by omega)
    exact (hL i hi).keep e3 (fun x z3 z4 z5 => by unfold FC at z5; omega)
theorem p_ppush {b : Nat} {S : Fld} (c : atP h p l) (cb : atC h b S) (hb : b + 7 < p ∨ p + 121 < b) : Ok (f_X3_push h p b) (fun h1 => atP h1 p (pushL l S) ∧ EqOff (FPa p) h h1) := by
  obtain ⟨c1, c2, c3, f, c4, c5, c6⟩ := c
  rw [f_X3_push, c3, show (15 : Int32) = nI 15 by decide]
  simp (disch := omega) only [nI_eq0]
  by_cases q : l.length = 15
  · rw [if_pos q, ← show (15 : Int32) = nI 15 by decide, c5, i1, nI_add, rm15 (by omega)]
    refine ok_lt (fun v2 ev => ?_)
    subst ev
    refine ok_lt (fun h3 e3 => ?_)
    have k2 : hpI h3 p 2 = nI l.length := by rw [e3, hpI_upI, if_neg (by omega)]; exact c3
    rw [k2, pk_sub (by omega)]
    refine ok_lt (fun h4 e4 => ?_)
    have e5 : EqOff (fun x => x = p) h h4 := by rw [e4, e3]; exact EqOff.tr (F := fun x => x = p) (EqOff.uI (F := fun x => x = p) rfl) (EqOff.uI (F := fun x => x = p) rfl)
    have k3 : hpI h4 p 1 = nI ((f + 1) % 15) := by rw [e4, hpI_upI, if_neg (by omega), e3, hpI_upI, if_pos ⟨rfl, rfl⟩]
    have k4 : hpI h4 p 2 = nI 14 := by rw [e4, hpI_upI, if_pos ⟨rfl, rfl⟩, q]
    have s4 : shP h4 p := by
      rw [e4, e3]; exact ⟨c1.1, c1.2.1, c1.2.2.1, c1.2.2.2⟩
    have hmf : (f + 1) % 15 < 15 := Nat.mod_lt _ (by omega)
    refine ok_mono (p_push32 (n := 14) (f := (f + 1) % 15) s4 (by omega) hmf k3 k4 (fun i => l.getD (i + 1) S00) (fun i hi => ?_) (cb.keep e5 (fun x z1 z2 z3 => by omega)) hb) (fun h1 ⟨z1, z2, z3, z4, z5, z6⟩ => ⟨⟨z1, ?_, ?_, (f + 1) % 15, hmf, z2, fun i hi => ?_⟩, (e5.mono (fun x z => by unfold FPa; omega)).tr z6⟩)
    · have ei : ((f + 1) % 15 + i) % 15 = (f + (i + 1)) % 15 := by omega
      rw [ei]
      exact (c6 (i + 1) (by omega)).keep e5 (fun x y1 y2 y3 => by omega)
    · simp [pushL, q]
    · simp [pushL, q, z3]
    · rw [pushL, if_pos q] at hi ⊢
      have hlt : l.tail.length = 14 := by simp [q]
      have hi : i < l.tail.length + 1 := by simpa using hi
      rw [getD_snoc hi]
      by_cases e : i = l.tail.length
      · rw [if_pos e]; rw [e, hlt]; exact z5
      · rw [if_neg e]
        have := z4 i (by omega)
        have eg : l.tail.getD i S00 = l.getD (i + 1) S00 := by
          cases l with
          | nil => rfl
          | cons x xs => simp
        rw [eg]; exact this
  · rw [if_neg q]
    refine ok_mono (p_push32 (n := l.length) (f := f) c1 (by omega) c4 c5 c3 (fun i => l.getD i S00) c6 cb hb) (fun h1 ⟨z1, z2, z3, z4, z5, z6⟩ => ⟨⟨z1, ?_, ?_, f, c4, z2, fun i hi => ?_⟩, z6⟩)
    · simp [pushL, q]; omega
    · rw [pushL, if_neg q, List.length_append]; exact z3
    · rw [pushL, if_neg q] at hi ⊢
      have hi : i < l.length + 1 := by simpa using hi
      rw [getD_snoc hi]
      by_cases e : i = l.length
      · rw [if_pos e, e]; exact z5
      · rw [if_neg e]; exact z4 i (by omega)
theorem p_ppop {b : Nat} (c : atP h p l) (hl : 0 < l.length) (sb : shC h b) (hb : b + 7 < p ∨ p + 121 < b) : Ok (f_X3_pop h p b) (fun h1 => atP h1 p (l.take (l.length - 1)) ∧ atC h1 b (l.getD (l.length - 1) S00) ∧ EqOff (fun x => FPa p x ∨ FC b x) h h1) := by
  obtain ⟨c1, c2, c3, f, c4, c5, c6⟩ := c
  rw [f_X3_pop, c3, i0]
  simp (disch := omega) only [nI_le0]
  rw [if_neg (by omega), i1, pk_sub (by omega)]
  refine ok_lt (fun h2 e2 => ?_)
  have e5 : EqOff (fun x => x = p) h h2 := by rw [e2]; exact EqOff.uI rfl
  have k3 : hpI h2 p 1 = nI f := by rw [e2, hpI_upI, if_neg (by omega)]; exact c5
  have k4 : hpI h2 p 2 = nI (l.length - 1) := by rw [e2, hpI_upI, if_pos ⟨rfl, rfl⟩]
  have s4 : shP h2 p := by rw [e2]; exact ⟨c1.1, c1.2.1, c1.2.2.1, c1.2.2.2⟩
  clear e2
  have hm : (f + (l.length - 1)) % 15 < 15 := Nat.mod_lt _ (by omega)
  obtain ⟨g1, g2⟩ := s4.2.2.2 _ hm
  have er := rm15 (n := f + (l.length - 1)) (by omega)
  simp (disch := omega) only [s4.2.1, k3, k4, nI_add, er, lt_u, s4.2.2.1, nz_t, gdT, inb_nI, ix_nI, g1]
  have cl := (c6 (l.length - 1) (by omega)).keep e5 (fun x y1 y2 y3 => by omega)
  refine ok_bd (p_copy (sb.keep e5 (by omega)) cl (by omega)) (fun h1 ⟨z1, z2⟩ => ok_some ⟨?_, z1, (e5.mono (fun x z => Or.inl (by unfold FPa; omega))).tr (z2.mono (fun x z => Or.inr z))⟩)
  have hlen : (l.take (l.length - 1)).length = l.length - 1 := by simp
  have base : atP h2 p (l.take (l.length - 1)) := by
    refine ⟨s4, by omega, by rw [hlen]; exact k4, f, c4, k3, fun i hi => ?_⟩
    rw [hlen] at hi
    rw [getD_take hi]
    exact (c6 i (by omega)).keep e5 (fun x y1 y2 y3 => by omega)
  exact base.keep z2 (fun x y1 y2 => by unfold FPa at y1; unfold FC at y2; omega)
end PAST
section DRAWS
variable {h : Hp} {a : Nat}
/-- a draw: what comes next, what is drawn of n -/
def drw (s : Int32) : Int32 := s * 1103515245 + 12345
def drV (s n : Int32) : Int32 := if n ≤ 0 then 0 else rm32 (ush32 (drw s) 16) n
theorem p_of {s n : Int32} (hs : hpI h a 0 = s) : Ok (f_X1_of h a n) (fun o => o.1 = drV s n ∧ hpI o.2 a 0 = drw s ∧ EqOff (fun x => x = a) h o.2) := by
  rw [f_X1_of, hs]
  refine ok_lt (fun h1 e1 => ?_)
  have e2 : hpI h1 a 0 = drw s := by rw [e1, hpI_upI, if_pos ⟨rfl, rfl⟩]; rfl
  have e3 : EqOff (fun x => x = a) h h1 := by rw [e1]; exact EqOff.uI rfl
  rw [e2]
  refine ok_if (fun q => ok_some ⟨by rw [drV, if_pos q], e2, e3⟩) (fun q => ?_)
  have : nz32 n = true := decide_eq_true (fun z => q (by rw [z]; exact Int32.le_refl _))
  rw [this]
  exact ok_some ⟨by rw [drV, if_neg q], e2, e3⟩
end DRAWS
