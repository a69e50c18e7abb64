/-! The class's whole state -/
abbrev T3 : Type := Int32 × Int32 × Int32
/-- what is promised of a state: the field, the past, what is kept, the text, the row, the rule, marks, what was heard -/
abbrev Ast : Type := Fld × List Fld × (Nat → Option Fld) × List Int32 × List Int64 × RE × List T3 × List T3
def aS (A : Ast) : Fld := A.1
def aP (A : Ast) : List Fld := A.2.1
def aK (A : Ast) : Nat → Option Fld := A.2.2.1
def aX (A : Ast) : List Int32 := A.2.2.2.1
def aT (A : Ast) : List Int64 := A.2.2.2.2.1
def aE (A : Ast) : RE := A.2.2.2.2.2.1
def aM (A : Ast) : List T3 := A.2.2.2.2.2.2.1
def aN (A : Ast) : List T3 := A.2.2.2.2.2.2.2
def mkA (S : Fld) (P : List Fld) (K : Nat → Option Fld) (X : List Int32) (T : List Int64) (E : RE) (M N : List T3) : Ast := (S, P, K, X, T, E, M, N)
def wT (A : Ast) (T : List Int64) : Ast := mkA (aS A) (aP A) (aK A) (aX A) T (aE A) (aM A) (aN A)
def wX (A : Ast) (X : List Int32) : Ast := mkA (aS A) (aP A) (aK A) X (aT A) (aE A) (aM A) (aN A)
def wS (A : Ast) (S : Fld) : Ast := mkA S (aP A) (aK A) (aX A) (aT A) (aE A) (aM A) (aN A)
def wP (A : Ast) (P : List Fld) : Ast := mkA (aS A) P (aK A) (aX A) (aT A) (aE A) (aM A) (aN A)
def wK (A : Ast) (K : Nat → Option Fld) : Ast := mkA (aS A) (aP A) K (aX A) (aT A) (aE A) (aM A) (aN A)
def wE (A : Ast) (E : RE) : Ast := mkA (aS A) (aP A) (aK A) (aX A) (aT A) E (aM A) (aN A)
def wM (A : Ast) (M : List T3) : Ast := mkA (aS A) (aP A) (aK A) (aX A) (aT A) (aE A) M (aN A)
def wN (A : Ast) (N : List T3) : Ast := mkA (aS A) (aP A) (aK A) (aX A) (aT A) (aE A) (aM A) N
def xRf : List (Nat × Nat × Nat) := [(1, 0, 2), (1, 1, 4), (1, 2, 6), (1, 3, 14), (1, 4, 22), (1, 5, 30), (1, 6, 152), (1, 8, 153), (1, 9, 157), (1, 10, 161), (1, 11, 162), (1, 12, 166), (1, 13, 170), (1, 14, 176), (1, 15, 177), (152, 0, 178), (152, 1, 186), (152, 2, 194), (170, 0, 171), (170, 1, 172), (170, 2, 173), (170, 3, 174), (170, 4, 175)]
def xTy : List (Nat × Nat × Nat) := [(1, 1, 9), (152, 5, 3), (161, 1, 5), (170, 1, 8), (171, 2, 9216), (172, 3, 256), (173, 2, 36), (174, 2, 36), (175, 2, 36), (176, 2, 496), (177, 2, 41)]
def shX (h : Hp) : Prop := (∀ q, q ∈ xRf → hpR h q.1 q.2.1 = q.2.2) ∧ ∀ q, q ∈ xTy → hpT h q.1 = q.2
theorem shX.r1_0 {h : Hp} (s : shX h) : hpR h 1 0 = 2 := s.1 (1, 0, 2) (by decide)
theorem shX.r1_1 {h : Hp} (s : shX h) : hpR h 1 1 = 4 := s.1 (1, 1, 4) (by decide)
theorem shX.r1_2 {h : Hp} (s : shX h) : hpR h 1 2 = 6 := s.1 (1, 2, 6) (by decide)
theorem shX.r1_3 {h : Hp} (s : shX h) : hpR h 1 3 = 14 := s.1 (1, 3, 14) (by decide)
theorem shX.r1_4 {h : Hp} (s : shX h) : hpR h 1 4 = 22 := s.1 (1, 4, 22) (by decide)
theorem shX.r1_5 {h : Hp} (s : shX h) : hpR h 1 5 = 30 := s.1 (1, 5, 30) (by decide)
theorem shX.r1_6 {h : Hp} (s : shX h) : hpR h 1 6 = 152 := s.1 (1, 6, 152) (by decide)
theorem shX.r1_8 {h : Hp} (s : shX h) : hpR h 1 8 = 153 := s.1 (1, 8, 153) (by decide)
theorem shX.r1_9 {h : Hp} (s : shX h) : hpR h 1 9 = 157 := s.1 (1, 9, 157) (by decide)
theorem shX.r1_10 {h : Hp} (s : shX h) : hpR h 1 10 = 161 := s.1 (1, 10, 161) (by decide)
theorem shX.r1_11 {h : Hp} (s : shX h) : hpR h 1 11 = 162 := s.1 (1, 11, 162) (by decide)
theorem shX.r1_12 {h : Hp} (s : shX h) : hpR h 1 12 = 166 := s.1 (1, 12, 166) (by decide)
theorem shX.r1_13 {h : Hp} (s : shX h) : hpR h 1 13 = 170 := s.1 (1, 13, 170) (by decide)
theorem shX.r1_14 {h : Hp} (s : shX h) : hpR h 1 14 = 176 := s.1 (1, 14, 176) (by decide)
theorem shX.r1_15 {h : Hp} (s : shX h) : hpR h 1 15 = 177 := s.1 (1, 15, 177) (by decide)
theorem shX.r152_0 {h : Hp} (s : shX h) : hpR h 152 0 = 178 := s.1 (152, 0, 178) (by decide)
theorem shX.r152_1 {h : Hp} (s : shX h) : hpR h 152 1 = 186 := s.1 (152, 1, 186) (by decide)
theorem shX.r152_2 {h : Hp} (s : shX h) : hpR h 152 2 = 194 := s.1 (152, 2, 194) (by decide)
theorem shX.r170_0 {h : Hp} (s : shX h) : hpR h 170 0 = 171 := s.1 (170, 0, 171) (by decide)
theorem shX.r170_1 {h : Hp} (s : shX h) : hpR h 170 1 = 172 := s.1 (170, 1, 172) (by decide)
theorem shX.r170_2 {h : Hp} (s : shX h) : hpR h 170 2 = 173 := s.1 (170, 2, 173) (by decide)
theorem shX.r170_3 {h : Hp} (s : shX h) : hpR h 170 3 = 174 := s.1 (170, 3, 174) (by decide)
theorem shX.r170_4 {h : Hp} (s : shX h) : hpR h 170 4 = 175 := s.1 (170, 4, 175) (by decide)
theorem shX.t1 {h : Hp} (s : shX h) : hpT h 1 = (1, 9) := s.2 (1, 1, 9) (by decide)
theorem shX.t152 {h : Hp} (s : shX h) : hpT h 152 = (5, 3) := s.2 (152, 5, 3) (by decide)
theorem shX.t161 {h : Hp} (s : shX h) : hpT h 161 = (1, 5) := s.2 (161, 1, 5) (by decide)
theorem shX.t170 {h : Hp} (s : shX h) : hpT h 170 = (1, 8) := s.2 (170, 1, 8) (by decide)
theorem shX.t171 {h : Hp} (s : shX h) : hpT h 171 = (2, 9216) := s.2 (171, 2, 9216) (by decide)
theorem shX.t172 {h : Hp} (s : shX h) : hpT h 172 = (3, 256) := s.2 (172, 3, 256) (by decide)
theorem shX.t173 {h : Hp} (s : shX h) : hpT h 173 = (2, 36) := s.2 (173, 2, 36) (by decide)
theorem shX.t174 {h : Hp} (s : shX h) : hpT h 174 = (2, 36) := s.2 (174, 2, 36) (by decide)
theorem shX.t175 {h : Hp} (s : shX h) : hpT h 175 = (2, 36) := s.2 (175, 2, 36) (by decide)
theorem shX.t176 {h : Hp} (s : shX h) : hpT h 176 = (2, 496) := s.2 (176, 2, 496) (by decide)
theorem shX.t177 {h : Hp} (s : shX h) : hpT h 177 = (2, 41) := s.2 (177, 2, 41) (by decide)
def SHX (h : Hp) : Prop := shX h ∧ shC h 14 ∧ shC h 22 ∧ shR h 157 ∧ ∀ k, k < 3 → shC h (178 + 8 * k)
theorem SHX.keep {h h1 : Hp} (s : SHX h) (eR : hpR h1 = hpR h) (eT : hpT h1 = hpT h) : SHX h1 := by
  simp only [SHX, shX, shC, shR, eR, eT] at s ⊢
  exact s
/-- which places are kept, and what lies there -/
def atK (h : Hp) (K : Nat → Option Fld) : Prop := ∃ b, b < 8 ∧ hpI h 1 7 = nI b ∧ ∀ k, k < 3 → b.testBit k = (K k).isSome ∧ ∀ T, K k = some T → atC h (178 + 8 * k) T
theorem atK.keep {h h1 : Hp} {K : Nat → Option Fld} {F : Nat → Prop} (c : atK h K) (e : EqOff F h h1) (h1' : ¬ F 1) (hF : ∀ x, 178 ≤ x → x ≤ 201 → ¬ F x) : atK h1 K := by
  obtain ⟨b, c1, c2, c3⟩ := c
  exact ⟨b, c1, by rw [e.1 _ _ h1']; exact c2, fun k hk => ⟨(c3 k hk).1, fun T hT => ((c3 k hk).2 T hT).keep e (fun x z1 z2 => hF x (by omega) (by omega))⟩⟩
def atRE (h : Hp) (r : Nat) (E : RE) : Prop := ∃ sz st, atR h r sz st ∧ rdC (sz, st) E
theorem atRE.keep {h h1 : Hp} {r : Nat} {E : RE} {F : Nat → Prop} (c : atRE h r E) (e : EqOff F h h1) (hF : ∀ x, FR r x → ¬ F x) : atRE h1 r E := by
  obtain ⟨sz, st, c1, c2⟩ := c
  exact ⟨sz, st, c1.keep e hF, c2⟩
def RC (h : Hp) (A : Ast) : Prop := SHX h ∧ atX h 2 (aX A) ∧ atT h 4 (aT A) ∧ atC h 6 (aS A) ∧ atP h 30 (aP A) ∧ atK h (aK A) ∧ atRE h 153 (aE A) ∧ atN h 162 10 (aM A) ∧ atN h 166 12 (aN A)
/-- the class's cells -/
def FX (x : Nat) : Prop := 1 ≤ x ∧ x ≤ 201
/-- scratch -/
def Fs (x : Nat) : Prop := (14 ≤ x ∧ x ≤ 29) ∨ (157 ≤ x ∧ x ≤ 161) ∨ (170 ≤ x ∧ x ≤ 177)
section RCR
variable {h h1 : Hp} {A : Ast}
theorem RC.s (c : RC h A) : shX h := c.1.1
theorem RC.x (c : RC h A) : atX h 2 (aX A) := c.2.1
theorem RC.t (c : RC h A) : atT h 4 (aT A) := c.2.2.1
theorem RC.n (c : RC h A) : atC h 6 (aS A) := c.2.2.2.1
theorem RC.p (c : RC h A) : atP h 30 (aP A) := c.2.2.2.2.1
theorem RC.k (c : RC h A) : atK h (aK A) := c.2.2.2.2.2.1
theorem RC.r (c : RC h A) : atRE h 153 (aE A) := c.2.2.2.2.2.2.1
theorem RC.m (c : RC h A) : atN h 162 10 (aM A) := c.2.2.2.2.2.2.2.1
theorem RC.g (c : RC h A) : atN h 166 12 (aN A) := c.2.2.2.2.2.2.2.2
theorem RC.scr (c : RC h A) (e : EqOff Fs h h1) : RC h1 A := ⟨c.1.keep e.2.2.1 e.2.2.2.1, c.x.keep e (fun x z1 z2 => by unfold F2 at z1; unfold Fs at z2; omega), c.t.keep e (fun x z1 z2 => by unfold F2 at z1; unfold Fs at z2; omega), c.n.keep e (fun x z1 z2 z3 => by unfold Fs at z3; omega), c.p.keep e (fun x z1 z2 => by unfold FPa at z1; unfold Fs at z2; omega), c.k.keep e (fun z => by unfold Fs at z; omega) (fun x z1 z2 z3 => by unfold Fs at z3; omega), c.r.keep e (fun x z1 z2 => by unfold FR at z1; unfold Fs at z2; omega), c.m.keep e (fun x z1 z2 => by unfold FR at z1; unfold Fs at z2; omega), c.g.keep e (fun x z1 z2 => by unfold FR at z1; unfold Fs at z2; omega)⟩
theorem RC.told (c : RC h A) {T : List Int64} (t : atT h1 4 T) (e : EqOff (F2 4) h h1) : RC h1 (wT A T) := ⟨c.1.keep e.2.2.1 e.2.2.2.1, c.x.keep e (fun x z1 z2 => by unfold F2 at z1 z2; omega), t, c.n.keep e (fun x z1 z2 z3 => by unfold F2 at z3; omega), c.p.keep e (fun x z1 z2 => by unfold FPa at z1; unfold F2 at z2; omega), c.k.keep e (fun z => by unfold F2 at z; omega) (fun x z1 z2 z3 => by unfold F2 at z3; omega), c.r.keep e (fun x z1 z2 => by unfold FR at z1; unfold F2 at z2; omega), c.m.keep e (fun x z1 z2 => by unfold FR at z1; unfold F2 at z2; omega), c.g.keep e (fun x z1 z2 => by unfold FR at z1; unfold F2 at z2; omega)⟩
theorem RC.text (c : RC h A) {X : List Int32} (t : atX h1 2 X) (e : EqOff (F2 2) h h1) : RC h1 (wX A X) := ⟨c.1.keep e.2.2.1 e.2.2.2.1, t, c.t.keep e (fun x z1 z2 => by unfold F2 at z1 z2; omega), c.n.keep e (fun x z1 z2 z3 => by unfold F2 at z3; omega), c.p.keep e (fun x z1 z2 => by unfold FPa at z1; unfold F2 at z2; omega), c.k.keep e (fun z => by unfold F2 at z; omega) (fun x z1 z2 z3 => by unfold F2 at z3; omega), c.r.keep e (fun x z1 z2 => by unfold FR at z1; unfold F2 at z2; omega), c.m.keep e (fun x z1 z2 => by unfold FR at z1; unfold F2 at z2; omega), c.g.keep e (fun x z1 z2 => by unfold FR at z1; unfold F2 at z2; omega)⟩
theorem RC.now (c : RC h A) {S : Fld} (t : atC h1 6 S) (e : EqOff (FC 6) h h1) : RC h1 (wS A S) := ⟨c.1.keep e.2.2.1 e.2.2.2.1, c.x.keep e (fun x z1 z2 => by unfold F2 at z1; unfold FC at z2; omega), c.t.keep e (fun x z1 z2 => by unfold F2 at z1; unfold FC at z2; omega), t, c.p.keep e (fun x z1 z2 => by unfold FPa at z1; unfold FC at z2; omega), c.k.keep e (fun z => by unfold FC at z; omega) (fun x z1 z2 z3 => by unfold FC at z3; omega), c.r.keep e (fun x z1 z2 => by unfold FR at z1; unfold FC at z2; omega), c.m.keep e (fun x z1 z2 => by unfold FR at z1; unfold FC at z2; omega), c.g.keep e (fun x z1 z2 => by unfold FR at z1; unfold FC at z2; omega)⟩
theorem RC.past (c : RC h A) {P : List Fld} (t : atP h1 30 P) (e : EqOff (FPa 30) h h1) : RC h1 (wP A P) := ⟨c.1.keep e.2.2.1 e.2.2.2.1, c.x.keep e (fun x z1 z2 => by unfold F2 at z1; unfold FPa at z2; omega), c.t.keep e (fun x z1 z2 => by unfold F2 at z1; unfold FPa at z2; omega), c.n.keep e (fun x z1 z2 z3 => by unfold FPa at z3; omega), t, c.k.keep e (fun z => by unfold FPa at z; omega) (fun x z1 z2 z3 => by unfold FPa at z3; omega), c.r.keep e (fun x z1 z2 => by unfold FR at z1; unfold FPa at z2; omega), c.m.keep e (fun x z1 z2 => by unfold FR at z1; unfold FPa at z2; omega), c.g.keep e (fun x z1 z2 => by unfold FR at z1; unfold FPa at z2; omega)⟩
theorem RC.kept (c : RC h A) {K : Nat → Option Fld} (t : atK h1 K) (e : EqOff (fun x => x = 1 ∨ (178 ≤ x ∧ x ≤ 201)) h h1) : RC h1 (wK A K) := ⟨c.1.keep e.2.2.1 e.2.2.2.1, c.x.keep e (fun x z1 z2 => by unfold F2 at z1; omega), c.t.keep e (fun x z1 z2 => by unfold F2 at z1; omega), c.n.keep e (fun x z1 z2 z3 => by omega), c.p.keep e (fun x z1 z2 => by unfold FPa at z1; omega), t, c.r.keep e (fun x z1 z2 => by unfold FR at z1; omega), c.m.keep e (fun x z1 z2 => by unfold FR at z1; omega), c.g.keep e (fun x z1 z2 => by unfold FR at z1; omega)⟩
theorem RC.rule (c : RC h A) {E : RE} (t : atRE h1 153 E) (e : EqOff (FR 153) h h1) : RC h1 (wE A E) := ⟨c.1.keep e.2.2.1 e.2.2.2.1, c.x.keep e (fun x z1 z2 => by unfold F2 at z1; unfold FR at z2; omega), c.t.keep e (fun x z1 z2 => by unfold F2 at z1; unfold FR at z2; omega), c.n.keep e (fun x z1 z2 z3 => by unfold FR at z3; omega), c.p.keep e (fun x z1 z2 => by unfold FPa at z1; unfold FR at z2; omega), c.k.keep e (fun z => by unfold FR at z; omega) (fun x z1 z2 z3 => by unfold FR at z3; omega), t, c.m.keep e (fun x z1 z2 => by unfold FR at z1 z2; omega), c.g.keep e (fun x z1 z2 => by unfold FR at z1 z2; omega)⟩
theorem RC.marks (c : RC h A) {M : List T3} (t : atN h1 162 10 M) (e : EqOff (FR 162) h h1) : RC h1 (wM A M) := ⟨c.1.keep e.2.2.1 e.2.2.2.1, c.x.keep e (fun x z1 z2 => by unfold F2 at z1; unfold FR at z2; omega), c.t.keep e (fun x z1 z2 => by unfold F2 at z1; unfold FR at z2; omega), c.n.keep e (fun x z1 z2 z3 => by unfold FR at z3; omega), c.p.keep e (fun x z1 z2 => by unfold FPa at z1; unfold FR at z2; omega), c.k.keep e (fun z => by unfold FR at z; omega) (fun x z1 z2 z3 => by unfold FR at z3; omega), c.r.keep e (fun x z1 z2 => by unfold FR at z1 z2; omega), t, c.g.keep e (fun x z1 z2 => by unfold FR at z1 z2; omega)⟩
theorem RC.night (c : RC h A) {M : List T3} (t : atN h1 166 12 M) (e : EqOff (FR 166) h h1) : RC h1 (wN A M) := ⟨c.1.keep e.2.2.1 e.2.2.2.1, c.x.keep e (fun x z1 z2 => by unfold F2 at z1; unfold FR at z2; omega), c.t.keep e (fun x z1 z2 => by unfold F2 at z1; unfold FR at z2; omega), c.n.keep e (fun x z1 z2 z3 => by unfold FR at z3; omega), c.p.keep e (fun x z1 z2 => by unfold FPa at z1; unfold FR at z2; omega), c.k.keep e (fun z => by unfold FR at z; omega) (fun x z1 z2 z3 => by unfold FR at z3; omega), c.r.keep e (fun x z1 z2 => by unfold FR at z1 z2; omega), c.m.keep e (fun x z1 z2 => by unfold FR at z1 z2; omega), t⟩
theorem eFX {F : Nat → Prop} (e : EqOff F h h1) (hF : ∀ x, F x → FX x) : EqOff FX h h1 := e.mono hF
theorem F2_FX {a : Nat} (ha : 1 ≤ a) (hb : a ≤ 200) : ∀ x, F2 a x → FX x := fun x z => by unfold F2 at z; unfold FX; omega
theorem FC_FX {a : Nat} (ha : 1 ≤ a) (hb : a ≤ 194) : ∀ x, FC a x → FX x := fun x z => by unfold FC at z; unfold FX; omega
theorem FR_FX {a : Nat} (ha : 1 ≤ a) (hb : a ≤ 198) : ∀ x, FR a x → FX x := fun x z => by unfold FR at z; unfold FX; omega
theorem FPa_FX : ∀ x, FPa 30 x → FX x := fun x z => by unfold FPa at z; unfold FX; omega
theorem Fs_FX : ∀ x, Fs x → FX x := fun x z => by unfold Fs at z; unfold FX; omega
/-- later or before takes over now -/
theorem c_copy (c : RC h A) {a : Nat} (ha : a = 14 ∨ a = 22) : Ok (f_X0_copy h a 6) (fun h1 => RC h1 A ∧ atC h1 a (aS A) ∧ EqOff (FC a) h h1) := by
  have s : shC h a := by
    rcases ha with rfl | rfl
    · exact c.1.2.1
    · exact c.1.2.2.1
  refine ok_mono (p_copy s c.n (by omega)) (fun h1 ⟨z1, z2⟩ => ⟨c.scr (z2.mono (fun x z => by unfold FC at z; unfold Fs; omega)), z1, z2⟩)
/-- a year of later -/
theorem c_goBy (c : RC h A) {T : Fld} (t : atC h 22 T) (hw : wfF T) : Ok (f_X0_goBy h 22 153) (fun o => o.1 = nI (goneN (lossE (aE A)) T (T.1 2)) ∧ RC o.2 A ∧ atC o.2 22 (yearS (lossE (aE A)) T) ∧ EqOff FX h o.2) := by
  obtain ⟨sz, st, r1, r2⟩ := c.r
  refine ok_mono (p_goBy t hw r1 (by omega)) (fun o ⟨z1, z2, z3, z4⟩ => ?_)
  rw [lossN_E r2] at z1 z2
  refine ⟨z1, ?_, z2, z4.mono (fun x z => by unfold FY FC FR at z; unfold FX; omega)⟩
  have D : ∀ x, FY 22 153 x → (22 ≤ x ∧ x ≤ 29) ∨ (153 ≤ x ∧ x ≤ 156) := fun x z => by unfold FY FC FR at z; omega
  exact ⟨c.1.keep z4.2.2.1 z4.2.2.2.1, c.x.keep z4 (fun x y1 y2 => by have := D x y2; unfold F2 at y1; omega), c.t.keep z4 (fun x y1 y2 => by have := D x y2; unfold F2 at y1; omega), c.n.keep z4 (fun x y1 y2 y3 => by have := D x y3; omega), c.p.keep z4 (fun x y1 y2 => by have := D x y2; unfold FPa at y1; omega), c.k.keep z4 (fun y => by have := D _ y; omega) (fun x y1 y2 y3 => by have := D x y3; omega), ⟨sz, st, z3, r2⟩, c.m.keep z4 (fun x y1 y2 => by have := D x y2; unfold FR at y1; omega), c.g.keep z4 (fun x y1 y2 => by have := D x y2; unfold FR at y1; omega)⟩
theorem c_goByTimes (c : RC h A) {T : Fld} (t : atC h 22 T) (hw : wfF T) {n : Nat} (hn : n ≤ 100) (hy : T.1 3 + n < 1000000) : Ok (f_X0_goByTimes h 22 153 (nI n)) (fun o => o.1 = nI (yrs (lossE (aE A)) T n).1 ∧ RC o.2 A ∧ atC o.2 22 (yrs (lossE (aE A)) T n).2 ∧ EqOff FX h o.2) := by
  obtain ⟨sz, st, r1, r2⟩ := c.r
  refine ok_mono (p_goByTimes t hw r1 (by omega) hn hy) (fun o ⟨z1, z2, z3, z4⟩ => ?_)
  rw [lossN_E r2] at z1 z2
  refine ⟨z1, ?_, z2, z4.mono (fun x z => by unfold FY FC FR at z; unfold FX; omega)⟩
  have D : ∀ x, FY 22 153 x → (22 ≤ x ∧ x ≤ 29) ∨ (153 ≤ x ∧ x ≤ 156) := fun x z => by unfold FY FC FR at z; omega
  exact ⟨c.1.keep z4.2.2.1 z4.2.2.2.1, c.x.keep z4 (fun x y1 y2 => by have := D x y2; unfold F2 at y1; omega), c.t.keep z4 (fun x y1 y2 => by have := D x y2; unfold F2 at y1; omega), c.n.keep z4 (fun x y1 y2 y3 => by have := D x y3; omega), c.p.keep z4 (fun x y1 y2 => by have := D x y2; unfold FPa at y1; omega), c.k.keep z4 (fun y => by have := D _ y; omega) (fun x y1 y2 y3 => by have := D x y3; omega), ⟨sz, st, z3, r2⟩, c.m.keep z4 (fun x y1 y2 => by have := D x y2; unfold FR at y1; omega), c.g.keep z4 (fun x y1 y2 => by have := D x y2; unfold FR at y1; omega)⟩
/-- years of now -/
theorem c_nowTimes (c : RC h A) (hw : wfF (aS A)) {n : Nat} (hn : n ≤ 100) (hy : (aS A).1 3 + n < 1000000) : Ok (f_X0_goByTimes h 6 153 (nI n)) (fun o => o.1 = nI (yrs (lossE (aE A)) (aS A) n).1 ∧ RC o.2 (wS A (yrs (lossE (aE A)) (aS A) n).2) ∧ EqOff (FY 6 153) h o.2) := by
  obtain ⟨sz, st, r1, r2⟩ := c.r
  refine ok_mono (p_goByTimes c.n hw r1 (by omega) hn hy) (fun o ⟨z1, z2, z3, z4⟩ => ?_)
  rw [lossN_E r2] at z1 z2
  refine ⟨z1, ?_, z4⟩
  have D : ∀ x, FY 6 153 x → (6 ≤ x ∧ x ≤ 13) ∨ (153 ≤ x ∧ x ≤ 156) := fun x z => by unfold FY FC FR at z; omega
  exact ⟨c.1.keep z4.2.2.1 z4.2.2.2.1, c.x.keep z4 (fun x y1 y2 => by have := D x y2; unfold F2 at y1; omega), c.t.keep z4 (fun x y1 y2 => by have := D x y2; unfold F2 at y1; omega), z2, c.p.keep z4 (fun x y1 y2 => by have := D x y2; unfold FPa at y1; omega), c.k.keep z4 (fun y => by have := D _ y; omega) (fun x y1 y2 y3 => by have := D x y3; omega), ⟨sz, st, z3, r2⟩, c.m.keep z4 (fun x y1 y2 => by have := D x y2; unfold FR at y1; omega), c.g.keep z4 (fun x y1 y2 => by have := D x y2; unfold FR at y1; omega)⟩
end RCR
