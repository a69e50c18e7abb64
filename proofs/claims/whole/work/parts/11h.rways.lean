/-! ways: what is asked, and the reference's answers -/
section WAYCG
variable {V : Nat → Prop} {nx : Nat → Nat → Option Nat} {w : Nat → Nat} {g : Nat} {D D2 : Nat → Nat}
theorem way_cg (gr : Gr V nx w) (y : Yt V nx w g D) (z : Yt V nx w g D2) {u L L2 : Nat} (a : Way V nx w D u L) (b : Way V nx w D2 u L2) : L = L2 ∧ ∀ k, k ≤ L → pth nx w D2 u k = pth nx w D u k := by
  have e : ∀ u, V u → D u = D2 u := fun u hu => Yt.uq gr y z hu
  have p := pth_congr gr e y a
  refine ⟨Way.uq (V := V) (nx := nx) (w := w) (D := D2) (u := u) ⟨fun k hk => ?_, ?_, fun k hk => ?_⟩ b, p⟩
  · rw [p k hk, ← e _ (a.1 k hk).1]; exact a.1 k hk
  · rw [p L (Nat.le_refl _), ← e _ (a.1 L (Nat.le_refl _)).1]; exact a.2.1
  · rw [p k (by omega), ← e _ (a.1 k (by omega)).1]; exact a.2.2 k hk
end WAYCG
theorem rowW_cg {S : Fld} {al : Nat} {pc D D2 : Nat → Nat} {u L : Nat} (h : ∀ k, k ≤ L → pth (nxU S al) (wU pc) D2 u k = pth (nxU S al) (wU pc) D u k) : rowW S al pc D2 u (L + 1) = rowW S al pc D u (L + 1) := by
  unfold rowW
  refine List.map_congr_left (fun k hk => ?_)
  rw [h k (by have := List.mem_range.mp hk; omega)]
theorem ovA_0 {S : Fld} {c : Nat} : ovA S 0 c = 0 := Nat.and_zero _
theorem VU_0 {S : Fld} {u : Nat} (h : VU S 0 u) : u % 256 = 0 := by
  have := h.2
  rw [Nat.and_zero] at this
  exact this.symm
theorem VU_st {S : Fld} {al fr : Nat} (ha : al < 256) (hf : fr < ncl S) : VU S al (fr * 256 + ovA S al fr) ∧ okm S al (fr * 256 + ovA S al fr) := by
  have o := ovA_lt (S := S) (c := fr) ha
  have e1 : (fr * 256 + ovA S al fr) / 256 = fr := by omega
  have e2 : (fr * 256 + ovA S al fr) % 256 = ovA S al fr := by omega
  refine ⟨⟨by rw [e1]; exact hf, ?_⟩, fun i hi => ?_⟩
  · rw [e2]
    exact sub_of (fun i hi => by unfold ovA at hi; rw [Nat.testBit_and, Bool.and_eq_true] at hi; exact hi.2)
  · rw [e1] at hi; rw [e2]; exact hi
/-- without camps to be met a way has at most 36 cells -/
theorem way_35 {S : Fld} (hw : wfF S) {pc D : Nat → Nat} {g u L : Nat} (hp : ∀ c, c < ncl S → 1 ≤ pc c) (y : Yt (VU S 0) (nxU S 0) (wU pc) g D) (a : Way (VU S 0) (nxU S 0) (wU pc) D u L) : L ≤ 35 := by
  have hb := ncl_le hw
  have gr := grU hw (al := 0) (by omega) hp
  have := inj_le 36 (L + 1) (fun k => pth (nxU S 0) (wU pc) D u k / 256) (fun i hi => ?_) (fun i j h1 h2 => ?_)
  · omega
  · have := (a.1 i (by omega)).1.1
    show _ / 256 < 36
    omega
  · intro e
    have e : pth (nxU S 0) (wU pc) D u i / 256 = pth (nxU S 0) (wU pc) D u j / 256 := e
    have m1 := VU_0 (a.1 i (by omega)).1
    have m2 := VU_0 (a.1 j (by omega)).1
    have ne := a.inj gr y h1 (by omega)
    generalize pth (nxU S 0) (wU pc) D u i = p at *
    generalize pth (nxU S 0) (wU pc) D u j = p2 at *
    omega
def one1 (_ : Nat) : Nat := 1
def pq (S : Fld) (gc c : Nat) : Nat := if c = gc ∨ nb (ocv S c) (S.1 2) = 0 then 1 else NVR
def sgC (S : Fld) (c : Nat) : Nat := nsum (fun i => if cov S c i = true then S.2 4 i else 0) (S.1 2)
def psf (S : Fld) (c : Nat) : Nat := 100 * sgC S c + 1
theorem sgC_le {S : Fld} (hw : wfF S) (c : Nat) : sgC S c ≤ 72 := by
  have b5 := hw.2.2.2.2.1
  have := nsum_le (f := fun i => if cov S c i = true then S.2 4 i else 0) (c := 9) (S.1 2) (fun i hi => by
    show (if cov S c i = true then S.2 4 i else 0) ≤ 9
    have := (hw.2.2.2.2.2.2.2.2 i hi).2.2.2.2.2.2.1
    split <;> omega)
  unfold sgC
  omega
/-- what meets, quiet, soft answer and leave -/
def Rmt (A : Ast) (x y z : Int32) (v : Int32) (B : Ast) : Prop := match cellOfI (aS A) x, cellOfI (aS A) y, numIn (nI 0) (nI (2 ^ (aS A).1 2 - 1)) z with
  | some fr, some gc, some al => if al &&& nb (onb (aS A)) ((aS A).1 2) = al then ∃ D L, Yt (VU (aS A) al) (nxU (aS A) al) (wU one1) (gc * 256 + al) D ∧ Way (VU (aS A) al) (nxU (aS A) al) (wU one1) D (fr * 256 + ovA (aS A) al fr) L ∧ v = nI L ∧ B = wT A (rowW (aS A) al one1 D (fr * 256 + ovA (aS A) al fr) (L + 1)) else v = -2 ∧ B = A
  | _, _, _ => v = -1 ∧ B = A
def Rqt (A : Ast) (x y : Int32) (v : Int32) (B : Ast) : Prop := match cellOfI (aS A) x, cellOfI (aS A) y with
  | some fr, some gc => ∃ D, Yt (VU (aS A) 0) (nxU (aS A) 0) (wU (pq (aS A) gc)) (gc * 256 + 0) D ∧ if D (fr * 256 + ovA (aS A) 0 fr) < NVR then ∃ L, Way (VU (aS A) 0) (nxU (aS A) 0) (wU (pq (aS A) gc)) D (fr * 256 + ovA (aS A) 0 fr) L ∧ v = nI L ∧ B = wT A (rowW (aS A) 0 (pq (aS A) gc) D (fr * 256 + ovA (aS A) 0 fr) (L + 1)) else v = -2 ∧ B = A
  | _, _ => v = -1 ∧ B = A
def Rsf (A : Ast) (x y : Int32) (v : Int32) (B : Ast) : Prop := match cellOfI (aS A) x, cellOfI (aS A) y with
  | some fr, some gc => ∃ D L, Yt (VU (aS A) 0) (nxU (aS A) 0) (wU (psf (aS A))) (gc * 256 + 0) D ∧ Way (VU (aS A) 0) (nxU (aS A) 0) (wU (psf (aS A))) D (fr * 256 + ovA (aS A) 0 fr) L ∧ v = nI (sgC (aS A) fr + D (fr * 256 + ovA (aS A) 0 fr) / 100) ∧ B = wT A (rowW (aS A) 0 (psf (aS A)) D (fr * 256 + ovA (aS A) 0 fr) (L + 1))
  | _, _ => v = -1 ∧ B = A
theorem pq_1 {S : Fld} {gc : Nat} (c : Nat) : 1 ≤ pq S gc c ∧ pq S gc c ≤ NVR := by
  have := NVR_e
  unfold pq
  split <;> omega
theorem psf_1 {S : Fld} (hw : wfF S) (c : Nat) : 1 ≤ psf S c ∧ psf S c ≤ 7201 := by
  have := sgC_le hw c
  unfold psf
  omega
theorem pow_256 {k : Nat} (hk : k ≤ 8) : 2 ^ k ≤ 256 := Nat.pow_le_pow_right (n := 2) (by omega) hk
section WUQ
variable {A : Ast} {x y z v v2 : Int32} {B B2 : Ast}
theorem Rmt.uq (hw : wfF (aS A)) (r : Rmt A x y z v B) (r2 : Rmt A x y z v2 B2) : v = v2 ∧ B = B2 := by
  unfold Rmt at r r2
  cases hx : cellOfI (aS A) x with
  | none => rw [hx] at r r2; exact ⟨r.1.trans r2.1.symm, r.2.trans r2.2.symm⟩
  | some fr =>
    cases hy : cellOfI (aS A) y with
    | none => rw [hx, hy] at r r2; exact ⟨r.1.trans r2.1.symm, r.2.trans r2.2.symm⟩
    | some gc =>
      cases hz : numIn (nI 0) (nI (2 ^ (aS A).1 2 - 1)) z with
      | none => rw [hx, hy, hz] at r r2; exact ⟨r.1.trans r2.1.symm, r.2.trans r2.2.symm⟩
      | some al =>
        rw [hx, hy, hz] at r r2
        simp only at r r2
        by_cases q : al &&& nb (onb (aS A)) ((aS A).1 2) = al
        · rw [if_pos q] at r r2
          have p2 := pow_256 hw.2.2.2.2.1
          have ha : al < 256 := by
            have := numIn_s (by omega) (by omega) hz
            omega
          obtain ⟨D, L, a1, a2, a3, a4⟩ := r
          obtain ⟨D2, L2, b1, b2, b3, b4⟩ := r2
          obtain ⟨e1, e2⟩ := way_cg (grU hw (pc := one1) ha (fun c _ => Nat.le_refl 1)) a1 b1 a2 b2
          subst e1
          exact ⟨a3.trans b3.symm, by rw [a4, b4, rowW_cg e2]⟩
        · rw [if_neg q] at r r2; exact ⟨r.1.trans r2.1.symm, r.2.trans r2.2.symm⟩
theorem Rqt.uq (hw : wfF (aS A)) (r : Rqt A x y v B) (r2 : Rqt A x y v2 B2) : v = v2 ∧ B = B2 := by
  unfold Rqt at r r2
  cases hx : cellOfI (aS A) x with
  | none => rw [hx] at r r2; exact ⟨r.1.trans r2.1.symm, r.2.trans r2.2.symm⟩
  | some fr =>
    cases hy : cellOfI (aS A) y with
    | none => rw [hx, hy] at r r2; exact ⟨r.1.trans r2.1.symm, r.2.trans r2.2.symm⟩
    | some gc =>
      rw [hx, hy] at r r2
      simp only at r r2
      obtain ⟨D, a1, a2⟩ := r
      obtain ⟨D2, b1, b2⟩ := r2
      have gr := grU hw (al := 0) (pc := pq (aS A) gc) (by omega) (fun c _ => (pq_1 c).1)
      have hf : fr < ncl (aS A) := (cellOfI_s (by have := ncl_le hw; omega) hx).2
      have V0 := (VU_st (S := aS A) (al := 0) (fr := fr) (by omega) hf).1
      rw [← Yt.uq gr a1 b1 V0] at b2
      by_cases q : D (fr * 256 + ovA (aS A) 0 fr) < NVR
      · rw [if_pos q] at a2 b2
        obtain ⟨L, a2, a3, a4⟩ := a2
        obtain ⟨L2, b2, b3, b4⟩ := b2
        obtain ⟨e1, e2⟩ := way_cg gr a1 b1 a2 b2
        subst e1
        exact ⟨a3.trans b3.symm, by rw [a4, b4, rowW_cg e2]⟩
      · rw [if_neg q] at a2 b2; exact ⟨a2.1.trans b2.1.symm, a2.2.trans b2.2.symm⟩
theorem Rsf.uq (hw : wfF (aS A)) (r : Rsf A x y v B) (r2 : Rsf A x y v2 B2) : v = v2 ∧ B = B2 := by
  unfold Rsf at r r2
  cases hx : cellOfI (aS A) x with
  | none => rw [hx] at r r2; exact ⟨r.1.trans r2.1.symm, r.2.trans r2.2.symm⟩
  | some fr =>
    cases hy : cellOfI (aS A) y with
    | none => rw [hx, hy] at r r2; exact ⟨r.1.trans r2.1.symm, r.2.trans r2.2.symm⟩
    | some gc =>
      rw [hx, hy] at r r2
      simp only at r r2
      obtain ⟨D, L, a1, a2, a3, a4⟩ := r
      obtain ⟨D2, L2, b1, b2, b3, b4⟩ := r2
      have gr := grU hw (al := 0) (pc := psf (aS A)) (by omega) (fun c _ => (psf_1 hw c).1)
      have hf : fr < ncl (aS A) := (cellOfI_s (by have := ncl_le hw; omega) hx).2
      have V0 := (VU_st (S := aS A) (al := 0) (fr := fr) (by omega) hf).1
      obtain ⟨e1, e2⟩ := way_cg gr a1 b1 a2 b2
      subst e1
      rw [← Yt.uq gr a1 b1 V0] at b3
      exact ⟨a3.trans b3.symm, by rw [a4, b4, rowW_cg e2]⟩
end WUQ
