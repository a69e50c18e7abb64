/-! ways: strength first, then steps; hundreds and sixty-fours tell the same -/
theorem nx0 {S : Fld} {c s : Nat} : nxU S 0 (c * 256) s = (bsd S c s).map (fun t => t * 256) := by
  unfold nxU
  rw [show c * 256 / 256 = c by omega, show c * 256 % 256 = 0 by omega]
  cases bsd S c s with
  | none => rfl
  | some t =>
    show some (t * 256 + (0 ||| ovA S 0 t)) = some (t * 256)
    rw [ovA_0, Nat.or_zero, Nat.add_zero]
theorem V0c {S : Fld} {c : Nat} (hc : c < ncl S) : VU S 0 (c * 256) ∧ okm S 0 (c * 256) := ⟨⟨by rw [show c * 256 / 256 = c by omega]; exact hc, by rw [show c * 256 % 256 = 0 by omega, Nat.and_zero]⟩, fun i hi => by rw [ovA_0, Nat.zero_testBit] at hi; cases hi⟩
theorem way_n {S : Fld} (hw : wfF S) {pc D : Nat → Nat} {g u L : Nat} (hp : ∀ c, c < ncl S → 1 ≤ pc c) (y : Yt (VU S 0) (nxU S 0) (wU pc) g D) (a : Way (VU S 0) (nxU S 0) (wU pc) D u L) : L + 1 ≤ ncl S := by
  have gr := grU hw (al := 0) (by omega) hp
  refine inj_le (ncl S) (L + 1) (fun k => pth (nxU S 0) (wU pc) D u k / 256) (fun i hi => (a.1 i (by omega)).1.1) (fun i j h1 h2 => ?_)
  intro e
  have e : pth (nxU S 0) (wU pc) D u i / 256 = pth (nxU S 0) (wU pc) D u j / 256 := e
  have m1 := VU_0 (a.1 i (by omega)).1
  have m2 := VU_0 (a.1 j (by omega)).1
  have ne := a.inj gr y h1 (by omega)
  generalize pth (nxU S 0) (wU pc) D u i = p at *
  generalize pth (nxU S 0) (wU pc) D u j = p2 at *
  omega
def E64 (D : Nat → Nat) (c : Nat) : Nat := 64 * (D (c * 256) / 100) + D (c * 256) % 100
def c64 (S : Fld) (c : Nat) : Nat := 64 * sgC S c + 1
theorem ar64 {a b q : Nat} (h1 : a % 100 ≤ 35) (h2 : b % 100 ≤ 35) (le : a ≤ b + (100 * q + 1)) : 64 * (a / 100) + a % 100 ≤ 64 * (b / 100) + b % 100 + (64 * q + 1) ∧ ((b + (100 * q + 1) = a) ↔ 64 * (a / 100) + a % 100 = 64 * (b / 100) + b % 100 + (64 * q + 1)) ∧ ((b + (100 * q + 1) = a) → b % 100 + 1 = a % 100) := ⟨by omega, ⟨fun z => by omega, fun z => by omega⟩, fun z => by omega⟩
section SOFTP
variable {S : Fld} {D : Nat → Nat} {gc : Nat}
theorem sf_lt (hw : wfF S) (hg : gc < ncl S) (y : Yt (VU S 0) (nxU S 0) (wU (psf S)) (gc * 256 + 0) D) {c : Nat} (hc : c < ncl S) : D (c * 256) < NVR := by
  have hN := NVR_e
  have V0 := V0c hc
  obtain ⟨v, q1, q2, q3, q4, q5⟩ := man_go hw (al := 0) (by omega) (fun c _ => (psf_1 hw c).2) y hg _ _ V0.1 V0.2 rfl
  have q6 := VU_0 q1
  have q7 : v = gc * 256 + 0 := by omega
  rw [q7, y.1] at q5
  have q8 := dRC2_10 hw V0.1.1 hg
  have q9 := Nat.mul_le_mul_right 7201 q8
  omega
theorem sf_way (hw : wfF S) (hg : gc < ncl S) (y : Yt (VU S 0) (nxU S 0) (wU (psf S)) (gc * 256 + 0) D) {c : Nat} (hc : c < ncl S) : ∃ L, Way (VU S 0) (nxU S 0) (wU (psf S)) D (c * 256) L ∧ L + 1 ≤ ncl S ∧ D (c * 256) % 100 = L := by
  have hb := ncl_le hw
  have gr := grU hw (al := 0) (pc := psf S) (by omega) (fun c _ => (psf_1 hw c).1)
  obtain ⟨L, l0, wa⟩ := way_ex gr y _ _ (V0c hc).1 (Nat.le_refl _) (sf_lt hw hg y hc)
  have ln := way_n hw (fun c _ => (psf_1 hw c).1) y wa
  refine ⟨L, wa, ln, ?_⟩
  have dn : ∀ d, d ≤ L → ∃ T, D (pth (nxU S 0) (wU (psf S)) D (c * 256) (L - d)) = 100 * T + d := by
    intro d
    induction d with
    | zero => intro _; exact ⟨0, wa.2.1⟩
    | succ d ih =>
      intro hd
      obtain ⟨T, hT⟩ := ih (by omega)
      obtain ⟨s, _, _, _, s4, _⟩ := wa.st y (k := L - (d + 1)) (by omega)
      rw [show L - (d + 1) + 1 = L - d by omega, hT] at s4
      rw [show ∀ v, wU (psf S) v = 100 * sgC S (v / 256) + 1 from fun v => rfl] at s4
      exact ⟨T + sgC S (pth (nxU S 0) (wU (psf S)) D (c * 256) (L - d) / 256), by rw [← s4]; omega⟩
  obtain ⟨T, hT⟩ := dn L (Nat.le_refl _)
  rw [Nat.sub_self] at hT
  have hT : D (c * 256) = 100 * T + L := hT
  omega
theorem sf_3 (hw : wfF S) (hg : gc < ncl S) (y : Yt (VU S 0) (nxU S 0) (wU (psf S)) (gc * 256 + 0) D) {c s t : Nat} (hc : c < ncl S) (hs : s < 4) (hb : bsd S c s = some t) : t < ncl S ∧ E64 D c ≤ E64 D t + c64 S t ∧ (stq (nxU S 0) (wU (psf S)) D (c * 256) s = true ↔ E64 D c = E64 D t + c64 S t) ∧ (stq (nxU S 0) (wU (psf S)) D (c * 256) s = true → D (t * 256) % 100 + 1 = D (c * 256) % 100) := by
  have hb6 := ncl_le hw
  have ht := bsd_lt hw hc hs hb
  obtain ⟨L1, _, l1, e1⟩ := sf_way hw hg y hc
  obtain ⟨L2, _, l2, e2⟩ := sf_way hw hg y ht
  have hn : nxU S 0 (c * 256) s = some (t * 256) := by rw [nx0, hb]; rfl
  have le := y.2.2.1 (c * 256) s (t * 256) (V0c hc).1 hs hn
  have ew : wU (psf S) (t * 256) = 100 * sgC S t + 1 := by unfold wU psf; rw [show t * 256 / 256 = t by omega]
  rw [ew] at le
  have hq : stq (nxU S 0) (wU (psf S)) D (c * 256) s = decide (D (t * 256) + (100 * sgC S t + 1) = D (c * 256)) := by
    unfold stq; rw [hn]; simp only [ew]
  rw [hq]
  unfold E64 c64
  rw [decide_eq_true_eq]
  exact ⟨ht, ar64 (by omega) (by omega) le⟩
theorem sf_0 (hw : wfF S) (hg : gc < ncl S) (y : Yt (VU S 0) (nxU S 0) (wU (psf S)) (gc * 256 + 0) D) {c : Nat} (hc : c < ncl S) (h0 : D (c * 256) % 100 = 0) : c = gc := by
  obtain ⟨L, w, _, e⟩ := sf_way hw hg y hc
  have gr := grU hw (al := 0) (pc := psf S) (by omega) (fun c _ => (psf_1 hw c).1)
  have : L = 0 := by omega
  subst this
  have := y.z gr (V0c hc).1 w.2.1
  omega
/-- a cell that isn't the end has a side on which one goes on -/
theorem sf_5 (hw : wfF S) (hg : gc < ncl S) (y : Yt (VU S 0) (nxU S 0) (wU (psf S)) (gc * 256 + 0) D) {c : Nat} (hc : c < ncl S) (hne : D (c * 256) % 100 ≠ 0) : ∃ s t, s < 4 ∧ bsd S c s = some t ∧ t * 256 = nxt (nxU S 0) (wU (psf S)) D (c * 256) ∧ stq (nxU S 0) (wU (psf S)) D (c * 256) s = true ∧ ∀ s2, s2 < s → stq (nxU S 0) (wU (psf S)) D (c * 256) s2 = false := by
  obtain ⟨s, hs, hv, _, he, hf⟩ := stp_s y (V0c hc).1 (by omega) (sf_lt hw hg y hc)
  cases hb : bsd S c s with
  | none => rw [nx0, hb] at hv; cases hv
  | some t =>
    have hn : nxU S 0 (c * 256) s = some (t * 256) := by rw [nx0, hb]; rfl
    rw [hn] at hv
    have ev := Option.some.inj hv
    refine ⟨s, t, hs, hb, ev, ?_, hf⟩
    unfold stq
    rw [hn, ev]
    exact decide_eq_true he
end SOFTP
