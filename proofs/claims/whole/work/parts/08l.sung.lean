def h0 : Hp := ((fun _ _ => 0), (fun _ _ => 0), (fun _ _ => 0), (fun _ => (0, 0)), 0)
theorem pow_h (h : Hp) (x0 x1 : Int32) : ∀ n, f_X9_power_5 h x0 x1 n = f_X9_power_5 h0 x0 x1 n := by
  intro n
  induction n with
  | zero => rfl
  | succ n ih => funext y x; simp only [f_X9_power_5, ih]
theorem cho_h (h : Hp) (x0 x1 : Int32) : ∀ n, f_X9_choices_5 h x0 x1 n = f_X9_choices_5 h0 x0 x1 n := by
  intro n
  induction n with
  | zero => rfl
  | succ n ih => funext y x; simp only [f_X9_choices_5, ih]
theorem cdv_h (h : Hp) : ∀ n, f_X9_commonDivisor_3 h n = f_X9_commonDivisor_3 h0 n := by
  intro n
  induction n with
  | zero => rfl
  | succ n ih => funext y z x; simp only [f_X9_commonDivisor_3, ih]
theorem com_h (h : Hp) : ∀ n, fx_C n h = fx_C n h0 := by
  intro n
  induction n with
  | zero => rfl
  | succ n ih => funext y z; simp only [fx_C, lt_u, fo_X10_common, ih]
def pW (b e : Nat) : Int64 := (f_X9_power h0 (nI b) (nI e)).getD 0
def cC (s j : Nat) : Int64 := (f_X9_choices h0 (nI s) (nI j)).getD 0
theorem pW_s : ∀ b, b < 11 → ∀ e, e < 9 → (f_X9_power h0 (nI b) (nI e)).isSome = true := by decide +kernel
theorem cC_s : ∀ s, s < 9 → ∀ j, j < 9 → (f_X9_choices h0 (nI s) (nI j)).isSome = true := by decide +kernel
theorem p_pow (h : Hp) {b e : Nat} (hb : b < 11) (he : e < 9) : f_X9_power h (nI b) (nI e) = some (pW b e) := by
  rw [show f_X9_power h (nI b) (nI e) = f_X9_power h0 (nI b) (nI e) by unfold f_X9_power; rw [pow_h]]
  exact som_g (pW_s b hb e he)
theorem p_cho (h : Hp) {s j : Nat} (hs : s < 9) (hj : j < 9) : f_X9_choices h (nI s) (nI j) = some (cC s j) := by
  rw [show f_X9_choices h (nI s) (nI j) = f_X9_choices h0 (nI s) (nI j) by unfold f_X9_choices; rw [cho_h]]
  exact som_g (cC_s s hs j hj)
def vT (s p j : Nat) : Int64 := cC s j * pW p j * pW (10 - p) (s - j)
def vS (s k p : Nat) : Int64 := fo (fun (y : Int64) j => y + vT s p j) 0 k (s + 1 - k)
def gC (s k p : Nat) : Int64 := (f_X9_commonDivisor h0 (vS s k p) (pW 10 s)).getD 0
theorem gC_s : ∀ s, s < 9 → ∀ k, k < 9 → ∀ p, p < 11 → f_X9_commonDivisor h0 (vS s k p) (pW 10 s) = some (gC s k p) ∧ f_X10_common h0 (vS s k p) (pW 10 s) = some (gC s k p) ∧ ¬ lg_cmp (gC s k p) 0 ≤ 0 ∧ nz64 (gC s k p) = true := by decide +kernel
theorem vS_r : ∀ s, s < 8 → ∀ k, k < 9 → ∀ p, p < 11 → vS (s + 1) k p = vS s k p * (nI (10 - p)).toInt64 + vS s (k - 1) p * (nI p).toInt64 := by decide +kernel
theorem vS_0 : ∀ k, k < 9 → ∀ p, p < 11 → vS 0 k p = (nB (decide (k ≤ 0))).toInt64 := by decide +kernel
/-! the reference: all sets of singers -/
def wPr (p set : Nat) (a : Int64) (s : Nat) : Int64 := fo (fun (y : Int64) i => y * (if set.testBit i = true then (nI p).toInt64 else (nI (10 - p)).toInt64)) a 0 s
def wF (s k p set : Nat) : Int64 := wPr p set (nB (decide (k ≤ pc set))).toInt64 s
def wSm (s k p : Nat) : Int64 := fo (fun (y : Int64) set => y + wF s k p set) 0 0 (2 ^ s)
theorem sum_acc (f : Nat → Int64) : ∀ d a i, fo (fun (y : Int64) j => y + f j) a i d = a + fo (fun (y : Int64) j => y + f j) 0 i d := by
  intro d
  induction d with
  | zero => intro a i; exact (Int64.add_zero a).symm
  | succ d ih =>
    intro a i
    rw [fo, ih, fo, ih (0 + f i), Int64.zero_add, Int64.add_assoc]
theorem sum_mul (f g : Nat → Int64) (c : Int64) : ∀ d i j, (∀ k, k < d → f (i + k) = g (j + k) * c) → fo (fun (y : Int64) j => y + f j) 0 i d = fo (fun (y : Int64) j => y + g j) 0 j d * c := by
  intro d
  induction d with
  | zero => intro i j _; exact Int64.zero_mul.symm
  | succ d ih =>
    intro i j hh
    have h1 := hh 0 (by omega)
    rw [Nat.add_zero, Nat.add_zero] at h1
    rw [fo, fo, sum_acc, sum_acc g, Int64.zero_add, Int64.zero_add, h1, ih (i + 1) (j + 1) (fun k hk => by rw [show i + 1 + k = i + (k + 1) by omega, show j + 1 + k = j + (k + 1) by omega]; exact hh (k + 1) (by omega)), Int64.add_mul]
theorem tb_hi : ∀ s, s < 8 → ∀ x, x < 2 ^ s → (x.testBit s = false ∧ (2 ^ s + x).testBit s = true) ∧ pc (2 ^ s + x) = pc x + 1 := by decide +kernel
theorem tb_lo : ∀ s, s < 8 → ∀ x, x < 2 ^ s → ∀ i, i < s → (2 ^ s + x).testBit i = x.testBit i := by decide +kernel
theorem wSm_r {s k p : Nat} (hs : s < 8) : wSm (s + 1) k p = wSm s k p * (nI (10 - p)).toInt64 + wSm s (k - 1) p * (nI p).toInt64 := by
  unfold wSm
  rw [Nat.pow_succ, Nat.mul_two, fo_add, sum_acc, Nat.zero_add]
  congr 1
  · refine sum_mul _ _ _ _ 0 0 (fun x hx => ?_)
    have e := tb_hi s hs x hx
    rw [Nat.zero_add]
    unfold wF wPr
    rw [fo_snoc, Nat.zero_add, e.1.1]; rfl
  · refine sum_mul _ _ _ _ (2 ^ s) 0 (fun x hx => ?_)
    have e := tb_hi s hs x hx
    rw [Nat.zero_add]
    unfold wF wPr
    rw [fo_snoc, Nat.zero_add, e.1.2, e.2, if_pos rfl]
    congr 1
    rw [show decide (k ≤ pc x + 1) = decide (k - 1 ≤ pc x) by congr 1; apply propext; omega]
    exact fo_congr s _ _ (fun y j _ hj => by rw [tb_lo s hs x hx j (by omega)])
theorem wSm_v {p : Nat} (hp : p < 11) : ∀ s, s < 9 → ∀ k, k < 9 → wSm s k p = vS s k p := by
  intro s
  induction s with
  | zero =>
    intro _ k hk
    rw [vS_0 k hk p hp]
    show (0 : Int64) + (nB (decide (k ≤ pc 0))).toInt64 = _
    rw [Int64.zero_add, show pc 0 = 0 by decide]
  | succ s ih =>
    intro hs k hk
    rw [wSm_r (by omega), vS_r s (by omega) k hk p hp, ih (by omega) k hk, ih (by omega) (k - 1) (by omega)]
/-- how many are on over a cell -/
def sgN (S : Fld) (kc : Nat) : Nat := pc (nb (ocv S kc) (S.1 2))
theorem sgN_le {S : Fld} {kc : Nat} : sgN S kc ≤ 8 := pc_le
theorem sgN_e {S : Fld} {kc : Nat} (b5 : S.1 2 ≤ 8) : bc32 (bitsB (ocv S kc) (S.1 2)) = nI (sgN S kc) := by
  rw [bitsB_nb _ _ (by omega), pc_bc (Nat.lt_of_lt_of_le (nb_lt _ _) (Nat.pow_le_pow_right (n := 2) (by omega) b5))]; rfl
def sp_sung (A : Ast) (x y z : Int32) : Int32 × Ast := match cellOfI (aS A) x, numIn (nI 0) (nI 8) y, numIn (nI 0) (nI 10) z with
  | some kc, some k, some p => (0, wT A [vS (sgN (aS A) kc) k p / gC (sgN (aS A) kc) k p, pW 10 (sgN (aS A) kc) / gC (sgN (aS A) kc) k p])
  | _, _, _ => (-1, A)
section SUNG
variable {h h1 : Hp} {A : Ast} {m n : Nat}
theorem c_sung (c : RC h A) (hw : wfF (aS A)) (x y z : Int32) : Ok (f_X9_sung h 1 x y z) (fun o => o.1 = (sp_sung A x y z).1 ∧ RC o.2 (sp_sung A x y z).2 ∧ EqOff FX h o.2) := by
  have hF := FU_big
  have hb := ncl_le hw
  have b5 := hw.2.2.2.2.1
  rw [f_X9_sung, c.s.r1_2, p_hasCellx c.n, bd_s]
  refine ok_gd (by decide) ?_
  simp only [nB_0]
  unfold sp_sung
  cases hx : cellOfI (aS A) x with
  | none => exact ok_t rfl (ok_some ⟨rfl, c, EqOff.rf⟩)
  | some kc =>
    obtain ⟨rfl, hi⟩ := cellOfI_s (by omega) hx
    refine ok_f (by simp) ?_
    rw [i0, i8, show (10 : Int32) = nI 10 by decide]
    rcases numAlt (lo := 0) (hi := 8) (by omega) (by omega) y with ⟨e, q⟩ | ⟨k, e, rfl, g1, g2⟩
    · rw [e]
      exact ok_if (fun _ => ok_some ⟨rfl, c, EqOff.rf⟩) (fun q2 => ok_t (q.resolve_left q2) (ok_some ⟨rfl, c, EqOff.rf⟩))
    · rw [e]
      refine ok_f (by rw [nI_ltI (by omega) (by omega)]; omega) (ok_f (by rw [nI_ltI (by omega) (by omega)]; omega) ?_)
      rcases numAlt (lo := 0) (hi := 10) (by omega) (by omega) z with ⟨e, q⟩ | ⟨p, e, rfl, g3, g4⟩
      · rw [e]
        refine ok_if (fun _ => ok_some ⟨rfl, c, EqOff.rf⟩) (fun q2 => ok_f (fun w => ?_) (ok_some ⟨rfl, c, EqOff.rf⟩))
        exact absurd (q.resolve_left q2) (Int32.not_lt.mpr w)
      · rw [e]
        refine ok_f (by rw [nI_ltI (by omega) (by omega)]; omega) (ok_t (by rw [nI_leI (by omega) (by omega)]; omega) ?_)
        rw [p_onOver c.n hw (by omega), bd_s, p_bc, bd_s, sgN_e b5]
        have hs := sgN_le (S := aS A) (kc := kc)
        show Ok _ (fun (o : Int32 × Hp) => o.1 = (0 : Int32) ∧ RC o.2 (wT A [vS (sgN (aS A) kc) k p / gC (sgN (aS A) kc) k p, pW 10 (sgN (aS A) kc) / gC (sgN (aS A) kc) k p]) ∧ EqOff FX h o.2)
        generalize sgN (aS A) kc = s at hs ⊢
        have G := gC_s s (by omega) k (by omega) p (by omega)
        have fin : ∀ q i, s < i → i < 20 → Ok (f_X9_sung_52 1 (nI kc) (nI k) (nI p) (q + 1) h (nI s) (vS s k p) (nI i)) (fun o => o.1 = (0 : Int32) ∧ RC o.2 (wT A [vS s k p / gC s k p, pW 10 s / gC s k p]) ∧ EqOff FX h o.2) := fun q i hi1 hi2 => by
          simp only [f_X9_sung_52, f_X9_sung_143, f_X9_sung_167]
          refine ok_lt (fun k2 ek2 => ?_)
          clear ek2
          rw [show (10 : Int32) = nI 10 by decide, p_pow h (by omega) (by omega), bd_s, show f_X9_commonDivisor h (vS s k p) (pW 10 s) = f_X9_commonDivisor h0 (vS s k p) (pW 10 s) by unfold f_X9_commonDivisor; rw [cdv_h], G.1, bd_s, c.s.r1_1]
          refine ok_t (by rw [nI_ltI (by omega) (by omega)]; exact hi1) (ok_gd (by decide) (ok_bd (c_t0 c) (fun h17 ⟨c17, o17⟩ => ?_)))
          rw [c17.s.r1_1]
          refine ok_gd (by decide) (ok_f G.2.2.1 (ok_gd G.2.2.2 (ok_bd (c_t1 c17 (by simp [aT, wT, mkA]) _) (fun h27 ⟨c27, o27⟩ => ?_))))
          rw [c27.s.r1_1]
          refine ok_gd (by decide) (ok_f G.2.2.1 (ok_gd G.2.2.2 (ok_bd (c_t1 c27 (by simp [aT, wT, mkA]) _) (fun h32 ⟨c32, o32⟩ => ok_some ⟨rfl, c32, (F24y o17).tr ((F24y o27).tr (F24y o32))⟩))))
        by_cases w : k ≤ s
        · refine okf (fun q (v : Int64) i => f_X9_sung_52 1 (nI kc) (nI k) (nI p) q h (nI s) v i) (s + 1) (fun (y : Int64) j => y + vT s p j) (fun _ v acc => v = acc) _ k (fun q j v acc hj1 hj2 d kk => ?_) (s + 1 - k) FU k 0 0 (by omega) (by omega) (by omega) rfl (fun q v d => ?_)
          · subst d
            show Ok (f_X9_sung_52 1 (nI kc) (nI k) (nI p) (q + 1) h (nI s) v (nI j)) _
            simp only [f_X9_sung_52]
            refine ok_lt (fun k2 ek2 => ?_)
            subst ek2
            rw [show (10 : Int32) = nI 10 by decide, pk_sub (show p ≤ 10 by omega), pk_sub (show j ≤ s by omega), p_cho h (by omega) (by omega), bd_s, p_pow h (by omega) (by omega), bd_s, p_pow h (by omega) (by omega), bd_s, p_pow h (by omega) (by omega), bd_s, lt_u, lt_u, i1, nI_add]
            exact ok_f (by rw [nI_ltI (by omega) (by omega)]; omega) (kk _ rfl)
          · have d : v = vS s k p := d
            rw [d]
            exact fin q (s + 1) (by omega) (by omega)
        · have ev : (0 : Int64) = vS s k p := by unfold vS; rw [show s + 1 - k = 0 by omega]; rfl
          rw [ev]
          obtain ⟨q, hq⟩ : ∃ q, FU = q + 1 := ⟨FU - 1, by omega⟩
          rw [hq]
          exact fin q k (by omega) (by omega)
theorem r_sung (c : RM h m A n) (a : WA A n) (x y z : Int32) : Ok (f_X10_sung h m x y z) (fun o => o.1 = (sp_sung A x y z).1 ∧ RM o.2 m (sp_sung A x y z).2 n ∧ EqOff (FM m) h o.2) := by
  have hF := FU_big
  have hw := a.w
  have hb := ncl_le hw
  have b5 := hw.2.2.2.2.1
  rw [f_X10_sung]
  refine r_th c (fun h1 c1 o1 _ => ?_)
  rw [m_isCell c1.g hw, bd_s, z64_0, z64_8, z64_10, p_in_num, bd_s, p_in_num, bd_s]
  simp only [nB_0]
  unfold sp_sung
  cases hx : cellOfI (aS A) x with
  | none => exact ok_t rfl (ok_some ⟨rfl, c1, o1.ofs⟩)
  | some kc =>
    obtain ⟨rfl, hi⟩ := cellOfI_s (by omega) hx
    refine ok_f (by simp) ?_
    cases hy : numIn (nI 0) (nI 8) y with
    | none => exact ok_t rfl (ok_some ⟨rfl, c1, o1.ofs⟩)
    | some k =>
      obtain ⟨rfl, g1, g2⟩ := numIn_s (by omega) (by omega) hy
      refine ok_f (by simp) ?_
      cases hz : numIn (nI 0) (nI 10) z with
      | none => exact ok_t rfl (ok_some ⟨rfl, c1, o1.ofs⟩)
      | some p =>
        obtain ⟨rfl, g3, g4⟩ := numIn_s (by omega) (by omega) hz
        refine ok_f (by simp) ?_
        rw [c1.s.r6, m_campsOver c1.g c1.w hw (by omega), bd_s, p_bc, bd_s, sgN_e b5]
        refine ok_gd (nz_t (by omega)) ?_
        have hs := sgN_le (S := aS A) (kc := kc)
        show Ok _ (fun (o : Int32 × Hp) => o.1 = (0 : Int32) ∧ RM o.2 m (wT A [vS (sgN (aS A) kc) k p / gC (sgN (aS A) kc) k p, pW 10 (sgN (aS A) kc) / gC (sgN (aS A) kc) k p]) n ∧ EqOff (FM m) h o.2)
        generalize sgN (aS A) kc = s at hs ⊢
        have G := gC_s s (by omega) k (by omega) p (by omega)
        have hp2 : 2 ^ s ≤ 256 := Nat.pow_le_pow_right (n := 2) (by omega) hs
        -- ten to the power
        have e1 := fo_lp (fun q (v : Int64) i => f_X10_sung_62 m (nI kc) (nI k) (nI p) q h1 (nI s) (nI 0).toInt64 v i) s (fun (v : Int64) _ => v * (10 : Int64)) (fun v => f_X10_sung_86 m (nI kc) (nI k) (nI p) FU h1 (nI s) (nI 0).toInt64 v (nI 0)) (fun q v i hi => ?_) (fun q v => ?_) s FU 1 0 (by omega) (by omega)
        · have e10 : fo (fun (v : Int64) _ => v * (10 : Int64)) 1 0 s = pW 10 s := by
            rcases (show s = 0 ∨ s = 1 ∨ s = 2 ∨ s = 3 ∨ s = 4 ∨ s = 5 ∨ s = 6 ∨ s = 7 ∨ s = 8 by omega) with rfl | rfl | rfl | rfl | rfl | rfl | rfl | rfl | rfl <;> decide +kernel
          rw [e10] at e1
          rw [show f_X10_sung_62 m (nI kc) (nI k) (nI p) FU h1 (nI s) (nI 0).toInt64 1 0 = f_X10_sung_86 m (nI kc) (nI k) (nI p) FU h1 (nI s) (nI 0).toInt64 (pW 10 s) (nI 0) from e1]
          refine okf (fun q (v : Int64) i => f_X10_sung_86 m (nI kc) (nI k) (nI p) q h1 (nI s) v (pW 10 s) i) (2 ^ s) (fun (y : Int64) set => y + wF s k p set) (fun _ v acc => v = acc) _ 0 (fun q set v acc _ hset d kk => ?_) (2 ^ s) FU 0 (nI 0).toInt64 0 (by omega) (by omega) (by omega) rfl (fun q v d => ?_)
          · subst d
            show Ok (f_X10_sung_86 m (nI kc) (nI k) (nI p) (q + 1) h1 (nI s) v (pW 10 s) (nI set)) _
            simp only [f_X10_sung_86, f_X10_sung_109]
            refine ok_lt (fun k2 ek2 => ?_)
            subst ek2
            have hpc := pc_le (x := set)
            rw [i1, shl_1 s (by omega), lt_u, p_bc, bd_s, pc_bc (by omega)]
            refine ok_f (by rw [nI_leI (by omega) (by omega)]; omega) ?_
            have ef : (if nI (pc set) < nI k then (0 : Int32) else nI 1) = nB (decide (k ≤ pc set)) := by
              by_cases w : k ≤ pc set
              · rw [if_neg (by rw [nI_ltI (by omega) (by omega)]; omega), decide_eq_true w]; rfl
              · rw [if_pos (by rw [nI_ltI (by omega) (by omega)]; omega), decide_eq_false w]; rfl
            rw [ef, p_flag, bd_s, lt_u]
            have e2 := fo_lp (fun q' (w : Int64) i => f_X10_sung_118 m (nI kc) (nI k) (nI p) (f_X10_sung_86 m (nI kc) (nI k) (nI p) q) q' h1 (nI s) v (pW 10 s) (nI set) w i) s (fun (w : Int64) i => w * (if set.testBit i = true then (nI p).toInt64 else (nI (10 - p)).toInt64)) (fun w => f_X10_sung_86 m (nI kc) (nI k) (nI p) q h1 (nI s) (v + w) (pW 10 s) (nI (set + 1))) (fun q' w i hi => ?_) (fun q' w => ?_) s FU (nB (decide (k ≤ pc set))).toInt64 0 (by omega) (by omega)
            · rw [show f_X10_sung_118 m (nI kc) (nI k) (nI p) (f_X10_sung_86 m (nI kc) (nI k) (nI p) q) FU h1 (nI s) v (pW 10 s) (nI set) (nB (decide (k ≤ pc set))).toInt64 0 = _ from e2]
              exact kk _ rfl
            · show f_X10_sung_118 m (nI kc) (nI k) (nI p) (f_X10_sung_86 m (nI kc) (nI k) (nI p) q) (q' + 1) h1 (nI s) v (pW 10 s) (nI set) w (nI i) = f_X10_sung_118 m (nI kc) (nI k) (nI p) (f_X10_sung_86 m (nI kc) (nI k) (nI p) q) q' h1 (nI s) v (pW 10 s) (nI set) (w * (if set.testBit i = true then (nI p).toInt64 else (nI (10 - p)).toInt64)) (nI (i + 1))
              simp only [f_X10_sung_118, f_X10_sung_148, lt_u]
              rw [if_neg (by rw [nI_leI (by omega) (by omega)]; omega), p_hasI h1 (by omega) (by omega), bd_s, show (10 : Int32) = nI 10 by decide, pk_sub (show p ≤ 10 by omega), i1, nI_add]
              simp only [nB_0]
              cases set.testBit i <;> simp
            · show f_X10_sung_118 m (nI kc) (nI k) (nI p) (f_X10_sung_86 m (nI kc) (nI k) (nI p) q) (q' + 1) h1 (nI s) v (pW 10 s) (nI set) w (nI s) = _
              simp only [f_X10_sung_118, lt_u]
              rw [if_pos (Int32.le_refl _), i1, nI_add]
          · have d : v = vS s k p := Eq.trans (b := wSm s k p) d (wSm_v (by omega) s (by omega) k (by omega))
            subst d
            show Ok (f_X10_sung_86 m (nI kc) (nI k) (nI p) (q + 1) h1 (nI s) (vS s k p) (pW 10 s) (nI (2 ^ s))) _
            simp only [f_X10_sung_86]
            refine ok_lt (fun k2 ek2 => ?_)
            clear ek2
            rw [i1, shl_1 s (by omega), lt_u, show f_X10_common h1 (vS s k p) (pW 10 s) = f_X10_common h0 (vS s k p) (pW 10 s) by unfold f_X10_common; rw [com_h], G.2.1, bd_s]
            exact ok_t (Int32.le_refl _) (r_t0 c1 (fun h18 c18 o18 => ok_gd G.2.2.2 (ok_bd (m_enters c18 (by simp [aT, wT, mkA]) _) (fun h20 ⟨c20, o20⟩ => ok_gd G.2.2.2 (ok_bd (m_enters c20 (by simp [aT, wT, mkA]) _) (fun h22 ⟨c22, o22⟩ => ok_some ⟨rfl, c22, o1.ofs.tr ((Dt_FM o18).tr ((Dt_FM o20).tr (Dt_FM o22)))⟩))))))
        · show f_X10_sung_62 m (nI kc) (nI k) (nI p) (q + 1) h1 (nI s) (nI 0).toInt64 v (nI i) = f_X10_sung_62 m (nI kc) (nI k) (nI p) q h1 (nI s) (nI 0).toInt64 (v * 10) (nI (i + 1))
          simp only [f_X10_sung_62, lt_u]
          rw [if_neg (by rw [nI_leI (by omega) (by omega)]; omega), i1, nI_add]
        · show f_X10_sung_62 m (nI kc) (nI k) (nI p) (q + 1) h1 (nI s) (nI 0).toInt64 v (nI s) = _
          simp only [f_X10_sung_62, lt_u]
          rw [if_pos (Int32.le_refl _)]; rfl
end SUNG
