def fd {α : Type} (step : α → Nat → α) (acc : α) : Nat → α
  | 0 => acc
  | d + 1 => fd step (step acc d) d
theorem fd_lp {α β : Type} (L : Nat → α → Int32 → Option β) (N : Nat) (step : α → Nat → α) (fin : α → Option β) (hL : ∀ n acc i, i < N → L (n + 1) acc (nI i) = L n (step acc i) (nI i + (-1))) (hE : ∀ n acc, L (n + 1) acc (-1) = fin acc) : ∀ d n acc, d ≤ N → d < n → L n acc (nI d + (-1)) = fin (fd step acc d) := by
  intro d
  induction d with
  | zero =>
    intro n acc _ h2
    obtain ⟨k, rfl⟩ : ∃ k, n = k + 1 := ⟨n - 1, by omega⟩
    rw [nI_0m1]; exact hE k acc
  | succ d ih =>
    intro n acc h1 h2
    obtain ⟨k, rfl⟩ : ∃ k, n = k + 1 := ⟨n - 1, by omega⟩
    rw [nI_m1 (by omega), Nat.add_sub_cancel, hL k acc d (by omega)]
    exact ih k (step acc d) (by omega) (by omega)
theorem ff_snoc {p : Nat → Bool} : ∀ d i, ff p i (d + 1) = match ff p i d with
    | some k => some k
    | none => if p (i + d) = true then some (i + d) else none := by
  intro d
  induction d with
  | zero => intro i; rfl
  | succ d ih =>
    intro i
    rw [ff]
    by_cases q : p i = true
    · rw [if_pos q, ff, if_pos q]
    · rw [if_neg q, ih (i + 1), ff, if_neg q, show i + 1 + d = i + (d + 1) by omega]
theorem cnt_snoc {p : Nat → Bool} {i d : Nat} : cntB p i (d + 1) = if p (i + d) = true then cntB p i d + 1 else cntB p i d := by
  unfold cntB
  rw [fo_snoc]
theorem fd_rm (p : Nat → Bool) : ∀ d (x : Int32) (c : Nat), fd (fun (b : Int32 × Nat) k => if p k = true then (nI k, b.2 + 1) else b) (x, c) d = ((match ff p 0 d with
    | some k => nI k
    | none => x), c + cntB p 0 d) := by
  intro d
  induction d with
  | zero => intro x c; rfl
  | succ d ih =>
    intro x c
    rw [fd, ff_snoc, cnt_snoc, Nat.zero_add]
    by_cases q : p d = true
    · simp only [q, if_true]
      rw [ih]
      cases ff p 0 d <;> simp <;> omega
    · simp only [q]
      rw [ih]
      cases ff p 0 d <;> simp
theorem fo_add {α : Type} (step : α → Nat → α) : ∀ d1 d2 acc i, fo step acc i (d1 + d2) = fo step (fo step acc i d1) (i + d1) d2 := by
  intro d1
  induction d1 with
  | zero => intro d2 acc i; rw [Nat.zero_add]; rfl
  | succ d ih =>
    intro d2 acc i
    rw [show d + 1 + d2 = (d + d2) + 1 by omega, fo, ih, fo, show i + 1 + d = i + (d + 1) by omega]
theorem fo_id {α : Type} {step : α → Nat → α} : ∀ d acc i, (∀ x j, i ≤ j → j < i + d → step x j = x) → fo step acc i d = acc := by
  intro d
  induction d with
  | zero => intro acc i _; rfl
  | succ d ih =>
    intro acc i hs
    rw [fo, hs acc i (by omega) (by omega)]
    exact ih acc (i + 1) (fun x j h1 h2 => hs x j (by omega) (by omega))
theorem ff_f {p : Nat → Bool} : ∀ d i k, ff p i d = some k → ∀ j, i ≤ j → j < k → p j = false := by
  intro d
  induction d with
  | zero => intro i k hk; cases hk
  | succ d ih =>
    intro i k hk j h1 h2
    rw [ff] at hk
    by_cases q : p i = true
    · rw [if_pos q] at hk; cases hk; omega
    · rw [if_neg q] at hk
      by_cases e : j = i
      · subst e; simpa using q
      · exact ih (i + 1) k hk j (by omega) h2
theorem cnt_ff {p : Nat → Bool} {N k : Nat} (hk : ff p 0 N = some k) : cntB p 0 N = cntB p k (N - k) := by
  have h1 := ff_s _ _ _ hk
  have h2 := ff_f _ _ _ hk
  unfold cntB
  have e : N = k + (N - k) := by omega
  conv => lhs; rw [e]
  rw [fo_add, Nat.zero_add, fo_id k 0 0 (fun x j _ hj => by rw [h2 j (by omega) (by omega)]; rfl)]
def rmp (T : Fld) (p : Nat → Bool) (hg wd kc : Nat) : Bool := hld T kc hg wd && decide (∀ i, i < T.1 2 → p i = true → und T kc hg wd i = false)
theorem rmp_255 {T : Fld} (hw : wfF T) (hg wd kc : Nat) : rmp T (fun i => (255 : Nat).testBit i) hg wd kc = rmb T hg wd kc := by
  have b5 := hw.2.2.2.2.1
  unfold rmp rmb
  congr 1
  congr 1
  apply propext
  exact ⟨fun z i hi => z i hi (tb255 i (by omega)), fun z i hi _ => z i hi⟩
section RFACE4
variable {h h1 : Hp} {A : Ast} {m n : Nat} {S : Fld}
theorem pf0 (h : Hp) : f_X10_flag h 0 = some 0 := p_flag h false
theorem pf1 (h : Hp) : f_X10_flag h 1 = some 1 := p_flag h true
theorem m_isSize (h : Hp) (x y : Int32) : f_X10_isSize h x y = some (nB ((numIn (nI 1) (nI 3) x).isSome && (numIn (nI 1) (nI 3) y).isSome)) := by
  rw [f_X10_isSize, z64_1, z64_3, p_in_num, bd_s, p_in_num, bd_s]
  simp only [nB_0]
  cases (numIn (nI 1) (nI 3) x).isSome <;> cases (numIn (nI 1) (nI 3) y).isSome <;> simp [nB_t, nB_f]
theorem RM.gk (c : RM h m A n) {T : Fld} (h0 : T.1 0 = (aS A).1 0) (h1 : T.1 1 = (aS A).1 1) : atG h m T := ⟨c.s, by rw [h0]; exact c.g.2.1, by rw [h1]; exact c.g.2.2⟩
theorem m_roomOf (c : RM h m A n) {T : Fld} (g : atG h m T) (hw : wfF T) {p : Nat → Bool} {hg wd : Nat} (h1 : 1 ≤ hg) (h2 : hg ≤ 3) (h3 : 1 ≤ wd) (h4 : wd ≤ 3) : Ok (f_X10_roomOf h m (bitsL (slp T p) (ncl T)) (nI hg) (nI wd)) (fun o => match ff (rmp T p hg wd) 0 (ncl T) with
    | some k => o.1 = nI k ∧ RM o.2 m (wT A [(nI (cntB (rmp T p hg wd) 0 (ncl T))).toInt64]) n ∧ EqP (Dt m) h o.2
    | none => o = (-2, h)) := by
  have hF := FU_big
  have hb := ncl_le hw
  have e := fd_lp (fun k (b : Int32 × Nat) i => f_X10_roomOf_15 m (bitsL (slp T p) (ncl T)) (nI hg) (nI wd) k h b.1 (nI b.2) i) (ncl T) (fun (b : Int32 × Nat) k => if rmp T p hg wd k = true then (nI k, b.2 + 1) else b) (fun b => f_X10_roomOf_15 m (bitsL (slp T p) (ncl T)) (nI hg) (nI wd) 1 h b.1 (nI b.2) (-1)) (fun k b i hi => ?_) (fun k b => ?_) (ncl T) FU (-2, 0) (Nat.le_refl _) (by omega)
  · rw [fd_rm] at e
    have e' : f_X10_roomOf_15 m (bitsL (slp T p) (ncl T)) (nI hg) (nI wd) FU h (-2) 0 (nI (ncl T) + (-1)) = _ := e
    rw [f_X10_roomOf, m_cells g, bd_s, i1, lt_u, Int32.sub_eq_add_neg, n1m, e']
    simp only [f_X10_roomOf_15]
    refine ok_lt (fun k ek => ?_)
    clear ek
    refine ok_t (by decide) ?_
    cases hf : ff (rmp T p hg wd) 0 (ncl T) with
    | none => exact ok_t (by decide) (ok_some rfl)
    | some k =>
      have hk := ff_s _ _ _ hf
      refine ok_f (by simp only; rw [i0, nI_ltI (by omega) (by omega)]; omega) ?_
      refine r_t0 c (fun h5 c5 o5 => ok_bd (m_enters c5 (by simp [aT, wT, mkA]) _) (fun h6 ⟨c6, o6⟩ => ok_some ⟨rfl, ?_, o5.tr o6⟩))
      rw [Nat.zero_add] at c6
      exact c6
  · have eh : (decide (i / T.1 1 + hg ≤ T.1 0) && decide (i % T.1 1 + wd ≤ T.1 1)) = hld T i hg wd := by simp [hld, hi]
    show f_X10_roomOf_15 m (bitsL (slp T p) (ncl T)) (nI hg) (nI wd) (k + 1) h b.1 (nI b.2) (nI i) = f_X10_roomOf_15 m (bitsL (slp T p) (ncl T)) (nI hg) (nI wd) k h (if rmp T p hg wd i = true then (nI i, b.2 + 1) else b).1 (nI (if rmp T p hg wd i = true then (nI i, b.2 + 1) else b).2) (nI i + (-1))
    simp only [f_X10_roomOf_15, f_X10_roomOf_52, f_X10_roomOf_53, f_X10_roomOf_67, lt_u, pf0, pf1, bd_s]
    rw [if_neg (by rw [i0, nI_ltI (by omega) (by omega)]; omega), m_isIn g hw (by omega) (by omega) (by omega), bd_s, eh, m_area g hw (by omega) (by omega) (by omega), bd_s]
    simp only [nB_0, and_0 (show ncl T ≤ 62 by omega)]
    cases hh : hld T i hg wd with
    | false =>
      have er : rmp T p hg wd i = false := by simp [rmp, hh]
      simp [er]
    | true =>
      simp only [slp_und hw hh h1 h3]
      by_cases q : ∃ j, j < T.1 2 ∧ p j = true ∧ und T i hg wd j = true
      · have er : rmp T p hg wd i = false := by
          simp only [rmp, hh, Bool.true_and]
          apply decide_eq_false
          intro z
          obtain ⟨j, q1, q2, q3⟩ := q
          rw [z j q1 q2] at q3; cases q3
        simp [er, q]
      · have er : rmp T p hg wd i = true := by
          simp only [rmp, hh, Bool.true_and]
          apply decide_eq_true
          intro j hj hp
          cases z : und T i hg wd j with
          | false => rfl
          | true => exact absurd ⟨j, hj, hp, z⟩ q
        simp only [er, q, not_false_eq_true, if_true, Bool.true_eq_false, if_false]
        simp [i1, nI_add]
        rw [if_neg (show ¬ nI 1 = 0 by decide)]
  · show f_X10_roomOf_15 m (bitsL (slp T p) (ncl T)) (nI hg) (nI wd) (k + 1) h b.1 (nI b.2) (-1) = f_X10_roomOf_15 m (bitsL (slp T p) (ncl T)) (nI hg) (nI wd) 1 h b.1 (nI b.2) (-1)
    simp only [f_X10_roomOf_15, lt_u]
    rw [if_pos (show (-1 : Int32) < 0 by decide), if_pos (show (-1 : Int32) < 0 by decide)]
theorem r_room (c : RM h m A n) (a : WA A n) (x y : Int32) : Ok (f_X10_room h m x y) (fun o => o.1 = (sp_room A x y).1 ∧ RM o.2 m (sp_room A x y).2 n ∧ EqOff (FM m) h o.2) := by
  rw [f_X10_room]
  refine r_th c (fun h1 c1 o1 _ => ?_)
  rw [m_isSize, bd_s, c1.s.r6]
  simp only [nB_0]
  unfold sp_room
  cases hx : numIn (nI 1) (nI 3) x with
  | none => exact ok_t rfl (ok_some ⟨rfl, c1, o1.ofs⟩)
  | some hg =>
    obtain ⟨rfl, g1, g2⟩ := numIn_s (by omega) (by omega) hx
    cases hy : numIn (nI 1) (nI 3) y with
    | none => exact ok_t rfl (ok_some ⟨rfl, c1, o1.ofs⟩)
    | some wd =>
      obtain ⟨rfl, g3, g4⟩ := numIn_s (by omega) (by omega) hy
      refine ok_f (by simp) ?_
      rw [i255, m_sleptBy c1.g c1.w a.w (by omega), bd_s]
      refine ok_gd (nz_t (by omega)) (ok_bd (m_roomOf c1 c1.g a.w g1 g2 g3 g4) (fun o ho => ?_))
      have ef : rmp (aS A) (fun i => (255 : Nat).testBit i) hg wd = rmb (aS A) hg wd := funext (fun kc => rmp_255 a.w hg wd kc)
      rw [ef] at ho
      dsimp only
      cases hf : ff (rmb (aS A) hg wd) 0 (ncl (aS A)) with
      | none =>
        rw [hf] at ho
        have ho : o = (-2, h1) := ho
        rw [ho]
        exact ok_some ⟨rfl, c1, o1.ofs⟩
      | some k =>
        rw [hf] at ho
        obtain ⟨z1, z2, z3⟩ := ho
        rw [cnt_ff hf] at z2
        exact ok_some ⟨z1, z2, o1.ofs.tr (Dt_FM z3)⟩
theorem wT_wT (A : Ast) (T1 T2 : List Int64) : wT (wT A T1) T2 = wT A T2 := rfl
theorem r_when (c : RM h m A n) (a : WA A n) (x y : Int32) : Ok (f_X10_when h m x y) (fun o => o.1 = (sp_when A x y).1 ∧ RM o.2 m (sp_when A x y).2 n ∧ EqOff (FM m) h o.2) := by
  have hF := FU_big
  have hy := a.y
  have hb := ncl_le a.w
  rw [f_X10_when]
  refine r_th c (fun h1 c1 o1 _ => ?_)
  rw [m_isSize, bd_s]
  simp only [nB_0]
  unfold sp_when
  cases hx : numIn (nI 1) (nI 3) x with
  | none => exact ok_t rfl (ok_some ⟨rfl, c1, o1.ofs⟩)
  | some hg =>
    obtain ⟨rfl, g1, g2⟩ := numIn_s (by omega) (by omega) hx
    cases hy2 : numIn (nI 1) (nI 3) y with
    | none => exact ok_t rfl (ok_some ⟨rfl, c1, o1.ofs⟩)
    | some wd =>
      obtain ⟨rfl, g3, g4⟩ := numIn_s (by omega) (by omega) hy2
      refine ok_f (by simp) (ok_bd (m_copies c1 a) (fun h6 ⟨c6, w6, o6⟩ => ?_))
      rw [i0]
      have go : ∀ d k1 k h2, k + d = 100 → d < k1 → RM h2 m A n → atW h2 (m + 3) (yrN A k) → EqOff (FM m) h h2 → Ok (f_X10_when_21 m (nI hg) (nI wd) k1 h2 (nI k)) (fun o => o.1 = (match ff (fun n => (ff (rmb (yrN A n) hg wd) 0 (ncl (aS A))).isSome) k d with
        | some n => (nI n, wT A [(oI (ff (rmb (yrN A n) hg wd) 0 (ncl (aS A)))).toInt64])
        | none => ((-2 : Int32), A)).1 ∧ RM o.2 m (match ff (fun n => (ff (rmb (yrN A n) hg wd) 0 (ncl (aS A))).isSome) k d with
        | some n => (nI n, wT A [(oI (ff (rmb (yrN A n) hg wd) 0 (ncl (aS A)))).toInt64])
        | none => ((-2 : Int32), A)).2 n ∧ EqOff (FM m) h o.2) := by
        intro d
        induction d with
        | zero =>
          intro k1 k h2 z1 z2 c2 t2 o2
          obtain ⟨n', rfl⟩ : ∃ k, k1 = k + 1 := ⟨k1 - 1, by omega⟩
          have : k = 100 := by omega
          subst this
          simp only [f_X10_when_21, ff]
          refine ok_lt (fun k2' ek => ?_)
          exact ok_t (by decide) (ok_some ⟨rfl, c2, o2⟩)
        | succ d ih =>
          intro k1 k h2 z1 z2 c2 t2 o2
          obtain ⟨n', rfl⟩ : ∃ k, k1 = k + 1 := ⟨k1 - 1, by omega⟩
          have wk := yrN_w a.w hy (n := k) (by omega)
          have gk := c2.gk (yrN_01 k).1 (yrN_01 k).2
          simp only [f_X10_when_21]
          rw [ff]
          refine ok_lt (fun k2' ek => ?_)
          subst ek
          rw [c2.s.r7, i255, m_sleptBy gk t2 wk (by omega), bd_s]
          refine ok_f (by rw [show (99 : Int32) = nI 99 by decide, nI_ltI (by omega) (by omega)]; omega) (ok_gd (nz_t (by omega)) (ok_bd (m_roomOf c2 gk wk g1 g2 g3 g4) (fun o ho => ?_)))
          have ef : rmp (yrN A k) (fun i => (255 : Nat).testBit i) hg wd = rmb (yrN A k) hg wd := funext (fun kc => rmp_255 wk hg wd kc)
          rw [ef, yrN_ncl] at ho
          cases hf : ff (rmb (yrN A k) hg wd) 0 (ncl (aS A)) with
          | none =>
            rw [hf] at ho
            have ho : o = (-2, h2) := ho
            rw [ho, c2.s.r7]
            simp only [Option.isSome_none, Bool.false_eq_true, if_false]
            refine ok_t (by decide) (ok_gd (nz_t (by omega)) (ok_bd (m_yearGoes gk t2 wk c2.e.E (Or.inr rfl)) (fun h11 ⟨w11, l11, o11⟩ => ?_)))
            rw [i1, nI_add, lt_u]
            exact ih n' (k + 1) h11 (by omega) (by omega) (c2.scr (DY_s o11)) w11 (o2.tr (DY_FM (Or.inr rfl) o11))
          | some kc =>
            rw [hf] at ho
            obtain ⟨y1, y2, y3⟩ := ho
            have hk := ff_s _ _ _ hf
            rw [y1]
            simp only [Option.isSome_some, if_true]
            refine ok_f (by rw [i0, nI_ltI (by omega) (by omega)]; omega) ?_
            have := r_say1 (x := nI k) (v := (nI kc).toInt64) y2 (o2.tr (Dt_FM y3))
            rw [hf]
            exact this
      exact go 100 FU 0 h6 (by omega) (by omega) c6 w6 (o1.ofs.tr (DW_FM (by omega) o6))
end RFACE4
