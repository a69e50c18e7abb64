section MLOSS
variable {h : Hp} {m r : Nat} {S : Fld}
/-- while asked is filled: k of eight -/
def PA (m : Nat) (h : Hp) (env : Nat → Int32) (h1 : Hp) (k : Nat) : Prop := EqP (fun x _ => x = m + 9) h h1 ∧ ∀ j, j < k → hpI h1 (m + 9) j = env j
theorem ok_ask {α : Type} {env : Nat → Int32} {h1 : Hp} {k : Nat} {K v : Int32} {f : Hp → Option α} {Q : α → Prop} (p : PA m h env h1 k) (hK : ix K = k) (hv : v = env k) (kk : ∀ h2, PA m h env h2 (k + 1) → Ok (f h2) Q) : Ok (lt (upI h1 (m + 9) (ix K) v) f) Q := by
  refine ok_lt (fun h2 e => kk h2 ⟨p.1.tr (by rw [e]; exact EqP.uI rfl), fun j hj => ?_⟩)
  rw [e, hK, hpI_upI]
  by_cases q : j = k
  · rw [if_pos ⟨rfl, q⟩, hv, q]
  · rw [if_neg (fun z => q z.2)]; exact p.2 j (by omega)
theorem m_loss {E : RE} (g : atG h m S) (w : atW h r S) (hw : wfF S) (e : atE h m E) (hr : r = m + 2 ∨ r = m + 3) {i : Nat} (hi : i < S.1 2) : Ok (f_X10_loss h m r (nI i)) (fun o => o.1 = dg (E (askF S i (oth S i))) ∧ EqP (fun x _ => x = m + 8 ∨ x = m + 9) h o.2) := by
  have b5 := hw.2.2.2.2.1
  have hb := ncl_le hw
  have b3 := hw.2.2.1
  have b4 := hw.2.2.2.1
  obtain ⟨d1, d2, d3⟩ := fcl_dm hw hi
  have cz := cols_nz g hw
  have K : ∀ {h1 : Hp} {k : Nat}, PA m h (askF S i (oth S i)) h1 k → hpR h1 m 20 = m + 9 ∧ hpT h1 (m + 9) = (2, 8) ∧ hpT h1 r = (2, 51) ∧ atG h1 m S ∧ atW h1 r S ∧ hpI h1 m 4 = nI (S.1 1) := fun p => by
    have g1 := g.ep p.1 (by omega) (by omega)
    exact ⟨g1.1.r20, g1.1.t9, (w.ep p.1 (fun k => by omega)).t, g1, w.ep p.1 (fun k => by omega), g1.2.2⟩
  have p0 : PA m h (askF S i (oth S i)) h 0 := ⟨EqP.rf, fun j hj => by omega⟩
  unfold f_X10_loss
  obtain ⟨k1, k2, k3, k4, k5, k6⟩ := K p0
  rw [k1, k2, k3, j24]
  refine ok_gd (nz_t (by omega)) (ok_gd (inb_nI (by omega) (by omega)) (ok_gd (by decide) (ok_ask p0 (by decide) ?_ (fun h5 p5 => ?_))))
  · rw [ix_nI (by omega), k5.v4 hi]; rfl
  clear k1 k2 k3 k4 k5 k6
  obtain ⟨k1, k2, k3, k4, k5, k6⟩ := K p5
  rw [k1, k2, k3, j40]
  refine ok_gd (nz_t (by omega)) (ok_gd (inb_nI (by omega) (by omega)) (ok_gd (by decide) (ok_ask p5 (by decide) ?_ (fun h10 p10 => ?_))))
  · rw [ix_nI (by omega), k5.v6 hi]; rfl
  clear k1 k2 k3 k4 k5 k6
  obtain ⟨k1, k2, k3, k4, k5, k6⟩ := K p10
  rw [k1, k2, m_crossing k4 k5 hw hi, bd_s, p_bc, bd_s]
  refine ok_gd (nz_t (by omega)) (ok_gd (by decide) (ok_ask p10 (by decide) rfl (fun h16 p16 => ?_)))
  clear k1 k2 k3 k4 k5 k6
  obtain ⟨k1, k2, k3, k4, k5, k6⟩ := K p16
  rw [k1, k2, k3, j8]
  refine ok_gd (nz_t (by omega)) (ok_gd (inb_nI (by omega) (by omega)) (ok_gd (by decide) (ok_ask p16 (by decide) ?_ (fun h21 p21 => ?_))))
  · rw [ix_nI (by omega), k5.v2 hi]; rfl
  clear k1 k2 k3 k4 k5 k6
  obtain ⟨k1, k2, k3, k4, k5, k6⟩ := K p21
  rw [k1, k2, k3, j16]
  refine ok_gd (nz_t (by omega)) (ok_gd (inb_nI (by omega) (by omega)) (ok_gd (by decide) (ok_ask p21 (by decide) ?_ (fun h26 p26 => ?_))))
  · rw [ix_nI (by omega), k5.v3 hi]; rfl
  clear k1 k2 k3 k4 k5 k6
  obtain ⟨k1, k2, k3, k4, k5, k6⟩ := K p26
  rw [k1, k2, k3, k6, ix_nI (by omega), k5.v0 hi, rm_nI (by omega) (by omega) (by omega), d2]
  refine ok_gd (nz_t (by omega)) (ok_gd (inb_nI (by omega) (by omega)) (ok_gd cz (ok_lt (fun v31 e31 => ?_))))
  subst e31
  refine ok_gd (by decide) (ok_ask p26 (by decide) rfl (fun h33 p33 => ?_))
  clear k1 k2 k3 k4 k5 k6
  obtain ⟨k1, k2, k3, k4, k5, k6⟩ := K p33
  rw [k1, k2, k3, k6, k5.v0 hi, pk_div (by omega) (by omega) (by omega), d1]
  refine ok_gd (nz_t (by omega)) (ok_gd (inb_nI (by omega) (by omega)) (ok_gd cz (ok_gd (by decide) (ok_ask p33 (by decide) rfl (fun h39 p39 => ?_)))))
  clear k1 k2 k3 k4 k5 k6
  obtain ⟨k1, k2, k3, k4, k5, k6⟩ := K p39
  rw [k1, k2, k3, show ix (49 : Int32) = 49 by decide, k5.y]
  refine ok_gd (nz_t (by omega)) (ok_gd (by decide) (ok_lt (fun v43 e43 => ?_)))
  subst e43
  refine ok_gd (by decide) (ok_ask p39 (by decide) rfl (fun h45 p45 => ?_))
  clear k1 k2 k3 k4 k5 k6
  obtain ⟨k1, k2, k3, k4, k5, k6⟩ := K p45
  have e21 : hpI h45 m 21 = hpI h m 21 := p45.1.1 _ _ (by omega)
  have fin : ∀ h3 v, v = E (askF S i (oth S i)) → EqP (fun x _ => x = m + 8) h45 h3 → Ok (f_X10_loss_140 m r (nI i) h3 v) (fun o => o.1 = dg (E (askF S i (oth S i))) ∧ EqP (fun x _ => x = m + 8 ∨ x = m + 9) h o.2) := fun h3 v ev e2 => by
    rw [f_X10_loss_140]
    exact ok_some ⟨by rw [ev]; rfl, (p45.1.mono (fun x k z => Or.inr z)).tr (e2.mono (fun x k z => Or.inl z))⟩
  rcases e with ⟨q1, cl, code, q2, q3, q4⟩ | ⟨l, q1, q2, q3⟩
  · rw [e21]
    refine ok_t q1 (ok_bd (m_ruled (cl := cl) (code := code) (E := E) (env := askF S i (oth S i)) k4.1 (by rw [p45.1.1 _ _ (by omega)]; exact q2) (fun k hk => by rw [p45.1.1 _ _ (by omega)]; exact q3 k hk) q4 (fun k hk => p45.2 k hk)) (fun o ⟨o1, o2⟩ => fin _ _ o1 o2))
  · rw [e21, q2]
    refine ok_f (by rw [i0, nI_ltI (by omega) (by omega)]; omega) ?_
    rw [show (4 : Int32) = nI 4 by decide, rm_nI (by omega) (by omega) (by omega), pk_div (by omega) (by omega) (by omega)]
    refine ok_lt (fun v48 e48 => ?_)
    subst e48
    rw [k1, k2, show ix (2 : Int32) = 2 by decide, p45.2 2 (by omega)]
    refine ok_gd (nz_t (by omega)) (ok_gd (by decide) (fin _ _ ?_ EqP.rf))
    rw [q3]
/-- what a year of the reference writes -/
def DY (m r x k : Nat) : Prop := (x = m ∧ k = 25) ∨ x = r ∨ x = m + 8 ∨ x = m + 9 ∨ x = m + 11
theorem fl_nB {d : Nat} (hd : d < 1000) : (if nI d = 0 then (1 : Int32) else 0) = nB (decide (d = 0)) := by
  rw [i0]
  simp (disch := omega) only [nI_eq0]
  by_cases q : d = 0
  · rw [if_pos q, decide_eq_true q]; rfl
  · rw [if_neg q, decide_eq_false q]; rfl
theorem nB_n (b : Bool) : nB b = nI (if b = true then 1 else 0) := by cases b <;> rfl
theorem mn_999 {x : Nat} (hx : x < 10000) : mn32 (nI 999) (nI x) = nI (min 999 x) := by
  unfold mn32
  simp (disch := omega) only [nI_lt0]
  by_cases q : x < 999
  · rw [if_pos q, Nat.min_eq_right (by omega)]
  · rw [if_neg q, Nat.min_eq_left (by omega)]
/-- while a year goes by, lost too -/
def yrU (L : Fld → Nat → Nat) (S : Fld) (i : Nat) : Fld := (fun q => if q = 4 then min 999 (S.1 4 + goneN L S i) else S.1 q, (yrT L S i).2)
theorem onb_4 {i : Nat} (hi : i < S.1 2) : onb S i = decide (0 < S.2 4 i) := by simp [onb, hi]
theorem m_yearGoes {E : RE} (g : atG h m S) (w : atW h r S) (hw : wfF S) (e : atE h m E) (hr : r = m + 2 ∨ r = m + 3) : Ok (f_X10_yearGoes h m r) (fun h1 => atW h1 r (yearS (lossE E) S) ∧ hpI h1 m 25 = hpI h m 25 + nI (goneN (lossE E) S (S.1 2)) ∧ EqP (DY m r) h h1) := by
  have hF := FU_big
  have hw2 := hw
  obtain ⟨b1, b2, b3, b4, b5, b6, b7, b8, b9⟩ := hw
  have hb := ncl_le hw2
  have cz := cols_nz g hw2
  rw [f_X10_yearGoes, m_on w hw2, bd_s, i0]
  -- the second round
  have second : ∀ h0, EqP (fun x _ => x = m + 8 ∨ x = m + 9 ∨ x = m + 11) h h0 → (∀ k, k < S.1 2 → hpI h0 (m + 11) k = nI (lossE E S k)) → Ok (f_X10_yearGoes_48 m r FU h0 (bitsB (onb S) (S.1 2)) (nI 0)) (fun h1 => atW h1 r (yearS (lossE E) S) ∧ hpI h1 m 25 = hpI h m 25 + nI (goneN (lossE E) S (S.1 2)) ∧ EqP (DY m r) h h1) := by
    intro h0 e0 l0
    have w0 : atW h0 r (yrU (lossE E) S 0) := (w.ep e0 (fun k => by omega)).ext rfl rfl rfl (by simp only [yrU, goneN, if_true]; omega) (fun j k _ _ => rfl)
    have g0 := g.ep e0 (by omega) (by omega)
    have x0 : hpI h0 m 25 = hpI h m 25 := e0.1 _ _ (by omega)
    refine okl (fun n h2 i => f_X10_yearGoes_48 m r n h2 (bitsB (onb S) (S.1 2)) i) (S.1 2) (fun i h2 => atW h2 r (yrU (lossE E) S i) ∧ hpI h2 m 25 = hpI h m 25 + nI (goneN (lossE E) S i) ∧ EqP (fun x k => x = r ∨ (x = m ∧ k = 25)) h0 h2) _ (fun n i h2 hi ⟨c1, c2, c3⟩ kk => ?_) (fun n h2 ⟨c1, c2, c3⟩ => ?_) (S.1 2) FU 0 h0 (by omega) (by omega) ⟨w0, by rw [x0]; simp only [goneN]; exact (Int32.add_zero _).symm, EqP.rf⟩
    · have g2 := g0.ep c3 (by omega) (by omega)
      have n2 : hpI h2 r 48 = nI (S.1 2) := c1.n
      have ll := lossE_le (E := E) (S := S) (i := i)
      have l4 := b8 4 i
      have l6 := b8 6 i
      have l5 := b8 5 i
      have hgn := goneN_le (L := lossE E) (S := S) i
      have fin : ∀ h3, atW h3 r (yrU (lossE E) S (i + 1)) → hpI h3 m 25 = hpI h m 25 + nI (goneN (lossE E) S (i + 1)) → EqP (fun x k => x = r ∨ (x = m ∧ k = 25)) h2 h3 → Ok (f_X10_yearGoes_247 m r (f_X10_yearGoes_48 m r n) h3 (bitsB (onb S) (S.1 2)) (nI i)) _ := fun h3 z1 z2 z3 => by
        rw [f_X10_yearGoes_247, i1, nI_add, lt_u]
        exact kk h3 ⟨z1, z2, c3.tr z3⟩
      show Ok (f_X10_yearGoes_48 m r (n + 1) h2 (bitsB (onb S) (S.1 2)) (nI i)) _
      simp only [f_X10_yearGoes_48]
      refine ok_lt (fun k4 ek => ?_)
      subst ek
      rw [c1.t, show ix (48 : Int32) = 48 by decide, n2]
      refine ok_gd (by decide) (ok_f (by rw [nI_leI (by omega) (by omega)]; omega) ?_)
      rw [p_hasB h2 (by omega) (by omega), bd_s, decide_eq_true hi, Bool.true_and]
      simp only [nB_0]
      by_cases q : 0 < S.2 4 i
      · have qo : onb S i = true := by rw [onb_4 hi]; exact decide_eq_true q
        refine ok_f (by rw [qo]; decide) ?_
        have u4 : hpI h2 r (24 + i) = nI (S.2 4 i) := by rw [c1.v4 hi]; simp [yrU, yrT]
        have ul : hpI h2 (m + 11) i = nI (lossE E S i) := by rw [c3.1 _ _ (by omega)]; exact l0 i hi
        rw [g2.1.r24, g2.1.t11, j24, ix_nI (by omega), ix_nI (by omega), u4, ul, i0, mx_sub (by omega) (by omega)]
        refine ok_gd (inb_nI (by omega) (by omega)) (ok_gd (nz_t (by omega)) (ok_gd (inb_nI (by omega) (by omega)) (ok_lt (fun v23 e23 => ?_))))
        subst e23
        refine ok_gd (inb_nI (by omega) (by omega)) (ok_lt (fun h25 e25 => ?_))
        have c25 : atW h25 r (setF (yrU (lossE E) S i) 4 i (S.2 4 i - lossE E S i)) := by rw [e25]; exact c1.w4 b5 hi
        have p25 : EqP (fun x k => x = r ∨ (x = m ∧ k = 25)) h2 h25 := by rw [e25]; exact EqP.uI (Or.inl rfl)
        have m25 : hpI h25 m 25 = hpI h m 25 + nI (goneN (lossE E) S i) := by rw [e25, hpI_upI, if_neg (by omega)]; exact c2
        clear e25
        have v25 : hpI h25 r (24 + i) = nI (S.2 4 i - lossE E S i) := by rw [c25.v4 hi]; simp [setF]
        rw [c25.t, v25, ← i0, fl_nB (by omega)]
        refine ok_gd (inb_nI (by omega) (by omega)) ?_
        rw [f_X10_yearGoes_107, p_flag, bd_s]
        refine ok_lt (fun h29 e29 => ?_)
        have p29 : EqP (fun x k => x = r ∨ (x = m ∧ k = 25)) h25 h29 := by rw [e29]; exact EqP.uI (Or.inr ⟨rfl, rfl⟩)
        have c29 : atW h29 r (setF (yrU (lossE E) S i) 4 i (S.2 4 i - lossE E S i)) := c25.keep (by rw [e29]; rfl) (fun k => by rw [e29, hpI_upI, if_neg (by omega)])
        have m29 : hpI h29 m 25 = hpI h m 25 + nI (goneN (lossE E) S (i + 1)) := by
          rw [e29, hpI_upI, if_pos ⟨rfl, rfl⟩, m25, nB_n, Int32.add_assoc, nI_add, goneN]
          congr 2
          by_cases z : S.2 4 i - lossE E S i = 0
          · simp [z, q]
          · simp [z]
        clear e29
        have v29 : hpI h29 r (24 + i) = nI (S.2 4 i - lossE E S i) := by rw [c29.v4 hi]; simp [setF]
        have l29 : hpI h29 r 50 = nI (min 999 (S.1 4 + goneN (lossE E) S i)) := by rw [c29.l]; simp [setF, yrU]
        rw [c29.t, j24, ix_nI (by omega), v29, show ix (50 : Int32) = 50 by decide, l29, fl_nB (by omega)]
        refine ok_gd (by decide) (ok_gd (inb_nI (by omega) (by omega)) ?_)
        rw [f_X10_yearGoes_138, p_flag, bd_s, nB_n, nI_add, show (999 : Int32) = nI 999 by decide, mn_999 (by split <;> omega)]
        refine ok_lt (fun v34 e34 => ?_)
        have e34b : v34 = nI (min 999 (S.1 4 + goneN (lossE E) S (i + 1))) := by
          rw [e34, goneN]
          congr 1
          by_cases z : S.2 4 i - lossE E S i = 0
          · simp [z, q]; omega
          · simp [z]
        rw [e34b, c29.t, show ix (50 : Int32) = 50 by decide]
        refine ok_gd (by decide) (ok_lt (fun h36 e36 => ?_))
        have c36 := c29.wl b5 (v := min 999 (S.1 4 + goneN (lossE E) S (i + 1)))
        rw [← e36] at c36
        have p36 : EqP (fun x k => x = r ∨ (x = m ∧ k = 25)) h29 h36 := by rw [e36]; exact EqP.uI (Or.inl rfl)
        have m36 : hpI h36 m 25 = hpI h m 25 + nI (goneN (lossE E) S (i + 1)) := by rw [e36, hpI_upI, if_neg (by omega)]; exact m29
        clear e36
        have v36 : hpI h36 r (40 + i) = nI (S.2 6 i) := by rw [c36.v6 hi]; simp [setF, setQ, yrU, yrT]
        rw [c36.t, j40, ix_nI (by omega), v36, i1, nI_add, show (99 : Int32) = nI 99 by decide, mn_9 (by omega) (by omega)]
        refine ok_gd (inb_nI (by omega) (by omega)) (ok_lt (fun v38 e38 => ?_))
        subst e38
        refine ok_gd (inb_nI (by omega) (by omega)) (ok_lt (fun h40 e40 => ?_))
        have c40 := c36.w6 b5 (i := i) (v := min 99 (S.2 6 i + 1)) hi
        rw [← e40] at c40
        have p40 : EqP (fun x k => x = r ∨ (x = m ∧ k = 25)) h36 h40 := by rw [e40]; exact EqP.uI (Or.inl rfl)
        have m40 : hpI h40 m 25 = hpI h m 25 + nI (goneN (lossE E) S (i + 1)) := by rw [e40, hpI_upI, if_neg (by omega)]; exact m36
        clear e40
        have p40b := p25.tr (p29.tr (p36.tr p40))
        have g40 := g2.ep p40b (by omega) (by omega)
        have v5 : hpI h40 r (32 + i) = nI (S.2 5 i) := by rw [c40.v5 hi]; simp [setF, setQ, yrU, yrT]
        have v6 : hpI h40 r (40 + i) = nI (min 99 (S.2 6 i + 1)) := by rw [c40.v6 hi]; simp [setF]
        have v3 : hpI h40 r (16 + i) = nI (S.2 3 i) := by rw [c40.v3 hi]; simp [setF, setQ, yrU, yrT]
        have v0 : hpI h40 r i = nI (fcl S i) := by rw [c40.v0 hi]; simp [fcl, setF, setQ, yrU, yrT]
        obtain ⟨f1, f2, f3⟩ := fcl_dm hw2 hi
        have l1 := b8 1 i
        have l3 := b8 3 i
        -- the end: what is left of the camp's left side
        have done : ∀ h3 lf, atW h3 r (setF (setF (setF (setQ (setF (yrU (lossE E) S i) 4 i (S.2 4 i - lossE E S i)) 4 (min 999 (S.1 4 + goneN (lossE E) S (i + 1)))) 6 i (min 99 (S.2 6 i + 1))) 0 i (S.2 0 i)) 1 i lf) → lf = sl2 S i → EqP (fun x k => x = r) h40 h3 → Ok (f_X10_yearGoes_247 m r (f_X10_yearGoes_48 m r n) h3 (bitsB (onb S) (S.1 2)) (nI i)) _ := fun h3 lf z1 z2 z3 => by
          refine fin h3 (z1.ext rfl rfl rfl rfl (fun j k _ hk => ?_)) (by rw [z3.1 _ _ (by omega)]; exact m40) (p40b.tr (z3.mono (fun x k z => Or.inl z)))
          have hk : k < S.1 2 := hk
          simp only [setF, setQ, yrU, yrT]
          by_cases e : k = i
          · subst e
            rw [if_pos (show k < k + 1 by omega), yrC, if_pos (⟨hk, q⟩ : k < S.1 2 ∧ 0 < S.2 4 k)]
            by_cases j1 : j = 1
            · simp [j1, z2]
            · by_cases j0 : j = 0
              · simp [j0]
              · by_cases j4 : j = 4
                · simp [j4]
                · by_cases j6 : j = 6
                  · simp [j6]
                  · simp [j0, j1, j4, j6]
          · simp only [e, and_false, if_false]
            by_cases q2 : k < i
            · rw [if_pos q2, if_pos (by omega)]
            · rw [if_neg q2, if_neg (by omega)]
        have same : sl2 S i = S.2 1 i → Ok (f_X10_yearGoes_247 m r (f_X10_yearGoes_48 m r n) h40 (bitsB (onb S) (S.1 2)) (nI i)) _ := fun es => done h40 (S.2 1 i) (c40.ext rfl rfl rfl rfl (fun j k _ hk => by
          simp only [setF, setQ, yrU, yrT]
          by_cases e : k = i
          · subst e
            by_cases j1 : j = 1
            · simp [j1]
            · by_cases j0 : j = 0
              · simp [j0]
              · simp [j0, j1]
          · simp [e])) es.symm EqP.rf
        rw [c40.t, j32, ix_nI (by omega), v5, i0]
        refine ok_gd (inb_nI (by omega) (by omega)) ?_
        by_cases q5 : 0 < S.2 5 i
        · refine ok_f (by rw [nI_leI (by omega) (by omega)]; omega) ?_
          rw [v6, rm_nI (by omega) (by omega) (by omega)]
          have hm5 : min 99 (S.2 6 i + 1) % S.2 5 i < S.2 5 i := Nat.mod_lt _ q5
          refine ok_gd (inb_nI (by omega) (by omega)) (ok_gd (inb_nI (by omega) (by omega)) (ok_gd (decide_eq_true (nI_ne0 (by omega) (by omega))) (ok_lt (fun v46 e46 => ?_))))
          subst e46
          simp (disch := omega) only [nI_eq0]
          by_cases q6 : min 99 (S.2 6 i + 1) % S.2 5 i = 0
          · rw [if_pos q6, ix_nI (n := i) (by omega), v0, g40.2.2, rm_nI (by omega) (by omega) (by omega), f2, j16, ix_nI (n := 16 + i) (by omega), v3]
            refine ok_gd (inb_nI (by omega) (by omega)) (ok_gd cz (ok_lt (fun v50 e50 => ?_)))
            subst e50
            refine ok_gd (inb_nI (by omega) (by omega)) ?_
            simp (disch := omega) only [nI_le0, nI_add]
            rw [f_X10_yearGoes_217, ix_nI (by omega), v0, g40.2.2, c40.t, rm_nI (by omega) (by omega) (by omega), f2]
            by_cases q7 : S.1 1 ≤ S.2 1 i + S.2 3 i
            · rw [if_pos q7]
              refine ok_t rfl (ok_gd (inb_nI (by omega) (by omega)) (ok_gd (inb_nI (by omega) (by omega)) (ok_gd cz (ok_lt (fun v57 e57 => ?_)))))
              subst e57
              rw [f_X10_yearGoes_246, c40.t, ix_nI (by omega)]
              have ef : nI (fcl S i) - nI (S.2 1 i) = nI (S.2 0 i * S.1 1 + 0) := by
                rw [pk_sub (by unfold fcl; omega)]; congr 1; unfold fcl; omega
              rw [ef]
              refine ok_gd (inb_nI (by omega) (by omega)) (ok_lt (fun h60 e60 => ?_))
              refine done h60 0 (by rw [e60]; exact c40.wc b5 hi) (by rw [sl2, if_pos ⟨q5, q6⟩, if_neg (by omega)]) (by rw [e60]; exact EqP.uI rfl)
            · rw [if_neg q7]
              refine ok_f (by decide) (ok_gd (inb_nI (by omega) (by omega)) ?_)
              rw [f_X10_yearGoes_246, c40.t, ix_nI (by omega)]
              have ef : nI (fcl S i) + 1 = nI (S.2 0 i * S.1 1 + (S.2 1 i + 1)) := by
                rw [i1, nI_add]; congr 1
              rw [ef]
              refine ok_gd (inb_nI (by omega) (by omega)) (ok_lt (fun h60 e60 => ?_))
              refine done h60 (S.2 1 i + 1) (by rw [e60]; exact c40.wc b5 hi) (by rw [sl2, if_pos ⟨q5, q6⟩, if_pos (by omega)]) (by rw [e60]; exact EqP.uI rfl)
          · rw [if_neg q6]
            exact same (by rw [sl2, if_neg (fun z => q6 z.2)])
        · refine ok_t (by rw [nI_leI (by omega) (by omega)]; omega) (same (by rw [sl2, if_neg (fun z => q5 z.1)]))
      · have qo : onb S i = false := by rw [onb_4 hi]; exact decide_eq_false q
        refine ok_t qo (fin h2 (c1.ext rfl rfl rfl ?_ (fun j k _ hk => ?_)) ?_ EqP.rf)
        · show min 999 _ = min 999 _
          rw [goneN, if_neg (fun z => q z.1), Nat.add_zero]
        · simp only [yrU, yrT]
          by_cases e : k = i
          · subst e; rw [if_neg (by omega), if_pos (by omega), yrC, if_neg (fun z => q z.2)]
          · by_cases q2 : k < i
            · rw [if_pos q2, if_pos (by omega)]
            · rw [if_neg q2, if_neg (by omega)]
        · rw [c2, goneN, if_neg (fun z => q z.1), Nat.add_zero]
    · show Ok (f_X10_yearGoes_48 m r (n + 1) h2 (bitsB (onb S) (S.1 2)) (nI (S.1 2))) _
      simp only [f_X10_yearGoes_48]
      refine ok_lt (fun k4 ek => ?_)
      clear ek
      have n2 : hpI h2 r 48 = nI (S.1 2) := c1.n
      have y2 : hpI h2 r 49 = nI (S.1 3) := c1.y
      rw [c1.t, show ix (48 : Int32) = 48 by decide, n2, show ix (49 : Int32) = 49 by decide, y2, i1, nI_add]
      refine ok_gd (by decide) (ok_t (Int32.le_refl _) (ok_gd (by decide) (ok_gd (by decide) (ok_lt (fun h16 e16 => ?_)))))
      have c16 := c1.wy b5 (v := S.1 3 + 1)
      rw [← e16] at c16
      have p16 : EqP (fun x k => x = r ∨ (x = m ∧ k = 25)) h2 h16 := by rw [e16]; exact EqP.uI (Or.inl rfl)
      refine ok_some ⟨c16.ext rfl rfl rfl rfl (fun j k _ hk => ?_), by rw [e16, hpI_upI, if_neg (by omega)]; exact c2, (e0.mono (fun x k z => by unfold DY; omega)).tr ((c3.tr p16).mono (fun x k z => by unfold DY; omega))⟩
      have hk : k < S.1 2 := hk
      simp only [setQ, yrU, yrT, yearS]
      rw [if_pos hk]
  refine okl (fun n h2 i => f_X10_yearGoes_7 m r n h2 (bitsB (onb S) (S.1 2)) i) (S.1 2) (fun i h2 => (∀ k, k < i → hpI h2 (m + 11) k = nI (lossE E S k)) ∧ EqP (fun x _ => x = m + 8 ∨ x = m + 9 ∨ x = m + 11) h h2) _ (fun n i h2 hi ⟨c1, c2⟩ kk => ?_) (fun n h2 ⟨c1, c2⟩ => ?_) (S.1 2) FU 0 h (by omega) (by omega) ⟨fun k hk => by omega, EqP.rf⟩
  · have g2 := g.ep c2 (by omega) (by omega)
    have w2 := w.ep c2 (fun k => by omega)
    have e2 := e.keep (c2.1 m 21 (by omega)) (c2.1 m 17 (by omega)) (fun k => c2.1 (m + 6) k (by omega))
    have fin : ∀ h3 v, v = nI (lossE E S i) → EqP (fun x _ => x = m + 8 ∨ x = m + 9) h2 h3 → Ok (f_X10_yearGoes_39 m r (f_X10_yearGoes_7 m r n) h3 (m + 11) (nI i) v (bitsB (onb S) (S.1 2)) (nI i)) _ := fun h3 v z1 z2 => by
      rw [f_X10_yearGoes_39, (g2.1.ep z2).t11, ix_nI (by omega), i1, nI_add]
      refine ok_gd (inb_nI (by omega) (by omega)) (ok_lt (fun h10 e10 => ?_))
      rw [lt_u]
      refine kk h10 ⟨fun k hk => ?_, c2.tr ((z2.mono (fun x k z => by omega)).tr (by rw [e10]; exact EqP.uI (Or.inr (Or.inr rfl))))⟩
      rw [e10, hpI_upI]
      by_cases q : k = i
      · rw [if_pos ⟨rfl, q⟩, z1, q]
      · rw [if_neg (fun z => q z.2), z2.1 _ _ (by omega)]; exact c1 k (by omega)
    show Ok (f_X10_yearGoes_7 m r (n + 1) h2 (bitsB (onb S) (S.1 2)) (nI i)) _
    simp only [f_X10_yearGoes_7]
    refine ok_lt (fun k4 ek => ?_)
    subst ek
    rw [w2.t, show ix (48 : Int32) = 48 by decide, w2.n, g2.1.r24, p_hasB h2 (by omega) (by omega), bd_s, decide_eq_true hi, Bool.true_and]
    refine ok_gd (by decide) (ok_f (by rw [nI_leI (by omega) (by omega)]; omega) (ok_gd (nz_t (by omega)) ?_))
    simp only [nB_0]
    refine ok_if (fun q => fin h2 _ (by rw [lossE, q]; rfl) EqP.rf) (fun q => ok_bd (m_loss g2 w2 hw2 e2 hr hi) (fun o ⟨o1, o2⟩ => fin o.2 o.1 ?_ o2))
    have q : onb S i = true := by simpa using q
    rw [o1, lossE, if_pos q]; exact (dg_rng _).1
  · show Ok (f_X10_yearGoes_7 m r (n + 1) h2 (bitsB (onb S) (S.1 2)) (nI (S.1 2))) _
    have w2 := w.ep c2 (fun k => by omega)
    simp only [f_X10_yearGoes_7]
    refine ok_lt (fun k4 ek => ?_)
    clear ek
    rw [w2.t, show ix (48 : Int32) = 48 by decide, w2.n, i0]
    exact ok_gd (by decide) (ok_t (Int32.le_refl _) (second h2 c2 c1))
theorem yrs_01 {L : Fld → Nat → Nat} : ∀ n, (yrs L S n).2.1 0 = S.1 0 ∧ (yrs L S n).2.1 1 = S.1 1 := by
  intro n
  induction n with
  | zero => exact ⟨rfl, rfl⟩
  | succ n ih => exact ⟨ih.1, ih.2⟩
theorem m_goesOn {E : RE} (g : atG h m S) (w : atW h r S) (hw : wfF S) (e : atE h m E) (hr : r = m + 2 ∨ r = m + 3) {n : Nat} (hn : n ≤ 100) (hy : S.1 3 + n < 1000000) : Ok (f_X10_goesOn h m r (nI n)) (fun h1 => atW h1 r (yrs (lossE E) S n).2 ∧ hpI h1 m 25 = nI (yrs (lossE E) S n).1 ∧ EqP (DY m r) h h1) := by
  have hF := FU_big
  rw [f_X10_goesOn]
  refine ok_lt (fun h0 e0 => ?_)
  have p0 : EqP (DY m r) h h0 := by rw [e0]; exact EqP.uI (Or.inl ⟨rfl, rfl⟩)
  have w0 : atW h0 r S := w.keep (by rw [e0]; rfl) (fun k => by rw [e0, hpI_upI, if_neg (by omega)])
  have m0 : hpI h0 m 25 = nI 0 := by rw [e0, hpI_upI, if_pos ⟨rfl, rfl⟩]; rfl
  clear e0
  rw [i0]
  refine okl (fun k h2 i => f_X10_goesOn_7 m r (nI n) k h2 i) n (fun i h2 => atW h2 r (yrs (lossE E) S i).2 ∧ hpI h2 m 25 = nI (yrs (lossE E) S i).1 ∧ EqP (DY m r) h h2) _ (fun k i h2 hi ⟨d1, d2, d3⟩ kk => ?_) (fun k h2 ⟨d1, d2, d3⟩ => ?_) n FU 0 h0 (by omega) (by omega) ⟨w0, m0, p0⟩
  · show Ok (f_X10_goesOn_7 m r (nI n) (k + 1) h2 (nI i)) _
    simp only [f_X10_goesOn_7]
    refine ok_lt (fun k2' ek => ?_)
    subst ek
    refine ok_f (by rw [nI_leI (by omega) (by omega)]; omega) ?_
    have es : (yrs (lossE E) S i).2.1 0 = S.1 0 ∧ (yrs (lossE E) S i).2.1 1 = S.1 1 := yrs_01 i
    have g2 : atG h2 m (yrs (lossE E) S i).2 := ⟨g.1.ep d3, by rw [es.1, d3.1 _ _ (by unfold DY; omega)]; exact g.2.1, by rw [es.2, d3.1 _ _ (by unfold DY; omega)]; exact g.2.2⟩
    have e2 := e.keep (d3.1 m 21 (by unfold DY; omega)) (d3.1 m 17 (by unfold DY; omega)) (fun k => d3.1 (m + 6) k (by unfold DY; omega))
    refine ok_bd (m_yearGoes g2 d1 (wf_yrs hw i (by omega)) e2 hr) (fun o ⟨z1, z2, z3⟩ => ?_)
    rw [i1, nI_add, lt_u]
    exact kk o ⟨z1, by rw [z2, d2, nI_add]; rfl, d3.tr z3⟩
  · show Ok (f_X10_goesOn_7 m r (nI n) (k + 1) h2 (nI n)) _
    simp only [f_X10_goesOn_7]
    refine ok_lt (fun k2' ek => ?_)
    exact ok_t (Int32.le_refl _) (ok_some ⟨d1, d2, d3⟩)
end MLOSS
