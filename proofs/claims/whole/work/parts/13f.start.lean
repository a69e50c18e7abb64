/-! the law's start -/
section START
variable {args : Array Value} {s : State}
theorem st_cl {own : String} {idx ci : Nat} (nl : NL own idx ci) (hts : ∀ w ∈ gt, w.before args s = true) : ∃ z : ClassId × (Nat → Nat), ∀ q, vwCl[ci]? = some q → u_Kn s q.1 q.2.1 q.2.2 z.1 z.2 := by
  obtain ⟨CN, T, ty, hc, hin, -, -, hi, -⟩ := nl
  obtain ⟨cC, iS, h⟩ := u_known hts hin (hts _ hi)
  exact ⟨(cC, iS), fun q hq => by rw [hc] at hq; cases hq; exact h⟩
theorem st_cls (hts : ∀ w ∈ gt, w.before args s = true) : ∃ D : va_G, ∀ (c : Nat) (q : vw_C), vwCl[c]? = some q → u_Kn s q.1 q.2.1 q.2.2 (D.1 c) (D.2 c) := by
  have h : ∀ c : Nat, ∃ z : ClassId × (Nat → Nat), ∀ q, vwCl[c]? = some q → u_Kn s q.1 q.2.1 q.2.2 z.1 z.2 := fun c => match c with
    | 0 => st_cl nl_X3_9 hts
    | 1 => st_cl nl_X9_421 hts
    | 2 => st_cl nl_X9_64 hts
    | 3 => st_cl nl_X9_36 hts
    | 4 => st_cl nl_X9_47 hts
    | 5 => st_cl nl_X9_57 hts
    | 6 => st_cl nl_X9_7 hts
    | 7 => st_cl nl_X9_16 hts
    | 8 => st_cl nl_X9_76 hts
    | 9 => st_cl nl_L_8 hts
    | 10 => st_cl nl_L_23 hts
    | n + 11 => ⟨((0 : Nat), fun _ => 0), fun q hq => absurd hq (by simp [vwCl])⟩
  obtain ⟨f, hf⟩ := Classical.axiomOfChoice h
  exact ⟨(fun c => (f c).1, fun c => (f c).2), fun c q hq => hf c q hq⟩
theorem st_arr {ty : FieldType} (h : (Cond.arrayClass ty).before args s = true) (hn : ∀ C, ty ≠ .object C) : ∃ cA : ClassId, ArrOfT s cA ty ∧ va_RA s cA ty := by
  obtain ⟨cA, kA, comp, h1, h2, h3⟩ := Cond.arrayClass_spec (args := args) (first := s) (o := none) (idx := []) h
  refine ⟨cA, fun n z => ⟨fun k h => (by cases h), kA, h2, comp, h3⟩, ?_⟩
  cases ty <;> first | exact h1 | exact absurd rfl (hn _)
theorem st_arq {C : String} (h : (Cond.arrayOver (.object C)).before args s = true) : ∃ cA : ClassId, ArrOfT s cA (.object C) ∧ va_RA s cA (.object C) := by
  obtain ⟨comp, cA, kA, h1, h2, h3, h4, h5⟩ := Cond.arrayOver_spec (args := args) (first := s) (o := none) (idx := []) h
  exact ⟨cA, fun n z => ⟨fun k h => (by cases h), kA, h3, comp, h4⟩, kA, comp, h3, h4, h1, h5⟩
end START
def tmS (i : Nat) : Term := .string RX10 ([231, 240, 242, 244, 363].getD i 0)
abbrev gvC : Jvm.Cond := Jvm.Cond.and given_1 narrow_1
theorem ss_ex : ∀ i : Nat, i < 5 → Cond.exactly (tmS i) "java/lang/String" ∈ flatC gvC := by decide +kernel
theorem ss_co : ∀ i : Nat, i < 5 → Cond.eq (.field (tmS i) "java/lang/String" "coder" "B") (.int 0) ∈ flatC gvC := by decide +kernel
theorem ss_ar : ∀ i : Nat, i < 5 → Cond.arrayOf (.field (tmS i) "java/lang/String" "value" "[B") .byte ∈ flatC gvC := by decide +kernel
theorem ss_le : ∀ i : Nat, i < 5 → Cond.eq (.length (.field (tmS i) "java/lang/String" "value" "[B")) (.int (Int32.ofNat (txL.getD i 0))) ∈ flatC gvC := by decide +kernel
theorem ss_el : ∀ i : Nat, i < 5 → ∀ j : Nat, j < txL.getD i 0 → Cond.eq (.elem (.field (tmS i) "java/lang/String" "value" "[B") (.int (Int32.ofNat j))) (.int ((txB.getD i []).getD j 0)) ∈ flatC gvC := by decide +kernel
theorem ss_ne : ∀ i : Nat, i < 5 → ∀ j : Nat, j < 5 → i ≠ j → Cond.not (Cond.eq (tmS i) (tmS j)) ∈ flatC gvC ∨ Cond.not (Cond.eq (tmS j) (tmS i)) ∈ flatC gvC := by decide +kernel
theorem ss_ln : ∀ i : Nat, i < 5 → txL.getD i 0 < 2 ^ 31 := by decide
theorem ss_cs : Cond.eq (.static "java/lang/String" "COMPACT_STRINGS" "Z") (.int 1) ∈ flatC gvC := by decide +kernel
theorem ss_pf : Cond.isRef (.static "jdk/internal/util/Preconditions" "SIOOBE_FORMATTER" "Ljava/util/function/BiFunction;") ∈ flatC gvC := by decide +kernel
theorem ss_us : Cond.isRef (.static Bundle.tN "UNASSIGNED_STACK" Bundle.steD) ∈ flatC gvC := by decide +kernel
theorem ss_sp : Cond.isRef (.static Bundle.tN "SUPPRESSED_SENTINEL" Bundle.listD) ∈ flatC gvC := by decide +kernel
theorem sw_cs : Cond.laysStatic "java/lang/String" "COMPACT_STRINGS" "Z" ∈ lw_tbl := by decide +kernel
theorem sw_pf : Cond.laysStatic "jdk/internal/util/Preconditions" "SIOOBE_FORMATTER" "Ljava/util/function/BiFunction;" ∈ lw_tbl := by decide +kernel
theorem sw_us : Cond.laysStatic Bundle.tN "UNASSIGNED_STACK" Bundle.steD ∈ lw_tbl := by decide +kernel
theorem sw_sp : Cond.laysStatic Bundle.tN "SUPPRESSED_SENTINEL" Bundle.listD ∈ lw_tbl := by decide +kernel
theorem sw_i1 : Cond.initialized "java/lang/String" ∈ lw_tbl := by decide +kernel
theorem sw_i2 : Cond.initialized "jdk/internal/util/Preconditions" ∈ lw_tbl := by decide +kernel
theorem sw_i3 : Cond.initialized Bundle.tN ∈ lw_tbl := by decide +kernel
theorem sw_ao : Cond.arrayOver (.object RX0) ∈ lw_tbl := by decide +kernel
theorem sw_t0 : Cond.stringRef RX10 231 "saohwcrn" ∈ lw_tbl := by decide +kernel
theorem sw_t1 : Cond.stringRef RX10 240 "<>=" ∈ lw_tbl := by decide +kernel
theorem sw_t2 : Cond.stringRef RX10 242 "+-" ∈ lw_tbl := by decide +kernel
theorem sw_t3 : Cond.stringRef RX10 244 "*/" ∈ lw_tbl := by decide +kernel
theorem sw_t4 : Cond.stringRef RX10 363 "nmtsp" ∈ lw_tbl := by decide +kernel
theorem st_nest {w : Cond} {args : Array Value} {s : State} (hw : w ∈ nestW) (h : w.before args s = true) : va_Nw w s := by
  have h2 := (List.mem_filter.mp hw).2
  cases w with
  | methodLinkNest a i x hh => exact va_Nw.of rfl h
  | _ => exact absurd h2 (by simp)
theorem st_G {args : Array Value} {s : State} (hts : ∀ w ∈ lw_tbl, w.before args s = true) (hgv : gvC.before args s = true) (hz : 0 < s.heap.size) : ∃ G : Gt, G.2.2 = s.heap.size - 1 ∧ KK G s ∧ XK G := by
  have hs := flat_of_before gvC hgv
  have hg : ∀ w ∈ gt, w.before args s = true := fun w hw => hts w (List.mem_filter.mp hw).1
  have hA : ∀ a : Nat, a < s.heap.size → ¬ AA (s.heap.size - 1) a := fun a ha q => by
    have q : s.heap.size - 1 < a := q
    omega
  obtain ⟨D, hD⟩ := st_cls hg
  obtain ⟨c1, a1, b1⟩ := st_arr (hg _ lk_arr_int) (fun C z => by cases z)
  obtain ⟨c2, a2, b2⟩ := st_arr (hg _ lk_arr_long) (fun C z => by cases z)
  obtain ⟨c3, a3, b3⟩ := st_arr (hg _ lk_arr_boolean) (fun C z => by cases z)
  obtain ⟨c4, a4, b4⟩ := st_arq (hts _ sw_ao)
  obtain ⟨aK, aV, hS, he⟩ := vk_Sof (args := args) (s := s) (N := 5) (tm := tmS) (len := txL) (byt := txB) (A := AA (s.heap.size - 1)) ss_ln (fun i hi => hs _ (ss_ex i hi)) (fun i hi => hs _ (ss_co i hi)) (fun i hi => hs _ (ss_ar i hi)) (fun i hi => hs _ (ss_le i hi)) (fun i hi j hj => hs _ (ss_el i hi j hj)) (fun i j hi hj n => (ss_ne i hi j hj n).imp (hs _) (hs _)) hA
  refine ⟨(D, (c1, c2, c3, c4, s, aK, aV), s.heap.size - 1), rfl, ⟨⟨hD, fun k q hk => ?_⟩, fun w hw => st_nest hw (hts w (List.mem_filter.mp hw).1), State.WarmedH.refl s, fun q _ => rfl, ?_⟩, ?_⟩
  · match k, hk with
    | 0, hk => have e := Option.some.inj hk; subst e; exact ⟨a1, b1⟩
    | 1, hk => have e := Option.some.inj hk; subst e; exact ⟨a2, b2⟩
    | 2, hk => have e := Option.some.inj hk; subst e; exact ⟨a3, b3⟩
    | 3, hk => have e := Option.some.inj hk; subst e; exact ⟨a4, b4⟩
    | n + 4, hk => exact absurd hk (by simp [tysG])
  · exact ⟨fun w hw => ⟨args, hts w hw⟩, va_AO.of (hts _ sw_ao), hS, (show s.heap.size - 1 < s.heap.size by omega), va_Zof (hts _ sw_cs) (hts _ sw_i1) (va_eqi (hs _ ss_cs)) hA, va_Zqof (hts _ sw_pf) (hts _ sw_i2) (hs _ ss_pf) hA, ⟨vk_R.of (hts _ sw_t0) (he 0 (by omega)), vk_R.of (hts _ sw_t1) (he 1 (by omega)), vk_R.of (hts _ sw_t2) (he 2 (by omega)), vk_R.of (hts _ sw_t3) (he 3 (by omega)), vk_R.of (hts _ sw_t4) (he 4 (by omega))⟩, trivial⟩
  · exact ⟨vx_Zqof (hts _ sw_us) (hts _ sw_i3) (hs _ ss_us) hA, vx_Zqof (hts _ sw_sp) (hts _ sw_i3) (hs _ ss_sp) hA⟩
def hpZ : Hp := (fun _ _ => 0, fun _ _ => 0, fun _ _ => 0, fun _ => (0, 0), 0)
theorem st_rel {G : Gt} {H : Heap} (hz : 0 < H.size) (hG : G.2.2 = H.size - 1) : Rel G hpZ H := by
  refine ⟨[], fun k q hk => absurd hk (by simp), ⟨fun i j p q hp => absurd hp (by simp), fun k q hk => absurd hk (by simp)⟩, fun i hi => absurd hi (by show ¬ 0 < 0; omega), ?_, fun i hi => absurd hi (by show ¬ 0 < 0; omega), fun i ci k ht => ?_, fun i n k ht => ?_⟩
  · show H.size = G.2.2 + 0 + 1
    omega
  · exact absurd (show (0 : Nat) = 1 from congrArg Prod.fst ht) (by decide)
  · exact absurd (show (0 : Nat) = 5 from congrArg Prod.fst ht) (by decide)
