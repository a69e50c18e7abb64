/-! the law: what stands between two calls -/
def Kc : Nat := 1000
theorem Kc_e : Kc = 1000 := rfl
def Ks : Nat := 100000
theorem Ks_e : Ks = 100000 := rfl
def LwC (G : Gt) (p : Program) (s : State) (m : MethodId) (meth : Method) (c : Code) (args : Array Value) (b L : Nat) (xs : Nat → Int32) : Prop := Cx G p m c cL_law 8 s args RL ∧ meth.sig.returnType = some .boolean ∧ meth.locks = false ∧ va_X b L xs s s.heap ∧ b < s.heap.size ∧ ¬ AA G.2.2 b ∧ L ≤ 3072
def LwI (G : Gt) (s : State) (b i n : Nat) (h : Hp) (A : Ast) (H : Heap) (locs : List Loc) (ls : Array Slot) : Prop := Bo h 202 A n ∧ hpT h 230 = (3, 1) ∧ Rel G h H ∧ va_S (AA G.2.2) s.heap H locs ∧ lv_has ls 8 [(4, .int (nI i)), (3, .ref (G.2.2 + 230)), (2, .ref (G.2.2 + 202)), (1, .ref (G.2.2 + 1)), (0, .ref b)]
theorem inL {k L : Nat} (hk : k < L) (hL : L ≤ 3072) : vp_in (nI k) L := by
  intro z
  rcases z with z | z
  · rw [i0, nI_ltI (by omega) (by omega)] at z
    omega
  · rw [nI_clamp (by omega)] at z
    omega
theorem inL_0 {i L : Nat} (hi : i + 6 ≤ L) (hL : L ≤ 3072) : vp_in (nI i) L := inL (by omega) hL
theorem inL_1 {i L : Nat} (hi : i + 6 ≤ L) (hL : L ≤ 3072) : vp_in (nI i + (1 : Int32)) L := by rw [show (1 : Int32) = nI 1 by decide, nI_add]; exact inL (by omega) hL
theorem inL_2 {i L : Nat} (hi : i + 6 ≤ L) (hL : L ≤ 3072) : vp_in (nI i + (2 : Int32)) L := by rw [show (2 : Int32) = nI 2 by decide, nI_add]; exact inL (by omega) hL
theorem inL_3 {i L : Nat} (hi : i + 6 ≤ L) (hL : L ≤ 3072) : vp_in (nI i + (3 : Int32)) L := by rw [show (3 : Int32) = nI 3 by decide, nI_add]; exact inL (by omega) hL
theorem inL_4 {i L : Nat} (hi : i + 6 ≤ L) (hL : L ≤ 3072) : vp_in (nI i + (4 : Int32)) L := by rw [show (4 : Int32) = nI 4 by decide, nI_add]; exact inL (by omega) hL
theorem inL_5 {i L : Nat} (hi : i + 6 ≤ L) (hL : L ≤ 3072) : vp_in (nI i + (5 : Int32)) L := by rw [show (5 : Int32) = nI 5 by decide, nI_add]; exact inL (by omega) hL
section LAWC
variable {p : Program} {l : Launch} {e : Env} {R : Room} {s : State} {m : MethodId} {args : Array Value} {below : List Frame} {meth : Method} {c : Code} {H : Heap} {locs : List Loc} {cells slots : Nat} {Q : State → Prop}
variable {cc bytes : ByteArray} {pc nL maxL mc ms n idx : Nat} {ls : Array Slot} {rest st0 As : List Value} {G : Gt} {h : Hp} {own : String} {y : MethodName} {ret : Option FieldType} {rm : Room}
/-- a call of a helper: it has handlers -/
theorem r_callSW {hh : List (Nat × Nat × Nat × Nat)} {Ph : Option Value → Hp → Prop} (C : Cx G p m c cc nL s args own) (hR : Rel G h H) (hS : va_S (AA G.2.2) s.heap H locs) (hm : Cond.codeWith y bytes maxL ret hh ∈ gt ∧ Cond.initialized y.cls ∈ gt ∧ pdn y n) (cs : CS own idx y) (hM : Met l y (wqW y bytes maxL ret hh) rm (Pq G h As) (Qe G h Ph) mc ms (AA G.2.2)) (hf : fitR rm R maxL cells slots mc ms) (hn : As.length = n) (hls : ls.size = nL) (hst : st0 = As.reverse ++ rest) (hcat : (rest.map fun v => v.category).sum ≤ 8) (hd : decode cc pc = .ok (.invokestatic idx, 3))
    (kk : ∀ (v : Option Value) (h1 : Hp) (H1 : Heap) (locs1 : List Loc), Ph v h1 → Rel G h1 H1 → va_S (AA G.2.2) s.heap H1 locs1 → Ext h h1 → W p l e R s m args below meth c H1 locs1 (cells + mc) (slots + ms) Q (F0 m (pc + 3) ls (v.toList ++ rest))) : W p l e R s m args below meth c H locs cells slots Q (F0 m pc ls st0) := by
  have hG : GoodIn gt (va_wsS own idx y (wqW y bytes maxL ret hh)) := gtG (fun w hw => by
    unfold va_wsS wqW at hw
    rcases List.mem_append.mp hw with z | z
    · rcases List.mem_cons.mp z with rfl | z
      · exact cs.1
      · rcases List.mem_cons.mp z with rfl | z
        · exact cs.2
        · rw [List.mem_singleton.mp z]; exact hm.2.1
    · rcases List.mem_cons.mp z with rfl | z
      · exact hm.1
      · exact z)
  have hr := vx_runSW (locs := locs) (meth := meth) (below := below) (e := e) (g := F0 m pc ls st0) C.1 hM (vx_cwSW n C.ts hG rfl hf.2.1.1 hf.2.1.2 hm.2.2 hf.1) ⟨Pq.blind, fun U hU hW => Pq.at C hS hR hU hW⟩ rfl hn hls hst (lv_room hcat) hd hf.2.2
  intro T hT X
  obtain ⟨v, st₀, t, T', L, h0, X', hL, e1, e2, ⟨v1, h1, hp, hv2, hRl, hKK, hEx, hzb, hz, hk⟩, st⟩ := hr T hT X
  cases hv2
  obtain ⟨k1, k2, k3⟩ := vx_keep (A1 := AA G.2.2) h0 e1 hS (fun q _ z => z) (fun q z => z) hL ⟨hz, hk⟩
  obtain ⟨t2, a1, b1⟩ := kk _ h1 T'.heap (locs ++ L) hp (by rw [e1]; exact hRl) k3 hEx T' rfl X'
  exact ⟨t2, st t2 a1, b1⟩
end LAWC
theorem csL_49 : CS RL 49 yL_camp := ⟨gtq (show Cond.methodLink RL 49 yL_camp ∈ lw_tbl by decide +kernel) rfl, gtq (show Cond.static yL_camp ∈ lw_tbl by decide +kernel) rfl⟩
theorem csL_58 : CS RL 58 yL_cell := ⟨gtq (show Cond.methodLink RL 58 yL_cell ∈ lw_tbl by decide +kernel) rfl, gtq (show Cond.static yL_cell ∈ lw_tbl by decide +kernel) rfl⟩
theorem csL_221 : CS RL 221 yL_row := ⟨gtq (show Cond.methodLink RL 221 yL_row ∈ lw_tbl by decide +kernel) rfl, gtq (show Cond.static yL_row ∈ lw_tbl by decide +kernel) rfl⟩
theorem mkL_camp : Cond.codeWith yL_camp cL_camp 5 (some .int) [(0, 10, 13, 13)] ∈ gt ∧ Cond.initialized yL_camp.cls ∈ gt ∧ pdn yL_camp 4 := ⟨gtq (show Cond.codeWith yL_camp cL_camp 5 (some .int) [(0, 10, 13, 13)] ∈ lw_tbl by decide +kernel) rfl, gtq (show Cond.initialized yL_camp.cls ∈ lw_tbl by decide +kernel) rfl, by decide +kernel, by decide +kernel, by decide +kernel⟩
theorem mkL_cell : Cond.codeWith yL_cell cL_cell 5 (some .int) [(0, 10, 13, 13)] ∈ gt ∧ Cond.initialized yL_cell.cls ∈ gt ∧ pdn yL_cell 4 := ⟨gtq (show Cond.codeWith yL_cell cL_cell 5 (some .int) [(0, 10, 13, 13)] ∈ lw_tbl by decide +kernel) rfl, gtq (show Cond.initialized yL_cell.cls ∈ lw_tbl by decide +kernel) rfl, by decide +kernel, by decide +kernel, by decide +kernel⟩
theorem mkL_row : Cond.codeWith yL_row cL_row 4 (some .int) [(0, 8, 11, 13)] ∈ gt ∧ Cond.initialized yL_row.cls ∈ gt ∧ pdn yL_row 3 := ⟨gtq (show Cond.codeWith yL_row cL_row 4 (some .int) [(0, 8, 11, 13)] ∈ lw_tbl by decide +kernel) rfl, gtq (show Cond.initialized yL_row.cls ∈ lw_tbl by decide +kernel) rfl, by decide +kernel, by decide +kernel, by decide +kernel⟩
/-- what a helper left, and the reference's call behind it -/
theorem bx {α : Type} {h : Hp} {A : Ast} {n : Nat} {f : Hp → Option (Option α × Hp)} {g : Hp → Option (α × Hp)} {sp : Option α} (cv : α → Int64) (B : Bo h 202 A n) (hn : n < 1000) (hc : Ok (f h) (fun o => o.1 = sp ∧ RC o.2 A ∧ EqOff FX h o.2)) (hr : ∀ h1, RM h1 202 A n → Ok (g h1) (fun o => thr o.1 (hpI o.2 202 0) sp ∧ RM o.2 202 A n ∧ EqOff (FM 202) h1 o.2)) : ∃ out, f h = some out ∧ ∀ v h1, Phl 230 (out.1.map cv, out.2) v h1 → ∃ (kv : Int32) (v2 : α) (h2 : Hp), v = some (.int kv) ∧ g h1 = some (v2, h2) ∧ Bo h2 202 A (n + 1) ∧ hpI h2 202 0 = kv ∧ (kv = 0 → hpL h2 230 0 = cv v2) := by
  obtain ⟨b1, b2, b3, b4, b5⟩ := B
  obtain ⟨o, e1, z1, z2, z3⟩ := hc
  refine ⟨o, e1, fun v h1 ph => ?_⟩
  have m1 : RM o.2 202 A n := b2.fx z3 b4
  have n1 : 202 + 27 ≤ hpN o.2 := by rw [z3.2.2.2.2]; exact b5
  rcases ph with ⟨w, ew, rfl, rfl⟩ | ⟨ew, rfl, N, hN, rfl⟩
  · have eo : EqOff (fun x => x = 230) o.2 (upL o.2 230 0 w) := EqOff.uL rfl
    obtain ⟨q, f1, y1, y2, y3⟩ := hr _ (EqOff.rm m1 eo (fun x z1 z2 => by unfold FM at z1; omega))
    have hb : Bo q.2 202 A (n + 1) := Bo.up ⟨(z2.ag (eo.ag (fun a z1 z2 z3 => by omega))).fm y3 b4, y2, b3, b4, by rw [y3.2.2.2.2]; exact n1⟩ hn
    cases ho : o.1 with
    | none => rw [ho] at ew; cases ew
    | some x =>
      rw [ho] at ew
      rw [← z1, ho] at y1
      have ew : cv x = w := Option.some.inj ew
      refine ⟨0, q.1, q.2, rfl, f1, hb, y1.2, fun _ => ?_⟩
      rw [y3.2.1 _ _ (fun z => by unfold FM at z; omega), y1.1, ew, hpL_upL, if_pos ⟨rfl, rfl⟩]
  · have eo : ∀ lo hi, Ag o.2 (hpSz o.2 N) lo hi := fun lo hi a _ _ => ⟨fun _ => rfl, fun _ => rfl, fun _ => rfl, rfl⟩
    obtain ⟨q, f1, y1, y2, y3⟩ := hr _ (m1.ag (eo _ _))
    have hb : Bo q.2 202 A (n + 1) := Bo.up ⟨(z2.ag (eo _ _)).fm y3 b4, y2, b3, b4, by rw [y3.2.2.2.2]; exact Nat.le_trans n1 hN⟩ hn
    cases ho : o.1 with
    | some x => rw [ho] at ew; cases ew
    | none =>
      rw [← z1, ho] at y1
      exact ⟨1, q.1, q.2, rfl, f1, hb, y1, fun z => absurd z (by decide)⟩
section BX
variable {h : Hp} {A : Ast} {n : Nat}
theorem bx_camp (B : Bo h 202 A n) (hn : n < 1000) (x y : Int32) : ∃ out, f_X9_camp h 1 x y = some out ∧ ∀ v h1, Phl 230 (out.1.map Int32.toInt64, out.2) v h1 → ∃ (kv : Int32) (v2 : Int32) (h2 : Hp), v = some (.int kv) ∧ f_X10_camp h1 202 x y = some (v2, h2) ∧ Bo h2 202 A (n + 1) ∧ hpI h2 202 0 = kv ∧ (kv = 0 → hpL h2 230 0 = v2.toInt64) :=
  bx (f := fun h => f_X9_camp h 1 x y) (g := fun h => f_X10_camp h 202 x y) Int32.toInt64 B hn (c_camp B.1 B.2.2.1.w x y) (fun h1 c => r_camp c B.2.2.1 x y)
theorem bx_cell (B : Bo h 202 A n) (hn : n < 1000) (x y : Int32) : ∃ out, f_X9_cell h 1 x y = some out ∧ ∀ v h1, Phl 230 (out.1.map Int32.toInt64, out.2) v h1 → ∃ (kv : Int32) (v2 : Int32) (h2 : Hp), v = some (.int kv) ∧ f_X10_cell h1 202 x y = some (v2, h2) ∧ Bo h2 202 A (n + 1) ∧ hpI h2 202 0 = kv ∧ (kv = 0 → hpL h2 230 0 = v2.toInt64) :=
  bx (f := fun h => f_X9_cell h 1 x y) (g := fun h => f_X10_cell h 202 x y) Int32.toInt64 B hn (c_cell B.1 B.2.2.1.w x y) (fun h1 c => r_cell c B.2.2.1 x y)
theorem bx_row (B : Bo h 202 A n) (hn : n < 1000) (x : Int32) : ∃ out, f_X9_row h 1 x = some out ∧ ∀ v h1, Phl 230 out v h1 → ∃ (kv : Int32) (v2 : Int64) (h2 : Hp), v = some (.int kv) ∧ f_X10_row h1 202 x = some (v2, h2) ∧ Bo h2 202 A (n + 1) ∧ hpI h2 202 0 = kv ∧ (kv = 0 → hpL h2 230 0 = v2) := by
  obtain ⟨out, e1, q⟩ := bx (f := fun h => f_X9_row h 1 x) (g := fun h => f_X10_row h 202 x) (fun v => v) B hn (c_row B.1 x) (fun h1 c => r_row c x)
  refine ⟨out, e1, fun v h1 ph => q v h1 ?_⟩
  rw [Option.map_id']
  exact ph
end BX
