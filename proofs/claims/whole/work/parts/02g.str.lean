def adS (G : Gt) (i : Nat) : Nat := G.2.1.2.2.2.2.2.1 i
def adV (G : Gt) (i : Nat) : Nat := G.2.1.2.2.2.2.2.2 i
theorem plS : plainName "java/lang/String" = true := by decide +kernel
theorem plL : plainName "java/lang/StringLatin1" = true := by decide +kernel
theorem plP : plainName "jdk/internal/util/Preconditions" = true := by decide +kernel
theorem KK.kp {G : Gt} {U : State} (h : KK G U) : ∀ a : Nat, a < (s0G G).heap.size → ¬ AA G.2.2 a → U.heap[a]? = (s0G G).heap[a]? := fun a _ h2 => h.2.2.2.1 a (Nat.not_lt.mp h2)
theorem KK.str {G : Gt} {U : State} (h : KK G U) : vk_S 5 txL txB (adS G) (adV G) (AA G.2.2) U U.heap := (vk_S.moved h.2.2.1.alike h.2.2.2.2.2.2.1).kept h.kp
theorem KK.cs {G : Gt} {U : State} (h : KK G U) : va_Z "java/lang/String" "COMPACT_STRINGS" "Z" (.int 1) (AA G.2.2) U U.heap := (va_Z.moved h.2.2.1.alike h.2.2.2.2.2.2.2.2.1).kept h.kp
theorem KK.pf {G : Gt} {U : State} (h : KK G U) : va_Zq "jdk/internal/util/Preconditions" "SIOOBE_FORMATTER" "Ljava/util/function/BiFunction;" (AA G.2.2) U U.heap := (va_Zq.moved h.2.2.1.alike h.2.2.2.2.2.2.2.2.2.1).kept h.kp
theorem KK.tx {G : Gt} {U : State} (h : KK G U) : vk_R RX10 231 "saohwcrn" (adS G 0) U ∧ vk_R RX10 240 "<>=" (adS G 1) U ∧ vk_R RX10 242 "+-" (adS G 2) U ∧ vk_R RX10 244 "*/" (adS G 3) U ∧ vk_R RX10 363 "nmtsp" (adS G 4) U := by
  obtain ⟨h1, h2, h3, h4, h5⟩ := h.2.2.2.2.2.2.2.2.2.2.1
  exact ⟨vk_R.warm h.2.2.1 h1, vk_R.warm h.2.2.1 h2, vk_R.warm h.2.2.1 h3, vk_R.warm h.2.2.1 h4, vk_R.warm h.2.2.1 h5⟩
/-- a text by a wide index -/
theorem r_ldcwS {p : Program} {l : Launch} {e : Env} {R : Room} {s : State} {m : MethodId} {args : Array Value} {below : List Frame} {meth : Method} {c : Code} {H : Heap} {locs : List Loc} {cells slots : Nat} {Q : State → Prop} {cc : ByteArray} {pc : Nat} {ls : Array Slot} {rest : List Value} (hexec : p.tables.exec = Jvm.exec) (hb : c.code = cc) {own tx : String} {index q : Nat} (hown : s.vm.findClass own = some m.cls) (hZ : vk_R own index tx q s) (hdg : decode cc pc = .ok (.ldc_w index, 3))
    (k : W p l e R s m args below meth c H locs cells slots Q (F0 m (pc + 3) ls (.ref q :: rest))) : W p l e R s m args below meth c H locs cells slots Q (F0 m pc ls rest) := by
  intro T hT X
  obtain ⟨t, a1, b1⟩ := k T hT X
  refine ⟨t, ?_, b1⟩
  obtain ⟨k, cf, i, a', hk, hcf, hcp, -, hr, hev'⟩ := Cond.stringRef_spec hown hZ.1
  cases hZ.2.symm.trans hev'
  obtain ⟨k', hk', he⟩ := X.warmed.alike.2.2 _ _ hk
  have hr' : k'.resolved[index]? = some (some (.string q)) := by
    rcases X.warmed.entry hk hk' index with h | ⟨h, -⟩
    · rw [h]; exact hr
    · rw [hr] at h; cases h
  have hdg' : decode c.code pc = .ok (.ldc_w index, 3) := by rw [hb]; exact hdg
  jvm_step X.here [hexec, hdg', ldc_w.wp_string (e := e) (s := T) (f := F0 m pc ls rest) X.here.top hk' (by rw [he]; exact hcf) hcp hr']
  exact a1
