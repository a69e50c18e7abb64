/-! ways: the reference's cells beside one, its states -/
def pw (w : Nat) : Nat := if w = 0 then 0 else if w = 1 then 2 else if w = 2 then 3 else 1
theorem pw_lt (w : Nat) : pw w < 4 := by
  unfold pw
  repeat' split
  all_goals omega
theorem pw_on {s : Nat} (hs : s < 4) : ∃ w, w < 4 ∧ s = pw w := by
  rcases (show s = 0 ∨ s = 1 ∨ s = 2 ∨ s = 3 by omega) with rfl | rfl | rfl | rfl
  · exact ⟨0, by omega, rfl⟩
  · exact ⟨3, by omega, rfl⟩
  · exact ⟨1, by omega, rfl⟩
  · exact ⟨2, by omega, rfl⟩
theorem z0I (x : Nat) : nI x + nI 0 = nI x := by rw [nI_add, Nat.add_zero]
theorem andn (x y : Int32) : (x &&& (y ^^^ (-1)) = 0) ↔ x &&& y = x := by
  rw [← Int32.toBitVec_inj, ← Int32.toBitVec_inj, Int32.toBitVec_and, Int32.toBitVec_and, Int32.toBitVec_xor, show (-1 : Int32).toBitVec = BitVec.allOnes 32 by decide, show (0 : Int32).toBitVec = 0#32 by decide, BitVec.xor_allOnes]
  generalize x.toBitVec = a
  generalize y.toBitVec = b
  constructor
  · intro h
    apply BitVec.eq_of_getLsbD_eq
    intro i hi
    have e := congrArg (fun z => BitVec.getLsbD z i) h
    simp only [BitVec.getLsbD_and, BitVec.getLsbD_not, BitVec.getLsbD_zero, decide_eq_true hi, Bool.true_and] at e ⊢
    cases q : a.getLsbD i <;> cases q2 : b.getLsbD i <;> simp [q, q2] at e ⊢
  · intro h
    apply BitVec.eq_of_getLsbD_eq
    intro i hi
    have e := congrArg (fun z => BitVec.getLsbD z i) h
    simp only [BitVec.getLsbD_and, BitVec.getLsbD_not, BitVec.getLsbD_zero, decide_eq_true hi, Bool.true_and] at e ⊢
    cases q : a.getLsbD i <;> cases q2 : b.getLsbD i <;> simp [q, q2] at e ⊢
theorem nI_inj {a b : Nat} (ha : a < 2 ^ 31) (hb : b < 2 ^ 31) (h : nI a = nI b) : a = b := (nI_eq ha hb).mp h
theorem and_lt31 {a b : Nat} (ha : a < 2 ^ 31) : a &&& b < 2 ^ 31 := Nat.lt_of_le_of_lt Nat.and_le_left ha
theorem andN {a b : Nat} (ha : a < 2 ^ 31) : (nI a &&& (nI b ^^^ (-1)) = 0) ↔ a &&& b = a := by
  rw [andn, nI_and]
  exact ⟨fun h => nI_inj (and_lt31 ha) ha h, fun h => by rw [h]⟩
theorem shl_8 : ∀ c, c < 64 → shl32 (nI c) 8 = nI (c * 256) := by decide +kernel
theorem or_256 {c M : Nat} (hM : M < 256) : c * 256 ||| M = c * 256 + M := by
  have := Nat.two_pow_add_eq_or_of_lt (i := 8) (b := M) hM c
  rw [show (2 : Nat) ^ 8 = 256 by decide, Nat.mul_comm 256 c] at this
  exact this.symm
theorem m_state (h : Hp) {c M : Nat} (hc : c < 64) (hM : M < 256) : f_X10_state h (nI c) (nI M) = some (nI (c * 256 + M)) := by
  rw [f_X10_state, shl_8 c hc, lt_u, nI_or, or_256 hM]
def upN (f : Nat → Nat) (k v : Nat) : Nat → Nat := fun x => if x = k then v else f x
theorem nsum_u {f : Nat → Nat} {u x : Nat} : ∀ N, (N ≤ u → nsum (upN f u x) N = nsum f N) ∧ (u < N → nsum (upN f u x) N + f u = nsum f N + x) := by
  intro N
  induction N with
  | zero => exact ⟨fun _ => rfl, fun h => absurd h (Nat.not_lt_zero _)⟩
  | succ N ih =>
    refine ⟨fun h => ?_, fun h => ?_⟩
    · rw [nsum, nsum, ih.1 (by omega)]
      unfold upN
      rw [if_neg (by omega)]
    · rw [nsum, nsum]
      by_cases w : u = N
      · rw [ih.1 (by omega)]
        subst w
        unfold upN
        rw [if_pos rfl]
        omega
      · have := ih.2 (by omega)
        rw [show upN f u x N = f N by unfold upN; rw [if_neg (by omega)]]
        omega
section RBES
variable {h : Hp} {m : Nat} {S : Fld}
theorem be_51 (g : atG h m S) (hw : wfF S) (x1 x2 s0 s1 x3 : Int32) : f_X10_beside_51 h m x1 x2 s0 s1 x3 = some (if (0 ≤ x3 ∧ x3 ≤ nI (S.1 0 - 1)) ∧ (0 ≤ s0 + s1 ∧ s0 + s1 ≤ nI (S.1 1 - 1)) then nI (S.1 1) * x3 + (s0 + s1) else -1) := by
  have b1 := hw.1
  have b3 := hw.2.2.1
  rw [f_X10_beside_51, lt_u, g.2.1, g.2.2, i1, pk_sub (by omega), pk_sub (by omega), show (0 : Int64) = (0 : Int32).toInt64 by decide, p_in, bd_s, p_in, bd_s]
  by_cases w1 : (0 : Int32) ≤ x3 ∧ x3 ≤ nI (S.1 0 - 1)
  · rw [decide_eq_true w1, if_neg (show ¬ nB true = 0 by decide)]
    by_cases w2 : (0 : Int32) ≤ s0 + s1 ∧ s0 + s1 ≤ nI (S.1 1 - 1)
    · rw [decide_eq_true w2, if_neg (show ¬ nB true = 0 by decide), if_pos ⟨w1, w2⟩]
    · rw [decide_eq_false w2, if_pos (show nB false = 0 by decide), if_neg (fun z => w2 z.2)]
  · rw [decide_eq_false w1, if_pos (show nB false = 0 by decide), if_neg (fun z => w1 z.1)]
theorem be_y (hw : wfF S) {a b : Nat} (ha : a < S.1 0) (hb : b < S.1 1) : (if ((0 : Int32) ≤ nI a ∧ nI a ≤ nI (S.1 0 - 1)) ∧ ((0 : Int32) ≤ nI b ∧ nI b ≤ nI (S.1 1 - 1)) then nI (S.1 1) * nI a + nI b else -1) = nI (S.1 1 * a + b) := by
  have b2 := hw.2.1
  have b4 := hw.2.2.2.1
  rw [if_pos ⟨⟨by rw [i0, nI_leI (by omega) (by omega)]; omega, by rw [nI_leI (by omega) (by omega)]; omega⟩, by rw [i0, nI_leI (by omega) (by omega)]; omega, by rw [nI_leI (by omega) (by omega)]; omega⟩, pk_mul, nI_add]
theorem be_n {x y : Int32} (hw : wfF S) (h : x = -1 ∨ x = nI (S.1 0) ∨ y = -1 ∨ y = nI (S.1 1)) : (if ((0 : Int32) ≤ x ∧ x ≤ nI (S.1 0 - 1)) ∧ ((0 : Int32) ≤ y ∧ y ≤ nI (S.1 1 - 1)) then nI (S.1 1) * x + y else -1) = -1 := by
  have b1 := hw.1
  have b2 := hw.2.1
  have b3 := hw.2.2.1
  have b4 := hw.2.2.2.1
  refine if_neg (fun z => ?_)
  rcases h with e | e | e | e
  · rw [e] at z; exact absurd z.1.1 (by decide)
  · rw [e] at z
    have := z.1.2
    rw [nI_leI (by omega) (by omega)] at this
    omega
  · rw [e] at z; exact absurd z.2.1 (by decide)
  · rw [e] at z
    have := z.2.2
    rw [nI_leI (by omega) (by omega)] at this
    omega
theorem m_beside (g : atG h m S) (hw : wfF S) {c w : Nat} (hc : c < ncl S) (hv : w < 4) : f_X10_beside h m (nI c) (nI w) = some (oI (bsd S c (pw w))) := by
  have hb := ncl_le hw
  have b3 := hw.2.2.1
  have b4 := hw.2.2.2.1
  have cz := cols_nz g hw
  obtain ⟨h1, h2, h3⟩ := cl_rc hw hc
  have h4 : (-1 : Int32) + 0 = -1 := by decide
  rw [f_X10_beside, g.2.2, gd_t cz, f_X10_beside_24, lt_u, g.2.2, gd_t cz, lt_u, be_51 g hw, pk_div (by omega) (by omega) (by omega), rm_nI (by omega) (by omega) (by omega), show bsd S c (pw w) = bsd S (S.1 1 * (c / S.1 1) + c % S.1 1) (pw w) by rw [h3]]
  have I := fun s => bsd_i (S := S) (r := c / S.1 1) (k := c % S.1 1) (s := s) h2
  have N := fun s t => bsd_f hw (s := s) (t := t) h1 h2
  clear h3
  generalize c / S.1 1 = r at *
  generalize c % S.1 1 = k at *
  have no : ∀ s, s < 4 → (s = 0 → r = 0) → (s = 1 → k = 0) → (s = 2 → k + 1 = S.1 1) → (s = 3 → r + 1 = S.1 0) → bsd S (S.1 1 * r + k) s = none := fun s hs q0 q1 q2 q3 => by
    cases e : bsd S (S.1 1 * r + k) s with
    | none => rfl
    | some t => rcases N s t e hs with ⟨z1, z2, _⟩ | ⟨z1, z2, _⟩ | ⟨z1, z2, _⟩ | ⟨z1, z2, _⟩ <;> omega
  rcases (show w = 0 ∨ w = 1 ∨ w = 2 ∨ w = 3 by omega) with rfl | rfl | rfl | rfl
  · rw [show (if nI 0 = (2 : Int32) then (1 : Int32) else (if nI 0 = 0 then (-1 : Int32) else (0 : Int32))) = -1 by decide, show (if nI 0 = (1 : Int32) then (1 : Int32) else (if nI 0 = (3 : Int32) then (-1 : Int32) else (0 : Int32))) = nI 0 by decide, z0I]
    by_cases q : 0 < r
    · rw [nI_m1 q, be_y hw (by omega) h2, show pw 0 = 0 from rfl, (I 0).1 rfl q]; rfl
    · have : r = 0 := by omega
      subst this
      rw [be_n hw (Or.inl (by decide)), show pw 0 = 0 from rfl, no 0 (by omega) (fun _ => rfl) (fun z => by omega) (fun z => by omega) (fun z => by omega)]; rfl
  · rw [show (if nI 1 = (2 : Int32) then (1 : Int32) else (if nI 1 = 0 then (-1 : Int32) else (0 : Int32))) = nI 0 by decide, show (if nI 1 = (1 : Int32) then (1 : Int32) else (if nI 1 = (3 : Int32) then (-1 : Int32) else (0 : Int32))) = nI 1 by decide, z0I, nI_add]
    by_cases q : k + 1 < S.1 1
    · rw [be_y hw h1 q, show pw 1 = 2 from rfl, (I 2).2.2.1 rfl q]; rfl
    · have : k + 1 = S.1 1 := by omega
      rw [be_n hw (Or.inr (Or.inr (Or.inr (by rw [this])))), show pw 1 = 2 from rfl, no 2 (by omega) (fun z => by omega) (fun z => by omega) (fun _ => this) (fun z => by omega)]; rfl
  · rw [show (if nI 2 = (2 : Int32) then (1 : Int32) else (if nI 2 = 0 then (-1 : Int32) else (0 : Int32))) = nI 1 by decide, show (if nI 2 = (1 : Int32) then (1 : Int32) else (if nI 2 = (3 : Int32) then (-1 : Int32) else (0 : Int32))) = nI 0 by decide, z0I, nI_add]
    by_cases q : r + 1 < S.1 0
    · rw [be_y hw q h2, show pw 2 = 3 from rfl, (I 3).2.2.2 rfl q]; rfl
    · have : r + 1 = S.1 0 := by omega
      rw [be_n hw (Or.inr (Or.inl (by rw [this]))), show pw 2 = 3 from rfl, no 3 (by omega) (fun z => by omega) (fun z => by omega) (fun z => by omega) (fun _ => this)]; rfl
  · rw [show (if nI 3 = (2 : Int32) then (1 : Int32) else (if nI 3 = 0 then (-1 : Int32) else (0 : Int32))) = nI 0 by decide, show (if nI 3 = (1 : Int32) then (1 : Int32) else (if nI 3 = (3 : Int32) then (-1 : Int32) else (0 : Int32))) = -1 by decide, z0I]
    by_cases q : 0 < k
    · rw [nI_m1 q, be_y hw h1 (by omega), show pw 3 = 1 from rfl, (I 1).2.1 rfl q]; rfl
    · have : k = 0 := by omega
      subst this
      rw [be_n hw (Or.inr (Or.inr (Or.inl (by decide)))), show pw 3 = 1 from rfl, no 1 (by omega) (fun z => by omega) (fun _ => rfl) (fun z => by omega) (fun z => by omega)]; rfl
end RBES
