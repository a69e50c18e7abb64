def f_X6_get (h : Hp) (r0 : Nat) (x1 : Int32) : Option Int32 :=
  if x1 < 0 then (
    some (-1 : Int32)
  ) else (
    if (hpI h r0 1) ≤ x1 then (
      some (-1 : Int32)
    ) else (
      gd (nz (hpR h r0 0)) <|
      gd (inb x1 (hpT h (hpR h r0 0)).2) <|
      some (hpI h (hpR h r0 0) (ix x1))
    )
  )

def f_X5_next (h : Hp) (r0 : Nat) : Option Int32 :=
  if (hpI h r0 3) ≤ (hpI h r0 2) then (
    some (-1 : Int32)
  ) else (
    if hpR h r0 0 = 0 then (
      some (-1 : Int32)
    ) else (
      gd (nz (hpR h r0 0)) <|
      (f_X6_get h (hpR h r0 0) (hpI h r0 2)).bind fun q5 =>
      some q5
    )
  )

def f_X4_isComparison_18 (h : Hp) (x0 : Int32) : Option Int32 :=
  some (1 : Int32)
def f_X4_isComparison (h : Hp) (x0 : Int32) : Option Int32 :=
  if x0 = (60 : Int32) then (
    f_X4_isComparison_18 h x0
  ) else (
    if x0 = (62 : Int32) then (
      f_X4_isComparison_18 h x0
    ) else (
      if x0 = (61 : Int32) then (
        f_X4_isComparison_18 h x0
      ) else (
        some (0 : Int32)
      )
    )
  )

def f_X4_addNumber (h : Hp) (r0 : Nat) (x1 : Int32) : Option Hp :=
  gd (nz (hpR h r0 0)) <|
  if (nI (hpT h (hpR h r0 0)).2) ≤ (hpI h r0 3) then (
    some h
  ) else (
    gd (inb (hpI h r0 3) (hpT h (hpR h r0 0)).2) <|
    lt (upI h (hpR h r0 0) (ix (hpI h r0 3)) x1) fun h6 =>
    lt (upI h6 r0 3 ((hpI h6 r0 3) + (1 : Int32))) fun h7 =>
    some h7
  )

def f_X4_addSign (h : Hp) (r0 : Nat) (x1 : Int32) : Option Hp :=
  (f_X4_addNumber h r0 (-x1)).bind fun q1 =>
  some q1

def f_X5_write (h : Hp) (r0 : Nat) (x1 : Int32) : Option Hp :=
  if hpR h r0 1 = 0 then (
    some h
  ) else (
    gd (nz (hpR h r0 1)) <|
    (f_X4_addSign h (hpR h r0 1) x1).bind fun q4 =>
    some q4
  )

def f_X5_number_56 (r0 : Nat) : Hp → Int32 → Option Hp := fun h x1 =>
  if hpR h r0 1 = 0 then (
    some h
  ) else (
    gd (nz (hpR h r0 1)) <|
    (f_X4_addNumber h (hpR h r0 1) x1).bind fun q13 =>
    some q13
  )
def f_X5_number_4 (r0 : Nat) (n : Nat) : Hp → Int32 → Int32 → Option Hp := match n with
  | 0 => fun _ _ _ => none
  | n + 1 => fun h x1 x2 =>
    lt (f_X5_number_4 r0 n) fun k4 =>
    if (3 : Int32) ≤ x2 then (
      f_X5_number_56 r0 h x1
    ) else (
      (f_X5_next h r0).bind fun q2 =>
      if q2 < (48 : Int32) then (
        f_X5_number_56 r0 h x1
      ) else (
        (f_X5_next h r0).bind fun q4 =>
        if (57 : Int32) < q4 then (
          f_X5_number_56 r0 h x1
        ) else (
          (f_X5_next h r0).bind fun q6 =>
          lt (((x1 * (10 : Int32)) + q6) - (48 : Int32)) fun v7 =>
          lt (upI h r0 2 ((hpI h r0 2) + (1 : Int32))) fun h8 =>
          lt (x2 + (1 : Int32)) fun v9 =>
          k4 h8 v7 v9
        )
      )
    )
def f_X5_number (h : Hp) (r0 : Nat) : Option Hp :=
  f_X5_number_4 r0 FU h (0 : Int32) (0 : Int32)

def f_X5_isLetter (h : Hp) (x0 : Int32) : Option Int32 :=
  if x0 = (97 : Int32) then (
    some (1 : Int32)
  ) else
  if x0 = (98 : Int32) then (
    some (0 : Int32)
  ) else
  if x0 = (99 : Int32) then (
    some (1 : Int32)
  ) else
  if x0 = (100 : Int32) then (
    some (0 : Int32)
  ) else
  if x0 = (101 : Int32) then (
    some (0 : Int32)
  ) else
  if x0 = (102 : Int32) then (
    some (0 : Int32)
  ) else
  if x0 = (103 : Int32) then (
    some (0 : Int32)
  ) else
  if x0 = (104 : Int32) then (
    some (1 : Int32)
  ) else
  if x0 = (105 : Int32) then (
    some (0 : Int32)
  ) else
  if x0 = (106 : Int32) then (
    some (0 : Int32)
  ) else
  if x0 = (107 : Int32) then (
    some (0 : Int32)
  ) else
  if x0 = (108 : Int32) then (
    some (0 : Int32)
  ) else
  if x0 = (109 : Int32) then (
    some (0 : Int32)
  ) else
  if x0 = (110 : Int32) then (
    some (1 : Int32)
  ) else
  if x0 = (111 : Int32) then (
    some (1 : Int32)
  ) else
  if x0 = (112 : Int32) then (
    some (0 : Int32)
  ) else
  if x0 = (113 : Int32) then (
    some (0 : Int32)
  ) else
  if x0 = (114 : Int32) then (
    some (1 : Int32)
  ) else
  if x0 = (115 : Int32) then (
    some (1 : Int32)
  ) else
  if x0 = (116 : Int32) then (
    some (0 : Int32)
  ) else
  if x0 = (117 : Int32) then (
    some (0 : Int32)
  ) else
  if x0 = (118 : Int32) then (
    some (0 : Int32)
  ) else
  if x0 = (119 : Int32) then (
    some (1 : Int32)
  ) else
  some (0 : Int32)

def fo_X5_expression (E_X5_sum : Hp → Nat → Int32 → Option (Int32 × Hp)) (h : Hp) (r0 : Nat) (x1 : Int32) : Option (Int32 × Hp) :=
  (E_X5_sum h r0 x1).bind fun q1 =>
  if q1.1 = 0 then (
    some ((0 : Int32), q1.2)
  ) else (
    (f_X5_next q1.2 r0).bind fun q3 =>
    (f_X4_isComparison q1.2 q3).bind fun q4 =>
    if q4 = 0 then (
      some ((1 : Int32), q1.2)
    ) else (
      lt (upI q1.2 r0 2 ((hpI q1.2 r0 2) + (1 : Int32))) fun h6 =>
      (E_X5_sum h6 r0 x1).bind fun q7 =>
      if q7.1 = 0 then (
        some ((0 : Int32), q7.2)
      ) else (
        (f_X5_write q7.2 r0 q3).bind fun q9 =>
        some ((1 : Int32), q9)
      )
    )
  )

def fo_X5_sum_36 (E_X5_product : Hp → Nat → Int32 → Option (Int32 × Hp)) (r0 : Nat) (x1 : Int32) (k12 : Hp → Int32 → Option (Int32 × Hp)) : Hp → Int32 → Option (Int32 × Hp) := fun h x2 =>
  (f_X5_next h r0).bind fun q8 =>
  lt (upI h r0 2 ((hpI h r0 2) + (1 : Int32))) fun h9 =>
  (E_X5_product h9 r0 x1).bind fun q10 =>
  if q10.1 = 0 then (
    some ((0 : Int32), q10.2)
  ) else (
    (f_X5_write q10.2 r0 q8).bind fun q12 =>
    lt (x2 + (1 : Int32)) fun v13 =>
    k12 q12 v13
  )
def fo_X5_sum_12 (E_X5_product : Hp → Nat → Int32 → Option (Int32 × Hp)) (r0 : Nat) (x1 : Int32) (n : Nat) : Hp → Int32 → Option (Int32 × Hp) := match n with
  | 0 => fun _ _ => none
  | n + 1 => fun h x2 =>
    lt (fo_X5_sum_12 E_X5_product r0 x1 n) fun k12 =>
    if (40 : Int32) ≤ x2 then (
      some ((1 : Int32), h)
    ) else (
      (f_X5_next h r0).bind fun q4 =>
      if q4 = (43 : Int32) then (
        fo_X5_sum_36 E_X5_product r0 x1 k12 h x2
      ) else (
        (f_X5_next h r0).bind fun q6 =>
        if q6 = (45 : Int32) then (
          fo_X5_sum_36 E_X5_product r0 x1 k12 h x2
        ) else (
          some ((1 : Int32), h)
        )
      )
    )
def fo_X5_sum (E_X5_product : Hp → Nat → Int32 → Option (Int32 × Hp)) (h : Hp) (r0 : Nat) (x1 : Int32) : Option (Int32 × Hp) :=
  (E_X5_product h r0 x1).bind fun q1 =>
  if q1.1 = 0 then (
    some ((0 : Int32), q1.2)
  ) else (
    fo_X5_sum_12 E_X5_product r0 x1 FU q1.2 (0 : Int32)
  )

def fo_X5_product_36 (E_X5_signedThing : Hp → Nat → Int32 → Option (Int32 × Hp)) (r0 : Nat) (x1 : Int32) (k12 : Hp → Int32 → Option (Int32 × Hp)) : Hp → Int32 → Option (Int32 × Hp) := fun h x2 =>
  (f_X5_next h r0).bind fun q8 =>
  lt (upI h r0 2 ((hpI h r0 2) + (1 : Int32))) fun h9 =>
  (E_X5_signedThing h9 r0 x1).bind fun q10 =>
  if q10.1 = 0 then (
    some ((0 : Int32), q10.2)
  ) else (
    (f_X5_write q10.2 r0 q8).bind fun q12 =>
    lt (x2 + (1 : Int32)) fun v13 =>
    k12 q12 v13
  )
def fo_X5_product_12 (E_X5_signedThing : Hp → Nat → Int32 → Option (Int32 × Hp)) (r0 : Nat) (x1 : Int32) (n : Nat) : Hp → Int32 → Option (Int32 × Hp) := match n with
  | 0 => fun _ _ => none
  | n + 1 => fun h x2 =>
    lt (fo_X5_product_12 E_X5_signedThing r0 x1 n) fun k12 =>
    if (40 : Int32) ≤ x2 then (
      some ((1 : Int32), h)
    ) else (
      (f_X5_next h r0).bind fun q4 =>
      if q4 = (42 : Int32) then (
        fo_X5_product_36 E_X5_signedThing r0 x1 k12 h x2
      ) else (
        (f_X5_next h r0).bind fun q6 =>
        if q6 = (47 : Int32) then (
          fo_X5_product_36 E_X5_signedThing r0 x1 k12 h x2
        ) else (
          some ((1 : Int32), h)
        )
      )
    )
def fo_X5_product (E_X5_signedThing : Hp → Nat → Int32 → Option (Int32 × Hp)) (h : Hp) (r0 : Nat) (x1 : Int32) : Option (Int32 × Hp) :=
  (E_X5_signedThing h r0 x1).bind fun q1 =>
  if q1.1 = 0 then (
    some ((0 : Int32), q1.2)
  ) else (
    fo_X5_product_12 E_X5_signedThing r0 x1 FU q1.2 (0 : Int32)
  )

def fo_X5_signedThing_28 (E_X5_thing : Hp → Nat → Int32 → Option (Int32 × Hp)) (r0 : Nat) (x1 : Int32) (k4 : Hp → Int32 → Int32 → Option (Int32 × Hp)) : Hp → Int32 → Int32 → Option (Int32 × Hp) := fun h s0 x3 =>
  lt (upI h r0 2 ((hpI h r0 2) + (1 : Int32))) fun h5 =>
  lt (x3 + (1 : Int32)) fun v6 =>
  k4 h5 s0 v6
def fo_X5_signedThing_45 (E_X5_thing : Hp → Nat → Int32 → Option (Int32 × Hp)) (r0 : Nat) (x1 : Int32) : Hp → Int32 → Option (Int32 × Hp) := fun h x2 =>
  (E_X5_thing h r0 x1).bind fun q7 =>
  if q7.1 = 0 then (
    some ((0 : Int32), q7.2)
  ) else (
    if x2 = 0 then (
      some ((1 : Int32), q7.2)
    ) else (
      (f_X5_write q7.2 r0 (126 : Int32)).bind fun q10 =>
      some ((1 : Int32), q10)
    )
  )
def fo_X5_signedThing_4 (E_X5_thing : Hp → Nat → Int32 → Option (Int32 × Hp)) (r0 : Nat) (x1 : Int32) (n : Nat) : Hp → Int32 → Int32 → Option (Int32 × Hp) := match n with
  | 0 => fun _ _ _ => none
  | n + 1 => fun h x2 x3 =>
    lt (fo_X5_signedThing_4 E_X5_thing r0 x1 n) fun k4 =>
    if (40 : Int32) ≤ x3 then (
      fo_X5_signedThing_45 E_X5_thing r0 x1 h x2
    ) else (
      (f_X5_next h r0).bind fun q2 =>
      if q2 = (45 : Int32) then (
        fo_X5_signedThing_28 E_X5_thing r0 x1 k4 h (if x2 = 0 then (1 : Int32) else (0 : Int32)) x3
      ) else (
        fo_X5_signedThing_45 E_X5_thing r0 x1 h x2
      )
    )
def fo_X5_signedThing (E_X5_thing : Hp → Nat → Int32 → Option (Int32 × Hp)) (h : Hp) (r0 : Nat) (x1 : Int32) : Option (Int32 × Hp) :=
  fo_X5_signedThing_4 E_X5_thing r0 x1 FU h (0 : Int32) (0 : Int32)

def fo_X5_thing_23 (E_X5_expression : Hp → Nat → Int32 → Option (Int32 × Hp)) (r0 : Nat) (x1 : Int32) : Hp → Int32 → Option (Int32 × Hp) := fun h x2 =>
  (f_X5_isLetter h x2).bind fun q5 =>
  if q5 = 0 then (
    if x2 = (40 : Int32) then (
      if x1 < (4 : Int32) then (
        lt (upI h r0 2 ((hpI h r0 2) + (1 : Int32))) fun h9 =>
        (E_X5_expression h9 r0 (x1 + (1 : Int32))).bind fun q10 =>
        if q10.1 = 0 then (
          some ((0 : Int32), q10.2)
        ) else (
          (f_X5_next q10.2 r0).bind fun q12 =>
          if q12 = (41 : Int32) then (
            lt (upI q10.2 r0 2 ((hpI q10.2 r0 2) + (1 : Int32))) fun h14 =>
            some ((1 : Int32), h14)
          ) else (
            some ((0 : Int32), q10.2)
          )
        )
      ) else (
        some ((0 : Int32), h)
      )
    ) else (
      some ((0 : Int32), h)
    )
  ) else (
    lt (upI h r0 2 ((hpI h r0 2) + (1 : Int32))) fun h15 =>
    (f_X5_write h15 r0 x2).bind fun q16 =>
    some ((1 : Int32), q16)
  )
def fo_X5_thing (E_X5_expression : Hp → Nat → Int32 → Option (Int32 × Hp)) (h : Hp) (r0 : Nat) (x1 : Int32) : Option (Int32 × Hp) :=
  (f_X5_next h r0).bind fun q1 =>
  if q1 < (48 : Int32) then (
    fo_X5_thing_23 E_X5_expression r0 x1 h q1
  ) else (
    if (57 : Int32) < q1 then (
      fo_X5_thing_23 E_X5_expression r0 x1 h q1
    ) else (
      (f_X5_number h r0).bind fun q4 =>
      some ((1 : Int32), q4)
    )
  )

def fx_A (n : Nat) : (Hp → Nat → Int32 → Option (Int32 × Hp)) × (Hp → Nat → Int32 → Option (Int32 × Hp)) × (Hp → Nat → Int32 → Option (Int32 × Hp)) × (Hp → Nat → Int32 → Option (Int32 × Hp)) × (Hp → Nat → Int32 → Option (Int32 × Hp)) := match n with
  | 0 => (fun _ _ _ => none, fun _ _ _ => none, fun _ _ _ => none, fun _ _ _ => none, fun _ _ _ => none)
  | n + 1 => lt (fx_A n) fun F => (fo_X5_expression F.2.1, fo_X5_sum F.2.2.1, fo_X5_product F.2.2.2.1, fo_X5_signedThing F.2.2.2.2, fo_X5_thing F.1)
def f_X5_expression : Hp → Nat → Int32 → Option (Int32 × Hp) := (fx_A 30).1
def f_X5_sum : Hp → Nat → Int32 → Option (Int32 × Hp) := (fx_A 30).2.1
def f_X5_product : Hp → Nat → Int32 → Option (Int32 × Hp) := (fx_A 30).2.2.1
def f_X5_signedThing : Hp → Nat → Int32 → Option (Int32 × Hp) := (fx_A 30).2.2.2.1
def f_X5_thing : Hp → Nat → Int32 → Option (Int32 × Hp) := (fx_A 30).2.2.2.2

def fo_X10_common (E_X10_common : Hp → Int64 → Int64 → Option Int64) (h : Hp) (y0 : Int64) (y2 : Int64) : Option Int64 :=
  if (lg_cmp y2 (0 : Int64)) = 0 then (
    some y0
  ) else (
    gd (nz64 y2) <|
    lt (rm64 y0 y2) fun v3 =>
    (E_X10_common h y2 v3).bind fun q4 =>
    some q4
  )

def fx_C (n : Nat) : (Hp → Int64 → Int64 → Option Int64) := match n with
  | 0 => (fun _ _ _ => none)
  | n + 1 => lt (fx_C n) fun F => (fo_X10_common F)
def f_X10_common : Hp → Int64 → Int64 → Option Int64 := (fx_C 70)

def f_X5_init (h : Hp) (r0 : Nat) : Option Hp :=
  some h

def f_X4_start (h : Hp) (r0 : Nat) : Option Hp :=
  lt (upI h r0 3 (0 : Int32)) fun h1 =>
  some h1

def f_X4_putNone (h : Hp) (r0 : Nat) : Option Hp :=
  (f_X4_start h r0).bind fun q1 =>
  (f_X4_addNumber q1 r0 (1 : Int32)).bind fun q2 =>
  (f_X4_addSign q2 r0 (111 : Int32)).bind fun q3 =>
  (f_X4_addNumber q3 r0 (1 : Int32)).bind fun q4 =>
  (f_X4_addSign q4 r0 (62 : Int32)).bind fun q5 =>
  (f_X4_addSign q5 r0 (43 : Int32)).bind fun q6 =>
  some q6

def f_X5_read_78 (r0 : Nat) (r1 : Nat) (r2 : Nat) : Hp → Int32 → Option (Int32 × Hp) := fun h s0 =>
  if s0 = 0 then (
    some ((hpI h r0 2), h)
  ) else (
    some ((-1 : Int32), h)
  )
def f_X5_read_77 (r0 : Nat) (r1 : Nat) (r2 : Nat) : Hp → Option (Int32 × Hp) := fun h =>
  f_X5_read_78 r0 r1 r2 h (0 : Int32)
def f_X5_read (h : Hp) (r0 : Nat) (r1 : Nat) (r2 : Nat) : Option (Int32 × Hp) :=
  lt (upR h r0 0 r1) fun h1 =>
  lt (upR h1 r0 1 r2) fun h2 =>
  lt (upI h2 r0 2 (0 : Int32)) fun h3 =>
  lt (mn32 (hpI h3 r1 1) (40 : Int32)) fun v4 =>
  lt (upI h3 r0 3 v4) fun h5 =>
  if (hpI h5 r1 1) = 0 then (
    (f_X4_putNone h5 r2).bind fun q12 =>
    some ((-1 : Int32), q12)
  ) else (
    (f_X4_start h5 r2).bind fun q7 =>
    (f_X5_expression q7 r0 (0 : Int32)).bind fun q8 =>
    if q8.1 = 0 then (
      f_X5_read_77 r0 r1 r2 q8.2
    ) else (
      if (hpI q8.2 r0 2) = (hpI q8.2 r0 3) then (
        if (40 : Int32) < (hpI q8.2 r1 1) then (
          f_X5_read_77 r0 r1 r2 q8.2
        ) else (
          f_X5_read_78 r0 r1 r2 q8.2 (1 : Int32)
        )
      ) else (
        f_X5_read_77 r0 r1 r2 q8.2
      )
    )
  )
def rm_X6_get : Room := { frames := 0, cells := 0, slots := 0, locals := 0 }
set_option maxRecDepth 100000 in
set_option maxHeartbeats 4000000 in
theorem k_X6_get {G : Gt} {l : Launch}  {h : Hp} {r0 : Nat} {x1 : Int32} {out : Int32} (t_r0 : hpT h r0 = (1, 6))  (hf : f_X6_get  h r0 x1 = some out) : Mt G l yX6_get cX6_get 2 (some .int) rm_X6_get [.ref (G.2.2 + r0), .int x1] h (some (.int out)) h 0 0 0 := by
  refine r_met (by decide +kernel) (Nat.le_of_ble_eq_true rfl) ?_
  intro p e s m args below meth c ls C hr hlk hnm hR hS hl
  have hl : lv_has ls 2 [(0, .ref (G.2.2 + r0)), (1, .int x1)] := hl
  rw [f_X6_get] at hf
  refine lv_iload_n C.x C.b dX6_get_0 rfl (lv_at hl 1 rfl) ?_
  refine lv_if_lt (tgt := 21) C.x C.b dX6_get_1 (by decide) (fun c1 => ?_) (fun c1 => ?_)
  · have hf := it_t hf c1
    refine lv_iconst (v := (-1 : Int32)) C.x C.b dX6_get_21 (by decide) ?_
    have hf := so_e hf
    subst hf
    exact r_iret C hr hlk hR Ext.rf hS dX6_get_22
  · have hf := it_f hf c1
    refine lv_iload_n C.x C.b dX6_get_4 rfl (lv_at hl 1 rfl) ?_
    refine lv_aload_n C.x C.b dX6_get_5 rfl (lv_at hl 0 rfl) ?_
    refine r_geti C hR t_r0 fl_X6_15 rfl dX6_get_6 ?_
    refine lv_icmp_ge (tgt := 21) C.x C.b dX6_get_9 (by decide) (fun c2 => ?_) (fun c2 => ?_)
    · have hf := it_t hf c2
      refine lv_iconst (v := (-1 : Int32)) C.x C.b dX6_get_21 (by decide) ?_
      have hf := so_e hf
      subst hf
      exact r_iret C hr hlk hR Ext.rf hS dX6_get_22
    · have hf := it_f hf c2
      refine lv_aload_n C.x C.b dX6_get_12 rfl (lv_at hl 0 rfl) ?_
      obtain ⟨g3, hf⟩ := gd_e hf
      refine r_getr C hR t_r0 fl_X6_9 (by decide) (nz_e g3) dX6_get_13 (fun tq4 => ?_)
      have tg3 := okA tq4 rfl
      refine lv_iload_n C.x C.b dX6_get_16 rfl (lv_at hl 1 rfl) ?_
      obtain ⟨g5, hf⟩ := gd_e hf
      refine r_iald C hR tg3 g5 dX6_get_17 ?_
      refine lv_goto (tgt := 22) C.x C.b dX6_get_18 (by decide) ?_
      have hf := so_e hf
      subst hf
      exact r_iret C hr hlk hR Ext.rf hS dX6_get_22

def rm_X5_next : Room := { frames := 1, cells := 0, slots := 0, locals := 21 }
set_option maxRecDepth 100000 in
set_option maxHeartbeats 4000000 in
theorem k_X5_next {G : Gt} {l : Launch}  {h : Hp} {r0 : Nat} {out : Int32} (t_r0 : hpT h r0 = (1, 5))  (hf : f_X5_next  h r0 = some out) : Mt G l yX5_next cX5_next 1 (some .int) rm_X5_next [.ref (G.2.2 + r0)] h (some (.int out)) h 0 0 0 := by
  refine r_met (by decide +kernel) (Nat.le_of_ble_eq_true rfl) ?_
  intro p e s m args below meth c ls C hr hlk hnm hR hS hl
  have hl : lv_has ls 1 [(0, .ref (G.2.2 + r0))] := hl
  rw [f_X5_next] at hf
  refine lv_aload_n C.x C.b dX5_next_0 rfl (lv_at hl 0 rfl) ?_
  refine r_geti C hR t_r0 fl_X5_19 rfl dX5_next_1 ?_
  refine lv_aload_n C.x C.b dX5_next_4 rfl (lv_at hl 0 rfl) ?_
  refine r_geti C hR t_r0 fl_X5_34 rfl dX5_next_5 ?_
  refine lv_icmp_ge (tgt := 32) C.x C.b dX5_next_8 (by decide) (fun c1 => ?_) (fun c1 => ?_)
  · have hf := it_t hf c1
    refine lv_iconst (v := (-1 : Int32)) C.x C.b dX5_next_32 (by decide) ?_
    have hf := so_e hf
    subst hf
    exact r_iret C hr hlk hR Ext.rf hS dX5_next_33
  · have hf := it_f hf c1
    refine lv_aload_n C.x C.b dX5_next_11 rfl (lv_at hl 0 rfl) ?_
    by_cases c2 : hpR h r0 0 = 0
    · refine r_getn C hR t_r0 fl_X5_9 (by decide) c2 dX5_next_12 ?_
      refine lv_ifnullN (tgt := 32) C.x C.b dX5_next_15 (by decide) ?_
      have hf := it_t hf c2
      refine lv_iconst (v := (-1 : Int32)) C.x C.b dX5_next_32 (by decide) ?_
      have hf := so_e hf
      subst hf
      exact r_iret C hr hlk hR Ext.rf hS dX5_next_33
    · refine r_getr C hR t_r0 fl_X5_9 (by decide) c2 dX5_next_12 (fun tc2 => ?_)
      refine lv_ifnull C.x C.b dX5_next_15 ?_
      have hf := it_f hf c2
      refine lv_aload_n C.x C.b dX5_next_18 rfl (lv_at hl 0 rfl) ?_
      obtain ⟨g3, hf⟩ := gd_e hf
      refine r_getr C hR t_r0 fl_X5_9 (by decide) (nz_e g3) dX5_next_19 (fun tq4 => ?_)
      have tg3 := okO tq4 rfl
      refine lv_aload_n C.x C.b dX5_next_22 rfl (lv_at hl 0 rfl) ?_
      refine r_geti C hR t_r0 fl_X5_19 rfl dX5_next_23 ?_
      obtain ⟨q5, h_q5, hf⟩ := bd_e hf
      refine r_callV (As := [.int (hpI h r0 2)]) (rest := []) C hR hS tg3 rfl mk_X6_get cl_X5_49 (k_X6_get tg3 h_q5) ⟨⟨Nat.le_of_ble_eq_true rfl, Nat.le_of_ble_eq_true rfl⟩, ⟨rfl, rfl⟩, Nat.le_of_ble_eq_true rfl, Nat.le_of_ble_eq_true rfl⟩ rfl hl.1 rfl (Nat.le_of_ble_eq_true rfl) dX5_next_26 (fun H locs hR hS hE1 z_q5 => ?_)
      refine lv_goto (tgt := 33) C.x C.b dX5_next_29 (by decide) ?_
      have hf := so_e hf
      subst hf
      exact r_iret C hr hlk hR Ext.rf hS dX5_next_33

def rm_X4_isComparison : Room := { frames := 0, cells := 0, slots := 0, locals := 0 }
def P_X4_isComparison_18 (G : Gt) (l : Launch) (p : Program) (e : Env) (s : State) (m : MethodId) (args : Array Value) (below : List Frame) (meth : Method) (c : Code) (h : Hp) (out : Int32) (x0 : Int32) (k : Option Int32) : Prop := ∀ (H : Heap) (locs : List Loc) (ls : Array Slot), k = some out → Rel G h H → va_S (AA G.2.2) s.heap H locs → lv_has ls 1 [(0, .int x0)] → W p l e rm_X4_isComparison s m args below meth c H locs 0 0 (MQ below (Qm G h h (some (.int out)) 1) args s 0 0 (AA G.2.2)) (F0 m 18 ls [])
set_option maxRecDepth 100000 in
set_option maxHeartbeats 4000000 in
theorem w_X4_isComparison_18 {G : Gt} {l : Launch} {p : Program} {e : Env} {s : State} {m : MethodId} {args : Array Value} {below : List Frame} {meth : Method} {c : Code}  {h : Hp} {out : Int32} {x0 : Int32}  (C : Cx G p m c cX4_isComparison 1 s args RX4) (hr : meth.sig.returnType = some .boolean) (hlk : meth.locks = false)   : P_X4_isComparison_18 G l p e s m args below meth c h out x0 (f_X4_isComparison_18 h x0) := by
  intro H locs ls  hf hR hS  hl
  rw [f_X4_isComparison_18] at hf
  refine lv_iconst (v := (1 : Int32)) C.x C.b dX4_isComparison_18 (by decide) ?_
  refine lv_goto (tgt := 23) C.x C.b dX4_isComparison_19 (by decide) ?_
  have hf := so_e hf
  subst hf
  exact r_zret C hr hlk hR Ext.rf hS z_1 dX4_isComparison_23
set_option maxRecDepth 100000 in
set_option maxHeartbeats 4000000 in
theorem k_X4_isComparison {G : Gt} {l : Launch}  {h : Hp} {x0 : Int32} {out : Int32}   (hf : f_X4_isComparison  h x0 = some out) : Mt G l yX4_isComparison cX4_isComparison 1 (some .boolean) rm_X4_isComparison [.int x0] h (some (.int out)) h 1 0 0 := by
  refine r_met (by decide +kernel) (Nat.le_of_ble_eq_true rfl) ?_
  intro p e s m args below meth c ls C hr hlk hnm hR hS hl
  have hl : lv_has ls 1 [(0, .int x0)] := hl
  rw [f_X4_isComparison] at hf
  refine lv_iload_n C.x C.b dX4_isComparison_0 rfl (lv_at hl 0 rfl) ?_
  refine lv_bipush (v := (60 : Int32)) C.x C.b dX4_isComparison_1 (by decide) ?_
  refine lv_icmp_eq (tgt := 18) C.x C.b dX4_isComparison_3 (by decide) (fun c1 => ?_) (fun c1 => ?_)
  · have hf := it_t hf c1
    exact w_X4_isComparison_18 C hr hlk _ _ _ hf hR hS (lv_sub hl [0] rfl)
  · have hf := it_f hf c1
    refine lv_iload_n C.x C.b dX4_isComparison_6 rfl (lv_at hl 0 rfl) ?_
    refine lv_bipush (v := (62 : Int32)) C.x C.b dX4_isComparison_7 (by decide) ?_
    refine lv_icmp_eq (tgt := 18) C.x C.b dX4_isComparison_9 (by decide) (fun c2 => ?_) (fun c2 => ?_)
    · have hf := it_t hf c2
      exact w_X4_isComparison_18 C hr hlk _ _ _ hf hR hS (lv_sub hl [0] rfl)
    · have hf := it_f hf c2
      refine lv_iload_n C.x C.b dX4_isComparison_12 rfl (lv_at hl 0 rfl) ?_
      refine lv_bipush (v := (61 : Int32)) C.x C.b dX4_isComparison_13 (by decide) ?_
      refine lv_icmp_ne (tgt := 22) C.x C.b dX4_isComparison_15 (by decide) (fun c3 => ?_) (fun c3 => ?_)
      · have hf := it_f hf c3
        refine lv_iconst (v := (0 : Int32)) C.x C.b dX4_isComparison_22 (by decide) ?_
        have hf := so_e hf
        subst hf
        exact r_zret C hr hlk hR Ext.rf hS z_0 dX4_isComparison_23
      · have hf := it_t hf c3
        exact w_X4_isComparison_18 C hr hlk _ _ _ hf hR hS (lv_sub hl [0] rfl)

def rm_X4_addNumber : Room := { frames := 0, cells := 0, slots := 0, locals := 0 }
set_option maxRecDepth 100000 in
set_option maxHeartbeats 4000000 in
theorem k_X4_addNumber {G : Gt} {l : Launch}  {h : Hp} {r0 : Nat} {x1 : Int32} {out : Hp} (t_r0 : hpT h r0 = (1, 4))  (hf : f_X4_addNumber  h r0 x1 = some out) : Mt G l yX4_addNumber cX4_addNumber 2 (none) rm_X4_addNumber [.ref (G.2.2 + r0), .int x1] h (none) out 0 0 0 := by
  refine r_met (by decide +kernel) (Nat.le_of_ble_eq_true rfl) ?_
  intro p e s m args below meth c ls C hr hlk hnm hR hS hl
  have hE : Ext h h := Ext.rf
  have hl : lv_has ls 2 [(0, .ref (G.2.2 + r0)), (1, .int x1)] := hl
  rw [f_X4_addNumber] at hf
  refine lv_aload_n C.x C.b dX4_addNumber_0 rfl (lv_at hl 0 rfl) ?_
  refine r_geti C hR t_r0 fl_X4_21 rfl dX4_addNumber_1 ?_
  refine lv_aload_n C.x C.b dX4_addNumber_4 rfl (lv_at hl 0 rfl) ?_
  obtain ⟨g1, hf⟩ := gd_e hf
  refine r_getr C hR t_r0 fl_X4_9 (by decide) (nz_e g1) dX4_addNumber_5 (fun tq2 => ?_)
  have tg1 := okA tq2 rfl
  refine r_alen C hR (Or.inl tg1) dX4_addNumber_8 ?_
  refine lv_icmp_ge (tgt := 32) C.x C.b dX4_addNumber_9 (by decide) (fun c3 => ?_) (fun c3 => ?_)
  · have hf := it_t hf c3
    have hf := so_e hf
    subst hf
    exact r_vret C hr hlk hR hE hS dX4_addNumber_32
  · have hf := it_f hf c3
    refine lv_aload_n C.x C.b dX4_addNumber_12 rfl (lv_at hl 0 rfl) ?_
    refine r_getr C hR t_r0 fl_X4_9 (by decide) (nz_e g1) dX4_addNumber_13 (fun tq4 => ?_)
    refine lv_aload_n C.x C.b dX4_addNumber_16 rfl (lv_at hl 0 rfl) ?_
    refine r_geti C hR t_r0 fl_X4_21 rfl dX4_addNumber_17 ?_
    refine lv_iload_n C.x C.b dX4_addNumber_20 rfl (lv_at hl 1 rfl) ?_
    obtain ⟨g5, hf⟩ := gd_e hf
    refine r_iast C hR hS tg1 g5 dX4_addNumber_21 (fun H locs hR hS => ?_)
    obtain ⟨h6, e_h6⟩ : ∃ y, y = upI h (hpR h r0 0) (ix (hpI h r0 3)) x1 := ⟨_, rfl⟩
    rw [← e_h6] at hR
    have hf := lt_e hf e_h6
    have hE := eI e_h6 hE
    have t_r0 := tI e_h6 t_r0
    refine lv_aload_n C.x C.b dX4_addNumber_22 rfl (lv_at hl 0 rfl) ?_
    refine lv_dup C.x C.b dX4_addNumber_23 rfl ?_
    refine r_geti C hR t_r0 fl_X4_21 rfl dX4_addNumber_24 ?_
    refine lv_iconst (v := (1 : Int32)) C.x C.b dX4_addNumber_27 (by decide) ?_
    refine lv_iadd C.x C.b dX4_addNumber_28 ?_
    refine r_puti C hR hS t_r0 fl_X4_21 fp_X4_4_3 rfl dX4_addNumber_29 (fun H locs hR hS => ?_)
    obtain ⟨h7, e_h7⟩ : ∃ y, y = upI h6 r0 3 ((hpI h6 r0 3) + (1 : Int32)) := ⟨_, rfl⟩
    rw [← e_h7] at hR
    have hf := lt_e hf e_h7
    have hE := eI e_h7 hE
    have t_r0 := tI e_h7 t_r0
    have hf := so_e hf
    subst hf
    exact r_vret C hr hlk hR hE hS dX4_addNumber_32

def rm_X4_addSign : Room := { frames := 1, cells := 0, slots := 0, locals := 21 }
set_option maxRecDepth 100000 in
set_option maxHeartbeats 4000000 in
theorem k_X4_addSign {G : Gt} {l : Launch}  {h : Hp} {r0 : Nat} {x1 : Int32} {out : Hp} (t_r0 : hpT h r0 = (1, 4))  (hf : f_X4_addSign  h r0 x1 = some out) : Mt G l yX4_addSign cX4_addSign 2 (none) rm_X4_addSign [.ref (G.2.2 + r0), .int x1] h (none) out 0 0 0 := by
  refine r_met (by decide +kernel) (Nat.le_of_ble_eq_true rfl) ?_
  intro p e s m args below meth c ls C hr hlk hnm hR hS hl
  have hE : Ext h h := Ext.rf
  have hl : lv_has ls 2 [(0, .ref (G.2.2 + r0)), (1, .int x1)] := hl
  rw [f_X4_addSign] at hf
  refine lv_aload_n C.x C.b dX4_addSign_0 rfl (lv_at hl 0 rfl) ?_
  refine lv_iload_n C.x C.b dX4_addSign_1 rfl (lv_at hl 1 rfl) ?_
  refine lv_ineg C.x C.b dX4_addSign_2 ?_
  obtain ⟨q1, h_q1, hf⟩ := bd_e hf
  refine r_callV (As := [.int (-x1)]) (rest := []) C hR hS t_r0 rfl mk_X4_addNumber cl_X4_25 (k_X4_addNumber t_r0 h_q1) ⟨⟨Nat.le_of_ble_eq_true rfl, Nat.le_of_ble_eq_true rfl⟩, ⟨rfl, rfl⟩, Nat.le_of_ble_eq_true rfl, Nat.le_of_ble_eq_true rfl⟩ rfl hl.1 rfl (Nat.le_of_ble_eq_true rfl) dX4_addSign_3 (fun H locs hR hS hE1 z_q1 => ?_)
  have hE := hE.tr hE1
  have t_r0 := hE1.at t_r0 (by decide)
  have hf := so_e hf
  subst hf
  exact r_vret C hr hlk hR hE hS dX4_addSign_6

def rm_X5_write : Room := { frames := 2, cells := 0, slots := 0, locals := 42 }
set_option maxRecDepth 100000 in
set_option maxHeartbeats 4000000 in
theorem k_X5_write {G : Gt} {l : Launch}  {h : Hp} {r0 : Nat} {x1 : Int32} {out : Hp} (t_r0 : hpT h r0 = (1, 5))  (hf : f_X5_write  h r0 x1 = some out) : Mt G l yX5_write cX5_write 2 (none) rm_X5_write [.ref (G.2.2 + r0), .int x1] h (none) out 0 0 0 := by
  refine r_met (by decide +kernel) (Nat.le_of_ble_eq_true rfl) ?_
  intro p e s m args below meth c ls C hr hlk hnm hR hS hl
  have hE : Ext h h := Ext.rf
  have hl : lv_has ls 2 [(0, .ref (G.2.2 + r0)), (1, .int x1)] := hl
  rw [f_X5_write] at hf
  refine lv_aload_n C.x C.b dX5_write_0 rfl (lv_at hl 0 rfl) ?_
  by_cases c1 : hpR h r0 1 = 0
  · refine r_getn C hR t_r0 fl_X5_15 (by decide) c1 dX5_write_1 ?_
    refine lv_ifnullN (tgt := 15) C.x C.b dX5_write_4 (by decide) ?_
    have hf := it_t hf c1
    have hf := so_e hf
    subst hf
    exact r_vret C hr hlk hR hE hS dX5_write_15
  · refine r_getr C hR t_r0 fl_X5_15 (by decide) c1 dX5_write_1 (fun tc1 => ?_)
    refine lv_ifnull C.x C.b dX5_write_4 ?_
    have hf := it_f hf c1
    refine lv_aload_n C.x C.b dX5_write_7 rfl (lv_at hl 0 rfl) ?_
    obtain ⟨g2, hf⟩ := gd_e hf
    refine r_getr C hR t_r0 fl_X5_15 (by decide) (nz_e g2) dX5_write_8 (fun tq3 => ?_)
    have tg2 := okO tq3 rfl
    refine lv_iload_n C.x C.b dX5_write_11 rfl (lv_at hl 1 rfl) ?_
    obtain ⟨q4, h_q4, hf⟩ := bd_e hf
    refine r_callV (As := [.int x1]) (rest := []) C hR hS tg2 rfl mk_X4_addSign cl_X5_53 (k_X4_addSign tg2 h_q4) ⟨⟨Nat.le_of_ble_eq_true rfl, Nat.le_of_ble_eq_true rfl⟩, ⟨rfl, rfl⟩, Nat.le_of_ble_eq_true rfl, Nat.le_of_ble_eq_true rfl⟩ rfl hl.1 rfl (Nat.le_of_ble_eq_true rfl) dX5_write_12 (fun H locs hR hS hE1 z_q4 => ?_)
    have hE := hE.tr hE1
    have t_r0 := hE1.at t_r0 (by decide)
    have hf := so_e hf
    subst hf
    exact r_vret C hr hlk hR hE hS dX5_write_15

def rm_X5_number : Room := { frames := 2, cells := 0, slots := 0, locals := 41 }
def P_X5_number_56 (G : Gt) (l : Launch) (p : Program) (e : Env) (s : State) (m : MethodId) (args : Array Value) (below : List Frame) (meth : Method) (c : Code) (h0 : Hp) (out : Hp) (r0 : Nat) (k : Hp → Int32 → Option Hp) : Prop := ∀ (H : Heap) (locs : List Loc) (ls : Array Slot) (h : Hp) (x1 : Int32), k h x1 = some out → Ext h0 h → Rel G h H → va_S (AA G.2.2) s.heap H locs → hpT h r0 = (1, 5) → lv_has ls 3 [(0, .ref (G.2.2 + r0)), (1, .int x1)] → W p l e rm_X5_number s m args below meth c H locs 0 0 (MQ below (Qm G h0 out (none) 0) args s 0 0 (AA G.2.2)) (F0 m 56 ls [])
def P_X5_number_4 (G : Gt) (l : Launch) (p : Program) (e : Env) (s : State) (m : MethodId) (args : Array Value) (below : List Frame) (meth : Method) (c : Code) (h0 : Hp) (out : Hp) (r0 : Nat) (k : Hp → Int32 → Int32 → Option Hp) : Prop := ∀ (H : Heap) (locs : List Loc) (ls : Array Slot) (h : Hp) (x1 : Int32) (x2 : Int32), k h x1 x2 = some out → Ext h0 h → Rel G h H → va_S (AA G.2.2) s.heap H locs → hpT h r0 = (1, 5) → lv_has ls 3 [(0, .ref (G.2.2 + r0)), (1, .int x1), (2, .int x2)] → W p l e rm_X5_number s m args below meth c H locs 0 0 (MQ below (Qm G h0 out (none) 0) args s 0 0 (AA G.2.2)) (F0 m 4 ls [])
set_option maxRecDepth 100000 in
set_option maxHeartbeats 4000000 in
theorem w_X5_number_56 {G : Gt} {l : Launch} {p : Program} {e : Env} {s : State} {m : MethodId} {args : Array Value} {below : List Frame} {meth : Method} {c : Code}  {h0 : Hp} {out : Hp} {r0 : Nat}  (C : Cx G p m c cX5_number 3 s args RX5) (hr : meth.sig.returnType = none) (hlk : meth.locks = false)   : P_X5_number_56 G l p e s m args below meth c h0 out r0 (f_X5_number_56 r0) := by
  intro H locs ls h x1 hf hE hR hS t_r0 hl
  rw [f_X5_number_56] at hf
  refine lv_aload_n C.x C.b dX5_number_56 rfl (lv_at hl 0 rfl) ?_
  by_cases c10 : hpR h r0 1 = 0
  · refine r_getn C hR t_r0 fl_X5_15 (by decide) c10 dX5_number_57 ?_
    refine lv_ifnullN (tgt := 71) C.x C.b dX5_number_60 (by decide) ?_
    have hf := it_t hf c10
    have hf := so_e hf
    subst hf
    exact r_vret C hr hlk hR hE hS dX5_number_71
  · refine r_getr C hR t_r0 fl_X5_15 (by decide) c10 dX5_number_57 (fun tc10 => ?_)
    refine lv_ifnull C.x C.b dX5_number_60 ?_
    have hf := it_f hf c10
    refine lv_aload_n C.x C.b dX5_number_63 rfl (lv_at hl 0 rfl) ?_
    obtain ⟨g11, hf⟩ := gd_e hf
    refine r_getr C hR t_r0 fl_X5_15 (by decide) (nz_e g11) dX5_number_64 (fun tq12 => ?_)
    have tg11 := okO tq12 rfl
    refine lv_iload_n C.x C.b dX5_number_67 rfl (lv_at hl 1 rfl) ?_
    obtain ⟨q13, h_q13, hf⟩ := bd_e hf
    refine r_callV (As := [.int x1]) (rest := []) C hR hS tg11 rfl mk_X4_addNumber cl_X5_85 (k_X4_addNumber tg11 h_q13) ⟨⟨Nat.le_of_ble_eq_true rfl, Nat.le_of_ble_eq_true rfl⟩, ⟨rfl, rfl⟩, Nat.le_of_ble_eq_true rfl, Nat.le_of_ble_eq_true rfl⟩ rfl hl.1 rfl (Nat.le_of_ble_eq_true rfl) dX5_number_68 (fun H locs hR hS hE1 z_q13 => ?_)
    have hE := hE.tr hE1
    have t_r0 := hE1.at t_r0 (by decide)
    have hf := so_e hf
    subst hf
    exact r_vret C hr hlk hR hE hS dX5_number_71
set_option maxRecDepth 100000 in
set_option maxHeartbeats 4000000 in
theorem w_X5_number_4 {G : Gt} {l : Launch} {p : Program} {e : Env} {s : State} {m : MethodId} {args : Array Value} {below : List Frame} {meth : Method} {c : Code}  {h0 : Hp} {out : Hp} {r0 : Nat}  (C : Cx G p m c cX5_number 3 s args RX5) (hr : meth.sig.returnType = none) (hlk : meth.locks = false)   (n : Nat) : P_X5_number_4 G l p e s m args below meth c h0 out r0 (f_X5_number_4 r0 n) := by
  induction n with
  | zero => intro H locs ls h x1 x2 hf hE hR hS t_r0 hl; cases hf
  | succ n hk4 =>
    intro H locs ls h x1 x2 hf hE hR hS t_r0 hl
    rw [f_X5_number_4] at hf
    obtain ⟨k4, e_k4⟩ : ∃ y, y = f_X5_number_4 r0 n := ⟨_, rfl⟩
    have hf := lt_e hf e_k4
    rw [← e_k4] at hk4
    refine lv_iload_n C.x C.b dX5_number_4 rfl (lv_at hl 2 rfl) ?_
    refine lv_iconst (v := (3 : Int32)) C.x C.b dX5_number_5 (by decide) ?_
    refine lv_icmp_ge (tgt := 56) C.x C.b dX5_number_6 (by decide) (fun c1 => ?_) (fun c1 => ?_)
    · have hf := it_t hf c1
      exact w_X5_number_56 C hr hlk _ _ _ _ _ hf hE hR hS t_r0 (lv_sub hl [0, 1] rfl)
    · have hf := it_f hf c1
      refine lv_aload_n C.x C.b dX5_number_9 rfl (lv_at hl 0 rfl) ?_
      obtain ⟨q2, h_q2, hf⟩ := bd_e hf
      refine r_callV (As := []) (rest := []) C hR hS t_r0 rfl mk_X5_next cl_X5_60 (k_X5_next t_r0 h_q2) ⟨⟨Nat.le_of_ble_eq_true rfl, Nat.le_of_ble_eq_true rfl⟩, ⟨rfl, rfl⟩, Nat.le_of_ble_eq_true rfl, Nat.le_of_ble_eq_true rfl⟩ rfl hl.1 rfl (Nat.le_of_ble_eq_true rfl) dX5_number_10 (fun H locs hR hS hE1 z_q2 => ?_)
      refine lv_bipush (v := (48 : Int32)) C.x C.b dX5_number_13 (by decide) ?_
      refine lv_icmp_lt (tgt := 56) C.x C.b dX5_number_15 (by decide) (fun c3 => ?_) (fun c3 => ?_)
      · have hf := it_t hf c3
        exact w_X5_number_56 C hr hlk _ _ _ _ _ hf hE hR hS t_r0 (lv_sub hl [0, 1] rfl)
      · have hf := it_f hf c3
        refine lv_aload_n C.x C.b dX5_number_18 rfl (lv_at hl 0 rfl) ?_
        obtain ⟨q4, h_q4, hf⟩ := bd_e hf
        refine r_callV (As := []) (rest := []) C hR hS t_r0 rfl mk_X5_next cl_X5_60 (k_X5_next t_r0 h_q4) ⟨⟨Nat.le_of_ble_eq_true rfl, Nat.le_of_ble_eq_true rfl⟩, ⟨rfl, rfl⟩, Nat.le_of_ble_eq_true rfl, Nat.le_of_ble_eq_true rfl⟩ rfl hl.1 rfl (Nat.le_of_ble_eq_true rfl) dX5_number_19 (fun H locs hR hS hE1 z_q4 => ?_)
        refine lv_bipush (v := (57 : Int32)) C.x C.b dX5_number_22 (by decide) ?_
        refine lv_icmp_gt (tgt := 56) C.x C.b dX5_number_24 (by decide) (fun c5 => ?_) (fun c5 => ?_)
        · have hf := it_t hf c5
          exact w_X5_number_56 C hr hlk _ _ _ _ _ hf hE hR hS t_r0 (lv_sub hl [0, 1] rfl)
        · have hf := it_f hf c5
          refine lv_iload_n C.x C.b dX5_number_27 rfl (lv_at hl 1 rfl) ?_
          refine lv_bipush (v := (10 : Int32)) C.x C.b dX5_number_28 (by decide) ?_
          refine lv_imul C.x C.b dX5_number_30 ?_
          refine lv_aload_n C.x C.b dX5_number_31 rfl (lv_at hl 0 rfl) ?_
          obtain ⟨q6, h_q6, hf⟩ := bd_e hf
          refine r_callV (As := []) (rest := [.int (x1 * (10 : Int32))]) C hR hS t_r0 rfl mk_X5_next cl_X5_60 (k_X5_next t_r0 h_q6) ⟨⟨Nat.le_of_ble_eq_true rfl, Nat.le_of_ble_eq_true rfl⟩, ⟨rfl, rfl⟩, Nat.le_of_ble_eq_true rfl, Nat.le_of_ble_eq_true rfl⟩ rfl hl.1 rfl (Nat.le_of_ble_eq_true rfl) dX5_number_32 (fun H locs hR hS hE1 z_q6 => ?_)
          refine lv_iadd C.x C.b dX5_number_35 ?_
          refine lv_bipush (v := (48 : Int32)) C.x C.b dX5_number_36 (by decide) ?_
          refine lv_isub C.x C.b dX5_number_38 ?_
          refine lv_topi (fun v7 e_v7 => ?_)
          have hf := lt_e hf e_v7
          refine lv_istore_n (lv' := [(1, .int v7), (0, .ref (G.2.2 + r0)), (2, .int x2)]) C.x C.b dX5_number_39 rfl hl (by decide) rfl (fun ls hl => ?_)
          refine lv_aload_n C.x C.b dX5_number_40 rfl (lv_at hl 1 rfl) ?_
          refine lv_dup C.x C.b dX5_number_41 rfl ?_
          refine r_geti C hR t_r0 fl_X5_19 rfl dX5_number_42 ?_
          refine lv_iconst (v := (1 : Int32)) C.x C.b dX5_number_45 (by decide) ?_
          refine lv_iadd C.x C.b dX5_number_46 ?_
          refine r_puti C hR hS t_r0 fl_X5_19 fp_X5_5_2 rfl dX5_number_47 (fun H locs hR hS => ?_)
          obtain ⟨h8, e_h8⟩ : ∃ y, y = upI h r0 2 ((hpI h r0 2) + (1 : Int32)) := ⟨_, rfl⟩
          rw [← e_h8] at hR
          have hf := lt_e hf e_h8
          have hE := eI e_h8 hE
          have t_r0 := tI e_h8 t_r0
          obtain ⟨v9, e_v9⟩ : ∃ y : Int32, y = x2 + (1 : Int32) := ⟨_, rfl⟩
          have hf := lt_e hf e_v9
          refine lv_iinc (v := v9) (lv' := [(2, .int v9), (1, .int v7), (0, .ref (G.2.2 + r0))]) C.x C.b dX5_number_50 hl (k := 2) rfl (by rw [e_v9]; rfl) (by decide) rfl (fun ls hl => ?_)
          refine lv_goto (tgt := 4) C.x C.b dX5_number_53 (by decide) ?_
          exact hk4 _ _ _ _ _ _ hf hE hR hS t_r0 (lv_sub hl [2, 1, 0] rfl)
set_option maxRecDepth 100000 in
set_option maxHeartbeats 4000000 in
theorem k_X5_number {G : Gt} {l : Launch}  {h : Hp} {r0 : Nat} {out : Hp} (t_r0 : hpT h r0 = (1, 5))  (hf : f_X5_number  h r0 = some out) : Mt G l yX5_number cX5_number 3 (none) rm_X5_number [.ref (G.2.2 + r0)] h (none) out 0 0 0 := by
  refine r_met (by decide +kernel) (Nat.le_of_ble_eq_true rfl) ?_
  intro p e s m args below meth c ls C hr hlk hnm hR hS hl
  have hE : Ext h h := Ext.rf
  have hl : lv_has ls 3 [(0, .ref (G.2.2 + r0))] := hl
  rw [f_X5_number] at hf
  refine lv_iconst (v := (0 : Int32)) C.x C.b dX5_number_0 (by decide) ?_
  refine lv_istore_n (lv' := [(1, .int (0 : Int32)), (0, .ref (G.2.2 + r0))]) C.x C.b dX5_number_1 rfl hl (by decide) rfl (fun ls hl => ?_)
  refine lv_iconst (v := (0 : Int32)) C.x C.b dX5_number_2 (by decide) ?_
  refine lv_istore_n (lv' := [(2, .int (0 : Int32)), (1, .int (0 : Int32)), (0, .ref (G.2.2 + r0))]) C.x C.b dX5_number_3 rfl hl (by decide) rfl (fun ls hl => ?_)
  exact w_X5_number_4 C hr hlk FU _ _ _ _ _ _ hf hE hR hS t_r0 (lv_sub hl [2, 1, 0] rfl)

def rm_X5_isLetter : Room := { frames := 0, cells := 0, slots := 0, locals := 0 }
set_option maxRecDepth 100000 in
set_option maxHeartbeats 4000000 in
theorem k_X5_isLetter {G : Gt} {l : Launch}  {h : Hp} {x0 : Int32} {out : Int32}   (hf : f_X5_isLetter  h x0 = some out) : Mt G l yX5_isLetter cX5_isLetter 1 (some .boolean) rm_X5_isLetter [.int x0] h (some (.int out)) h 1 0 0 := by
  refine r_met (by decide +kernel) (Nat.le_of_ble_eq_true rfl) ?_
  intro p e s m args below meth c ls C hr hlk hnm hR hS hl
  have hl : lv_has ls 1 [(0, .int x0)] := hl
  rw [f_X5_isLetter] at hf
  refine lv_iload_n C.x C.b dX5_isLetter_0 rfl (lv_at hl 0 rfl) ?_
  by_cases c1_0 : x0 = (97 : Int32)
  · have hf := it_t hf c1_0
    refine lv_tableIn (tgt := 108) C.x C.b dX5_isLetter_1 (by rw [c1_0]; decide) (by rw [c1_0]; decide) (by rw [c1_0]; rfl) (by decide) ?_
    refine lv_iconst (v := (1 : Int32)) C.x C.b dX5_isLetter_108 (by decide) ?_
    have hf := so_e hf
    subst hf
    exact r_zret C hr hlk hR Ext.rf hS z_1 dX5_isLetter_109
  have hf := it_f hf c1_0
  by_cases c1_1 : x0 = (98 : Int32)
  · have hf := it_t hf c1_1
    refine lv_tableIn (tgt := 110) C.x C.b dX5_isLetter_1 (by rw [c1_1]; decide) (by rw [c1_1]; decide) (by rw [c1_1]; rfl) (by decide) ?_
    refine lv_iconst (v := (0 : Int32)) C.x C.b dX5_isLetter_110 (by decide) ?_
    have hf := so_e hf
    subst hf
    exact r_zret C hr hlk hR Ext.rf hS z_0 dX5_isLetter_111
  have hf := it_f hf c1_1
  by_cases c1_2 : x0 = (99 : Int32)
  · have hf := it_t hf c1_2
    refine lv_tableIn (tgt := 108) C.x C.b dX5_isLetter_1 (by rw [c1_2]; decide) (by rw [c1_2]; decide) (by rw [c1_2]; rfl) (by decide) ?_
    refine lv_iconst (v := (1 : Int32)) C.x C.b dX5_isLetter_108 (by decide) ?_
    have hf := so_e hf
    subst hf
    exact r_zret C hr hlk hR Ext.rf hS z_1 dX5_isLetter_109
  have hf := it_f hf c1_2
  by_cases c1_3 : x0 = (100 : Int32)
  · have hf := it_t hf c1_3
    refine lv_tableIn (tgt := 110) C.x C.b dX5_isLetter_1 (by rw [c1_3]; decide) (by rw [c1_3]; decide) (by rw [c1_3]; rfl) (by decide) ?_
    refine lv_iconst (v := (0 : Int32)) C.x C.b dX5_isLetter_110 (by decide) ?_
    have hf := so_e hf
    subst hf
    exact r_zret C hr hlk hR Ext.rf hS z_0 dX5_isLetter_111
  have hf := it_f hf c1_3
  by_cases c1_4 : x0 = (101 : Int32)
  · have hf := it_t hf c1_4
    refine lv_tableIn (tgt := 110) C.x C.b dX5_isLetter_1 (by rw [c1_4]; decide) (by rw [c1_4]; decide) (by rw [c1_4]; rfl) (by decide) ?_
    refine lv_iconst (v := (0 : Int32)) C.x C.b dX5_isLetter_110 (by decide) ?_
    have hf := so_e hf
    subst hf
    exact r_zret C hr hlk hR Ext.rf hS z_0 dX5_isLetter_111
  have hf := it_f hf c1_4
  by_cases c1_5 : x0 = (102 : Int32)
  · have hf := it_t hf c1_5
    refine lv_tableIn (tgt := 110) C.x C.b dX5_isLetter_1 (by rw [c1_5]; decide) (by rw [c1_5]; decide) (by rw [c1_5]; rfl) (by decide) ?_
    refine lv_iconst (v := (0 : Int32)) C.x C.b dX5_isLetter_110 (by decide) ?_
    have hf := so_e hf
    subst hf
    exact r_zret C hr hlk hR Ext.rf hS z_0 dX5_isLetter_111
  have hf := it_f hf c1_5
  by_cases c1_6 : x0 = (103 : Int32)
  · have hf := it_t hf c1_6
    refine lv_tableIn (tgt := 110) C.x C.b dX5_isLetter_1 (by rw [c1_6]; decide) (by rw [c1_6]; decide) (by rw [c1_6]; rfl) (by decide) ?_
    refine lv_iconst (v := (0 : Int32)) C.x C.b dX5_isLetter_110 (by decide) ?_
    have hf := so_e hf
    subst hf
    exact r_zret C hr hlk hR Ext.rf hS z_0 dX5_isLetter_111
  have hf := it_f hf c1_6
  by_cases c1_7 : x0 = (104 : Int32)
  · have hf := it_t hf c1_7
    refine lv_tableIn (tgt := 108) C.x C.b dX5_isLetter_1 (by rw [c1_7]; decide) (by rw [c1_7]; decide) (by rw [c1_7]; rfl) (by decide) ?_
    refine lv_iconst (v := (1 : Int32)) C.x C.b dX5_isLetter_108 (by decide) ?_
    have hf := so_e hf
    subst hf
    exact r_zret C hr hlk hR Ext.rf hS z_1 dX5_isLetter_109
  have hf := it_f hf c1_7
  by_cases c1_8 : x0 = (105 : Int32)
  · have hf := it_t hf c1_8
    refine lv_tableIn (tgt := 110) C.x C.b dX5_isLetter_1 (by rw [c1_8]; decide) (by rw [c1_8]; decide) (by rw [c1_8]; rfl) (by decide) ?_
    refine lv_iconst (v := (0 : Int32)) C.x C.b dX5_isLetter_110 (by decide) ?_
    have hf := so_e hf
    subst hf
    exact r_zret C hr hlk hR Ext.rf hS z_0 dX5_isLetter_111
  have hf := it_f hf c1_8
  by_cases c1_9 : x0 = (106 : Int32)
  · have hf := it_t hf c1_9
    refine lv_tableIn (tgt := 110) C.x C.b dX5_isLetter_1 (by rw [c1_9]; decide) (by rw [c1_9]; decide) (by rw [c1_9]; rfl) (by decide) ?_
    refine lv_iconst (v := (0 : Int32)) C.x C.b dX5_isLetter_110 (by decide) ?_
    have hf := so_e hf
    subst hf
    exact r_zret C hr hlk hR Ext.rf hS z_0 dX5_isLetter_111
  have hf := it_f hf c1_9
  by_cases c1_10 : x0 = (107 : Int32)
  · have hf := it_t hf c1_10
    refine lv_tableIn (tgt := 110) C.x C.b dX5_isLetter_1 (by rw [c1_10]; decide) (by rw [c1_10]; decide) (by rw [c1_10]; rfl) (by decide) ?_
    refine lv_iconst (v := (0 : Int32)) C.x C.b dX5_isLetter_110 (by decide) ?_
    have hf := so_e hf
    subst hf
    exact r_zret C hr hlk hR Ext.rf hS z_0 dX5_isLetter_111
  have hf := it_f hf c1_10
  by_cases c1_11 : x0 = (108 : Int32)
  · have hf := it_t hf c1_11
    refine lv_tableIn (tgt := 110) C.x C.b dX5_isLetter_1 (by rw [c1_11]; decide) (by rw [c1_11]; decide) (by rw [c1_11]; rfl) (by decide) ?_
    refine lv_iconst (v := (0 : Int32)) C.x C.b dX5_isLetter_110 (by decide) ?_
    have hf := so_e hf
    subst hf
    exact r_zret C hr hlk hR Ext.rf hS z_0 dX5_isLetter_111
  have hf := it_f hf c1_11
  by_cases c1_12 : x0 = (109 : Int32)
  · have hf := it_t hf c1_12
    refine lv_tableIn (tgt := 110) C.x C.b dX5_isLetter_1 (by rw [c1_12]; decide) (by rw [c1_12]; decide) (by rw [c1_12]; rfl) (by decide) ?_
    refine lv_iconst (v := (0 : Int32)) C.x C.b dX5_isLetter_110 (by decide) ?_
    have hf := so_e hf
    subst hf
    exact r_zret C hr hlk hR Ext.rf hS z_0 dX5_isLetter_111
  have hf := it_f hf c1_12
  by_cases c1_13 : x0 = (110 : Int32)
  · have hf := it_t hf c1_13
    refine lv_tableIn (tgt := 108) C.x C.b dX5_isLetter_1 (by rw [c1_13]; decide) (by rw [c1_13]; decide) (by rw [c1_13]; rfl) (by decide) ?_
    refine lv_iconst (v := (1 : Int32)) C.x C.b dX5_isLetter_108 (by decide) ?_
    have hf := so_e hf
    subst hf
    exact r_zret C hr hlk hR Ext.rf hS z_1 dX5_isLetter_109
  have hf := it_f hf c1_13
  by_cases c1_14 : x0 = (111 : Int32)
  · have hf := it_t hf c1_14
    refine lv_tableIn (tgt := 108) C.x C.b dX5_isLetter_1 (by rw [c1_14]; decide) (by rw [c1_14]; decide) (by rw [c1_14]; rfl) (by decide) ?_
    refine lv_iconst (v := (1 : Int32)) C.x C.b dX5_isLetter_108 (by decide) ?_
    have hf := so_e hf
    subst hf
    exact r_zret C hr hlk hR Ext.rf hS z_1 dX5_isLetter_109
  have hf := it_f hf c1_14
  by_cases c1_15 : x0 = (112 : Int32)
  · have hf := it_t hf c1_15
    refine lv_tableIn (tgt := 110) C.x C.b dX5_isLetter_1 (by rw [c1_15]; decide) (by rw [c1_15]; decide) (by rw [c1_15]; rfl) (by decide) ?_
    refine lv_iconst (v := (0 : Int32)) C.x C.b dX5_isLetter_110 (by decide) ?_
    have hf := so_e hf
    subst hf
    exact r_zret C hr hlk hR Ext.rf hS z_0 dX5_isLetter_111
  have hf := it_f hf c1_15
  by_cases c1_16 : x0 = (113 : Int32)
  · have hf := it_t hf c1_16
    refine lv_tableIn (tgt := 110) C.x C.b dX5_isLetter_1 (by rw [c1_16]; decide) (by rw [c1_16]; decide) (by rw [c1_16]; rfl) (by decide) ?_
    refine lv_iconst (v := (0 : Int32)) C.x C.b dX5_isLetter_110 (by decide) ?_
    have hf := so_e hf
    subst hf
    exact r_zret C hr hlk hR Ext.rf hS z_0 dX5_isLetter_111
  have hf := it_f hf c1_16
  by_cases c1_17 : x0 = (114 : Int32)
  · have hf := it_t hf c1_17
    refine lv_tableIn (tgt := 108) C.x C.b dX5_isLetter_1 (by rw [c1_17]; decide) (by rw [c1_17]; decide) (by rw [c1_17]; rfl) (by decide) ?_
    refine lv_iconst (v := (1 : Int32)) C.x C.b dX5_isLetter_108 (by decide) ?_
    have hf := so_e hf
    subst hf
    exact r_zret C hr hlk hR Ext.rf hS z_1 dX5_isLetter_109
  have hf := it_f hf c1_17
  by_cases c1_18 : x0 = (115 : Int32)
  · have hf := it_t hf c1_18
    refine lv_tableIn (tgt := 108) C.x C.b dX5_isLetter_1 (by rw [c1_18]; decide) (by rw [c1_18]; decide) (by rw [c1_18]; rfl) (by decide) ?_
    refine lv_iconst (v := (1 : Int32)) C.x C.b dX5_isLetter_108 (by decide) ?_
    have hf := so_e hf
    subst hf
    exact r_zret C hr hlk hR Ext.rf hS z_1 dX5_isLetter_109
  have hf := it_f hf c1_18
  by_cases c1_19 : x0 = (116 : Int32)
  · have hf := it_t hf c1_19
    refine lv_tableIn (tgt := 110) C.x C.b dX5_isLetter_1 (by rw [c1_19]; decide) (by rw [c1_19]; decide) (by rw [c1_19]; rfl) (by decide) ?_
    refine lv_iconst (v := (0 : Int32)) C.x C.b dX5_isLetter_110 (by decide) ?_
    have hf := so_e hf
    subst hf
    exact r_zret C hr hlk hR Ext.rf hS z_0 dX5_isLetter_111
  have hf := it_f hf c1_19
  by_cases c1_20 : x0 = (117 : Int32)
  · have hf := it_t hf c1_20
    refine lv_tableIn (tgt := 110) C.x C.b dX5_isLetter_1 (by rw [c1_20]; decide) (by rw [c1_20]; decide) (by rw [c1_20]; rfl) (by decide) ?_
    refine lv_iconst (v := (0 : Int32)) C.x C.b dX5_isLetter_110 (by decide) ?_
    have hf := so_e hf
    subst hf
    exact r_zret C hr hlk hR Ext.rf hS z_0 dX5_isLetter_111
  have hf := it_f hf c1_20
  by_cases c1_21 : x0 = (118 : Int32)
  · have hf := it_t hf c1_21
    refine lv_tableIn (tgt := 110) C.x C.b dX5_isLetter_1 (by rw [c1_21]; decide) (by rw [c1_21]; decide) (by rw [c1_21]; rfl) (by decide) ?_
    refine lv_iconst (v := (0 : Int32)) C.x C.b dX5_isLetter_110 (by decide) ?_
    have hf := so_e hf
    subst hf
    exact r_zret C hr hlk hR Ext.rf hS z_0 dX5_isLetter_111
  have hf := it_f hf c1_21
  by_cases c1_22 : x0 = (119 : Int32)
  · have hf := it_t hf c1_22
    refine lv_tableIn (tgt := 108) C.x C.b dX5_isLetter_1 (by rw [c1_22]; decide) (by rw [c1_22]; decide) (by rw [c1_22]; rfl) (by decide) ?_
    refine lv_iconst (v := (1 : Int32)) C.x C.b dX5_isLetter_108 (by decide) ?_
    have hf := so_e hf
    subst hf
    exact r_zret C hr hlk hR Ext.rf hS z_1 dX5_isLetter_109
  have hf := it_f hf c1_22
  refine lv_tableOut (tgt := 110) C.x C.b dX5_isLetter_1 (tb_out 23 (by decide) (fun j hj => match j, hj with | 0, _ => fun q => c1_0 (q.trans (by decide)) | 1, _ => fun q => c1_1 (q.trans (by decide)) | 2, _ => fun q => c1_2 (q.trans (by decide)) | 3, _ => fun q => c1_3 (q.trans (by decide)) | 4, _ => fun q => c1_4 (q.trans (by decide)) | 5, _ => fun q => c1_5 (q.trans (by decide)) | 6, _ => fun q => c1_6 (q.trans (by decide)) | 7, _ => fun q => c1_7 (q.trans (by decide)) | 8, _ => fun q => c1_8 (q.trans (by decide)) | 9, _ => fun q => c1_9 (q.trans (by decide)) | 10, _ => fun q => c1_10 (q.trans (by decide)) | 11, _ => fun q => c1_11 (q.trans (by decide)) | 12, _ => fun q => c1_12 (q.trans (by decide)) | 13, _ => fun q => c1_13 (q.trans (by decide)) | 14, _ => fun q => c1_14 (q.trans (by decide)) | 15, _ => fun q => c1_15 (q.trans (by decide)) | 16, _ => fun q => c1_16 (q.trans (by decide)) | 17, _ => fun q => c1_17 (q.trans (by decide)) | 18, _ => fun q => c1_18 (q.trans (by decide)) | 19, _ => fun q => c1_19 (q.trans (by decide)) | 20, _ => fun q => c1_20 (q.trans (by decide)) | 21, _ => fun q => c1_21 (q.trans (by decide)) | 22, _ => fun q => c1_22 (q.trans (by decide)) | n + 23, hn => absurd hn (by omega))) (by decide) ?_
  refine lv_iconst (v := (0 : Int32)) C.x C.b dX5_isLetter_110 (by decide) ?_
  have hf := so_e hf
  subst hf
  exact r_zret C hr hlk hR Ext.rf hS z_0 dX5_isLetter_111

def rmS_A (d : Nat) : Room := { frames := 4 + d, cells := 0, slots := 0, locals := 64 + d * 23 }
set_option maxRecDepth 100000 in
set_option maxHeartbeats 4000000 in
theorem ko_X5_expression {G : Gt} {l : Launch} {d : Nat} {E_X5_sum : Hp → Nat → Int32 → Option (Int32 × Hp)} (hE_X5_sum : ∀ {h : Hp} {r0 : Nat} {x1 : Int32} {out : (Int32 × Hp)}, hpT h r0 = (1, 5) → E_X5_sum h r0 x1 = some out → Mt G l yX5_sum cX5_sum 4 (some .boolean) (rmS_A d) [.ref (G.2.2 + r0), .int x1] h (some (.int out.1)) out.2 1 0 0) {h : Hp} {r0 : Nat} {x1 : Int32} {out : (Int32 × Hp)} (t_r0 : hpT h r0 = (1, 5))  (hf : fo_X5_expression E_X5_sum h r0 x1 = some out) : Mt G l yX5_expression cX5_expression 3 (some .boolean) (rmS_A (d + 1)) [.ref (G.2.2 + r0), .int x1] h (some (.int out.1)) out.2 1 0 0 := by
  refine r_met (by decide +kernel) (Nat.le_of_ble_eq_true rfl) ?_
  intro p e s m args below meth c ls C hr hlk hnm hR hS hl
  have hE : Ext h h := Ext.rf
  have hl : lv_has ls 3 [(0, .ref (G.2.2 + r0)), (1, .int x1)] := hl
  rw [fo_X5_expression] at hf
  refine lv_aload_n C.x C.b dX5_expression_0 rfl (lv_at hl 0 rfl) ?_
  refine lv_iload_n C.x C.b dX5_expression_1 rfl (lv_at hl 1 rfl) ?_
  obtain ⟨q1, h_q1, hf⟩ := bd_e hf
  refine r_callV (As := [.int x1]) (rest := []) C hR hS t_r0 rfl mk_X5_sum cl_X5_57 (hE_X5_sum t_r0 h_q1) ⟨⟨by simp only [rmS_A, rmS_A] <;> omega, by simp only [rmS_A, rmS_A] <;> omega⟩, ⟨rfl, rfl⟩, by simp only [rmS_A] <;> omega, by simp only [rmS_A] <;> omega⟩ rfl hl.1 rfl (Nat.le_of_ble_eq_true rfl) dX5_expression_2 (fun H locs hR hS hE1 z_q1 => ?_)
  have hE := hE.tr hE1
  have t_r0 := hE1.at t_r0 (by decide)
  have z_q1 := z_q1 _ rfl
  refine lv_if_ne (tgt := 10) C.x C.b dX5_expression_5 (by decide) (fun c2 => ?_) (fun c2 => ?_)
  · have hf := it_f hf c2
    refine lv_aload_n C.x C.b dX5_expression_10 rfl (lv_at hl 0 rfl) ?_
    obtain ⟨q3, h_q3, hf⟩ := bd_e hf
    refine r_callV (As := []) (rest := []) C hR hS t_r0 rfl mk_X5_next cl_X5_60 (k_X5_next t_r0 h_q3) ⟨⟨by simp only [rm_X5_next, rmS_A] <;> omega, by simp only [rm_X5_next, rmS_A] <;> omega⟩, ⟨rfl, rfl⟩, by simp only [rmS_A] <;> omega, by simp only [rmS_A] <;> omega⟩ rfl hl.1 rfl (Nat.le_of_ble_eq_true rfl) dX5_expression_11 (fun H locs hR hS hE1 z_q3 => ?_)
    refine lv_istore_n (lv' := [(2, .int q3), (0, .ref (G.2.2 + r0)), (1, .int x1)]) C.x C.b dX5_expression_14 rfl hl (by decide) rfl (fun ls hl => ?_)
    refine lv_iload_n C.x C.b dX5_expression_15 rfl (lv_at hl 0 rfl) ?_
    obtain ⟨q4, h_q4, hf⟩ := bd_e hf
    refine r_callS (As := [.int q3]) (rest := []) C hR hS mk_X4_isComparison cl_X5_64 (k_X4_isComparison h_q4) ⟨⟨by simp only [rm_X4_isComparison, rmS_A] <;> omega, by simp only [rm_X4_isComparison, rmS_A] <;> omega⟩, ⟨rfl, rfl⟩, by simp only [rmS_A] <;> omega, by simp only [rmS_A] <;> omega⟩ rfl hl.1 rfl (Nat.le_of_ble_eq_true rfl) dX5_expression_16 (fun H locs hR hS hE1 z_q4 => ?_)
    have z_q4 := z_q4 _ rfl
    refine lv_if_ne (tgt := 24) C.x C.b dX5_expression_19 (by decide) (fun c5 => ?_) (fun c5 => ?_)
    · have hf := it_f hf c5
      refine lv_aload_n C.x C.b dX5_expression_24 rfl (lv_at hl 1 rfl) ?_
      refine lv_dup C.x C.b dX5_expression_25 rfl ?_
      refine r_geti C hR t_r0 fl_X5_19 rfl dX5_expression_26 ?_
      refine lv_iconst (v := (1 : Int32)) C.x C.b dX5_expression_29 (by decide) ?_
      refine lv_iadd C.x C.b dX5_expression_30 ?_
      refine r_puti C hR hS t_r0 fl_X5_19 fp_X5_5_2 rfl dX5_expression_31 (fun H locs hR hS => ?_)
      obtain ⟨h6, e_h6⟩ : ∃ y, y = upI q1.2 r0 2 ((hpI q1.2 r0 2) + (1 : Int32)) := ⟨_, rfl⟩
      rw [← e_h6] at hR
      have hf := lt_e hf e_h6
      have hE := eI e_h6 hE
      have t_r0 := tI e_h6 t_r0
      refine lv_aload_n C.x C.b dX5_expression_34 rfl (lv_at hl 1 rfl) ?_
      refine lv_iload_n C.x C.b dX5_expression_35 rfl (lv_at hl 2 rfl) ?_
      obtain ⟨q7, h_q7, hf⟩ := bd_e hf
      refine r_callV (As := [.int x1]) (rest := []) C hR hS t_r0 rfl mk_X5_sum cl_X5_57 (hE_X5_sum t_r0 h_q7) ⟨⟨by simp only [rmS_A, rmS_A] <;> omega, by simp only [rmS_A, rmS_A] <;> omega⟩, ⟨rfl, rfl⟩, by simp only [rmS_A] <;> omega, by simp only [rmS_A] <;> omega⟩ rfl hl.1 rfl (Nat.le_of_ble_eq_true rfl) dX5_expression_36 (fun H locs hR hS hE1 z_q7 => ?_)
      have hE := hE.tr hE1
      have t_r0 := hE1.at t_r0 (by decide)
      have z_q7 := z_q7 _ rfl
      refine lv_if_ne (tgt := 44) C.x C.b dX5_expression_39 (by decide) (fun c8 => ?_) (fun c8 => ?_)
      · have hf := it_f hf c8
        refine lv_aload_n C.x C.b dX5_expression_44 rfl (lv_at hl 1 rfl) ?_
        refine lv_iload_n C.x C.b dX5_expression_45 rfl (lv_at hl 0 rfl) ?_
        obtain ⟨q9, h_q9, hf⟩ := bd_e hf
        refine r_callV (As := [.int q3]) (rest := []) C hR hS t_r0 rfl mk_X5_write cl_X5_67 (k_X5_write t_r0 h_q9) ⟨⟨by simp only [rm_X5_write, rmS_A] <;> omega, by simp only [rm_X5_write, rmS_A] <;> omega⟩, ⟨rfl, rfl⟩, by simp only [rmS_A] <;> omega, by simp only [rmS_A] <;> omega⟩ rfl hl.1 rfl (Nat.le_of_ble_eq_true rfl) dX5_expression_46 (fun H locs hR hS hE1 z_q9 => ?_)
        have hE := hE.tr hE1
        have t_r0 := hE1.at t_r0 (by decide)
        refine lv_iconst (v := (1 : Int32)) C.x C.b dX5_expression_49 (by decide) ?_
        have hf := so_e hf
        subst hf
        exact r_zret C hr hlk hR hE hS z_1 dX5_expression_50
      · have hf := it_t hf c8
        refine lv_iconst (v := (0 : Int32)) C.x C.b dX5_expression_42 (by decide) ?_
        have hf := so_e hf
        subst hf
        exact r_zret C hr hlk hR hE hS z_0 dX5_expression_43
    · have hf := it_t hf c5
      refine lv_iconst (v := (1 : Int32)) C.x C.b dX5_expression_22 (by decide) ?_
      have hf := so_e hf
      subst hf
      exact r_zret C hr hlk hR hE hS z_1 dX5_expression_23
  · have hf := it_t hf c2
    refine lv_iconst (v := (0 : Int32)) C.x C.b dX5_expression_8 (by decide) ?_
    have hf := so_e hf
    subst hf
    exact r_zret C hr hlk hR hE hS z_0 dX5_expression_9

def P_X5_sum_36 (d : Nat) (G : Gt) (l : Launch) (p : Program) (e : Env) (s : State) (m : MethodId) (args : Array Value) (below : List Frame) (meth : Method) (c : Code) (h0 : Hp) (out : (Int32 × Hp)) (r0 : Nat) (x1 : Int32) (k : Hp → Int32 → Option (Int32 × Hp)) : Prop := ∀ (H : Heap) (locs : List Loc) (ls : Array Slot) (h : Hp) (x2 : Int32), k h x2 = some out → Ext h0 h → Rel G h H → va_S (AA G.2.2) s.heap H locs → hpT h r0 = (1, 5) → lv_has ls 4 [(0, .ref (G.2.2 + r0)), (1, .int x1), (2, .int x2)] → W p l e (rmS_A (d + 1)) s m args below meth c H locs 0 0 (MQ below (Qm G h0 out.2 (some (.int out.1)) 1) args s 0 0 (AA G.2.2)) (F0 m 36 ls [])
def P_X5_sum_12 (d : Nat) (G : Gt) (l : Launch) (p : Program) (e : Env) (s : State) (m : MethodId) (args : Array Value) (below : List Frame) (meth : Method) (c : Code) (h0 : Hp) (out : (Int32 × Hp)) (r0 : Nat) (x1 : Int32) (k : Hp → Int32 → Option (Int32 × Hp)) : Prop := ∀ (H : Heap) (locs : List Loc) (ls : Array Slot) (h : Hp) (x2 : Int32), k h x2 = some out → Ext h0 h → Rel G h H → va_S (AA G.2.2) s.heap H locs → hpT h r0 = (1, 5) → lv_has ls 4 [(0, .ref (G.2.2 + r0)), (1, .int x1), (2, .int x2)] → W p l e (rmS_A (d + 1)) s m args below meth c H locs 0 0 (MQ below (Qm G h0 out.2 (some (.int out.1)) 1) args s 0 0 (AA G.2.2)) (F0 m 12 ls [])
set_option maxRecDepth 100000 in
set_option maxHeartbeats 4000000 in
theorem w_X5_sum_36 {d : Nat} {G : Gt} {l : Launch} {p : Program} {e : Env} {s : State} {m : MethodId} {args : Array Value} {below : List Frame} {meth : Method} {c : Code} {E_X5_product : Hp → Nat → Int32 → Option (Int32 × Hp)} {h0 : Hp} {out : (Int32 × Hp)} {r0 : Nat} {x1 : Int32} {k12 : Hp → Int32 → Option (Int32 × Hp)} (C : Cx G p m c cX5_sum 4 s args RX5) (hr : meth.sig.returnType = some .boolean) (hlk : meth.locks = false) (hE_X5_product : ∀ {h : Hp} {r0 : Nat} {x1 : Int32} {out : (Int32 × Hp)}, hpT h r0 = (1, 5) → E_X5_product h r0 x1 = some out → Mt G l yX5_product cX5_product 4 (some .boolean) (rmS_A d) [.ref (G.2.2 + r0), .int x1] h (some (.int out.1)) out.2 1 0 0) (hk12 : P_X5_sum_12 d G l p e s m args below meth c h0 out r0 x1 k12) : P_X5_sum_36 d G l p e s m args below meth c h0 out r0 x1 (fo_X5_sum_36 E_X5_product r0 x1 k12) := by
  intro H locs ls h x2 hf hE hR hS t_r0 hl
  rw [fo_X5_sum_36] at hf
  refine lv_aload_n C.x C.b dX5_sum_36 rfl (lv_at hl 0 rfl) ?_
  obtain ⟨q8, h_q8, hf⟩ := bd_e hf
  refine r_callV (As := []) (rest := []) C hR hS t_r0 rfl mk_X5_next cl_X5_60 (k_X5_next t_r0 h_q8) ⟨⟨by simp only [rm_X5_next, rmS_A] <;> omega, by simp only [rm_X5_next, rmS_A] <;> omega⟩, ⟨rfl, rfl⟩, by simp only [rmS_A] <;> omega, by simp only [rmS_A] <;> omega⟩ rfl hl.1 rfl (Nat.le_of_ble_eq_true rfl) dX5_sum_37 (fun H locs hR hS hE1 z_q8 => ?_)
  refine lv_istore_n (lv' := [(3, .int q8), (0, .ref (G.2.2 + r0)), (1, .int x1), (2, .int x2)]) C.x C.b dX5_sum_40 rfl hl (by decide) rfl (fun ls hl => ?_)
  refine lv_aload_n C.x C.b dX5_sum_41 rfl (lv_at hl 1 rfl) ?_
  refine lv_dup C.x C.b dX5_sum_42 rfl ?_
  refine r_geti C hR t_r0 fl_X5_19 rfl dX5_sum_43 ?_
  refine lv_iconst (v := (1 : Int32)) C.x C.b dX5_sum_46 (by decide) ?_
  refine lv_iadd C.x C.b dX5_sum_47 ?_
  refine r_puti C hR hS t_r0 fl_X5_19 fp_X5_5_2 rfl dX5_sum_48 (fun H locs hR hS => ?_)
  obtain ⟨h9, e_h9⟩ : ∃ y, y = upI h r0 2 ((hpI h r0 2) + (1 : Int32)) := ⟨_, rfl⟩
  rw [← e_h9] at hR
  have hf := lt_e hf e_h9
  have hE := eI e_h9 hE
  have t_r0 := tI e_h9 t_r0
  refine lv_aload_n C.x C.b dX5_sum_51 rfl (lv_at hl 1 rfl) ?_
  refine lv_iload_n C.x C.b dX5_sum_52 rfl (lv_at hl 2 rfl) ?_
  obtain ⟨q10, h_q10, hf⟩ := bd_e hf
  refine r_callV (As := [.int x1]) (rest := []) C hR hS t_r0 rfl mk_X5_product cl_X5_70 (hE_X5_product t_r0 h_q10) ⟨⟨by simp only [rmS_A, rmS_A] <;> omega, by simp only [rmS_A, rmS_A] <;> omega⟩, ⟨rfl, rfl⟩, by simp only [rmS_A] <;> omega, by simp only [rmS_A] <;> omega⟩ rfl hl.1 rfl (Nat.le_of_ble_eq_true rfl) dX5_sum_53 (fun H locs hR hS hE1 z_q10 => ?_)
  have hE := hE.tr hE1
  have t_r0 := hE1.at t_r0 (by decide)
  have z_q10 := z_q10 _ rfl
  refine lv_if_ne (tgt := 61) C.x C.b dX5_sum_56 (by decide) (fun c11 => ?_) (fun c11 => ?_)
  · have hf := it_f hf c11
    refine lv_aload_n C.x C.b dX5_sum_61 rfl (lv_at hl 1 rfl) ?_
    refine lv_iload_n C.x C.b dX5_sum_62 rfl (lv_at hl 0 rfl) ?_
    obtain ⟨q12, h_q12, hf⟩ := bd_e hf
    refine r_callV (As := [.int q8]) (rest := []) C hR hS t_r0 rfl mk_X5_write cl_X5_67 (k_X5_write t_r0 h_q12) ⟨⟨by simp only [rm_X5_write, rmS_A] <;> omega, by simp only [rm_X5_write, rmS_A] <;> omega⟩, ⟨rfl, rfl⟩, by simp only [rmS_A] <;> omega, by simp only [rmS_A] <;> omega⟩ rfl hl.1 rfl (Nat.le_of_ble_eq_true rfl) dX5_sum_63 (fun H locs hR hS hE1 z_q12 => ?_)
    have hE := hE.tr hE1
    have t_r0 := hE1.at t_r0 (by decide)
    obtain ⟨v13, e_v13⟩ : ∃ y : Int32, y = x2 + (1 : Int32) := ⟨_, rfl⟩
    have hf := lt_e hf e_v13
    refine lv_iinc (v := v13) (lv' := [(2, .int v13), (3, .int q8), (0, .ref (G.2.2 + r0)), (1, .int x1)]) C.x C.b dX5_sum_66 hl (k := 3) rfl (by rw [e_v13]; rfl) (by decide) rfl (fun ls hl => ?_)
    refine lv_goto (tgt := 12) C.x C.b dX5_sum_69 (by decide) ?_
    exact hk12 _ _ _ _ _ hf hE hR hS t_r0 (lv_sub hl [2, 3, 0] rfl)
  · have hf := it_t hf c11
    refine lv_iconst (v := (0 : Int32)) C.x C.b dX5_sum_59 (by decide) ?_
    have hf := so_e hf
    subst hf
    exact r_zret C hr hlk hR hE hS z_0 dX5_sum_60
set_option maxRecDepth 100000 in
set_option maxHeartbeats 4000000 in
theorem w_X5_sum_12 {d : Nat} {G : Gt} {l : Launch} {p : Program} {e : Env} {s : State} {m : MethodId} {args : Array Value} {below : List Frame} {meth : Method} {c : Code} {E_X5_product : Hp → Nat → Int32 → Option (Int32 × Hp)} {h0 : Hp} {out : (Int32 × Hp)} {r0 : Nat} {x1 : Int32}  (C : Cx G p m c cX5_sum 4 s args RX5) (hr : meth.sig.returnType = some .boolean) (hlk : meth.locks = false) (hE_X5_product : ∀ {h : Hp} {r0 : Nat} {x1 : Int32} {out : (Int32 × Hp)}, hpT h r0 = (1, 5) → E_X5_product h r0 x1 = some out → Mt G l yX5_product cX5_product 4 (some .boolean) (rmS_A d) [.ref (G.2.2 + r0), .int x1] h (some (.int out.1)) out.2 1 0 0)  (n : Nat) : P_X5_sum_12 d G l p e s m args below meth c h0 out r0 x1 (fo_X5_sum_12 E_X5_product r0 x1 n) := by
  induction n with
  | zero => intro H locs ls h x2 hf hE hR hS t_r0 hl; cases hf
  | succ n hk12 =>
    intro H locs ls h x2 hf hE hR hS t_r0 hl
    rw [fo_X5_sum_12] at hf
    obtain ⟨k12, e_k12⟩ : ∃ y, y = fo_X5_sum_12 E_X5_product r0 x1 n := ⟨_, rfl⟩
    have hf := lt_e hf e_k12
    rw [← e_k12] at hk12
    refine lv_iload_n C.x C.b dX5_sum_12 rfl (lv_at hl 2 rfl) ?_
    refine lv_bipush (v := (40 : Int32)) C.x C.b dX5_sum_13 (by decide) ?_
    refine lv_icmp_ge (tgt := 72) C.x C.b dX5_sum_15 (by decide) (fun c3 => ?_) (fun c3 => ?_)
    · have hf := it_t hf c3
      refine lv_iconst (v := (1 : Int32)) C.x C.b dX5_sum_72 (by decide) ?_
      have hf := so_e hf
      subst hf
      exact r_zret C hr hlk hR hE hS z_1 dX5_sum_73
    · have hf := it_f hf c3
      refine lv_aload_n C.x C.b dX5_sum_18 rfl (lv_at hl 0 rfl) ?_
      obtain ⟨q4, h_q4, hf⟩ := bd_e hf
      refine r_callV (As := []) (rest := []) C hR hS t_r0 rfl mk_X5_next cl_X5_60 (k_X5_next t_r0 h_q4) ⟨⟨by simp only [rm_X5_next, rmS_A] <;> omega, by simp only [rm_X5_next, rmS_A] <;> omega⟩, ⟨rfl, rfl⟩, by simp only [rmS_A] <;> omega, by simp only [rmS_A] <;> omega⟩ rfl hl.1 rfl (Nat.le_of_ble_eq_true rfl) dX5_sum_19 (fun H locs hR hS hE1 z_q4 => ?_)
      refine lv_bipush (v := (43 : Int32)) C.x C.b dX5_sum_22 (by decide) ?_
      refine lv_icmp_eq (tgt := 36) C.x C.b dX5_sum_24 (by decide) (fun c5 => ?_) (fun c5 => ?_)
      · have hf := it_t hf c5
        exact w_X5_sum_36 C hr hlk hE_X5_product hk12 _ _ _ _ _ hf hE hR hS t_r0 (lv_sub hl [0, 1, 2] rfl)
      · have hf := it_f hf c5
        refine lv_aload_n C.x C.b dX5_sum_27 rfl (lv_at hl 0 rfl) ?_
        obtain ⟨q6, h_q6, hf⟩ := bd_e hf
        refine r_callV (As := []) (rest := []) C hR hS t_r0 rfl mk_X5_next cl_X5_60 (k_X5_next t_r0 h_q6) ⟨⟨by simp only [rm_X5_next, rmS_A] <;> omega, by simp only [rm_X5_next, rmS_A] <;> omega⟩, ⟨rfl, rfl⟩, by simp only [rmS_A] <;> omega, by simp only [rmS_A] <;> omega⟩ rfl hl.1 rfl (Nat.le_of_ble_eq_true rfl) dX5_sum_28 (fun H locs hR hS hE1 z_q6 => ?_)
        refine lv_bipush (v := (45 : Int32)) C.x C.b dX5_sum_31 (by decide) ?_
        refine lv_icmp_ne (tgt := 72) C.x C.b dX5_sum_33 (by decide) (fun c7 => ?_) (fun c7 => ?_)
        · have hf := it_f hf c7
          refine lv_iconst (v := (1 : Int32)) C.x C.b dX5_sum_72 (by decide) ?_
          have hf := so_e hf
          subst hf
          exact r_zret C hr hlk hR hE hS z_1 dX5_sum_73
        · have hf := it_t hf c7
          exact w_X5_sum_36 C hr hlk hE_X5_product hk12 _ _ _ _ _ hf hE hR hS t_r0 (lv_sub hl [0, 1, 2] rfl)
set_option maxRecDepth 100000 in
set_option maxHeartbeats 4000000 in
theorem ko_X5_sum {G : Gt} {l : Launch} {d : Nat} {E_X5_product : Hp → Nat → Int32 → Option (Int32 × Hp)} (hE_X5_product : ∀ {h : Hp} {r0 : Nat} {x1 : Int32} {out : (Int32 × Hp)}, hpT h r0 = (1, 5) → E_X5_product h r0 x1 = some out → Mt G l yX5_product cX5_product 4 (some .boolean) (rmS_A d) [.ref (G.2.2 + r0), .int x1] h (some (.int out.1)) out.2 1 0 0) {h : Hp} {r0 : Nat} {x1 : Int32} {out : (Int32 × Hp)} (t_r0 : hpT h r0 = (1, 5))  (hf : fo_X5_sum E_X5_product h r0 x1 = some out) : Mt G l yX5_sum cX5_sum 4 (some .boolean) (rmS_A (d + 1)) [.ref (G.2.2 + r0), .int x1] h (some (.int out.1)) out.2 1 0 0 := by
  refine r_met (by decide +kernel) (Nat.le_of_ble_eq_true rfl) ?_
  intro p e s m args below meth c ls C hr hlk hnm hR hS hl
  have hE : Ext h h := Ext.rf
  have hl : lv_has ls 4 [(0, .ref (G.2.2 + r0)), (1, .int x1)] := hl
  rw [fo_X5_sum] at hf
  refine lv_aload_n C.x C.b dX5_sum_0 rfl (lv_at hl 0 rfl) ?_
  refine lv_iload_n C.x C.b dX5_sum_1 rfl (lv_at hl 1 rfl) ?_
  obtain ⟨q1, h_q1, hf⟩ := bd_e hf
  refine r_callV (As := [.int x1]) (rest := []) C hR hS t_r0 rfl mk_X5_product cl_X5_70 (hE_X5_product t_r0 h_q1) ⟨⟨by simp only [rmS_A, rmS_A] <;> omega, by simp only [rmS_A, rmS_A] <;> omega⟩, ⟨rfl, rfl⟩, by simp only [rmS_A] <;> omega, by simp only [rmS_A] <;> omega⟩ rfl hl.1 rfl (Nat.le_of_ble_eq_true rfl) dX5_sum_2 (fun H locs hR hS hE1 z_q1 => ?_)
  have hE := hE.tr hE1
  have t_r0 := hE1.at t_r0 (by decide)
  have z_q1 := z_q1 _ rfl
  refine lv_if_ne (tgt := 10) C.x C.b dX5_sum_5 (by decide) (fun c2 => ?_) (fun c2 => ?_)
  · have hf := it_f hf c2
    refine lv_iconst (v := (0 : Int32)) C.x C.b dX5_sum_10 (by decide) ?_
    refine lv_istore_n (lv' := [(2, .int (0 : Int32)), (0, .ref (G.2.2 + r0)), (1, .int x1)]) C.x C.b dX5_sum_11 rfl hl (by decide) rfl (fun ls hl => ?_)
    exact w_X5_sum_12 C hr hlk hE_X5_product FU _ _ _ _ _ hf hE hR hS t_r0 (lv_sub hl [1, 2, 0] rfl)
  · have hf := it_t hf c2
    refine lv_iconst (v := (0 : Int32)) C.x C.b dX5_sum_8 (by decide) ?_
    have hf := so_e hf
    subst hf
    exact r_zret C hr hlk hR hE hS z_0 dX5_sum_9

def P_X5_product_36 (d : Nat) (G : Gt) (l : Launch) (p : Program) (e : Env) (s : State) (m : MethodId) (args : Array Value) (below : List Frame) (meth : Method) (c : Code) (h0 : Hp) (out : (Int32 × Hp)) (r0 : Nat) (x1 : Int32) (k : Hp → Int32 → Option (Int32 × Hp)) : Prop := ∀ (H : Heap) (locs : List Loc) (ls : Array Slot) (h : Hp) (x2 : Int32), k h x2 = some out → Ext h0 h → Rel G h H → va_S (AA G.2.2) s.heap H locs → hpT h r0 = (1, 5) → lv_has ls 4 [(0, .ref (G.2.2 + r0)), (1, .int x1), (2, .int x2)] → W p l e (rmS_A (d + 1)) s m args below meth c H locs 0 0 (MQ below (Qm G h0 out.2 (some (.int out.1)) 1) args s 0 0 (AA G.2.2)) (F0 m 36 ls [])
def P_X5_product_12 (d : Nat) (G : Gt) (l : Launch) (p : Program) (e : Env) (s : State) (m : MethodId) (args : Array Value) (below : List Frame) (meth : Method) (c : Code) (h0 : Hp) (out : (Int32 × Hp)) (r0 : Nat) (x1 : Int32) (k : Hp → Int32 → Option (Int32 × Hp)) : Prop := ∀ (H : Heap) (locs : List Loc) (ls : Array Slot) (h : Hp) (x2 : Int32), k h x2 = some out → Ext h0 h → Rel G h H → va_S (AA G.2.2) s.heap H locs → hpT h r0 = (1, 5) → lv_has ls 4 [(0, .ref (G.2.2 + r0)), (1, .int x1), (2, .int x2)] → W p l e (rmS_A (d + 1)) s m args below meth c H locs 0 0 (MQ below (Qm G h0 out.2 (some (.int out.1)) 1) args s 0 0 (AA G.2.2)) (F0 m 12 ls [])
set_option maxRecDepth 100000 in
set_option maxHeartbeats 4000000 in
theorem w_X5_product_36 {d : Nat} {G : Gt} {l : Launch} {p : Program} {e : Env} {s : State} {m : MethodId} {args : Array Value} {below : List Frame} {meth : Method} {c : Code} {E_X5_signedThing : Hp → Nat → Int32 → Option (Int32 × Hp)} {h0 : Hp} {out : (Int32 × Hp)} {r0 : Nat} {x1 : Int32} {k12 : Hp → Int32 → Option (Int32 × Hp)} (C : Cx G p m c cX5_product 4 s args RX5) (hr : meth.sig.returnType = some .boolean) (hlk : meth.locks = false) (hE_X5_signedThing : ∀ {h : Hp} {r0 : Nat} {x1 : Int32} {out : (Int32 × Hp)}, hpT h r0 = (1, 5) → E_X5_signedThing h r0 x1 = some out → Mt G l yX5_signedThing cX5_signedThing 4 (some .boolean) (rmS_A d) [.ref (G.2.2 + r0), .int x1] h (some (.int out.1)) out.2 1 0 0) (hk12 : P_X5_product_12 d G l p e s m args below meth c h0 out r0 x1 k12) : P_X5_product_36 d G l p e s m args below meth c h0 out r0 x1 (fo_X5_product_36 E_X5_signedThing r0 x1 k12) := by
  intro H locs ls h x2 hf hE hR hS t_r0 hl
  rw [fo_X5_product_36] at hf
  refine lv_aload_n C.x C.b dX5_product_36 rfl (lv_at hl 0 rfl) ?_
  obtain ⟨q8, h_q8, hf⟩ := bd_e hf
  refine r_callV (As := []) (rest := []) C hR hS t_r0 rfl mk_X5_next cl_X5_60 (k_X5_next t_r0 h_q8) ⟨⟨by simp only [rm_X5_next, rmS_A] <;> omega, by simp only [rm_X5_next, rmS_A] <;> omega⟩, ⟨rfl, rfl⟩, by simp only [rmS_A] <;> omega, by simp only [rmS_A] <;> omega⟩ rfl hl.1 rfl (Nat.le_of_ble_eq_true rfl) dX5_product_37 (fun H locs hR hS hE1 z_q8 => ?_)
  refine lv_istore_n (lv' := [(3, .int q8), (0, .ref (G.2.2 + r0)), (1, .int x1), (2, .int x2)]) C.x C.b dX5_product_40 rfl hl (by decide) rfl (fun ls hl => ?_)
  refine lv_aload_n C.x C.b dX5_product_41 rfl (lv_at hl 1 rfl) ?_
  refine lv_dup C.x C.b dX5_product_42 rfl ?_
  refine r_geti C hR t_r0 fl_X5_19 rfl dX5_product_43 ?_
  refine lv_iconst (v := (1 : Int32)) C.x C.b dX5_product_46 (by decide) ?_
  refine lv_iadd C.x C.b dX5_product_47 ?_
  refine r_puti C hR hS t_r0 fl_X5_19 fp_X5_5_2 rfl dX5_product_48 (fun H locs hR hS => ?_)
  obtain ⟨h9, e_h9⟩ : ∃ y, y = upI h r0 2 ((hpI h r0 2) + (1 : Int32)) := ⟨_, rfl⟩
  rw [← e_h9] at hR
  have hf := lt_e hf e_h9
  have hE := eI e_h9 hE
  have t_r0 := tI e_h9 t_r0
  refine lv_aload_n C.x C.b dX5_product_51 rfl (lv_at hl 1 rfl) ?_
  refine lv_iload_n C.x C.b dX5_product_52 rfl (lv_at hl 2 rfl) ?_
  obtain ⟨q10, h_q10, hf⟩ := bd_e hf
  refine r_callV (As := [.int x1]) (rest := []) C hR hS t_r0 rfl mk_X5_signedThing cl_X5_73 (hE_X5_signedThing t_r0 h_q10) ⟨⟨by simp only [rmS_A, rmS_A] <;> omega, by simp only [rmS_A, rmS_A] <;> omega⟩, ⟨rfl, rfl⟩, by simp only [rmS_A] <;> omega, by simp only [rmS_A] <;> omega⟩ rfl hl.1 rfl (Nat.le_of_ble_eq_true rfl) dX5_product_53 (fun H locs hR hS hE1 z_q10 => ?_)
  have hE := hE.tr hE1
  have t_r0 := hE1.at t_r0 (by decide)
  have z_q10 := z_q10 _ rfl
  refine lv_if_ne (tgt := 61) C.x C.b dX5_product_56 (by decide) (fun c11 => ?_) (fun c11 => ?_)
  · have hf := it_f hf c11
    refine lv_aload_n C.x C.b dX5_product_61 rfl (lv_at hl 1 rfl) ?_
    refine lv_iload_n C.x C.b dX5_product_62 rfl (lv_at hl 0 rfl) ?_
    obtain ⟨q12, h_q12, hf⟩ := bd_e hf
    refine r_callV (As := [.int q8]) (rest := []) C hR hS t_r0 rfl mk_X5_write cl_X5_67 (k_X5_write t_r0 h_q12) ⟨⟨by simp only [rm_X5_write, rmS_A] <;> omega, by simp only [rm_X5_write, rmS_A] <;> omega⟩, ⟨rfl, rfl⟩, by simp only [rmS_A] <;> omega, by simp only [rmS_A] <;> omega⟩ rfl hl.1 rfl (Nat.le_of_ble_eq_true rfl) dX5_product_63 (fun H locs hR hS hE1 z_q12 => ?_)
    have hE := hE.tr hE1
    have t_r0 := hE1.at t_r0 (by decide)
    obtain ⟨v13, e_v13⟩ : ∃ y : Int32, y = x2 + (1 : Int32) := ⟨_, rfl⟩
    have hf := lt_e hf e_v13
    refine lv_iinc (v := v13) (lv' := [(2, .int v13), (3, .int q8), (0, .ref (G.2.2 + r0)), (1, .int x1)]) C.x C.b dX5_product_66 hl (k := 3) rfl (by rw [e_v13]; rfl) (by decide) rfl (fun ls hl => ?_)
    refine lv_goto (tgt := 12) C.x C.b dX5_product_69 (by decide) ?_
    exact hk12 _ _ _ _ _ hf hE hR hS t_r0 (lv_sub hl [2, 3, 0] rfl)
  · have hf := it_t hf c11
    refine lv_iconst (v := (0 : Int32)) C.x C.b dX5_product_59 (by decide) ?_
    have hf := so_e hf
    subst hf
    exact r_zret C hr hlk hR hE hS z_0 dX5_product_60
set_option maxRecDepth 100000 in
set_option maxHeartbeats 4000000 in
theorem w_X5_product_12 {d : Nat} {G : Gt} {l : Launch} {p : Program} {e : Env} {s : State} {m : MethodId} {args : Array Value} {below : List Frame} {meth : Method} {c : Code} {E_X5_signedThing : Hp → Nat → Int32 → Option (Int32 × Hp)} {h0 : Hp} {out : (Int32 × Hp)} {r0 : Nat} {x1 : Int32}  (C : Cx G p m c cX5_product 4 s args RX5) (hr : meth.sig.returnType = some .boolean) (hlk : meth.locks = false) (hE_X5_signedThing : ∀ {h : Hp} {r0 : Nat} {x1 : Int32} {out : (Int32 × Hp)}, hpT h r0 = (1, 5) → E_X5_signedThing h r0 x1 = some out → Mt G l yX5_signedThing cX5_signedThing 4 (some .boolean) (rmS_A d) [.ref (G.2.2 + r0), .int x1] h (some (.int out.1)) out.2 1 0 0)  (n : Nat) : P_X5_product_12 d G l p e s m args below meth c h0 out r0 x1 (fo_X5_product_12 E_X5_signedThing r0 x1 n) := by
  induction n with
  | zero => intro H locs ls h x2 hf hE hR hS t_r0 hl; cases hf
  | succ n hk12 =>
    intro H locs ls h x2 hf hE hR hS t_r0 hl
    rw [fo_X5_product_12] at hf
    obtain ⟨k12, e_k12⟩ : ∃ y, y = fo_X5_product_12 E_X5_signedThing r0 x1 n := ⟨_, rfl⟩
    have hf := lt_e hf e_k12
    rw [← e_k12] at hk12
    refine lv_iload_n C.x C.b dX5_product_12 rfl (lv_at hl 2 rfl) ?_
    refine lv_bipush (v := (40 : Int32)) C.x C.b dX5_product_13 (by decide) ?_
    refine lv_icmp_ge (tgt := 72) C.x C.b dX5_product_15 (by decide) (fun c3 => ?_) (fun c3 => ?_)
    · have hf := it_t hf c3
      refine lv_iconst (v := (1 : Int32)) C.x C.b dX5_product_72 (by decide) ?_
      have hf := so_e hf
      subst hf
      exact r_zret C hr hlk hR hE hS z_1 dX5_product_73
    · have hf := it_f hf c3
      refine lv_aload_n C.x C.b dX5_product_18 rfl (lv_at hl 0 rfl) ?_
      obtain ⟨q4, h_q4, hf⟩ := bd_e hf
      refine r_callV (As := []) (rest := []) C hR hS t_r0 rfl mk_X5_next cl_X5_60 (k_X5_next t_r0 h_q4) ⟨⟨by simp only [rm_X5_next, rmS_A] <;> omega, by simp only [rm_X5_next, rmS_A] <;> omega⟩, ⟨rfl, rfl⟩, by simp only [rmS_A] <;> omega, by simp only [rmS_A] <;> omega⟩ rfl hl.1 rfl (Nat.le_of_ble_eq_true rfl) dX5_product_19 (fun H locs hR hS hE1 z_q4 => ?_)
      refine lv_bipush (v := (42 : Int32)) C.x C.b dX5_product_22 (by decide) ?_
      refine lv_icmp_eq (tgt := 36) C.x C.b dX5_product_24 (by decide) (fun c5 => ?_) (fun c5 => ?_)
      · have hf := it_t hf c5
        exact w_X5_product_36 C hr hlk hE_X5_signedThing hk12 _ _ _ _ _ hf hE hR hS t_r0 (lv_sub hl [0, 1, 2] rfl)
      · have hf := it_f hf c5
        refine lv_aload_n C.x C.b dX5_product_27 rfl (lv_at hl 0 rfl) ?_
        obtain ⟨q6, h_q6, hf⟩ := bd_e hf
        refine r_callV (As := []) (rest := []) C hR hS t_r0 rfl mk_X5_next cl_X5_60 (k_X5_next t_r0 h_q6) ⟨⟨by simp only [rm_X5_next, rmS_A] <;> omega, by simp only [rm_X5_next, rmS_A] <;> omega⟩, ⟨rfl, rfl⟩, by simp only [rmS_A] <;> omega, by simp only [rmS_A] <;> omega⟩ rfl hl.1 rfl (Nat.le_of_ble_eq_true rfl) dX5_product_28 (fun H locs hR hS hE1 z_q6 => ?_)
        refine lv_bipush (v := (47 : Int32)) C.x C.b dX5_product_31 (by decide) ?_
        refine lv_icmp_ne (tgt := 72) C.x C.b dX5_product_33 (by decide) (fun c7 => ?_) (fun c7 => ?_)
        · have hf := it_f hf c7
          refine lv_iconst (v := (1 : Int32)) C.x C.b dX5_product_72 (by decide) ?_
          have hf := so_e hf
          subst hf
          exact r_zret C hr hlk hR hE hS z_1 dX5_product_73
        · have hf := it_t hf c7
          exact w_X5_product_36 C hr hlk hE_X5_signedThing hk12 _ _ _ _ _ hf hE hR hS t_r0 (lv_sub hl [0, 1, 2] rfl)
set_option maxRecDepth 100000 in
set_option maxHeartbeats 4000000 in
theorem ko_X5_product {G : Gt} {l : Launch} {d : Nat} {E_X5_signedThing : Hp → Nat → Int32 → Option (Int32 × Hp)} (hE_X5_signedThing : ∀ {h : Hp} {r0 : Nat} {x1 : Int32} {out : (Int32 × Hp)}, hpT h r0 = (1, 5) → E_X5_signedThing h r0 x1 = some out → Mt G l yX5_signedThing cX5_signedThing 4 (some .boolean) (rmS_A d) [.ref (G.2.2 + r0), .int x1] h (some (.int out.1)) out.2 1 0 0) {h : Hp} {r0 : Nat} {x1 : Int32} {out : (Int32 × Hp)} (t_r0 : hpT h r0 = (1, 5))  (hf : fo_X5_product E_X5_signedThing h r0 x1 = some out) : Mt G l yX5_product cX5_product 4 (some .boolean) (rmS_A (d + 1)) [.ref (G.2.2 + r0), .int x1] h (some (.int out.1)) out.2 1 0 0 := by
  refine r_met (by decide +kernel) (Nat.le_of_ble_eq_true rfl) ?_
  intro p e s m args below meth c ls C hr hlk hnm hR hS hl
  have hE : Ext h h := Ext.rf
  have hl : lv_has ls 4 [(0, .ref (G.2.2 + r0)), (1, .int x1)] := hl
  rw [fo_X5_product] at hf
  refine lv_aload_n C.x C.b dX5_product_0 rfl (lv_at hl 0 rfl) ?_
  refine lv_iload_n C.x C.b dX5_product_1 rfl (lv_at hl 1 rfl) ?_
  obtain ⟨q1, h_q1, hf⟩ := bd_e hf
  refine r_callV (As := [.int x1]) (rest := []) C hR hS t_r0 rfl mk_X5_signedThing cl_X5_73 (hE_X5_signedThing t_r0 h_q1) ⟨⟨by simp only [rmS_A, rmS_A] <;> omega, by simp only [rmS_A, rmS_A] <;> omega⟩, ⟨rfl, rfl⟩, by simp only [rmS_A] <;> omega, by simp only [rmS_A] <;> omega⟩ rfl hl.1 rfl (Nat.le_of_ble_eq_true rfl) dX5_product_2 (fun H locs hR hS hE1 z_q1 => ?_)
  have hE := hE.tr hE1
  have t_r0 := hE1.at t_r0 (by decide)
  have z_q1 := z_q1 _ rfl
  refine lv_if_ne (tgt := 10) C.x C.b dX5_product_5 (by decide) (fun c2 => ?_) (fun c2 => ?_)
  · have hf := it_f hf c2
    refine lv_iconst (v := (0 : Int32)) C.x C.b dX5_product_10 (by decide) ?_
    refine lv_istore_n (lv' := [(2, .int (0 : Int32)), (0, .ref (G.2.2 + r0)), (1, .int x1)]) C.x C.b dX5_product_11 rfl hl (by decide) rfl (fun ls hl => ?_)
    exact w_X5_product_12 C hr hlk hE_X5_signedThing FU _ _ _ _ _ hf hE hR hS t_r0 (lv_sub hl [1, 2, 0] rfl)
  · have hf := it_t hf c2
    refine lv_iconst (v := (0 : Int32)) C.x C.b dX5_product_8 (by decide) ?_
    have hf := so_e hf
    subst hf
    exact r_zret C hr hlk hR hE hS z_0 dX5_product_9

def P_X5_signedThing_28 (d : Nat) (G : Gt) (l : Launch) (p : Program) (e : Env) (s : State) (m : MethodId) (args : Array Value) (below : List Frame) (meth : Method) (c : Code) (h0 : Hp) (out : (Int32 × Hp)) (r0 : Nat) (x1 : Int32) (k : Hp → Int32 → Int32 → Option (Int32 × Hp)) : Prop := ∀ (H : Heap) (locs : List Loc) (ls : Array Slot) (h : Hp) (s0 : Int32) (x3 : Int32), k h s0 x3 = some out → Ext h0 h → Rel G h H → va_S (AA G.2.2) s.heap H locs → hpT h r0 = (1, 5) → narrow .boolean (.int s0) = .int s0 → lv_has ls 4 [(0, .ref (G.2.2 + r0)), (1, .int x1), (3, .int x3)] → W p l e (rmS_A (d + 1)) s m args below meth c H locs 0 0 (MQ below (Qm G h0 out.2 (some (.int out.1)) 1) args s 0 0 (AA G.2.2)) (F0 m 28 ls [.int s0])
def P_X5_signedThing_45 (d : Nat) (G : Gt) (l : Launch) (p : Program) (e : Env) (s : State) (m : MethodId) (args : Array Value) (below : List Frame) (meth : Method) (c : Code) (h0 : Hp) (out : (Int32 × Hp)) (r0 : Nat) (x1 : Int32) (k : Hp → Int32 → Option (Int32 × Hp)) : Prop := ∀ (H : Heap) (locs : List Loc) (ls : Array Slot) (h : Hp) (x2 : Int32), k h x2 = some out → Ext h0 h → Rel G h H → va_S (AA G.2.2) s.heap H locs → hpT h r0 = (1, 5) → narrow .boolean (.int x2) = .int x2 → lv_has ls 4 [(0, .ref (G.2.2 + r0)), (1, .int x1), (2, .int x2)] → W p l e (rmS_A (d + 1)) s m args below meth c H locs 0 0 (MQ below (Qm G h0 out.2 (some (.int out.1)) 1) args s 0 0 (AA G.2.2)) (F0 m 45 ls [])
def P_X5_signedThing_4 (d : Nat) (G : Gt) (l : Launch) (p : Program) (e : Env) (s : State) (m : MethodId) (args : Array Value) (below : List Frame) (meth : Method) (c : Code) (h0 : Hp) (out : (Int32 × Hp)) (r0 : Nat) (x1 : Int32) (k : Hp → Int32 → Int32 → Option (Int32 × Hp)) : Prop := ∀ (H : Heap) (locs : List Loc) (ls : Array Slot) (h : Hp) (x2 : Int32) (x3 : Int32), k h x2 x3 = some out → Ext h0 h → Rel G h H → va_S (AA G.2.2) s.heap H locs → hpT h r0 = (1, 5) → narrow .boolean (.int x2) = .int x2 → lv_has ls 4 [(0, .ref (G.2.2 + r0)), (1, .int x1), (2, .int x2), (3, .int x3)] → W p l e (rmS_A (d + 1)) s m args below meth c H locs 0 0 (MQ below (Qm G h0 out.2 (some (.int out.1)) 1) args s 0 0 (AA G.2.2)) (F0 m 4 ls [])
set_option maxRecDepth 100000 in
set_option maxHeartbeats 4000000 in
theorem w_X5_signedThing_28 {d : Nat} {G : Gt} {l : Launch} {p : Program} {e : Env} {s : State} {m : MethodId} {args : Array Value} {below : List Frame} {meth : Method} {c : Code} {E_X5_thing : Hp → Nat → Int32 → Option (Int32 × Hp)} {h0 : Hp} {out : (Int32 × Hp)} {r0 : Nat} {x1 : Int32} {k4 : Hp → Int32 → Int32 → Option (Int32 × Hp)} (C : Cx G p m c cX5_signedThing 4 s args RX5) (hr : meth.sig.returnType = some .boolean) (hlk : meth.locks = false) (hE_X5_thing : ∀ {h : Hp} {r0 : Nat} {x1 : Int32} {out : (Int32 × Hp)}, hpT h r0 = (1, 5) → E_X5_thing h r0 x1 = some out → Mt G l yX5_thing cX5_thing 3 (some .boolean) (rmS_A d) [.ref (G.2.2 + r0), .int x1] h (some (.int out.1)) out.2 1 0 0) (hk4 : P_X5_signedThing_4 d G l p e s m args below meth c h0 out r0 x1 k4) : P_X5_signedThing_28 d G l p e s m args below meth c h0 out r0 x1 (fo_X5_signedThing_28 E_X5_thing r0 x1 k4) := by
  intro H locs ls h s0 x3 hf hE hR hS t_r0 z_s0 hl
  rw [fo_X5_signedThing_28] at hf
  refine lv_istore_n (lv' := [(2, .int s0), (0, .ref (G.2.2 + r0)), (1, .int x1), (3, .int x3)]) C.x C.b dX5_signedThing_28 rfl hl (by decide) rfl (fun ls hl => ?_)
  refine lv_aload_n C.x C.b dX5_signedThing_29 rfl (lv_at hl 1 rfl) ?_
  refine lv_dup C.x C.b dX5_signedThing_30 rfl ?_
  refine r_geti C hR t_r0 fl_X5_19 rfl dX5_signedThing_31 ?_
  refine lv_iconst (v := (1 : Int32)) C.x C.b dX5_signedThing_34 (by decide) ?_
  refine lv_iadd C.x C.b dX5_signedThing_35 ?_
  refine r_puti C hR hS t_r0 fl_X5_19 fp_X5_5_2 rfl dX5_signedThing_36 (fun H locs hR hS => ?_)
  obtain ⟨h5, e_h5⟩ : ∃ y, y = upI h r0 2 ((hpI h r0 2) + (1 : Int32)) := ⟨_, rfl⟩
  rw [← e_h5] at hR
  have hf := lt_e hf e_h5
  have hE := eI e_h5 hE
  have t_r0 := tI e_h5 t_r0
  obtain ⟨v6, e_v6⟩ : ∃ y : Int32, y = x3 + (1 : Int32) := ⟨_, rfl⟩
  have hf := lt_e hf e_v6
  refine lv_iinc (v := v6) (lv' := [(3, .int v6), (2, .int s0), (0, .ref (G.2.2 + r0)), (1, .int x1)]) C.x C.b dX5_signedThing_39 hl (k := 3) rfl (by rw [e_v6]; rfl) (by decide) rfl (fun ls hl => ?_)
  refine lv_goto (tgt := 4) C.x C.b dX5_signedThing_42 (by decide) ?_
  exact hk4 _ _ _ _ _ _ hf hE hR hS t_r0 z_s0 (lv_sub hl [2, 3, 1, 0] rfl)
set_option maxRecDepth 100000 in
set_option maxHeartbeats 4000000 in
theorem w_X5_signedThing_45 {d : Nat} {G : Gt} {l : Launch} {p : Program} {e : Env} {s : State} {m : MethodId} {args : Array Value} {below : List Frame} {meth : Method} {c : Code} {E_X5_thing : Hp → Nat → Int32 → Option (Int32 × Hp)} {h0 : Hp} {out : (Int32 × Hp)} {r0 : Nat} {x1 : Int32}  (C : Cx G p m c cX5_signedThing 4 s args RX5) (hr : meth.sig.returnType = some .boolean) (hlk : meth.locks = false) (hE_X5_thing : ∀ {h : Hp} {r0 : Nat} {x1 : Int32} {out : (Int32 × Hp)}, hpT h r0 = (1, 5) → E_X5_thing h r0 x1 = some out → Mt G l yX5_thing cX5_thing 3 (some .boolean) (rmS_A d) [.ref (G.2.2 + r0), .int x1] h (some (.int out.1)) out.2 1 0 0)  : P_X5_signedThing_45 d G l p e s m args below meth c h0 out r0 x1 (fo_X5_signedThing_45 E_X5_thing r0 x1) := by
  intro H locs ls h x2 hf hE hR hS t_r0 z_x2 hl
  rw [fo_X5_signedThing_45] at hf
  refine lv_aload_n C.x C.b dX5_signedThing_45 rfl (lv_at hl 0 rfl) ?_
  refine lv_iload_n C.x C.b dX5_signedThing_46 rfl (lv_at hl 1 rfl) ?_
  obtain ⟨q7, h_q7, hf⟩ := bd_e hf
  refine r_callV (As := [.int x1]) (rest := []) C hR hS t_r0 rfl mk_X5_thing cl_X5_76 (hE_X5_thing t_r0 h_q7) ⟨⟨by simp only [rmS_A, rmS_A] <;> omega, by simp only [rmS_A, rmS_A] <;> omega⟩, ⟨rfl, rfl⟩, by simp only [rmS_A] <;> omega, by simp only [rmS_A] <;> omega⟩ rfl hl.1 rfl (Nat.le_of_ble_eq_true rfl) dX5_signedThing_47 (fun H locs hR hS hE1 z_q7 => ?_)
  have hE := hE.tr hE1
  have t_r0 := hE1.at t_r0 (by decide)
  have z_q7 := z_q7 _ rfl
  refine lv_if_ne (tgt := 55) C.x C.b dX5_signedThing_50 (by decide) (fun c8 => ?_) (fun c8 => ?_)
  · have hf := it_f hf c8
    refine lv_iload_n C.x C.b dX5_signedThing_55 rfl (lv_at hl 2 rfl) ?_
    refine lv_if_eq (tgt := 65) C.x C.b dX5_signedThing_56 (by decide) (fun c9 => ?_) (fun c9 => ?_)
    · have hf := it_t hf c9
      refine lv_iconst (v := (1 : Int32)) C.x C.b dX5_signedThing_65 (by decide) ?_
      have hf := so_e hf
      subst hf
      exact r_zret C hr hlk hR hE hS z_1 dX5_signedThing_66
    · have hf := it_f hf c9
      refine lv_aload_n C.x C.b dX5_signedThing_59 rfl (lv_at hl 0 rfl) ?_
      refine lv_bipush (v := (126 : Int32)) C.x C.b dX5_signedThing_60 (by decide) ?_
      obtain ⟨q10, h_q10, hf⟩ := bd_e hf
      refine r_callV (As := [.int (126 : Int32)]) (rest := []) C hR hS t_r0 rfl mk_X5_write cl_X5_67 (k_X5_write t_r0 h_q10) ⟨⟨by simp only [rm_X5_write, rmS_A] <;> omega, by simp only [rm_X5_write, rmS_A] <;> omega⟩, ⟨rfl, rfl⟩, by simp only [rmS_A] <;> omega, by simp only [rmS_A] <;> omega⟩ rfl hl.1 rfl (Nat.le_of_ble_eq_true rfl) dX5_signedThing_62 (fun H locs hR hS hE1 z_q10 => ?_)
      have hE := hE.tr hE1
      have t_r0 := hE1.at t_r0 (by decide)
      refine lv_iconst (v := (1 : Int32)) C.x C.b dX5_signedThing_65 (by decide) ?_
      have hf := so_e hf
      subst hf
      exact r_zret C hr hlk hR hE hS z_1 dX5_signedThing_66
  · have hf := it_t hf c8
    refine lv_iconst (v := (0 : Int32)) C.x C.b dX5_signedThing_53 (by decide) ?_
    have hf := so_e hf
    subst hf
    exact r_zret C hr hlk hR hE hS z_0 dX5_signedThing_54
set_option maxRecDepth 100000 in
set_option maxHeartbeats 4000000 in
theorem w_X5_signedThing_4 {d : Nat} {G : Gt} {l : Launch} {p : Program} {e : Env} {s : State} {m : MethodId} {args : Array Value} {below : List Frame} {meth : Method} {c : Code} {E_X5_thing : Hp → Nat → Int32 → Option (Int32 × Hp)} {h0 : Hp} {out : (Int32 × Hp)} {r0 : Nat} {x1 : Int32}  (C : Cx G p m c cX5_signedThing 4 s args RX5) (hr : meth.sig.returnType = some .boolean) (hlk : meth.locks = false) (hE_X5_thing : ∀ {h : Hp} {r0 : Nat} {x1 : Int32} {out : (Int32 × Hp)}, hpT h r0 = (1, 5) → E_X5_thing h r0 x1 = some out → Mt G l yX5_thing cX5_thing 3 (some .boolean) (rmS_A d) [.ref (G.2.2 + r0), .int x1] h (some (.int out.1)) out.2 1 0 0)  (n : Nat) : P_X5_signedThing_4 d G l p e s m args below meth c h0 out r0 x1 (fo_X5_signedThing_4 E_X5_thing r0 x1 n) := by
  induction n with
  | zero => intro H locs ls h x2 x3 hf hE hR hS t_r0 z_x2 hl; cases hf
  | succ n hk4 =>
    intro H locs ls h x2 x3 hf hE hR hS t_r0 z_x2 hl
    rw [fo_X5_signedThing_4] at hf
    obtain ⟨k4, e_k4⟩ : ∃ y, y = fo_X5_signedThing_4 E_X5_thing r0 x1 n := ⟨_, rfl⟩
    have hf := lt_e hf e_k4
    rw [← e_k4] at hk4
    refine lv_iload_n C.x C.b dX5_signedThing_4 rfl (lv_at hl 3 rfl) ?_
    refine lv_bipush (v := (40 : Int32)) C.x C.b dX5_signedThing_5 (by decide) ?_
    refine lv_icmp_ge (tgt := 45) C.x C.b dX5_signedThing_7 (by decide) (fun c1 => ?_) (fun c1 => ?_)
    · have hf := it_t hf c1
      exact w_X5_signedThing_45 C hr hlk hE_X5_thing _ _ _ _ _ hf hE hR hS t_r0 z_x2 (lv_sub hl [0, 1, 2] rfl)
    · have hf := it_f hf c1
      refine lv_aload_n C.x C.b dX5_signedThing_10 rfl (lv_at hl 0 rfl) ?_
      obtain ⟨q2, h_q2, hf⟩ := bd_e hf
      refine r_callV (As := []) (rest := []) C hR hS t_r0 rfl mk_X5_next cl_X5_60 (k_X5_next t_r0 h_q2) ⟨⟨by simp only [rm_X5_next, rmS_A] <;> omega, by simp only [rm_X5_next, rmS_A] <;> omega⟩, ⟨rfl, rfl⟩, by simp only [rmS_A] <;> omega, by simp only [rmS_A] <;> omega⟩ rfl hl.1 rfl (Nat.le_of_ble_eq_true rfl) dX5_signedThing_11 (fun H locs hR hS hE1 z_q2 => ?_)
      refine lv_bipush (v := (45 : Int32)) C.x C.b dX5_signedThing_14 (by decide) ?_
      refine lv_icmp_ne (tgt := 45) C.x C.b dX5_signedThing_16 (by decide) (fun c3 => ?_) (fun c3 => ?_)
      · have hf := it_f hf c3
        exact w_X5_signedThing_45 C hr hlk hE_X5_thing _ _ _ _ _ hf hE hR hS t_r0 z_x2 (lv_sub hl [0, 1, 2] rfl)
      · have hf := it_t hf c3
        refine lv_iload_n C.x C.b dX5_signedThing_19 rfl (lv_at hl 2 rfl) ?_
        refine lv_if_ne (tgt := 27) C.x C.b dX5_signedThing_20 (by decide) (fun c4 => ?_) (fun c4 => ?_)
        · simp only [if_neg c4] at hf
          refine lv_iconst (v := (0 : Int32)) C.x C.b dX5_signedThing_27 (by decide) ?_
          exact w_X5_signedThing_28 C hr hlk hE_X5_thing hk4 _ _ _ _ _ _ hf hE hR hS t_r0 z_0 (lv_sub hl [0, 1, 3] rfl)
        · simp only [if_pos c4] at hf
          refine lv_iconst (v := (1 : Int32)) C.x C.b dX5_signedThing_23 (by decide) ?_
          refine lv_goto (tgt := 28) C.x C.b dX5_signedThing_24 (by decide) ?_
          exact w_X5_signedThing_28 C hr hlk hE_X5_thing hk4 _ _ _ _ _ _ hf hE hR hS t_r0 z_1 (lv_sub hl [0, 1, 3] rfl)
set_option maxRecDepth 100000 in
set_option maxHeartbeats 4000000 in
theorem ko_X5_signedThing {G : Gt} {l : Launch} {d : Nat} {E_X5_thing : Hp → Nat → Int32 → Option (Int32 × Hp)} (hE_X5_thing : ∀ {h : Hp} {r0 : Nat} {x1 : Int32} {out : (Int32 × Hp)}, hpT h r0 = (1, 5) → E_X5_thing h r0 x1 = some out → Mt G l yX5_thing cX5_thing 3 (some .boolean) (rmS_A d) [.ref (G.2.2 + r0), .int x1] h (some (.int out.1)) out.2 1 0 0) {h : Hp} {r0 : Nat} {x1 : Int32} {out : (Int32 × Hp)} (t_r0 : hpT h r0 = (1, 5))  (hf : fo_X5_signedThing E_X5_thing h r0 x1 = some out) : Mt G l yX5_signedThing cX5_signedThing 4 (some .boolean) (rmS_A (d + 1)) [.ref (G.2.2 + r0), .int x1] h (some (.int out.1)) out.2 1 0 0 := by
  refine r_met (by decide +kernel) (Nat.le_of_ble_eq_true rfl) ?_
  intro p e s m args below meth c ls C hr hlk hnm hR hS hl
  have hE : Ext h h := Ext.rf
  have hl : lv_has ls 4 [(0, .ref (G.2.2 + r0)), (1, .int x1)] := hl
  rw [fo_X5_signedThing] at hf
  refine lv_iconst (v := (0 : Int32)) C.x C.b dX5_signedThing_0 (by decide) ?_
  refine lv_istore_n (lv' := [(2, .int (0 : Int32)), (0, .ref (G.2.2 + r0)), (1, .int x1)]) C.x C.b dX5_signedThing_1 rfl hl (by decide) rfl (fun ls hl => ?_)
  refine lv_iconst (v := (0 : Int32)) C.x C.b dX5_signedThing_2 (by decide) ?_
  refine lv_istore_n (lv' := [(3, .int (0 : Int32)), (2, .int (0 : Int32)), (0, .ref (G.2.2 + r0)), (1, .int x1)]) C.x C.b dX5_signedThing_3 rfl hl (by decide) rfl (fun ls hl => ?_)
  exact w_X5_signedThing_4 C hr hlk hE_X5_thing FU _ _ _ _ _ _ hf hE hR hS t_r0 z_0 (lv_sub hl [2, 3, 1, 0] rfl)

def P_X5_thing_23 (d : Nat) (G : Gt) (l : Launch) (p : Program) (e : Env) (s : State) (m : MethodId) (args : Array Value) (below : List Frame) (meth : Method) (c : Code) (h0 : Hp) (out : (Int32 × Hp)) (r0 : Nat) (x1 : Int32) (k : Hp → Int32 → Option (Int32 × Hp)) : Prop := ∀ (H : Heap) (locs : List Loc) (ls : Array Slot) (h : Hp) (x2 : Int32), k h x2 = some out → Ext h0 h → Rel G h H → va_S (AA G.2.2) s.heap H locs → hpT h r0 = (1, 5) → lv_has ls 3 [(0, .ref (G.2.2 + r0)), (1, .int x1), (2, .int x2)] → W p l e (rmS_A (d + 1)) s m args below meth c H locs 0 0 (MQ below (Qm G h0 out.2 (some (.int out.1)) 1) args s 0 0 (AA G.2.2)) (F0 m 23 ls [])
set_option maxRecDepth 100000 in
set_option maxHeartbeats 4000000 in
theorem w_X5_thing_23 {d : Nat} {G : Gt} {l : Launch} {p : Program} {e : Env} {s : State} {m : MethodId} {args : Array Value} {below : List Frame} {meth : Method} {c : Code} {E_X5_expression : Hp → Nat → Int32 → Option (Int32 × Hp)} {h0 : Hp} {out : (Int32 × Hp)} {r0 : Nat} {x1 : Int32}  (C : Cx G p m c cX5_thing 3 s args RX5) (hr : meth.sig.returnType = some .boolean) (hlk : meth.locks = false) (hE_X5_expression : ∀ {h : Hp} {r0 : Nat} {x1 : Int32} {out : (Int32 × Hp)}, hpT h r0 = (1, 5) → E_X5_expression h r0 x1 = some out → Mt G l yX5_expression cX5_expression 3 (some .boolean) (rmS_A d) [.ref (G.2.2 + r0), .int x1] h (some (.int out.1)) out.2 1 0 0)  : P_X5_thing_23 d G l p e s m args below meth c h0 out r0 x1 (fo_X5_thing_23 E_X5_expression r0 x1) := by
  intro H locs ls h x2 hf hE hR hS t_r0 hl
  rw [fo_X5_thing_23] at hf
  refine lv_iload_n C.x C.b dX5_thing_23 rfl (lv_at hl 2 rfl) ?_
  obtain ⟨q5, h_q5, hf⟩ := bd_e hf
  refine r_callS (As := [.int x2]) (rest := []) C hR hS mk_X5_isLetter cl_X5_82 (k_X5_isLetter h_q5) ⟨⟨by simp only [rm_X5_isLetter, rmS_A] <;> omega, by simp only [rm_X5_isLetter, rmS_A] <;> omega⟩, ⟨rfl, rfl⟩, by simp only [rmS_A] <;> omega, by simp only [rmS_A] <;> omega⟩ rfl hl.1 rfl (Nat.le_of_ble_eq_true rfl) dX5_thing_24 (fun H locs hR hS hE1 z_q5 => ?_)
  have z_q5 := z_q5 _ rfl
  refine lv_if_eq (tgt := 47) C.x C.b dX5_thing_27 (by decide) (fun c6 => ?_) (fun c6 => ?_)
  · have hf := it_t hf c6
    refine lv_iload_n C.x C.b dX5_thing_47 rfl (lv_at hl 2 rfl) ?_
    refine lv_bipush (v := (40 : Int32)) C.x C.b dX5_thing_48 (by decide) ?_
    refine lv_icmp_ne (tgt := 58) C.x C.b dX5_thing_50 (by decide) (fun c7 => ?_) (fun c7 => ?_)
    · have hf := it_f hf c7
      refine lv_iconst (v := (0 : Int32)) C.x C.b dX5_thing_58 (by decide) ?_
      have hf := so_e hf
      subst hf
      exact r_zret C hr hlk hR hE hS z_0 dX5_thing_59
    · have hf := it_t hf c7
      refine lv_iload_n C.x C.b dX5_thing_53 rfl (lv_at hl 1 rfl) ?_
      refine lv_iconst (v := (4 : Int32)) C.x C.b dX5_thing_54 (by decide) ?_
      refine lv_icmp_lt (tgt := 60) C.x C.b dX5_thing_55 (by decide) (fun c8 => ?_) (fun c8 => ?_)
      · have hf := it_t hf c8
        refine lv_aload_n C.x C.b dX5_thing_60 rfl (lv_at hl 0 rfl) ?_
        refine lv_dup C.x C.b dX5_thing_61 rfl ?_
        refine r_geti C hR t_r0 fl_X5_19 rfl dX5_thing_62 ?_
        refine lv_iconst (v := (1 : Int32)) C.x C.b dX5_thing_65 (by decide) ?_
        refine lv_iadd C.x C.b dX5_thing_66 ?_
        refine r_puti C hR hS t_r0 fl_X5_19 fp_X5_5_2 rfl dX5_thing_67 (fun H locs hR hS => ?_)
        obtain ⟨h9, e_h9⟩ : ∃ y, y = upI h r0 2 ((hpI h r0 2) + (1 : Int32)) := ⟨_, rfl⟩
        rw [← e_h9] at hR
        have hf := lt_e hf e_h9
        have hE := eI e_h9 hE
        have t_r0 := tI e_h9 t_r0
        refine lv_aload_n C.x C.b dX5_thing_70 rfl (lv_at hl 0 rfl) ?_
        refine lv_iload_n C.x C.b dX5_thing_71 rfl (lv_at hl 1 rfl) ?_
        refine lv_iconst (v := (1 : Int32)) C.x C.b dX5_thing_72 (by decide) ?_
        refine lv_iadd C.x C.b dX5_thing_73 ?_
        obtain ⟨q10, h_q10, hf⟩ := bd_e hf
        refine r_callV (As := [.int (x1 + (1 : Int32))]) (rest := []) C hR hS t_r0 rfl mk_X5_expression cl_X5_45 (hE_X5_expression t_r0 h_q10) ⟨⟨by simp only [rmS_A, rmS_A] <;> omega, by simp only [rmS_A, rmS_A] <;> omega⟩, ⟨rfl, rfl⟩, by simp only [rmS_A] <;> omega, by simp only [rmS_A] <;> omega⟩ rfl hl.1 rfl (Nat.le_of_ble_eq_true rfl) dX5_thing_74 (fun H locs hR hS hE1 z_q10 => ?_)
        have hE := hE.tr hE1
        have t_r0 := hE1.at t_r0 (by decide)
        have z_q10 := z_q10 _ rfl
        refine lv_if_eq (tgt := 89) C.x C.b dX5_thing_77 (by decide) (fun c11 => ?_) (fun c11 => ?_)
        · have hf := it_t hf c11
          refine lv_iconst (v := (0 : Int32)) C.x C.b dX5_thing_89 (by decide) ?_
          have hf := so_e hf
          subst hf
          exact r_zret C hr hlk hR hE hS z_0 dX5_thing_90
        · have hf := it_f hf c11
          refine lv_aload_n C.x C.b dX5_thing_80 rfl (lv_at hl 0 rfl) ?_
          obtain ⟨q12, h_q12, hf⟩ := bd_e hf
          refine r_callV (As := []) (rest := []) C hR hS t_r0 rfl mk_X5_next cl_X5_60 (k_X5_next t_r0 h_q12) ⟨⟨by simp only [rm_X5_next, rmS_A] <;> omega, by simp only [rm_X5_next, rmS_A] <;> omega⟩, ⟨rfl, rfl⟩, by simp only [rmS_A] <;> omega, by simp only [rmS_A] <;> omega⟩ rfl hl.1 rfl (Nat.le_of_ble_eq_true rfl) dX5_thing_81 (fun H locs hR hS hE1 z_q12 => ?_)
          refine lv_bipush (v := (41 : Int32)) C.x C.b dX5_thing_84 (by decide) ?_
          refine lv_icmp_eq (tgt := 91) C.x C.b dX5_thing_86 (by decide) (fun c13 => ?_) (fun c13 => ?_)
          · have hf := it_t hf c13
            refine lv_aload_n C.x C.b dX5_thing_91 rfl (lv_at hl 0 rfl) ?_
            refine lv_dup C.x C.b dX5_thing_92 rfl ?_
            refine r_geti C hR t_r0 fl_X5_19 rfl dX5_thing_93 ?_
            refine lv_iconst (v := (1 : Int32)) C.x C.b dX5_thing_96 (by decide) ?_
            refine lv_iadd C.x C.b dX5_thing_97 ?_
            refine r_puti C hR hS t_r0 fl_X5_19 fp_X5_5_2 rfl dX5_thing_98 (fun H locs hR hS => ?_)
            obtain ⟨h14, e_h14⟩ : ∃ y, y = upI q10.2 r0 2 ((hpI q10.2 r0 2) + (1 : Int32)) := ⟨_, rfl⟩
            rw [← e_h14] at hR
            have hf := lt_e hf e_h14
            have hE := eI e_h14 hE
            have t_r0 := tI e_h14 t_r0
            refine lv_iconst (v := (1 : Int32)) C.x C.b dX5_thing_101 (by decide) ?_
            have hf := so_e hf
            subst hf
            exact r_zret C hr hlk hR hE hS z_1 dX5_thing_102
          · have hf := it_f hf c13
            refine lv_iconst (v := (0 : Int32)) C.x C.b dX5_thing_89 (by decide) ?_
            have hf := so_e hf
            subst hf
            exact r_zret C hr hlk hR hE hS z_0 dX5_thing_90
      · have hf := it_f hf c8
        refine lv_iconst (v := (0 : Int32)) C.x C.b dX5_thing_58 (by decide) ?_
        have hf := so_e hf
        subst hf
        exact r_zret C hr hlk hR hE hS z_0 dX5_thing_59
  · have hf := it_f hf c6
    refine lv_aload_n C.x C.b dX5_thing_30 rfl (lv_at hl 0 rfl) ?_
    refine lv_dup C.x C.b dX5_thing_31 rfl ?_
    refine r_geti C hR t_r0 fl_X5_19 rfl dX5_thing_32 ?_
    refine lv_iconst (v := (1 : Int32)) C.x C.b dX5_thing_35 (by decide) ?_
    refine lv_iadd C.x C.b dX5_thing_36 ?_
    refine r_puti C hR hS t_r0 fl_X5_19 fp_X5_5_2 rfl dX5_thing_37 (fun H locs hR hS => ?_)
    obtain ⟨h15, e_h15⟩ : ∃ y, y = upI h r0 2 ((hpI h r0 2) + (1 : Int32)) := ⟨_, rfl⟩
    rw [← e_h15] at hR
    have hf := lt_e hf e_h15
    have hE := eI e_h15 hE
    have t_r0 := tI e_h15 t_r0
    refine lv_aload_n C.x C.b dX5_thing_40 rfl (lv_at hl 0 rfl) ?_
    refine lv_iload_n C.x C.b dX5_thing_41 rfl (lv_at hl 2 rfl) ?_
    obtain ⟨q16, h_q16, hf⟩ := bd_e hf
    refine r_callV (As := [.int x2]) (rest := []) C hR hS t_r0 rfl mk_X5_write cl_X5_67 (k_X5_write t_r0 h_q16) ⟨⟨by simp only [rm_X5_write, rmS_A] <;> omega, by simp only [rm_X5_write, rmS_A] <;> omega⟩, ⟨rfl, rfl⟩, by simp only [rmS_A] <;> omega, by simp only [rmS_A] <;> omega⟩ rfl hl.1 rfl (Nat.le_of_ble_eq_true rfl) dX5_thing_42 (fun H locs hR hS hE1 z_q16 => ?_)
    have hE := hE.tr hE1
    have t_r0 := hE1.at t_r0 (by decide)
    refine lv_iconst (v := (1 : Int32)) C.x C.b dX5_thing_45 (by decide) ?_
    have hf := so_e hf
    subst hf
    exact r_zret C hr hlk hR hE hS z_1 dX5_thing_46
set_option maxRecDepth 100000 in
set_option maxHeartbeats 4000000 in
theorem ko_X5_thing {G : Gt} {l : Launch} {d : Nat} {E_X5_expression : Hp → Nat → Int32 → Option (Int32 × Hp)} (hE_X5_expression : ∀ {h : Hp} {r0 : Nat} {x1 : Int32} {out : (Int32 × Hp)}, hpT h r0 = (1, 5) → E_X5_expression h r0 x1 = some out → Mt G l yX5_expression cX5_expression 3 (some .boolean) (rmS_A d) [.ref (G.2.2 + r0), .int x1] h (some (.int out.1)) out.2 1 0 0) {h : Hp} {r0 : Nat} {x1 : Int32} {out : (Int32 × Hp)} (t_r0 : hpT h r0 = (1, 5))  (hf : fo_X5_thing E_X5_expression h r0 x1 = some out) : Mt G l yX5_thing cX5_thing 3 (some .boolean) (rmS_A (d + 1)) [.ref (G.2.2 + r0), .int x1] h (some (.int out.1)) out.2 1 0 0 := by
  refine r_met (by decide +kernel) (Nat.le_of_ble_eq_true rfl) ?_
  intro p e s m args below meth c ls C hr hlk hnm hR hS hl
  have hE : Ext h h := Ext.rf
  have hl : lv_has ls 3 [(0, .ref (G.2.2 + r0)), (1, .int x1)] := hl
  rw [fo_X5_thing] at hf
  refine lv_aload_n C.x C.b dX5_thing_0 rfl (lv_at hl 0 rfl) ?_
  obtain ⟨q1, h_q1, hf⟩ := bd_e hf
  refine r_callV (As := []) (rest := []) C hR hS t_r0 rfl mk_X5_next cl_X5_60 (k_X5_next t_r0 h_q1) ⟨⟨by simp only [rm_X5_next, rmS_A] <;> omega, by simp only [rm_X5_next, rmS_A] <;> omega⟩, ⟨rfl, rfl⟩, by simp only [rmS_A] <;> omega, by simp only [rmS_A] <;> omega⟩ rfl hl.1 rfl (Nat.le_of_ble_eq_true rfl) dX5_thing_1 (fun H locs hR hS hE1 z_q1 => ?_)
  refine lv_istore_n (lv' := [(2, .int q1), (0, .ref (G.2.2 + r0)), (1, .int x1)]) C.x C.b dX5_thing_4 rfl hl (by decide) rfl (fun ls hl => ?_)
  refine lv_iload_n C.x C.b dX5_thing_5 rfl (lv_at hl 0 rfl) ?_
  refine lv_bipush (v := (48 : Int32)) C.x C.b dX5_thing_6 (by decide) ?_
  refine lv_icmp_lt (tgt := 23) C.x C.b dX5_thing_8 (by decide) (fun c2 => ?_) (fun c2 => ?_)
  · have hf := it_t hf c2
    exact w_X5_thing_23 C hr hlk hE_X5_expression _ _ _ _ _ hf hE hR hS t_r0 (lv_sub hl [1, 2, 0] rfl)
  · have hf := it_f hf c2
    refine lv_iload_n C.x C.b dX5_thing_11 rfl (lv_at hl 0 rfl) ?_
    refine lv_bipush (v := (57 : Int32)) C.x C.b dX5_thing_12 (by decide) ?_
    refine lv_icmp_gt (tgt := 23) C.x C.b dX5_thing_14 (by decide) (fun c3 => ?_) (fun c3 => ?_)
    · have hf := it_t hf c3
      exact w_X5_thing_23 C hr hlk hE_X5_expression _ _ _ _ _ hf hE hR hS t_r0 (lv_sub hl [1, 2, 0] rfl)
    · have hf := it_f hf c3
      refine lv_aload_n C.x C.b dX5_thing_17 rfl (lv_at hl 1 rfl) ?_
      obtain ⟨q4, h_q4, hf⟩ := bd_e hf
      refine r_callV (As := []) (rest := []) C hR hS t_r0 rfl mk_X5_number cl_X5_79 (k_X5_number t_r0 h_q4) ⟨⟨by simp only [rm_X5_number, rmS_A] <;> omega, by simp only [rm_X5_number, rmS_A] <;> omega⟩, ⟨rfl, rfl⟩, by simp only [rmS_A] <;> omega, by simp only [rmS_A] <;> omega⟩ rfl hl.1 rfl (Nat.le_of_ble_eq_true rfl) dX5_thing_18 (fun H locs hR hS hE1 z_q4 => ?_)
      have hE := hE.tr hE1
      have t_r0 := hE1.at t_r0 (by decide)
      refine lv_iconst (v := (1 : Int32)) C.x C.b dX5_thing_21 (by decide) ?_
      have hf := so_e hf
      subst hf
      exact r_zret C hr hlk hR hE hS z_1 dX5_thing_22

set_option maxRecDepth 100000 in
theorem kx_A {G : Gt} {l : Launch} (d : Nat) : (∀ {h : Hp} {r0 : Nat} {x1 : Int32} {out : (Int32 × Hp)}, hpT h r0 = (1, 5) → (fx_A d).1 h r0 x1 = some out → Mt G l yX5_expression cX5_expression 3 (some .boolean) (rmS_A d) [.ref (G.2.2 + r0), .int x1] h (some (.int out.1)) out.2 1 0 0) ∧ (∀ {h : Hp} {r0 : Nat} {x1 : Int32} {out : (Int32 × Hp)}, hpT h r0 = (1, 5) → (fx_A d).2.1 h r0 x1 = some out → Mt G l yX5_sum cX5_sum 4 (some .boolean) (rmS_A d) [.ref (G.2.2 + r0), .int x1] h (some (.int out.1)) out.2 1 0 0) ∧ (∀ {h : Hp} {r0 : Nat} {x1 : Int32} {out : (Int32 × Hp)}, hpT h r0 = (1, 5) → (fx_A d).2.2.1 h r0 x1 = some out → Mt G l yX5_product cX5_product 4 (some .boolean) (rmS_A d) [.ref (G.2.2 + r0), .int x1] h (some (.int out.1)) out.2 1 0 0) ∧ (∀ {h : Hp} {r0 : Nat} {x1 : Int32} {out : (Int32 × Hp)}, hpT h r0 = (1, 5) → (fx_A d).2.2.2.1 h r0 x1 = some out → Mt G l yX5_signedThing cX5_signedThing 4 (some .boolean) (rmS_A d) [.ref (G.2.2 + r0), .int x1] h (some (.int out.1)) out.2 1 0 0) ∧ (∀ {h : Hp} {r0 : Nat} {x1 : Int32} {out : (Int32 × Hp)}, hpT h r0 = (1, 5) → (fx_A d).2.2.2.2 h r0 x1 = some out → Mt G l yX5_thing cX5_thing 3 (some .boolean) (rmS_A d) [.ref (G.2.2 + r0), .int x1] h (some (.int out.1)) out.2 1 0 0) := by
  induction d with
  | zero => exact ⟨fun _ hf => (by cases hf), fun _ hf => (by cases hf), fun _ hf => (by cases hf), fun _ hf => (by cases hf), fun _ hf => (by cases hf)⟩
  | succ d ih => exact ⟨fun t0 hf => ko_X5_expression ih.2.1 t0 hf, fun t0 hf => ko_X5_sum ih.2.2.1 t0 hf, fun t0 hf => ko_X5_product ih.2.2.2.1 t0 hf, fun t0 hf => ko_X5_signedThing ih.2.2.2.2 t0 hf, fun t0 hf => ko_X5_thing ih.1 t0 hf⟩
def rm_X5_expression : Room := { frames := 34, cells := 0, slots := 0, locals := 754 }
theorem k_X5_expression {G : Gt} {l : Launch} : (∀ {h : Hp} {r0 : Nat} {x1 : Int32} {out : (Int32 × Hp)}, hpT h r0 = (1, 5) → f_X5_expression h r0 x1 = some out → Mt G l yX5_expression cX5_expression 3 (some .boolean) rm_X5_expression [.ref (G.2.2 + r0), .int x1] h (some (.int out.1)) out.2 1 0 0) := fun t0 hf => (kx_A 30).1 t0 hf
def rm_X5_sum : Room := { frames := 34, cells := 0, slots := 0, locals := 754 }
theorem k_X5_sum {G : Gt} {l : Launch} : (∀ {h : Hp} {r0 : Nat} {x1 : Int32} {out : (Int32 × Hp)}, hpT h r0 = (1, 5) → f_X5_sum h r0 x1 = some out → Mt G l yX5_sum cX5_sum 4 (some .boolean) rm_X5_sum [.ref (G.2.2 + r0), .int x1] h (some (.int out.1)) out.2 1 0 0) := fun t0 hf => (kx_A 30).2.1 t0 hf
def rm_X5_product : Room := { frames := 34, cells := 0, slots := 0, locals := 754 }
theorem k_X5_product {G : Gt} {l : Launch} : (∀ {h : Hp} {r0 : Nat} {x1 : Int32} {out : (Int32 × Hp)}, hpT h r0 = (1, 5) → f_X5_product h r0 x1 = some out → Mt G l yX5_product cX5_product 4 (some .boolean) rm_X5_product [.ref (G.2.2 + r0), .int x1] h (some (.int out.1)) out.2 1 0 0) := fun t0 hf => (kx_A 30).2.2.1 t0 hf
def rm_X5_signedThing : Room := { frames := 34, cells := 0, slots := 0, locals := 754 }
theorem k_X5_signedThing {G : Gt} {l : Launch} : (∀ {h : Hp} {r0 : Nat} {x1 : Int32} {out : (Int32 × Hp)}, hpT h r0 = (1, 5) → f_X5_signedThing h r0 x1 = some out → Mt G l yX5_signedThing cX5_signedThing 4 (some .boolean) rm_X5_signedThing [.ref (G.2.2 + r0), .int x1] h (some (.int out.1)) out.2 1 0 0) := fun t0 hf => (kx_A 30).2.2.2.1 t0 hf
def rm_X5_thing : Room := { frames := 34, cells := 0, slots := 0, locals := 754 }
theorem k_X5_thing {G : Gt} {l : Launch} : (∀ {h : Hp} {r0 : Nat} {x1 : Int32} {out : (Int32 × Hp)}, hpT h r0 = (1, 5) → f_X5_thing h r0 x1 = some out → Mt G l yX5_thing cX5_thing 3 (some .boolean) rm_X5_thing [.ref (G.2.2 + r0), .int x1] h (some (.int out.1)) out.2 1 0 0) := fun t0 hf => (kx_A 30).2.2.2.2 t0 hf

def rmS_C (d : Nat) : Room := { frames := 1 + d, cells := 0, slots := 0, locals := 1 + d * 23 }
set_option maxRecDepth 100000 in
set_option maxHeartbeats 4000000 in
theorem ko_X10_common {G : Gt} {l : Launch} {d : Nat} {E_X10_common : Hp → Int64 → Int64 → Option Int64} (hE_X10_common : ∀ {h : Hp} {y0 : Int64} {y2 : Int64} {out : Int64}, E_X10_common h y0 y2 = some out → Mt G l yX10_common cX10_common 4 (some .long) (rmS_C d) [.long y0, .long y2] h (some (.long out)) h 0 0 0) {h : Hp} {y0 : Int64} {y2 : Int64} {out : Int64}   (hf : fo_X10_common E_X10_common h y0 y2 = some out) : Mt G l yX10_common cX10_common 4 (some .long) (rmS_C (d + 1)) [.long y0, .long y2] h (some (.long out)) h 0 0 0 := by
  refine r_met (by decide +kernel) (Nat.le_of_ble_eq_true rfl) ?_
  intro p e s m args below meth c ls C hr hlk hnm hR hS hl
  have hl : lv_has ls 4 [(0, .long y0), (2, .long y2)] := hl
  rw [fo_X10_common] at hf
  refine lv_lload_n C.x C.b dX10_common_0 rfl (lv_at hl 1 rfl) ?_
  refine lv_lconst (v := (0 : Int64)) C.x C.b dX10_common_1 (by decide) ?_
  refine W.lcmp C.x C.b dX10_common_2 ?_
  refine lv_if_ne (tgt := 10) C.x C.b dX10_common_3 (by decide) (fun c1 => ?_) (fun c1 => ?_)
  · have hf := it_f hf c1
    refine lv_lload_n C.x C.b dX10_common_10 rfl (lv_at hl 1 rfl) ?_
    refine lv_lload_n C.x C.b dX10_common_11 rfl (lv_at hl 0 rfl) ?_
    refine lv_lload_n C.x C.b dX10_common_12 rfl (lv_at hl 1 rfl) ?_
    obtain ⟨g2, hf⟩ := gd_e hf
    refine lv_lrem C.x C.b dX10_common_13 (nz64_e g2) ?_
    refine lv_topl (fun v3 e_v3 => ?_)
    have hf := lt_e hf e_v3
    obtain ⟨q4, h_q4, hf⟩ := bd_e hf
    refine r_callS (As := [.long y2, .long v3]) (rest := []) C hR hS mk_X10_common cl_X10_106 (hE_X10_common h_q4) ⟨⟨by simp only [rmS_C, rmS_C] <;> omega, by simp only [rmS_C, rmS_C] <;> omega⟩, ⟨rfl, rfl⟩, by simp only [rmS_C] <;> omega, by simp only [rmS_C] <;> omega⟩ rfl hl.1 rfl (Nat.le_of_ble_eq_true rfl) dX10_common_14 (fun H locs hR hS hE1 z_q4 => ?_)
    have hf := so_e hf
    subst hf
    exact r_lret C hr hlk hR Ext.rf hS dX10_common_17
  · have hf := it_t hf c1
    refine lv_lload_n C.x C.b dX10_common_6 rfl (lv_at hl 0 rfl) ?_
    refine lv_goto (tgt := 17) C.x C.b dX10_common_7 (by decide) ?_
    have hf := so_e hf
    subst hf
    exact r_lret C hr hlk hR Ext.rf hS dX10_common_17

set_option maxRecDepth 100000 in
theorem kx_C {G : Gt} {l : Launch} (d : Nat) : (∀ {h : Hp} {y0 : Int64} {y2 : Int64} {out : Int64}, (fx_C d) h y0 y2 = some out → Mt G l yX10_common cX10_common 4 (some .long) (rmS_C d) [.long y0, .long y2] h (some (.long out)) h 0 0 0) := by
  induction d with
  | zero => exact fun hf => (by cases hf)
  | succ d ih => exact fun hf => ko_X10_common ih hf
def rm_X10_common : Room := { frames := 71, cells := 0, slots := 0, locals := 1611 }
theorem k_X10_common {G : Gt} {l : Launch} : (∀ {h : Hp} {y0 : Int64} {y2 : Int64} {out : Int64}, f_X10_common h y0 y2 = some out → Mt G l yX10_common cX10_common 4 (some .long) rm_X10_common [.long y0, .long y2] h (some (.long out)) h 0 0 0) := fun hf => (kx_C 70) hf

def rm_X5_init : Room := { frames := 1, cells := 0, slots := 0, locals := 12 }
set_option maxRecDepth 100000 in
set_option maxHeartbeats 4000000 in
theorem k_X5_init {G : Gt} {l : Launch}  {h : Hp} {r0 : Nat} {out : Hp} (t_r0 : hpT h r0 = (1, 5))  (hf : f_X5_init  h r0 = some out) : Mt G l yX5_init cX5_init 1 (none) rm_X5_init [.ref (G.2.2 + r0)] h (none) out 0 0 0 := by
  refine r_met (by decide +kernel) (Nat.le_of_ble_eq_true rfl) ?_
  intro p e s m args below meth c ls C hr hlk hnm hR hS hl
  have hE : Ext h h := Ext.rf
  have hl : lv_has ls 1 [(0, .ref (G.2.2 + r0))] := hl
  rw [f_X5_init] at hf
  refine lv_aload_n C.x C.b dX5_init_0 rfl (lv_at hl 0 rfl) ?_
  refine r_objinit C hl.1 lk_X5_3 lk_oi_i lk_oi_c (Nat.le_of_ble_eq_true rfl) (Nat.le_of_ble_eq_true rfl) dX5_init_1 ?_
  have hf := so_e hf
  subst hf
  exact r_vret C hr hlk hR hE hS dX5_init_4

def rm_X4_start : Room := { frames := 0, cells := 0, slots := 0, locals := 0 }
set_option maxRecDepth 100000 in
set_option maxHeartbeats 4000000 in
theorem k_X4_start {G : Gt} {l : Launch}  {h : Hp} {r0 : Nat} {out : Hp} (t_r0 : hpT h r0 = (1, 4))  (hf : f_X4_start  h r0 = some out) : Mt G l yX4_start cX4_start 1 (none) rm_X4_start [.ref (G.2.2 + r0)] h (none) out 0 0 0 := by
  refine r_met (by decide +kernel) (Nat.le_of_ble_eq_true rfl) ?_
  intro p e s m args below meth c ls C hr hlk hnm hR hS hl
  have hE : Ext h h := Ext.rf
  have hl : lv_has ls 1 [(0, .ref (G.2.2 + r0))] := hl
  rw [f_X4_start] at hf
  refine lv_aload_n C.x C.b dX4_start_0 rfl (lv_at hl 0 rfl) ?_
  refine lv_iconst (v := (0 : Int32)) C.x C.b dX4_start_1 (by decide) ?_
  refine r_puti C hR hS t_r0 fl_X4_21 fp_X4_4_3 rfl dX4_start_2 (fun H locs hR hS => ?_)
  obtain ⟨h1, e_h1⟩ : ∃ y, y = upI h r0 3 (0 : Int32) := ⟨_, rfl⟩
  rw [← e_h1] at hR
  have hf := lt_e hf e_h1
  have hE := eI e_h1 hE
  have t_r0 := tI e_h1 t_r0
  have hf := so_e hf
  subst hf
  exact r_vret C hr hlk hR hE hS dX4_start_5

def rm_X4_putNone : Room := { frames := 2, cells := 0, slots := 0, locals := 42 }
set_option maxRecDepth 100000 in
set_option maxHeartbeats 4000000 in
theorem k_X4_putNone {G : Gt} {l : Launch}  {h : Hp} {r0 : Nat} {out : Hp} (t_r0 : hpT h r0 = (1, 4))  (hf : f_X4_putNone  h r0 = some out) : Mt G l yX4_putNone cX4_putNone 1 (none) rm_X4_putNone [.ref (G.2.2 + r0)] h (none) out 0 0 0 := by
  refine r_met (by decide +kernel) (Nat.le_of_ble_eq_true rfl) ?_
  intro p e s m args below meth c ls C hr hlk hnm hR hS hl
  have hE : Ext h h := Ext.rf
  have hl : lv_has ls 1 [(0, .ref (G.2.2 + r0))] := hl
  rw [f_X4_putNone] at hf
  refine lv_aload_n C.x C.b dX4_putNone_0 rfl (lv_at hl 0 rfl) ?_
  obtain ⟨q1, h_q1, hf⟩ := bd_e hf
  refine r_callV (As := []) (rest := []) C hR hS t_r0 rfl mk_X4_start cl_X4_35 (k_X4_start t_r0 h_q1) ⟨⟨Nat.le_of_ble_eq_true rfl, Nat.le_of_ble_eq_true rfl⟩, ⟨rfl, rfl⟩, Nat.le_of_ble_eq_true rfl, Nat.le_of_ble_eq_true rfl⟩ rfl hl.1 rfl (Nat.le_of_ble_eq_true rfl) dX4_putNone_1 (fun H locs hR hS hE1 z_q1 => ?_)
  have hE := hE.tr hE1
  have t_r0 := hE1.at t_r0 (by decide)
  refine lv_aload_n C.x C.b dX4_putNone_4 rfl (lv_at hl 0 rfl) ?_
  refine lv_iconst (v := (1 : Int32)) C.x C.b dX4_putNone_5 (by decide) ?_
  obtain ⟨q2, h_q2, hf⟩ := bd_e hf
  refine r_callV (As := [.int (1 : Int32)]) (rest := []) C hR hS t_r0 rfl mk_X4_addNumber cl_X4_25 (k_X4_addNumber t_r0 h_q2) ⟨⟨Nat.le_of_ble_eq_true rfl, Nat.le_of_ble_eq_true rfl⟩, ⟨rfl, rfl⟩, Nat.le_of_ble_eq_true rfl, Nat.le_of_ble_eq_true rfl⟩ rfl hl.1 rfl (Nat.le_of_ble_eq_true rfl) dX4_putNone_6 (fun H locs hR hS hE1 z_q2 => ?_)
  have hE := hE.tr hE1
  have t_r0 := hE1.at t_r0 (by decide)
  refine lv_aload_n C.x C.b dX4_putNone_9 rfl (lv_at hl 0 rfl) ?_
  refine lv_bipush (v := (111 : Int32)) C.x C.b dX4_putNone_10 (by decide) ?_
  obtain ⟨q3, h_q3, hf⟩ := bd_e hf
  refine r_callV (As := [.int (111 : Int32)]) (rest := []) C hR hS t_r0 rfl mk_X4_addSign cl_X4_38 (k_X4_addSign t_r0 h_q3) ⟨⟨Nat.le_of_ble_eq_true rfl, Nat.le_of_ble_eq_true rfl⟩, ⟨rfl, rfl⟩, Nat.le_of_ble_eq_true rfl, Nat.le_of_ble_eq_true rfl⟩ rfl hl.1 rfl (Nat.le_of_ble_eq_true rfl) dX4_putNone_12 (fun H locs hR hS hE1 z_q3 => ?_)
  have hE := hE.tr hE1
  have t_r0 := hE1.at t_r0 (by decide)
  refine lv_aload_n C.x C.b dX4_putNone_15 rfl (lv_at hl 0 rfl) ?_
  refine lv_iconst (v := (1 : Int32)) C.x C.b dX4_putNone_16 (by decide) ?_
  obtain ⟨q4, h_q4, hf⟩ := bd_e hf
  refine r_callV (As := [.int (1 : Int32)]) (rest := []) C hR hS t_r0 rfl mk_X4_addNumber cl_X4_25 (k_X4_addNumber t_r0 h_q4) ⟨⟨Nat.le_of_ble_eq_true rfl, Nat.le_of_ble_eq_true rfl⟩, ⟨rfl, rfl⟩, Nat.le_of_ble_eq_true rfl, Nat.le_of_ble_eq_true rfl⟩ rfl hl.1 rfl (Nat.le_of_ble_eq_true rfl) dX4_putNone_17 (fun H locs hR hS hE1 z_q4 => ?_)
  have hE := hE.tr hE1
  have t_r0 := hE1.at t_r0 (by decide)
  refine lv_aload_n C.x C.b dX4_putNone_20 rfl (lv_at hl 0 rfl) ?_
  refine lv_bipush (v := (62 : Int32)) C.x C.b dX4_putNone_21 (by decide) ?_
  obtain ⟨q5, h_q5, hf⟩ := bd_e hf
  refine r_callV (As := [.int (62 : Int32)]) (rest := []) C hR hS t_r0 rfl mk_X4_addSign cl_X4_38 (k_X4_addSign t_r0 h_q5) ⟨⟨Nat.le_of_ble_eq_true rfl, Nat.le_of_ble_eq_true rfl⟩, ⟨rfl, rfl⟩, Nat.le_of_ble_eq_true rfl, Nat.le_of_ble_eq_true rfl⟩ rfl hl.1 rfl (Nat.le_of_ble_eq_true rfl) dX4_putNone_23 (fun H locs hR hS hE1 z_q5 => ?_)
  have hE := hE.tr hE1
  have t_r0 := hE1.at t_r0 (by decide)
  refine lv_aload_n C.x C.b dX4_putNone_26 rfl (lv_at hl 0 rfl) ?_
  refine lv_bipush (v := (43 : Int32)) C.x C.b dX4_putNone_27 (by decide) ?_
  obtain ⟨q6, h_q6, hf⟩ := bd_e hf
  refine r_callV (As := [.int (43 : Int32)]) (rest := []) C hR hS t_r0 rfl mk_X4_addSign cl_X4_38 (k_X4_addSign t_r0 h_q6) ⟨⟨Nat.le_of_ble_eq_true rfl, Nat.le_of_ble_eq_true rfl⟩, ⟨rfl, rfl⟩, Nat.le_of_ble_eq_true rfl, Nat.le_of_ble_eq_true rfl⟩ rfl hl.1 rfl (Nat.le_of_ble_eq_true rfl) dX4_putNone_29 (fun H locs hR hS hE1 z_q6 => ?_)
  have hE := hE.tr hE1
  have t_r0 := hE1.at t_r0 (by decide)
  have hf := so_e hf
  subst hf
  exact r_vret C hr hlk hR hE hS dX4_putNone_32

def rm_X5_read : Room := { frames := 35, cells := 0, slots := 0, locals := 776 }
def P_X5_read_78 (G : Gt) (l : Launch) (p : Program) (e : Env) (s : State) (m : MethodId) (args : Array Value) (below : List Frame) (meth : Method) (c : Code) (h0 : Hp) (out : (Int32 × Hp)) (r0 : Nat) (r1 : Nat) (r2 : Nat) (k : Hp → Int32 → Option (Int32 × Hp)) : Prop := ∀ (H : Heap) (locs : List Loc) (ls : Array Slot) (h : Hp) (s0 : Int32), k h s0 = some out → Ext h0 h → Rel G h H → va_S (AA G.2.2) s.heap H locs → hpT h r0 = (1, 5) → hpT h r1 = (1, 6) → hpT h r2 = (1, 4) → narrow .boolean (.int s0) = .int s0 → lv_has ls 4 [(0, .ref (G.2.2 + r0)), (1, .ref (G.2.2 + r1)), (2, .ref (G.2.2 + r2))] → W p l e rm_X5_read s m args below meth c H locs 0 0 (MQ below (Qm G h0 out.2 (some (.int out.1)) 0) args s 0 0 (AA G.2.2)) (F0 m 78 ls [.int s0])
def P_X5_read_77 (G : Gt) (l : Launch) (p : Program) (e : Env) (s : State) (m : MethodId) (args : Array Value) (below : List Frame) (meth : Method) (c : Code) (h0 : Hp) (out : (Int32 × Hp)) (r0 : Nat) (r1 : Nat) (r2 : Nat) (k : Hp → Option (Int32 × Hp)) : Prop := ∀ (H : Heap) (locs : List Loc) (ls : Array Slot) (h : Hp), k h = some out → Ext h0 h → Rel G h H → va_S (AA G.2.2) s.heap H locs → hpT h r0 = (1, 5) → hpT h r1 = (1, 6) → hpT h r2 = (1, 4) → lv_has ls 4 [(0, .ref (G.2.2 + r0)), (1, .ref (G.2.2 + r1)), (2, .ref (G.2.2 + r2))] → W p l e rm_X5_read s m args below meth c H locs 0 0 (MQ below (Qm G h0 out.2 (some (.int out.1)) 0) args s 0 0 (AA G.2.2)) (F0 m 77 ls [])
set_option maxRecDepth 100000 in
set_option maxHeartbeats 4000000 in
theorem w_X5_read_78 {G : Gt} {l : Launch} {p : Program} {e : Env} {s : State} {m : MethodId} {args : Array Value} {below : List Frame} {meth : Method} {c : Code}  {h0 : Hp} {out : (Int32 × Hp)} {r0 : Nat} {r1 : Nat} {r2 : Nat}  (C : Cx G p m c cX5_read 4 s args RX5) (hr : meth.sig.returnType = some .int) (hlk : meth.locks = false)   : P_X5_read_78 G l p e s m args below meth c h0 out r0 r1 r2 (f_X5_read_78 r0 r1 r2) := by
  intro H locs ls h s0 hf hE hR hS t_r0 t_r1 t_r2 z_s0 hl
  rw [f_X5_read_78] at hf
  refine lv_istore_n (lv' := [(3, .int s0), (0, .ref (G.2.2 + r0)), (1, .ref (G.2.2 + r1)), (2, .ref (G.2.2 + r2))]) C.x C.b dX5_read_78 rfl hl (by decide) rfl (fun ls hl => ?_)
  refine lv_iload_n C.x C.b dX5_read_79 rfl (lv_at hl 0 rfl) ?_
  refine lv_if_eq (tgt := 87) C.x C.b dX5_read_80 (by decide) (fun c13 => ?_) (fun c13 => ?_)
  · have hf := it_t hf c13
    refine lv_aload_n C.x C.b dX5_read_87 rfl (lv_at hl 1 rfl) ?_
    refine r_geti C hR t_r0 fl_X5_19 rfl dX5_read_88 ?_
    have hf := so_e hf
    subst hf
    exact r_iret C hr hlk hR hE hS dX5_read_91
  · have hf := it_f hf c13
    refine lv_iconst (v := (-1 : Int32)) C.x C.b dX5_read_83 (by decide) ?_
    refine lv_goto (tgt := 91) C.x C.b dX5_read_84 (by decide) ?_
    have hf := so_e hf
    subst hf
    exact r_iret C hr hlk hR hE hS dX5_read_91
set_option maxRecDepth 100000 in
set_option maxHeartbeats 4000000 in
theorem w_X5_read_77 {G : Gt} {l : Launch} {p : Program} {e : Env} {s : State} {m : MethodId} {args : Array Value} {below : List Frame} {meth : Method} {c : Code}  {h0 : Hp} {out : (Int32 × Hp)} {r0 : Nat} {r1 : Nat} {r2 : Nat}  (C : Cx G p m c cX5_read 4 s args RX5) (hr : meth.sig.returnType = some .int) (hlk : meth.locks = false)   : P_X5_read_77 G l p e s m args below meth c h0 out r0 r1 r2 (f_X5_read_77 r0 r1 r2) := by
  intro H locs ls h hf hE hR hS t_r0 t_r1 t_r2 hl
  rw [f_X5_read_77] at hf
  refine lv_iconst (v := (0 : Int32)) C.x C.b dX5_read_77 (by decide) ?_
  exact w_X5_read_78 C hr hlk _ _ _ _ _ hf hE hR hS t_r0 t_r1 t_r2 z_0 (lv_sub hl [0, 1, 2] rfl)
set_option maxRecDepth 100000 in
set_option maxHeartbeats 4000000 in
theorem k_X5_read {G : Gt} {l : Launch}  {h : Hp} {r0 : Nat} {r1 : Nat} {r2 : Nat} {out : (Int32 × Hp)} (t_r0 : hpT h r0 = (1, 5)) (t_r1 : hpT h r1 = (1, 6)) (t_r2 : hpT h r2 = (1, 4))  (hf : f_X5_read  h r0 r1 r2 = some out) : Mt G l yX5_read cX5_read 4 (some .int) rm_X5_read [.ref (G.2.2 + r0), .ref (G.2.2 + r1), .ref (G.2.2 + r2)] h (some (.int out.1)) out.2 0 0 0 := by
  refine r_met (by decide +kernel) (Nat.le_of_ble_eq_true rfl) ?_
  intro p e s m args below meth c ls C hr hlk hnm hR hS hl
  have hE : Ext h h := Ext.rf
  have hl : lv_has ls 4 [(0, .ref (G.2.2 + r0)), (1, .ref (G.2.2 + r1)), (2, .ref (G.2.2 + r2))] := hl
  rw [f_X5_read] at hf
  refine lv_aload_n C.x C.b dX5_read_0 rfl (lv_at hl 0 rfl) ?_
  refine lv_aload_n C.x C.b dX5_read_1 rfl (lv_at hl 1 rfl) ?_
  refine r_putr C hR hS false (fun q => by cases q) (ne0 hR t_r1) t_r0 (okT_o t_r1 rfl) fl_X5_9 fp_X5_5_0 (by decide) dX5_read_2 (fun H locs hR hS => ?_)
  obtain ⟨h1, e_h1⟩ : ∃ y, y = upR h r0 0 r1 := ⟨_, rfl⟩
  rw [← e_h1] at hR
  have hf := lt_e hf e_h1
  have hE := eR e_h1 hE
  have t_r0 := tR e_h1 t_r0
  have t_r1 := tR e_h1 t_r1
  have t_r2 := tR e_h1 t_r2
  refine lv_aload_n C.x C.b dX5_read_5 rfl (lv_at hl 0 rfl) ?_
  refine lv_aload_n C.x C.b dX5_read_6 rfl (lv_at hl 2 rfl) ?_
  refine r_putr C hR hS false (fun q => by cases q) (ne0 hR t_r2) t_r0 (okT_o t_r2 rfl) fl_X5_15 fp_X5_5_1 (by decide) dX5_read_7 (fun H locs hR hS => ?_)
  obtain ⟨h2, e_h2⟩ : ∃ y, y = upR h1 r0 1 r2 := ⟨_, rfl⟩
  rw [← e_h2] at hR
  have hf := lt_e hf e_h2
  have hE := eR e_h2 hE
  have t_r0 := tR e_h2 t_r0
  have t_r1 := tR e_h2 t_r1
  have t_r2 := tR e_h2 t_r2
  refine lv_aload_n C.x C.b dX5_read_10 rfl (lv_at hl 0 rfl) ?_
  refine lv_iconst (v := (0 : Int32)) C.x C.b dX5_read_11 (by decide) ?_
  refine r_puti C hR hS t_r0 fl_X5_19 fp_X5_5_2 rfl dX5_read_12 (fun H locs hR hS => ?_)
  obtain ⟨h3, e_h3⟩ : ∃ y, y = upI h2 r0 2 (0 : Int32) := ⟨_, rfl⟩
  rw [← e_h3] at hR
  have hf := lt_e hf e_h3
  have hE := eI e_h3 hE
  have t_r0 := tI e_h3 t_r0
  have t_r1 := tI e_h3 t_r1
  have t_r2 := tI e_h3 t_r2
  refine lv_aload_n C.x C.b dX5_read_15 rfl (lv_at hl 0 rfl) ?_
  refine lv_aload_n C.x C.b dX5_read_16 rfl (lv_at hl 1 rfl) ?_
  refine r_geti C hR t_r1 fl_X5_23 rfl dX5_read_17 ?_
  refine lv_bipush (v := (40 : Int32)) C.x C.b dX5_read_20 (by decide) ?_
  refine va_mmin C.x C.b (C.ml.trans hl.1.symm) C.ow (C.ts _ lk_X5_28) (C.ts _ lk_Mmin_s) (C.ts _ lk_Math) (C.ts _ lk_Mmin_c) (Nat.le_of_ble_eq_true rfl) (Nat.le_of_ble_eq_true rfl) (Nat.le_of_ble_eq_true rfl) (Nat.le_of_ble_eq_true rfl) dX5_read_22 ?_
  refine lv_topi (fun v4 e_v4 => ?_)
  have hf := lt_e hf e_v4
  refine r_puti C hR hS t_r0 fl_X5_34 fp_X5_5_3 rfl dX5_read_25 (fun H locs hR hS => ?_)
  obtain ⟨h5, e_h5⟩ : ∃ y, y = upI h3 r0 3 v4 := ⟨_, rfl⟩
  rw [← e_h5] at hR
  have hf := lt_e hf e_h5
  have hE := eI e_h5 hE
  have t_r0 := tI e_h5 t_r0
  have t_r1 := tI e_h5 t_r1
  have t_r2 := tI e_h5 t_r2
  refine lv_aload_n C.x C.b dX5_read_28 rfl (lv_at hl 1 rfl) ?_
  refine r_geti C hR t_r1 fl_X5_23 rfl dX5_read_29 ?_
  refine lv_if_ne (tgt := 41) C.x C.b dX5_read_32 (by decide) (fun c6 => ?_) (fun c6 => ?_)
  · have hf := it_f hf c6
    refine lv_aload_n C.x C.b dX5_read_41 rfl (lv_at hl 2 rfl) ?_
    obtain ⟨q7, h_q7, hf⟩ := bd_e hf
    refine r_callV (As := []) (rest := []) C hR hS t_r2 rfl mk_X4_start cl_X5_42 (k_X4_start t_r2 h_q7) ⟨⟨Nat.le_of_ble_eq_true rfl, Nat.le_of_ble_eq_true rfl⟩, ⟨rfl, rfl⟩, Nat.le_of_ble_eq_true rfl, Nat.le_of_ble_eq_true rfl⟩ rfl hl.1 rfl (Nat.le_of_ble_eq_true rfl) dX5_read_42 (fun H locs hR hS hE1 z_q7 => ?_)
    have hE := hE.tr hE1
    have t_r0 := hE1.at t_r0 (by decide)
    have t_r1 := hE1.at t_r1 (by decide)
    have t_r2 := hE1.at t_r2 (by decide)
    refine lv_aload_n C.x C.b dX5_read_45 rfl (lv_at hl 0 rfl) ?_
    refine lv_iconst (v := (0 : Int32)) C.x C.b dX5_read_46 (by decide) ?_
    obtain ⟨q8, h_q8, hf⟩ := bd_e hf
    refine r_callV (As := [.int (0 : Int32)]) (rest := []) C hR hS t_r0 rfl mk_X5_expression cl_X5_45 (k_X5_expression t_r0 h_q8) ⟨⟨Nat.le_of_ble_eq_true rfl, Nat.le_of_ble_eq_true rfl⟩, ⟨rfl, rfl⟩, Nat.le_of_ble_eq_true rfl, Nat.le_of_ble_eq_true rfl⟩ rfl hl.1 rfl (Nat.le_of_ble_eq_true rfl) dX5_read_47 (fun H locs hR hS hE1 z_q8 => ?_)
    have hE := hE.tr hE1
    have t_r0 := hE1.at t_r0 (by decide)
    have t_r1 := hE1.at t_r1 (by decide)
    have t_r2 := hE1.at t_r2 (by decide)
    have z_q8 := z_q8 _ rfl
    refine lv_if_eq (tgt := 77) C.x C.b dX5_read_50 (by decide) (fun c9 => ?_) (fun c9 => ?_)
    · have hf := it_t hf c9
      exact w_X5_read_77 C hr hlk _ _ _ _ hf hE hR hS t_r0 t_r1 t_r2 (lv_sub hl [0, 1, 2] rfl)
    · have hf := it_f hf c9
      refine lv_aload_n C.x C.b dX5_read_53 rfl (lv_at hl 0 rfl) ?_
      refine r_geti C hR t_r0 fl_X5_19 rfl dX5_read_54 ?_
      refine lv_aload_n C.x C.b dX5_read_57 rfl (lv_at hl 0 rfl) ?_
      refine r_geti C hR t_r0 fl_X5_34 rfl dX5_read_58 ?_
      refine lv_icmp_ne (tgt := 77) C.x C.b dX5_read_61 (by decide) (fun c10 => ?_) (fun c10 => ?_)
      · have hf := it_f hf c10
        exact w_X5_read_77 C hr hlk _ _ _ _ hf hE hR hS t_r0 t_r1 t_r2 (lv_sub hl [0, 1, 2] rfl)
      · have hf := it_t hf c10
        refine lv_aload_n C.x C.b dX5_read_64 rfl (lv_at hl 1 rfl) ?_
        refine r_geti C hR t_r1 fl_X5_23 rfl dX5_read_65 ?_
        refine lv_bipush (v := (40 : Int32)) C.x C.b dX5_read_68 (by decide) ?_
        refine lv_icmp_gt (tgt := 77) C.x C.b dX5_read_70 (by decide) (fun c11 => ?_) (fun c11 => ?_)
        · have hf := it_t hf c11
          exact w_X5_read_77 C hr hlk _ _ _ _ hf hE hR hS t_r0 t_r1 t_r2 (lv_sub hl [0, 1, 2] rfl)
        · have hf := it_f hf c11
          refine lv_iconst (v := (1 : Int32)) C.x C.b dX5_read_73 (by decide) ?_
          refine lv_goto (tgt := 78) C.x C.b dX5_read_74 (by decide) ?_
          exact w_X5_read_78 C hr hlk _ _ _ _ _ hf hE hR hS t_r0 t_r1 t_r2 z_1 (lv_sub hl [0, 1, 2] rfl)
  · have hf := it_t hf c6
    refine lv_aload_n C.x C.b dX5_read_35 rfl (lv_at hl 2 rfl) ?_
    obtain ⟨q12, h_q12, hf⟩ := bd_e hf
    refine r_callV (As := []) (rest := []) C hR hS t_r2 rfl mk_X4_putNone cl_X5_37 (k_X4_putNone t_r2 h_q12) ⟨⟨Nat.le_of_ble_eq_true rfl, Nat.le_of_ble_eq_true rfl⟩, ⟨rfl, rfl⟩, Nat.le_of_ble_eq_true rfl, Nat.le_of_ble_eq_true rfl⟩ rfl hl.1 rfl (Nat.le_of_ble_eq_true rfl) dX5_read_36 (fun H locs hR hS hE1 z_q12 => ?_)
    have hE := hE.tr hE1
    have t_r0 := hE1.at t_r0 (by decide)
    have t_r1 := hE1.at t_r1 (by decide)
    have t_r2 := hE1.at t_r2 (by decide)
    refine lv_iconst (v := (-1 : Int32)) C.x C.b dX5_read_39 (by decide) ?_
    have hf := so_e hf
    subst hf
    exact r_iret C hr hlk hR hE hS dX5_read_40
