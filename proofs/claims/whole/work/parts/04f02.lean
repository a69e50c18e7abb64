def f_X10_fence_106 (r0 : Nat) (x1 : Int32) (k50 : Hp → Int32 → Option (Int32 × Hp)) (k57 : Hp → Int32 → Int32 → Option (Int32 × Hp)) : Hp → Int32 → Int32 → Option (Int32 × Hp) := fun h x2 x3 =>
  lt (x3 + (1 : Int32)) fun v26 =>
  k57 h x2 v26
def f_X10_fence_57 (r0 : Nat) (x1 : Int32) (k50 : Hp → Int32 → Option (Int32 × Hp)) (n : Nat) : Hp → Int32 → Int32 → Option (Int32 × Hp) := match n with
  | 0 => fun _ _ _ => none
  | n + 1 => fun h x2 x3 =>
    lt (f_X10_fence_57 r0 x1 k50 n) fun k57 =>
    lt (mn32 (3 : Int32) (x1 - x2)) fun v14 =>
    if v14 < x3 then (
      lt (x2 + (1 : Int32)) fun v16 =>
      k50 h v16
    ) else (
      if (hpI h r0 1) = 0 then (
        gd (nz (hpR h r0 39)) <|
        gd (inb x2 (hpT h (hpR h r0 39)).2) <|
        gd (inb ((x1 - x3) - x2) (hpT h (hpR h r0 39)).2) <|
        if (hpI h (hpR h r0 39) (ix x2)) = (hpI h (hpR h r0 39) (ix ((x1 - x3) - x2))) then (
          (f_X10_enters h r0 (x2.toInt64)).bind fun q24 =>
          (f_X10_enters q24 r0 (x3.toInt64)).bind fun q25 =>
          f_X10_fence_106 r0 x1 k50 k57 q25 x2 x3
        ) else (
          f_X10_fence_106 r0 x1 k50 k57 h x2 x3
        )
      ) else (
        f_X10_fence_106 r0 x1 k50 k57 h x2 x3
      )
    )
def f_X10_fence_130 (r0 : Nat) (x1 : Int32) : Hp → Int32 → Option (Int32 × Hp) := fun h s0 =>
  (f_X10_flag h s0).bind fun q27 =>
  some (q27, h)
def f_X10_fence_50 (r0 : Nat) (x1 : Int32) (n : Nat) : Hp → Int32 → Option (Int32 × Hp) := match n with
  | 0 => fun _ _ => none
  | n + 1 => fun h x2 =>
    lt (f_X10_fence_50 r0 x1 n) fun k50 =>
    if x1 ≤ x2 then (
      f_X10_fence_130 r0 x1 h (if (hpI h r0 1) ≤ 0 then (0 : Int32) else (1 : Int32))
    ) else (
      f_X10_fence_57 r0 x1 k50 FU h x2 (1 : Int32)
    )
def f_X10_fence_21 (r0 : Nat) (x1 : Int32) (n : Nat) : Hp → Int32 → Option (Int32 × Hp) := match n with
  | 0 => fun _ _ => none
  | n + 1 => fun h x2 =>
    lt (f_X10_fence_21 r0 x1 n) fun k21 =>
    if x1 < x2 then (
      lt (upI h r0 1 (0 : Int32)) fun h5 =>
      f_X10_fence_50 r0 x1 FU h5 (0 : Int32)
    ) else (
      gd (nz (hpR h r0 39)) <|
      (f_X10_worthOf h r0 x2).bind fun q8 =>
      gd (inb x2 (hpT q8.2 (hpR h r0 39)).2) <|
      lt (upI q8.2 (hpR h r0 39) (ix x2) q8.1) fun h10 =>
      lt (x2 + (1 : Int32)) fun v11 =>
      k21 h10 v11
    )
def f_X10_fence (h : Hp) (r0 : Nat) (x1 : Int32) : Option (Int32 × Hp) :=
  lt (upI h r0 0 (0 : Int32)) fun h1 =>
  (f_X10_in h1 (x1.toInt64) (0 : Int64) (40 : Int64)).bind fun q2 =>
  if q2 = 0 then (
    some ((-1 : Int32), h1)
  ) else (
    f_X10_fence_21 r0 x1 FU h1 (0 : Int32)
  )

def f_X10_onIn (h : Hp) (r0 : Nat) (x1 : Int32) : Option (Int32 × Hp) :=
  (f_X10_copies h r0).bind fun q1 =>
  gd (nz (hpR q1 r0 7)) <|
  (f_X10_goesOn q1 r0 (hpR q1 r0 7) x1).bind fun q4 =>
  gd (nz (hpR q4 r0 7)) <|
  (f_X10_on q4 (hpR q4 r0 7)).bind fun q7 =>
  (f_J6_bitCount_0f7a4 q4 q7).bind fun q8 =>
  some (q8, q4)

def f_X10_law_107 (r0 : Nat) (n : Nat) : Hp → Int32 → Int32 → Int32 → Int32 → Option (Int32 × Hp) := match n with
  | 0 => fun _ _ _ _ _ => none
  | n + 1 => fun h x2 x3 x4 x5 =>
    lt (f_X10_law_107 r0 n) fun k107 =>
    gd (nz (hpR h r0 6)) <|
    gd (inb (48 : Int32) (hpT h (hpR h r0 6)).2) <|
    if (hpI h (hpR h r0 6) (ix (48 : Int32))) ≤ x5 then (
      gd (nz (hpR h r0 41)) <|
      (f_X10_laysCode h r0 (hpR h r0 41) x3).bind fun q28 =>
      some ((x4 - x2), q28)
    ) else (
      (f_X10_lossOn h r0 x5).bind fun q29 =>
      (f_X10_enters q29.2 r0 (q29.1.toInt64)).bind fun q30 =>
      lt (x5 + (1 : Int32)) fun v31 =>
      k107 q30 x2 x3 x4 v31
    )
def f_X10_law_37 (r0 : Nat) (n : Nat) : Hp → Int32 → Int32 → Int32 → Option (Int32 × Hp) := match n with
  | 0 => fun _ _ _ _ => none
  | n + 1 => fun h x2 x3 x4 =>
    lt (f_X10_law_37 r0 n) fun k37 =>
    if (hpI h r0 17) ≤ x4 then (
      gd (nz (hpR h r0 16)) <|
      (f_X10_laysCode h r0 (hpR h r0 16) (hpI h r0 18)).bind fun q9 =>
      (f_X10_onIn q9 r0 (9 : Int32)).bind fun q10 =>
      lt (upI q10.2 r0 1 (0 : Int32)) fun h11 =>
      (f_X10_enters h11 r0 (q10.1.toInt64)).bind fun q12 =>
      (f_X10_enters q12 r0 (x2.toInt64)).bind fun q13 =>
      f_X10_law_107 r0 FU q13 x2 x3 q10.1 (0 : Int32)
    ) else (
      gd (nz (hpR h r0 41)) <|
      gd (nz (hpR h r0 15)) <|
      gd (inb x4 (hpT h (hpR h r0 15)).2) <|
      gd (inb x4 (hpT h (hpR h r0 41)).2) <|
      lt (upI h (hpR h r0 41) (ix x4) (hpI h (hpR h r0 15) (ix x4))) fun h20 =>
      lt (x4 + (1 : Int32)) fun v21 =>
      k37 h20 x2 x3 v21
    )
def f_X10_law (h : Hp) (r0 : Nat) : Option (Int32 × Hp) :=
  lt (upI h r0 0 (0 : Int32)) fun h1 =>
  (f_X10_readsRule h1 r0).bind fun q2 =>
  if 0 ≤ q2.1 then (
    (f_X10_onIn q2.2 r0 (9 : Int32)).bind fun q4 =>
    lt (hpI q4.2 r0 17) fun v5 =>
    f_X10_law_37 r0 FU q4.2 q4.1 v5 (0 : Int32)
  ) else (
    some (((q2.1 + (1 : Int32)) - (10000 : Int32)), q2.2)
  )

def f_X10_gets_12 (h : Hp) (x0 : Int32) (x1 : Int32) (x2 : Int32) : Int32 → Option Int32 := fun s0 =>
  lt (mx32 (0 : Int32) ((x0 + x1) - (9 : Int32))) fun v2 =>
  some ((s0 - x0) - v2)
def f_X10_gets (h : Hp) (x0 : Int32) (x1 : Int32) (x2 : Int32) : Option Int32 :=
  f_X10_gets_12 h x0 x1 x2 (if (x0 + x1) ≤ (4 : Int32) then (0 : Int32) else x2)

def f_X10_isRest_37 (h : Hp) (x0 : Int32) (x1 : Int32) (x2 : Int32) (k5 : Int32 → Int32 → Option Int32) : Int32 → Int32 → Option Int32 := fun s0 x4 =>
  lt (x4 + (1 : Int32)) fun v6 =>
  k5 s0 v6
def f_X10_isRest_36 (h : Hp) (x0 : Int32) (x1 : Int32) (x2 : Int32) (k5 : Int32 → Int32 → Option Int32) : Int32 → Option Int32 := fun x4 =>
  f_X10_isRest_37 h x0 x1 x2 k5 (0 : Int32) x4
def f_X10_isRest_5 (h : Hp) (x0 : Int32) (x1 : Int32) (x2 : Int32) (n : Nat) : Int32 → Int32 → Option Int32 := match n with
  | 0 => fun _ _ => none
  | n + 1 => fun x3 x4 =>
    lt (f_X10_isRest_5 h x0 x1 x2 n) fun k5 =>
    if (9 : Int32) < x4 then (
      some x3
    ) else (
      if x3 = 0 then (
        f_X10_isRest_36 h x0 x1 x2 k5 x4
      ) else (
        (f_X10_gets h x4 x1 x2).bind fun q3 =>
        (f_X10_gets h x0 x1 x2).bind fun q4 =>
        if q4 < q3 then (
          f_X10_isRest_36 h x0 x1 x2 k5 x4
        ) else (
          f_X10_isRest_37 h x0 x1 x2 k5 (1 : Int32) x4
        )
      )
    )
def f_X10_isRest (h : Hp) (x0 : Int32) (x1 : Int32) (x2 : Int32) : Option Int32 :=
  f_X10_isRest_5 h x0 x1 x2 FU (1 : Int32) (0 : Int32)

def f_X10_rests_84 (r0 : Nat) (x1 : Int32) (k28 : Hp → Int32 → Int32 → Option (Int32 × Hp)) (k37 : Hp → Int32 → Int32 → Int32 → Option (Int32 × Hp)) : Hp → Int32 → Int32 → Int32 → Option (Int32 × Hp) := fun h x2 x3 x4 =>
  lt (x4 + (1 : Int32)) fun v16 =>
  k37 h x2 x3 v16
def f_X10_rests_81 (r0 : Nat) (x1 : Int32) (k28 : Hp → Int32 → Int32 → Option (Int32 × Hp)) (k37 : Hp → Int32 → Int32 → Int32 → Option (Int32 × Hp)) : Hp → Int32 → Int32 → Int32 → Option (Int32 × Hp) := fun h x2 x3 x4 =>
  lt (x2 + (1 : Int32)) fun v15 =>
  f_X10_rests_84 r0 x1 k28 k37 h v15 x3 x4
def f_X10_rests_37 (r0 : Nat) (x1 : Int32) (k28 : Hp → Int32 → Int32 → Option (Int32 × Hp)) (n : Nat) : Hp → Int32 → Int32 → Int32 → Option (Int32 × Hp) := match n with
  | 0 => fun _ _ _ _ => none
  | n + 1 => fun h x2 x3 x4 =>
    lt (f_X10_rests_37 r0 x1 k28 n) fun k37 =>
    if (9 : Int32) < x4 then (
      lt (x3 + (1 : Int32)) fun v7 =>
      k28 h x2 v7
    ) else (
      (f_X10_isRest h x3 x4 x1).bind fun q8 =>
      if q8 = 0 then (
        f_X10_rests_84 r0 x1 k28 k37 h x2 x3 x4
      ) else (
        (f_X10_isRest h x4 x3 x1).bind fun q10 =>
        if q10 = 0 then (
          f_X10_rests_84 r0 x1 k28 k37 h x2 x3 x4
        ) else (
          if x2 = 0 then (
            (f_X10_enters h r0 (x3.toInt64)).bind fun q13 =>
            (f_X10_enters q13 r0 (x4.toInt64)).bind fun q14 =>
            f_X10_rests_81 r0 x1 k28 k37 q14 x2 x3 x4
          ) else (
            f_X10_rests_81 r0 x1 k28 k37 h x2 x3 x4
          )
        )
      )
    )
def f_X10_rests_28 (r0 : Nat) (x1 : Int32) (n : Nat) : Hp → Int32 → Int32 → Option (Int32 × Hp) := match n with
  | 0 => fun _ _ _ => none
  | n + 1 => fun h x2 x3 =>
    lt (f_X10_rests_28 r0 x1 n) fun k28 =>
    if (9 : Int32) < x3 then (
      some (x2, h)
    ) else (
      f_X10_rests_37 r0 x1 k28 FU h x2 x3 (0 : Int32)
    )
def f_X10_rests (h : Hp) (r0 : Nat) (x1 : Int32) : Option (Int32 × Hp) :=
  lt (upI h r0 0 (0 : Int32)) fun h1 =>
  (f_X10_in h1 (x1.toInt64) (0 : Int64) (20 : Int64)).bind fun q2 =>
  if q2 = 0 then (
    some ((-1 : Int32), h1)
  ) else (
    lt (upI h1 r0 1 (0 : Int32)) fun h4 =>
    f_X10_rests_28 r0 x1 FU h4 (0 : Int32) (0 : Int32)
  )

def f_X10_draws (h : Hp) (r0 : Nat) (x1 : Int32) : Option (Int32 × Hp) :=
  lt (upI h r0 42 (((hpI h r0 42) * (1103515245 : Int32)) + (12345 : Int32))) fun h1 =>
  lt (ush32 (hpI h1 r0 42) (16 : Int32)) fun v2 =>
  gd (nz32 x1) <|
  lt (rm32 v2 x1) fun v4 =>
  some (v4, h1)

def f_X10_drawn_168 (r0 : Nat) (x1 : Int32) (x2 : Int32) (k39 : Hp → Int32 → Option (Int32 × Hp)) : Hp → Int32 → Option (Int32 × Hp) := fun h x3 =>
  lt (x3 + (1 : Int32)) fun v47 =>
  k39 h v47
def f_X10_drawn_39 (r0 : Nat) (x1 : Int32) (x2 : Int32) (n : Nat) : Hp → Int32 → Option (Int32 × Hp) := match n with
  | 0 => fun _ _ => none
  | n + 1 => fun h x3 =>
    lt (f_X10_drawn_39 r0 x1 x2 n) fun k39 =>
    if x2 ≤ x3 then (
      lt (upI h r0 1 (0 : Int32)) fun h10 =>
      gd (nz (hpR h10 r0 7)) <|
      gd (inb (48 : Int32) (hpT h10 (hpR h10 r0 7)).2) <|
      (f_X10_enters h10 r0 ((hpI h10 (hpR h10 r0 7) (ix (48 : Int32))).toInt64)).bind fun q14 =>
      (f_X10_enters q14 r0 ((hpI q14 r0 25).toInt64)).bind fun q15 =>
      gd (nz (hpR q15 r0 7)) <|
      (f_X10_on q15 (hpR q15 r0 7)).bind fun q18 =>
      (f_J6_bitCount_0f7a4 q15 q18).bind fun q19 =>
      some (q19, q15)
    ) else (
      (f_X10_draws h r0 (4 : Int32)).bind fun q20 =>
      if (2 : Int32) ≤ q20.1 then (
        if q20.1 = (2 : Int32) then (
          (f_X10_cells q20.2 r0).bind fun q34 =>
          (f_X10_draws q20.2 r0 q34).bind fun q35 =>
          (f_X10_draws q35.2 r0 (3 : Int32)).bind fun q36 =>
          lt ((1 : Int32) + q36.1) fun v37 =>
          (f_X10_draws q36.2 r0 (3 : Int32)).bind fun q38 =>
          lt ((1 : Int32) + q38.1) fun v39 =>
          gd (nz (hpR q38.2 r0 7)) <|
          (f_X10_draws q38.2 r0 (9 : Int32)).bind fun q42 =>
          (f_X10_pitches q42.2 r0 (hpR q38.2 r0 7) q35.1 v37 v39 ((1 : Int32) + q42.1) (0 : Int32)).bind fun q43 =>
          f_X10_drawn_168 r0 x1 x2 k39 q43.2 x3
        ) else (
          gd (nz (hpR q20.2 r0 7)) <|
          gd (inb (48 : Int32) (hpT q20.2 (hpR q20.2 r0 7)).2) <|
          if (hpI q20.2 (hpR q20.2 r0 7) (ix (48 : Int32))) ≤ 0 then (
            f_X10_drawn_168 r0 x1 x2 k39 q20.2 x3
          ) else (
            gd (inb (48 : Int32) (hpT q20.2 (hpR q20.2 r0 7)).2) <|
            (f_X10_draws q20.2 r0 (hpI q20.2 (hpR q20.2 r0 7) (ix (48 : Int32)))).bind fun q29 =>
            gd (nz (hpR q29.2 r0 7)) <|
            (f_X10_draws q29.2 r0 (4 : Int32)).bind fun q32 =>
            (f_X10_movesOne q32.2 r0 (hpR q29.2 r0 7) q29.1 q32.1).bind fun q33 =>
            f_X10_drawn_168 r0 x1 x2 k39 q33.2 x3
          )
        )
      ) else (
        gd (nz (hpR q20.2 r0 7)) <|
        (f_X10_yearGoes q20.2 r0 (hpR q20.2 r0 7)).bind fun q46 =>
        f_X10_drawn_168 r0 x1 x2 k39 q46 x3
      )
    )
def f_X10_drawn (h : Hp) (r0 : Nat) (x1 : Int32) (x2 : Int32) : Option (Int32 × Hp) :=
  lt (upI h r0 0 (0 : Int32)) fun h1 =>
  (f_X10_in h1 (x2.toInt64) (1 : Int64) (60 : Int64)).bind fun q2 =>
  if q2 = 0 then (
    some ((-1 : Int32), h1)
  ) else (
    lt (upI h1 r0 42 x1) fun h4 =>
    (f_X10_copies h4 r0).bind fun q5 =>
    gd (nz (hpR q5 r0 7)) <|
    (f_X10_goesOn q5 r0 (hpR q5 r0 7) (0 : Int32)).bind fun q8 =>
    f_X10_drawn_39 r0 x1 x2 FU q8 (0 : Int32)
  )

def f_X10_keep_38 (r0 : Nat) (x1 : Int32) (n : Nat) : Hp → Int32 → Option (Int32 × Hp) := match n with
  | 0 => fun _ _ => none
  | n + 1 => fun h x2 =>
    lt (f_X10_keep_38 r0 x1 n) fun k38 =>
    if (51 : Int32) ≤ x2 then (
      some ((1 : Int32), h)
    ) else (
      gd (nz (hpR h r0 45)) <|
      gd (nz (hpR h r0 6)) <|
      gd (inb x2 (hpT h (hpR h r0 6)).2) <|
      gd (inb (((51 : Int32) * x1) + x2) (hpT h (hpR h r0 45)).2) <|
      lt (upI h (hpR h r0 45) (ix (((51 : Int32) * x1) + x2)) (hpI h (hpR h r0 6) (ix x2))) fun h19 =>
      lt (x2 + (1 : Int32)) fun v20 =>
      k38 h19 v20
    )
def f_X10_keep (h : Hp) (r0 : Nat) (x1 : Int32) : Option (Int32 × Hp) :=
  lt (upI h r0 0 (0 : Int32)) fun h1 =>
  (f_X10_in h1 (x1.toInt64) (0 : Int64) (2 : Int64)).bind fun q2 =>
  if q2 = 0 then (
    some ((0 : Int32), h1)
  ) else (
    gd (nz (hpR h1 r0 43)) <|
    gd (inb x1 (hpT h1 (hpR h1 r0 43)).2) <|
    lt (upI h1 (hpR h1 r0 43) (ix x1) (1 : Int32)) fun h7 =>
    gd (nz (hpR h7 r0 44)) <|
    gd (inb x1 (hpT h7 (hpR h7 r0 44)).2) <|
    lt (upI h7 (hpR h7 r0 44) (ix x1) (hpI h7 r0 5)) fun h11 =>
    f_X10_keep_38 r0 x1 FU h11 (0 : Int32)
  )

def f_X10_again_43 (r0 : Nat) (x1 : Int32) (n : Nat) : Hp → Int32 → Option (Int32 × Hp) := match n with
  | 0 => fun _ _ => none
  | n + 1 => fun h x2 =>
    lt (f_X10_again_43 r0 x1 n) fun k43 =>
    if (51 : Int32) ≤ x2 then (
      lt (upI h r0 22 (0 : Int32)) fun h13 =>
      some ((1 : Int32), h13)
    ) else (
      gd (nz (hpR h r0 6)) <|
      gd (nz (hpR h r0 45)) <|
      gd (inb (((51 : Int32) * x1) + x2) (hpT h (hpR h r0 45)).2) <|
      gd (inb x2 (hpT h (hpR h r0 6)).2) <|
      lt (upI h (hpR h r0 6) (ix x2) (hpI h (hpR h r0 45) (ix (((51 : Int32) * x1) + x2)))) fun h20 =>
      lt (x2 + (1 : Int32)) fun v21 =>
      k43 h20 v21
    )
def f_X10_again (h : Hp) (r0 : Nat) (x1 : Int32) : Option (Int32 × Hp) :=
  lt (upI h r0 0 (0 : Int32)) fun h1 =>
  (f_X10_in h1 (x1.toInt64) (0 : Int64) (2 : Int64)).bind fun q2 =>
  if q2 = 0 then (
    some ((0 : Int32), h1)
  ) else (
    gd (nz (hpR h1 r0 43)) <|
    gd (inb x1 (hpT h1 (hpR h1 r0 43)).2) <|
    if (hpI h1 (hpR h1 r0 43) (ix x1)) = 0 then (
      some ((0 : Int32), h1)
    ) else (
      gd (nz (hpR h1 r0 44)) <|
      gd (inb x1 (hpT h1 (hpR h1 r0 44)).2) <|
      if (hpI h1 (hpR h1 r0 44) (ix x1)) = (hpI h1 r0 5) then (
        f_X10_again_43 r0 x1 FU h1 (0 : Int32)
      ) else (
        some ((0 : Int32), h1)
      )
    )
  )

def f_X10_count (h : Hp) (r0 : Nat) (x1 : Int32) : Option (Int32 × Hp) :=
  lt (upI h r0 0 (0 : Int32)) fun h1 =>
  if x1 = (0 : Int32) then (
    some ((hpI h1 r0 3), h1)
  ) else
  if x1 = (1 : Int32) then (
    some ((hpI h1 r0 4), h1)
  ) else
  if x1 = (2 : Int32) then (
    gd (nz (hpR h1 r0 6)) <|
    gd (inb (48 : Int32) (hpT h1 (hpR h1 r0 6)).2) <|
    some ((hpI h1 (hpR h1 r0 6) (ix (48 : Int32))), h1)
  ) else
  if x1 = (3 : Int32) then (
    gd (nz (hpR h1 r0 6)) <|
    (f_X10_on h1 (hpR h1 r0 6)).bind fun q7 =>
    (f_J6_bitCount_0f7a4 h1 q7).bind fun q8 =>
    some (q8, h1)
  ) else
  if x1 = (4 : Int32) then (
    gd (nz (hpR h1 r0 6)) <|
    gd (inb (49 : Int32) (hpT h1 (hpR h1 r0 6)).2) <|
    some ((hpI h1 (hpR h1 r0 6) (ix (49 : Int32))), h1)
  ) else
  if x1 = (5 : Int32) then (
    gd (nz (hpR h1 r0 6)) <|
    gd (inb (50 : Int32) (hpT h1 (hpR h1 r0 6)).2) <|
    some ((hpI h1 (hpR h1 r0 6) (ix (50 : Int32))), h1)
  ) else
  if x1 = (6 : Int32) then (
    gd (nz (hpR h1 r0 6)) <|
    (f_X10_sumOf h1 (hpR h1 r0 6) (24 : Int32)).bind fun q17 =>
    some (q17, h1)
  ) else
  if x1 = (7 : Int32) then (
    some ((hpI h1 r0 31), h1)
  ) else
  if x1 = (8 : Int32) then (
    some ((hpI h1 r0 36), h1)
  ) else
  if x1 = (9 : Int32) then (
    some ((hpI h1 r0 22), h1)
  ) else
  if x1 = (10 : Int32) then (
    some ((hpI h1 r0 1), h1)
  ) else
  if x1 = (11 : Int32) then (
    some ((hpI h1 r0 9), h1)
  ) else
  some ((-100 : Int32), h1)

def f_X10_row (h : Hp) (r0 : Nat) (x1 : Int32) : Option (Int64 × Hp) :=
  lt (upI h r0 0 (0 : Int32)) fun h1 =>
  (f_X10_in h1 (x1.toInt64) (0 : Int64) (((hpI h1 r0 1) - (1 : Int32)).toInt64)).bind fun q2 =>
  if q2 = 0 then (
    lt (upI h1 r0 0 (1 : Int32)) fun h7 =>
    some ((0 : Int64), h7)
  ) else (
    gd (nz (hpR h1 r0 2)) <|
    gd (inb x1 (hpT h1 (hpR h1 r0 2)).2) <|
    some ((hpL h1 (hpR h1 r0 2) (ix x1)), h1)
  )

