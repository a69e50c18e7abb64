def f_X9_fitsSound (h : Hp) (r0 : Nat) (x1 : Int32) (x2 : Int32) (x3 : Int32) : Option Int32 :=
  if x2 = (0 : Int32) then (
    gd (nz (hpR h r0 2)) <|
    gd (nz (hpR h (hpR h r0 2) 9)) <|
    gd (inb x1 (hpT h (hpR h (hpR h r0 2) 9)).2) <|
    if x3 < (hpI h (hpR h (hpR h r0 2) 9) (ix x1)) then (
      some (0 : Int32)
    ) else (
      some (1 : Int32)
    )
  ) else
  if x2 = (1 : Int32) then (
    gd (nz (hpR h r0 2)) <|
    (f_X0_isOverRow h (hpR h r0 2) x1 x3).bind fun q9 =>
    some q9
  ) else
  if x2 = (2 : Int32) then (
    gd (nz (hpR h r0 2)) <|
    (f_X0_isOverColumn h (hpR h r0 2) x1 x3).bind fun q12 =>
    some q12
  ) else
  if x2 = (3 : Int32) then (
    gd (nz (hpR h r0 2)) <|
    gd (nz (hpR h (hpR h r0 2) 11)) <|
    gd (inb x1 (hpT h (hpR h (hpR h r0 2) 11)).2) <|
    if (hpI h (hpR h (hpR h r0 2) 11) (ix x1)) < x3 then (
      some (0 : Int32)
    ) else (
      some (1 : Int32)
    )
  ) else
  gd (nz (hpR h r0 2)) <|
  (f_X0_crossedBy h (hpR h r0 2) x1).bind fun q21 =>
  (f_J6_bitCount_0f7a4 h q21).bind fun q22 =>
  if q22 < x3 then (
    some (0 : Int32)
  ) else (
    some (1 : Int32)
  )

def f_X9_fitsNight_2 (h : Hp) (r0 : Nat) (x1 : Int32) (n : Nat) : Int32 → Option Int32 := match n with
  | 0 => fun _ => none
  | n + 1 => fun x2 =>
    lt (f_X9_fitsNight_2 h r0 x1 n) fun k2 =>
    gd (nz (hpR h r0 12)) <|
    if (hpI h (hpR h r0 12) 3) ≤ x2 then (
      some (1 : Int32)
    ) else (
      gd (nz (hpR h (hpR h r0 12) 0)) <|
      gd (inb x2 (hpT h (hpR h (hpR h r0 12) 0)).2) <|
      gd (nz (hpR h (hpR h r0 12) 1)) <|
      gd (inb x2 (hpT h (hpR h (hpR h r0 12) 1)).2) <|
      (f_X9_fitsSound h r0 x1 (hpI h (hpR h (hpR h r0 12) 0) (ix x2)) (hpI h (hpR h (hpR h r0 12) 1) (ix x2))).bind fun q12 =>
      if q12 = 0 then (
        some (0 : Int32)
      ) else (
        lt (x2 + (1 : Int32)) fun v14 =>
        k2 v14
      )
    )
def f_X9_fitsNight (h : Hp) (r0 : Nat) (x1 : Int32) : Option Int32 :=
  f_X9_fitsNight_2 h r0 x1 FU (0 : Int32)

def f_X9_fits_40 (r0 : Nat) (k4 : Hp → Int32 → Int32 → Option (Int32 × Hp)) : Hp → Int32 → Int32 → Option (Int32 × Hp) := fun h x1 x2 =>
  lt (x2 + (1 : Int32)) fun v18 =>
  k4 h x1 v18
def f_X9_fits_4 (r0 : Nat) (n : Nat) : Hp → Int32 → Int32 → Option (Int32 × Hp) := match n with
  | 0 => fun _ _ _ => none
  | n + 1 => fun h x1 x2 =>
    lt (f_X9_fits_4 r0 n) fun k4 =>
    gd (nz (hpR h r0 2)) <|
    if (hpI h (hpR h r0 2) 2) ≤ x2 then (
      gd (nz (hpR h r0 1)) <|
      (f_X7_start h (hpR h r0 1)).bind fun q6 =>
      gd (nz (hpR q6 r0 1)) <|
      (f_J6_bitCount_0f7a4 q6 x1).bind fun q9 =>
      (f_X7_add q6 (hpR q6 r0 1) (q9.toInt64)).bind fun q10 =>
      some (x1, q10)
    ) else (
      (f_X0_isOn h (hpR h r0 2) x2).bind fun q12 =>
      if q12 = 0 then (
        f_X9_fits_40 r0 k4 h x1 x2
      ) else (
        (f_X9_fitsNight h r0 x2).bind fun q14 =>
        if q14 = 0 then (
          f_X9_fits_40 r0 k4 h x1 x2
        ) else (
          lt (shl32 (1 : Int32) x2) fun v16 =>
          lt (x1 ||| v16) fun v17 =>
          f_X9_fits_40 r0 k4 h v17 x2
        )
      )
    )
def f_X9_fits (h : Hp) (r0 : Nat) : Option (Int32 × Hp) :=
  f_X9_fits_4 r0 FU h (0 : Int32) (0 : Int32)

def f_X9_choices_5 (h : Hp) (x0 : Int32) (x1 : Int32) (n : Nat) : Int64 → Int32 → Option Int64 := match n with
  | 0 => fun _ _ => none
  | n + 1 => fun y2 x4 =>
    lt (f_X9_choices_5 h x0 x1 n) fun k5 =>
    if x1 < x4 then (
      some y2
    ) else (
      gd (nz64 (x4.toInt64)) <|
      lt ((y2 * (((x0 - x1) + x4).toInt64)) / (x4.toInt64)) fun v3 =>
      lt (x4 + (1 : Int32)) fun v4 =>
      k5 v3 v4
    )
def f_X9_choices (h : Hp) (x0 : Int32) (x1 : Int32) : Option Int64 :=
  f_X9_choices_5 h x0 x1 FU (1 : Int64) (1 : Int32)

def f_X9_power_5 (h : Hp) (x0 : Int32) (x1 : Int32) (n : Nat) : Int64 → Int32 → Option Int64 := match n with
  | 0 => fun _ _ => none
  | n + 1 => fun y2 x4 =>
    lt (f_X9_power_5 h x0 x1 n) fun k5 =>
    if x1 ≤ x4 then (
      some y2
    ) else (
      lt (y2 * (x0.toInt64)) fun v2 =>
      lt (x4 + (1 : Int32)) fun v3 =>
      k5 v2 v3
    )
def f_X9_power (h : Hp) (x0 : Int32) (x1 : Int32) : Option Int64 :=
  f_X9_power_5 h x0 x1 FU (1 : Int64) (0 : Int32)

def f_X9_commonDivisor_3 (h : Hp) (n : Nat) : Int64 → Int64 → Int32 → Option Int64 := match n with
  | 0 => fun _ _ _ => none
  | n + 1 => fun y0 y2 x4 =>
    lt (f_X9_commonDivisor_3 h n) fun k3 =>
    if (64 : Int32) ≤ x4 then (
      some y0
    ) else (
      if (lg_cmp y2 (0 : Int64)) = 0 then (
        some y0
      ) else (
        gd (nz64 y2) <|
        lt (rm64 y0 y2) fun v4 =>
        lt (x4 + (1 : Int32)) fun v5 =>
        k3 y2 v4 v5
      )
    )
def f_X9_commonDivisor (h : Hp) (y0 : Int64) (y2 : Int64) : Option Int64 :=
  f_X9_commonDivisor_3 h FU y0 y2 (0 : Int32)

def f_X9_sung_167 (r0 : Nat) (x1 : Int32) (x2 : Int32) (x3 : Int32) : Hp → Nat → Int64 → Option (Int32 × Hp) := fun h s0 s1 =>
  (f_X7_add h s0 s1).bind fun q32 =>
  some ((0 : Int32), q32)
def f_X9_sung_143 (r0 : Nat) (x1 : Int32) (x2 : Int32) (x3 : Int32) : Hp → Nat → Int64 → Int64 → Int64 → Option (Int32 × Hp) := fun h s0 s1 y7 y9 =>
  (f_X7_add h s0 s1).bind fun q27 =>
  gd (nz (hpR q27 r0 1)) <|
  if (lg_cmp y9 (0 : Int64)) ≤ 0 then (
    f_X9_sung_167 r0 x1 x2 x3 q27 (hpR q27 r0 1) y7
  ) else (
    gd (nz64 y9) <|
    f_X9_sung_167 r0 x1 x2 x3 q27 (hpR q27 r0 1) (y7 / y9)
  )
def f_X9_sung_52 (r0 : Nat) (x1 : Int32) (x2 : Int32) (x3 : Int32) (n : Nat) : Hp → Int32 → Int64 → Int32 → Option (Int32 × Hp) := match n with
  | 0 => fun _ _ _ _ => none
  | n + 1 => fun h x4 y5 x7 =>
    lt (f_X9_sung_52 r0 x1 x2 x3 n) fun k52 =>
    if x4 < x7 then (
      (f_X9_power h (10 : Int32) x4).bind fun q13 =>
      (f_X9_commonDivisor h y5 q13).bind fun q14 =>
      gd (nz (hpR h r0 1)) <|
      (f_X7_start h (hpR h r0 1)).bind fun q17 =>
      gd (nz (hpR q17 r0 1)) <|
      if (lg_cmp q14 (0 : Int64)) ≤ 0 then (
        f_X9_sung_143 r0 x1 x2 x3 q17 (hpR q17 r0 1) y5 q13 q14
      ) else (
        gd (nz64 q14) <|
        f_X9_sung_143 r0 x1 x2 x3 q17 (hpR q17 r0 1) (y5 / q14) q13 q14
      )
    ) else (
      (f_X9_choices h x4 x7).bind fun q22 =>
      (f_X9_power h x3 x7).bind fun q23 =>
      (f_X9_power h ((10 : Int32) - x3) (x4 - x7)).bind fun q24 =>
      lt (y5 + ((q22 * q23) * q24)) fun v25 =>
      lt (x7 + (1 : Int32)) fun v26 =>
      k52 h x4 v25 v26
    )
def f_X9_sung (h : Hp) (r0 : Nat) (x1 : Int32) (x2 : Int32) (x3 : Int32) : Option (Int32 × Hp) :=
  gd (nz (hpR h r0 2)) <|
  (f_X0_hasCell h (hpR h r0 2) x1).bind fun q3 =>
  if q3 = 0 then (
    some ((-1 : Int32), h)
  ) else (
    if x2 < 0 then (
      some ((-1 : Int32), h)
    ) else (
      if (8 : Int32) < x2 then (
        some ((-1 : Int32), h)
      ) else (
        if x3 < 0 then (
          some ((-1 : Int32), h)
        ) else (
          if x3 ≤ (10 : Int32) then (
            (f_X0_onOver h (hpR h r0 2) x1).bind fun q10 =>
            (f_J6_bitCount_0f7a4 h q10).bind fun q11 =>
            f_X9_sung_52 r0 x1 x2 x3 FU h q11 (0 : Int64) x2
          ) else (
            some ((-1 : Int32), h)
          )
        )
      )
    )
  )

def f_X9_firstNotIn_2 (h : Hp) (y0 : Int64) (n : Nat) : Int32 → Option Int32 := match n with
  | 0 => fun _ => none
  | n + 1 => fun x2 =>
    lt (f_X9_firstNotIn_2 h y0 n) fun k2 =>
    if (63 : Int32) ≤ x2 then (
      some x2
    ) else (
      lt (shr64 y0 x2) fun v2 =>
      if (lg_cmp (v2 &&& (1 : Int64)) (0 : Int64)) = 0 then (
        some x2
      ) else (
        lt (x2 + (1 : Int32)) fun v4 =>
        k2 v4
      )
    )
def f_X9_firstNotIn (h : Hp) (y0 : Int64) : Option Int32 :=
  f_X9_firstNotIn_2 h y0 FU (0 : Int32)

def f_X9_countNimbers_21 (r0 : Nat) (x1 : Int32) (k2 : Hp → Int32 → Option Hp) (k12 : Hp → Int32 → Int64 → Int32 → Option Hp) (n : Nat) : Hp → Int32 → Int64 → Int32 → Int32 → Option Hp := match n with
  | 0 => fun _ _ _ _ _ => none
  | n + 1 => fun h x2 y3 x5 x6 =>
    lt (f_X9_countNimbers_21 r0 x1 k2 k12 n) fun k21 =>
    if x2 < (x6 + x5) then (
      lt (x5 + (1 : Int32)) fun v10 =>
      k12 h x2 y3 v10
    ) else (
      gd (nz (hpR h r0 15)) <|
      gd (inb x6 (hpT h (hpR h r0 15)).2) <|
      gd (inb ((x2 - x6) - x5) (hpT h (hpR h r0 15)).2) <|
      lt (shl64 (1 : Int64) ((hpI h (hpR h r0 15) (ix x6)) ^^^ (hpI h (hpR h r0 15) (ix ((x2 - x6) - x5))))) fun v16 =>
      lt (y3 ||| v16) fun v17 =>
      lt (x6 + (1 : Int32)) fun v18 =>
      k21 h x2 v17 x5 v18
    )
def f_X9_countNimbers_12 (r0 : Nat) (x1 : Int32) (k2 : Hp → Int32 → Option Hp) (n : Nat) : Hp → Int32 → Int64 → Int32 → Option Hp := match n with
  | 0 => fun _ _ _ _ => none
  | n + 1 => fun h x2 y3 x5 =>
    lt (f_X9_countNimbers_12 r0 x1 k2 n) fun k12 =>
    if (3 : Int32) < x5 then (
      gd (nz (hpR h r0 15)) <|
      (f_X9_firstNotIn h y3).bind fun q5 =>
      gd (inb x2 (hpT h (hpR h r0 15)).2) <|
      lt (upI h (hpR h r0 15) (ix x2) q5) fun h7 =>
      lt (x2 + (1 : Int32)) fun v8 =>
      k2 h7 v8
    ) else (
      f_X9_countNimbers_21 r0 x1 k2 k12 FU h x2 y3 x5 (0 : Int32)
    )
def f_X9_countNimbers_2 (r0 : Nat) (x1 : Int32) (n : Nat) : Hp → Int32 → Option Hp := match n with
  | 0 => fun _ _ => none
  | n + 1 => fun h x2 =>
    lt (f_X9_countNimbers_2 r0 x1 n) fun k2 =>
    if x1 < x2 then (
      some h
    ) else (
      f_X9_countNimbers_12 r0 x1 k2 FU h x2 (0 : Int64) (1 : Int32)
    )
def f_X9_countNimbers (h : Hp) (r0 : Nat) (x1 : Int32) : Option Hp :=
  f_X9_countNimbers_2 r0 x1 FU h (0 : Int32)

def f_X9_fence_91 (r0 : Nat) (x1 : Int32) (k26 : Hp → Int32 → Option (Int32 × Hp)) : Hp → Int32 → Option (Int32 × Hp) := fun h x2 =>
  lt (x2 + (1 : Int32)) fun v23 =>
  k26 h v23
def f_X9_fence_33 (r0 : Nat) (x1 : Int32) (k26 : Hp → Int32 → Option (Int32 × Hp)) (n : Nat) : Hp → Int32 → Int32 → Option (Int32 × Hp) := match n with
  | 0 => fun _ _ _ => none
  | n + 1 => fun h x2 x3 =>
    lt (f_X9_fence_33 r0 x1 k26 n) fun k33 =>
    if (3 : Int32) < x3 then (
      f_X9_fence_91 r0 x1 k26 h x2
    ) else (
      if x1 < (x2 + x3) then (
        f_X9_fence_91 r0 x1 k26 h x2
      ) else (
        gd (nz (hpR h r0 15)) <|
        gd (inb x2 (hpT h (hpR h r0 15)).2) <|
        gd (inb ((x1 - x2) - x3) (hpT h (hpR h r0 15)).2) <|
        if ((hpI h (hpR h r0 15) (ix x2)) ^^^ (hpI h (hpR h r0 15) (ix ((x1 - x2) - x3)))) = 0 then (
          gd (nz (hpR h r0 1)) <|
          (f_X7_add h (hpR h r0 1) (x2.toInt64)).bind fun q19 =>
          gd (nz (hpR q19 r0 1)) <|
          (f_X7_add q19 (hpR q19 r0 1) (x3.toInt64)).bind fun q22 =>
          some ((1 : Int32), q22)
        ) else (
          lt (x3 + (1 : Int32)) fun v16 =>
          k33 h x2 v16
        )
      )
    )
def f_X9_fence_26 (r0 : Nat) (x1 : Int32) (n : Nat) : Hp → Int32 → Option (Int32 × Hp) := match n with
  | 0 => fun _ _ => none
  | n + 1 => fun h x2 =>
    lt (f_X9_fence_26 r0 x1 n) fun k26 =>
    if x1 ≤ x2 then (
      some ((0 : Int32), h)
    ) else (
      f_X9_fence_33 r0 x1 k26 FU h x2 (1 : Int32)
    )
def f_X9_fence (h : Hp) (r0 : Nat) (x1 : Int32) : Option (Int32 × Hp) :=
  if x1 < 0 then (
    some ((-1 : Int32), h)
  ) else (
    if x1 ≤ (40 : Int32) then (
      (f_X9_countNimbers h r0 x1).bind fun q3 =>
      gd (nz (hpR q3 r0 1)) <|
      (f_X7_start q3 (hpR q3 r0 1)).bind fun q6 =>
      f_X9_fence_26 r0 x1 FU q6 (0 : Int32)
    ) else (
      some ((-1 : Int32), h)
    )
  )

def f_X9_onInNineYears (h : Hp) (r0 : Nat) (r1 : Nat) : Option (Int32 × Hp) :=
  gd (nz (hpR h r0 4)) <|
  gd (nz (hpR h r0 2)) <|
  (f_X0_copy h (hpR h r0 4) (hpR h r0 2)).bind fun q5 =>
  gd (nz (hpR q5 r0 4)) <|
  (f_X0_goByTimes q5 (hpR q5 r0 4) r1 (9 : Int32)).bind fun q8 =>
  gd (nz (hpR q8.2 r0 4)) <|
  (f_X0_onCount q8.2 (hpR q8.2 r0 4)).bind fun q11 =>
  some (q11, q8.2)

def f_X9_law_94 (r0 : Nat) (n : Nat) : Hp → Int32 → Int32 → Nat → Int32 → Option (Int32 × Hp) := match n with
  | 0 => fun _ _ _ _ _ => none
  | n + 1 => fun h x2 x3 r4 x5 =>
    lt (f_X9_law_94 r0 n) fun k94 =>
    gd (nz (hpR h r0 2)) <|
    if (hpI h (hpR h r0 2) 2) ≤ x5 then (
      some ((x2 - x3), h)
    ) else (
      gd (nz (hpR h r0 1)) <|
      gd (inb x5 (hpT h r4).2) <|
      (f_X7_add h (hpR h r0 1) ((hpI h r4 (ix x5)).toInt64)).bind fun q38 =>
      lt (x5 + (1 : Int32)) fun v39 =>
      k94 q38 x2 x3 r4 v39
    )
def f_X9_law (h : Hp) (r0 : Nat) : Option (Int32 × Hp) :=
  gd (nz (hpR h r0 10)) <|
  gd (nz (hpR h r0 0)) <|
  gd (nz (hpR h r0 9)) <|
  (f_X5_read h (hpR h r0 10) (hpR h r0 0) (hpR h r0 9)).bind fun q7 =>
  gd (nz (hpR q7.2 r0 0)) <|
  lt (upI q7.2 (hpR q7.2 r0 0) 1 (0 : Int32)) fun h10 =>
  if q7.1 = (-1 : Int32) then (
    gd (nz (hpR h10 r0 9)) <|
    (f_X9_onInNineYears h10 r0 (hpR h10 r0 9)).bind fun q14 =>
    gd (nz (hpR q14.2 r0 8)) <|
    (f_X9_onInNineYears q14.2 r0 (hpR q14.2 r0 8)).bind fun q17 =>
    gd (nz (hpR q17.2 r0 1)) <|
    (f_X7_start q17.2 (hpR q17.2 r0 1)).bind fun q20 =>
    gd (nz (hpR q20 r0 1)) <|
    (f_X7_add q20 (hpR q20 r0 1) (q14.1.toInt64)).bind fun q23 =>
    gd (nz (hpR q23 r0 1)) <|
    (f_X7_add q23 (hpR q23 r0 1) (q17.1.toInt64)).bind fun q26 =>
    gd (nz (hpR q26 r0 9)) <|
    gd (nz (hpR q26 r0 2)) <|
    (f_X4_losses q26 (hpR q26 r0 9) (hpR q26 r0 2)).bind fun q31 =>
    f_X9_law_94 r0 FU q31.2 q14.1 q17.1 q31.1 (0 : Int32)
  ) else (
    some (((-10000 : Int32) - q7.1), h10)
  )

def f_X9_gain_14 (h : Hp) (x0 : Int32) (x1 : Int32) (x2 : Int32) : Int32 → Int32 → Option Int32 := fun s0 x3 =>
  lt (mx32 (0 : Int32) (x3 - (9 : Int32))) fun v3 =>
  some ((s0 - x0) - v3)
def f_X9_gain (h : Hp) (x0 : Int32) (x1 : Int32) (x2 : Int32) : Option Int32 :=
  lt (x0 + x1) fun v1 =>
  f_X9_gain_14 h x0 x1 x2 (if v1 < (5 : Int32) then (0 : Int32) else x2) v1

def f_X9_isBestBeside_2 (h : Hp) (x0 : Int32) (x1 : Int32) (x2 : Int32) (n : Nat) : Int32 → Option Int32 := match n with
  | 0 => fun _ => none
  | n + 1 => fun x3 =>
    lt (f_X9_isBestBeside_2 h x0 x1 x2 n) fun k2 =>
    if (10 : Int32) ≤ x3 then (
      some (1 : Int32)
    ) else (
      (f_X9_gain h x3 x1 x2).bind fun q2 =>
      (f_X9_gain h x0 x1 x2).bind fun q3 =>
      if q2 ≤ q3 then (
        lt (x3 + (1 : Int32)) fun v5 =>
        k2 v5
      ) else (
        some (0 : Int32)
      )
    )
def f_X9_isBestBeside (h : Hp) (x0 : Int32) (x1 : Int32) (x2 : Int32) : Option Int32 :=
  f_X9_isBestBeside_2 h x0 x1 x2 FU (0 : Int32)

def f_X9_rests_85 (r0 : Nat) (x1 : Int32) (k23 : Hp → Int32 → Int32 → Option (Int32 × Hp)) (k32 : Hp → Int32 → Int32 → Int32 → Option (Int32 × Hp)) : Hp → Int32 → Int32 → Int32 → Option (Int32 × Hp) := fun h x2 x3 x4 =>
  lt (x4 + (1 : Int32)) fun v21 =>
  k32 h x2 x3 v21
def f_X9_rests_82 (r0 : Nat) (x1 : Int32) (k23 : Hp → Int32 → Int32 → Option (Int32 × Hp)) (k32 : Hp → Int32 → Int32 → Int32 → Option (Int32 × Hp)) : Hp → Int32 → Int32 → Int32 → Option (Int32 × Hp) := fun h x2 x3 x4 =>
  lt (x2 + (1 : Int32)) fun v20 =>
  f_X9_rests_85 r0 x1 k23 k32 h v20 x3 x4
def f_X9_rests_32 (r0 : Nat) (x1 : Int32) (k23 : Hp → Int32 → Int32 → Option (Int32 × Hp)) (n : Nat) : Hp → Int32 → Int32 → Int32 → Option (Int32 × Hp) := match n with
  | 0 => fun _ _ _ _ => none
  | n + 1 => fun h x2 x3 x4 =>
    lt (f_X9_rests_32 r0 x1 k23 n) fun k32 =>
    if (10 : Int32) ≤ x4 then (
      lt (x3 + (1 : Int32)) fun v8 =>
      k23 h x2 v8
    ) else (
      (f_X9_isBestBeside h x3 x4 x1).bind fun q9 =>
      if q9 = 0 then (
        f_X9_rests_85 r0 x1 k23 k32 h x2 x3 x4
      ) else (
        (f_X9_isBestBeside h x4 x3 x1).bind fun q11 =>
        if q11 = 0 then (
          f_X9_rests_85 r0 x1 k23 k32 h x2 x3 x4
        ) else (
          if x2 = 0 then (
            gd (nz (hpR h r0 1)) <|
            (f_X7_add h (hpR h r0 1) (x3.toInt64)).bind fun q16 =>
            gd (nz (hpR q16 r0 1)) <|
            (f_X7_add q16 (hpR q16 r0 1) (x4.toInt64)).bind fun q19 =>
            f_X9_rests_82 r0 x1 k23 k32 q19 x2 x3 x4
          ) else (
            f_X9_rests_82 r0 x1 k23 k32 h x2 x3 x4
          )
        )
      )
    )
def f_X9_rests_23 (r0 : Nat) (x1 : Int32) (n : Nat) : Hp → Int32 → Int32 → Option (Int32 × Hp) := match n with
  | 0 => fun _ _ _ => none
  | n + 1 => fun h x2 x3 =>
    lt (f_X9_rests_23 r0 x1 n) fun k23 =>
    if (10 : Int32) ≤ x3 then (
      some (x2, h)
    ) else (
      f_X9_rests_32 r0 x1 k23 FU h x2 x3 (0 : Int32)
    )
def f_X9_rests (h : Hp) (r0 : Nat) (x1 : Int32) : Option (Int32 × Hp) :=
  if x1 < 0 then (
    some ((-1 : Int32), h)
  ) else (
    if x1 ≤ (20 : Int32) then (
      gd (nz (hpR h r0 1)) <|
      (f_X7_start h (hpR h r0 1)).bind fun q5 =>
      f_X9_rests_23 r0 x1 FU q5 (0 : Int32) (0 : Int32)
    ) else (
      some ((-1 : Int32), h)
    )
  )

def f_X9_pitchDrawn (h : Hp) (r0 : Nat) (r1 : Nat) : Option Hp :=
  gd (nz (hpR h r0 4)) <|
  (f_X0_cells h (hpR h r0 4)).bind fun q3 =>
  (f_X1_of h r1 q3).bind fun q4 =>
  (f_X1_of q4.2 r1 (3 : Int32)).bind fun q5 =>
  lt ((1 : Int32) + q5.1) fun v6 =>
  (f_X1_of q5.2 r1 (3 : Int32)).bind fun q7 =>
  lt ((1 : Int32) + q7.1) fun v8 =>
  gd (nz (hpR q7.2 r0 4)) <|
  (f_X1_of q7.2 r1 (9 : Int32)).bind fun q11 =>
  (f_X0_pitchOn q11.2 (hpR q7.2 r0 4) q4.1 v6 v8 ((1 : Int32) + q11.1) (0 : Int32)).bind fun q12 =>
  some q12.2

def f_X9_drawn_129 (r0 : Nat) (x1 : Int32) (x2 : Int32) (k39 : Hp → Nat → Int32 → Int32 → Option (Int32 × Hp)) : Hp → Nat → Int32 → Int32 → Option (Int32 × Hp) := fun h r3 x4 x5 =>
  lt (x5 + (1 : Int32)) fun v45 =>
  k39 h r3 x4 v45
def f_X9_drawn_39 (r0 : Nat) (x1 : Int32) (x2 : Int32) (n : Nat) : Hp → Nat → Int32 → Int32 → Option (Int32 × Hp) := match n with
  | 0 => fun _ _ _ _ => none
  | n + 1 => fun h r3 x4 x5 =>
    lt (f_X9_drawn_39 r0 x1 x2 n) fun k39 =>
    if x2 ≤ x5 then (
      gd (nz (hpR h r0 1)) <|
      (f_X7_start h (hpR h r0 1)).bind fun q14 =>
      gd (nz (hpR q14 r0 1)) <|
      gd (nz (hpR q14 r0 4)) <|
      (f_X7_add q14 (hpR q14 r0 1) ((hpI q14 (hpR q14 r0 4) 2).toInt64)).bind fun q19 =>
      gd (nz (hpR q19 r0 1)) <|
      (f_X7_add q19 (hpR q19 r0 1) (x4.toInt64)).bind fun q22 =>
      gd (nz (hpR q22 r0 4)) <|
      (f_X0_onCount q22 (hpR q22 r0 4)).bind fun q25 =>
      some (q25, q22)
    ) else (
      (f_X1_of h r3 (4 : Int32)).bind fun q26 =>
      if (2 : Int32) ≤ q26.1 then (
        if q26.1 = (2 : Int32) then (
          (f_X9_pitchDrawn q26.2 r0 r3).bind fun q38 =>
          f_X9_drawn_129 r0 x1 x2 k39 q38 r3 x4 x5
        ) else (
          gd (nz (hpR q26.2 r0 4)) <|
          if (hpI q26.2 (hpR q26.2 r0 4) 2) ≤ 0 then (
            f_X9_drawn_129 r0 x1 x2 k39 q26.2 r3 x4 x5
          ) else (
            (f_X1_of q26.2 r3 (hpI q26.2 (hpR q26.2 r0 4) 2)).bind fun q33 =>
            gd (nz (hpR q33.2 r0 4)) <|
            (f_X1_of q33.2 r3 (4 : Int32)).bind fun q36 =>
            (f_X0_move q36.2 (hpR q33.2 r0 4) q33.1 q36.1).bind fun q37 =>
            f_X9_drawn_129 r0 x1 x2 k39 q37.2 r3 x4 x5
          )
        )
      ) else (
        gd (nz (hpR q26.2 r0 4)) <|
        gd (nz (hpR q26.2 r0 8)) <|
        (f_X0_goBy q26.2 (hpR q26.2 r0 4) (hpR q26.2 r0 8)).bind fun q43 =>
        lt (x4 + q43.1) fun v44 =>
        f_X9_drawn_129 r0 x1 x2 k39 q43.2 r3 v44 x5
      )
    )
def f_X9_drawn (h : Hp) (r0 : Nat) (x1 : Int32) (x2 : Int32) : Option (Int32 × Hp) :=
  if x2 < (1 : Int32) then (
    some ((-1 : Int32), h)
  ) else (
    if x2 ≤ (60 : Int32) then (
      lt (hpN h + 1) fun a3 =>
      lt (hpNew h (1, 1)) fun h4 =>
      (f_X1_init h4 a3 x1).bind fun q5 =>
      gd (nz (hpR q5 r0 4)) <|
      gd (nz (hpR q5 r0 2)) <|
      (f_X0_copy q5 (hpR q5 r0 4) (hpR q5 r0 2)).bind fun q10 =>
      f_X9_drawn_39 r0 x1 x2 FU q10 a3 (0 : Int32) (0 : Int32)
    ) else (
      some ((-1 : Int32), h)
    )
  )

def f_X9_keep (h : Hp) (r0 : Nat) (x1 : Int32) : Option (Int32 × Hp) :=
  if x1 < 0 then (
    some ((0 : Int32), h)
  ) else (
    if x1 < (3 : Int32) then (
      gd (nz (hpR h r0 6)) <|
      gd (inb x1 (hpT h (hpR h r0 6)).2) <|
      gd (nz (hpR h (hpR h r0 6) (ix x1))) <|
      gd (nz (hpR h r0 2)) <|
      (f_X0_copy h (hpR h (hpR h r0 6) (ix x1)) (hpR h r0 2)).bind fun q9 =>
      lt (shl32 (1 : Int32) x1) fun v10 =>
      lt (upI q9 r0 7 ((hpI q9 r0 7) ||| v10)) fun h11 =>
      some ((1 : Int32), h11)
    ) else (
      some ((0 : Int32), h)
    )
  )

def f_X9_again (h : Hp) (r0 : Nat) (x1 : Int32) : Option (Int32 × Hp) :=
  if x1 < 0 then (
    some ((0 : Int32), h)
  ) else (
    if (3 : Int32) ≤ x1 then (
      some ((0 : Int32), h)
    ) else (
      (f_X9_isIn h (hpI h r0 7) x1).bind fun q3 =>
      if q3 = 0 then (
        some ((0 : Int32), h)
      ) else (
        gd (nz (hpR h r0 2)) <|
        gd (nz (hpR h r0 6)) <|
        gd (inb x1 (hpT h (hpR h r0 6)).2) <|
        gd (nz (hpR h (hpR h r0 6) (ix x1))) <|
        (f_X0_copy h (hpR h r0 2) (hpR h (hpR h r0 6) (ix x1))).bind fun q11 =>
        gd (nz (hpR q11 r0 5)) <|
        (f_X3_wipe q11 (hpR q11 r0 5)).bind fun q14 =>
        some ((1 : Int32), q14)
      )
    )
  )

def f_X9_count (h : Hp) (r0 : Nat) (x1 : Int32) : Option Int32 :=
  if x1 = (0 : Int32) then (
    gd (nz (hpR h r0 2)) <|
    some (hpI h (hpR h r0 2) 0)
  ) else
  if x1 = (1 : Int32) then (
    gd (nz (hpR h r0 2)) <|
    some (hpI h (hpR h r0 2) 1)
  ) else
  if x1 = (2 : Int32) then (
    gd (nz (hpR h r0 2)) <|
    some (hpI h (hpR h r0 2) 2)
  ) else
  if x1 = (3 : Int32) then (
    gd (nz (hpR h r0 2)) <|
    (f_X0_onCount h (hpR h r0 2)).bind fun q9 =>
    some q9
  ) else
  if x1 = (4 : Int32) then (
    gd (nz (hpR h r0 2)) <|
    some (hpI h (hpR h r0 2) 3)
  ) else
  if x1 = (5 : Int32) then (
    gd (nz (hpR h r0 2)) <|
    some (hpI h (hpR h r0 2) 4)
  ) else
  if x1 = (6 : Int32) then (
    gd (nz (hpR h r0 2)) <|
    (f_X0_strengthOfAll h (hpR h r0 2)).bind fun q16 =>
    some q16
  ) else
  if x1 = (7 : Int32) then (
    gd (nz (hpR h r0 11)) <|
    some (hpI h (hpR h r0 11) 3)
  ) else
  if x1 = (8 : Int32) then (
    gd (nz (hpR h r0 12)) <|
    some (hpI h (hpR h r0 12) 3)
  ) else
  if x1 = (9 : Int32) then (
    gd (nz (hpR h r0 5)) <|
    some (hpI h (hpR h r0 5) 2)
  ) else
  if x1 = (10 : Int32) then (
    gd (nz (hpR h r0 1)) <|
    some (hpI h (hpR h r0 1) 1)
  ) else
  if x1 = (11 : Int32) then (
    gd (nz (hpR h r0 0)) <|
    some (hpI h (hpR h r0 0) 1)
  ) else
  some (-100 : Int32)

def f_X10_init (h : Hp) (r0 : Nat) : Option Hp :=
  lt (hpN h + 1) fun a1 =>
  lt (hpNew h (3, ix (160 : Int32))) fun h2 =>
  lt (upR h2 r0 2 a1) fun h3 =>
  lt (upI h3 r0 3 (4 : Int32)) fun h4 =>
  lt (upI h4 r0 4 (4 : Int32)) fun h5 =>
  lt (hpN h5 + 1) fun a6 =>
  lt (hpNew h5 (2, ix (51 : Int32))) fun h7 =>
  lt (upR h7 r0 6 a6) fun h8 =>
  lt (hpN h8 + 1) fun a9 =>
  lt (hpNew h8 (2, ix (51 : Int32))) fun h10 =>
  lt (upR h10 r0 7 a9) fun h11 =>
  lt (hpN h11 + 1) fun a12 =>
  lt (hpNew h11 (2, ix (80 : Int32))) fun h13 =>
  lt (upR h13 r0 8 a12) fun h14 =>
  lt (hpN h14 + 1) fun a15 =>
  lt (hpNew h14 (2, ix (48 : Int32))) fun h16 =>
  lt (upR h16 r0 13 a15) fun h17 =>
  lt (hpN h17 + 1) fun a18 =>
  lt (hpNew h17 (2, ix (80 : Int32))) fun h19 =>
  lt (upR h19 r0 15 a18) fun h20 =>
  lt (hpN h20 + 1) fun a21 =>
  lt (hpNew h20 (2, ix (80 : Int32))) fun h22 =>
  lt (upR h22 r0 16 a21) fun h23 =>
  lt (hpN h23 + 1) fun a24 =>
  lt (hpNew h23 (2, ix (80 : Int32))) fun h25 =>
  lt (upR h25 r0 19 a24) fun h26 =>
  lt (hpN h26 + 1) fun a27 =>
  lt (hpNew h26 (2, ix (8 : Int32))) fun h28 =>
  lt (upR h28 r0 20 a27) fun h29 =>
  lt (upI h29 r0 21 (-1 : Int32)) fun h30 =>
  lt (hpN h30 + 1) fun a31 =>
  lt (hpNew h30 (2, ix (816 : Int32))) fun h32 =>
  lt (upR h32 r0 23 a31) fun h33 =>
  lt (hpN h33 + 1) fun a34 =>
  lt (hpNew h33 (2, ix (8 : Int32))) fun h35 =>
  lt (upR h35 r0 24 a34) fun h36 =>
  lt (hpN h36 + 1) fun a37 =>
  lt (hpNew h36 (2, ix (60 : Int32))) fun h38 =>
  lt (upR h38 r0 26 a37) fun h39 =>
  lt (hpN h39 + 1) fun a40 =>
  lt (hpNew h39 (2, ix (360 : Int32))) fun h41 =>
  lt (upR h41 r0 27 a40) fun h42 =>
  lt (hpN h42 + 1) fun a43 =>
  lt (hpNew h42 (2, ix (9216 : Int32))) fun h44 =>
  lt (upR h44 r0 29 a43) fun h45 =>
  lt (hpN h45 + 1) fun a46 =>
  lt (hpNew h45 (2, ix (36 : Int32))) fun h47 =>
  lt (upR h47 r0 30 a46) fun h48 =>
  lt (hpN h48 + 1) fun a49 =>
  lt (hpNew h48 (2, ix (10 : Int32))) fun h50 =>
  lt (upR h50 r0 32 a49) fun h51 =>
  lt (hpN h51 + 1) fun a52 =>
  lt (hpNew h51 (2, ix (10 : Int32))) fun h53 =>
  lt (upR h53 r0 33 a52) fun h54 =>
  lt (hpN h54 + 1) fun a55 =>
  lt (hpNew h54 (2, ix (10 : Int32))) fun h56 =>
  lt (upR h56 r0 34 a55) fun h57 =>
  lt (hpN h57 + 1) fun a58 =>
  lt (hpNew h57 (2, ix (496 : Int32))) fun h59 =>
  lt (upR h59 r0 35 a58) fun h60 =>
  lt (hpN h60 + 1) fun a61 =>
  lt (hpNew h60 (2, ix (12 : Int32))) fun h62 =>
  lt (upR h62 r0 37 a61) fun h63 =>
  lt (hpN h63 + 1) fun a64 =>
  lt (hpNew h63 (2, ix (12 : Int32))) fun h65 =>
  lt (upR h65 r0 38 a64) fun h66 =>
  lt (hpN h66 + 1) fun a67 =>
  lt (hpNew h66 (2, ix (41 : Int32))) fun h68 =>
  lt (upR h68 r0 39 a67) fun h69 =>
  lt (hpN h69 + 1) fun a70 =>
  lt (hpNew h69 (4, ix (64 : Int32))) fun h71 =>
  lt (upR h71 r0 40 a70) fun h72 =>
  lt (hpN h72 + 1) fun a73 =>
  lt (hpNew h72 (2, ix (80 : Int32))) fun h74 =>
  lt (upR h74 r0 41 a73) fun h75 =>
  lt (hpN h75 + 1) fun a76 =>
  lt (hpNew h75 (4, ix (3 : Int32))) fun h77 =>
  lt (upR h77 r0 43 a76) fun h78 =>
  lt (hpN h78 + 1) fun a79 =>
  lt (hpNew h78 (2, ix (3 : Int32))) fun h80 =>
  lt (upR h80 r0 44 a79) fun h81 =>
  lt (hpN h81 + 1) fun a82 =>
  lt (hpNew h81 (2, ix (153 : Int32))) fun h83 =>
  lt (upR h83 r0 45 a82) fun h84 =>
  some h84

def f_X10_thrown (h : Hp) (r0 : Nat) : Option Int32 :=
  some (hpI h r0 0)

def f_X10_refuse (h : Hp) (r0 : Nat) : Option (Int32 × Hp) :=
  lt (upI h r0 0 (1 : Int32)) fun h1 =>
  some ((0 : Int32), h1)

def f_X10_in (h : Hp) (y0 : Int64) (y2 : Int64) (y4 : Int64) : Option Int32 :=
  if (lg_cmp y0 y2) < 0 then (
    some (0 : Int32)
  ) else (
    if 0 < (lg_cmp y0 y4) then (
      some (0 : Int32)
    ) else (
      some (1 : Int32)
    )
  )

def f_X10_has (h : Hp) (y0 : Int64) (x2 : Int32) : Option Int32 :=
  lt (shr64 y0 x2) fun v1 =>
  if (lg_cmp (v1 &&& (1 : Int64)) (1 : Int64)) = 0 then (
    some (1 : Int32)
  ) else (
    some (0 : Int32)
  )

def f_X10_flag (h : Hp) (x0 : Int32) : Option Int32 :=
  if x0 = 0 then (
    some (0 : Int32)
  ) else (
    some (1 : Int32)
  )

def fo_X10_common (E_X10_common : Hp → Int64 → Int64 → Option Int64) (h : Hp) (y0 : Int64) (y2 : Int64) : Option Int64 :=
  if (lg_cmp y2 (0 : Int64)) = 0 then (
    some y0
  ) else (
    gd (nz64 y2) <|
    lt (rm64 y0 y2) fun v3 =>
    (E_X10_common h y2 v3).bind fun q4 =>
    some q4
  )

def fx_C (n : Nat) : (Hp → Int64 → Int64 → Option Int64) := match n with
  | 0 => (fun _ _ _ => none)
  | n + 1 => lt (fx_C n) fun F => (fo_X10_common F)
def f_X10_common : Hp → Int64 → Int64 → Option Int64 := (fx_C 70)

def f_X10_enters (h : Hp) (r0 : Nat) (y1 : Int64) : Option Hp :=
  gd (nz (hpR h r0 2)) <|
  gd (inb (hpI h r0 1) (hpT h (hpR h r0 2)).2) <|
  lt (upL h (hpR h r0 2) (ix (hpI h r0 1)) y1) fun h4 =>
  lt (upI h4 r0 1 ((hpI h4 r0 1) + (1 : Int32))) fun h5 =>
  some h5

def f_X10_cells (h : Hp) (r0 : Nat) : Option Int32 :=
  some ((hpI h r0 3) * (hpI h r0 4))

def f_X10_isCell (h : Hp) (r0 : Nat) (x1 : Int32) : Option Int32 :=
  (f_X10_cells h r0).bind fun q1 =>
  (f_X10_in h (x1.toInt64) (0 : Int64) ((q1 - (1 : Int32)).toInt64)).bind fun q2 =>
  some q2

def f_X10_isCamp (h : Hp) (r0 : Nat) (x1 : Int32) : Option Int32 :=
  gd (nz (hpR h r0 6)) <|
  gd (inb (48 : Int32) (hpT h (hpR h r0 6)).2) <|
  (f_X10_in h (x1.toInt64) (0 : Int64) (((hpI h (hpR h r0 6) (ix (48 : Int32))) - (1 : Int32)).toInt64)).bind fun q4 =>
  some q4

def f_X10_isOn (h : Hp) (r0 : Nat) (x1 : Int32) : Option Int32 :=
  gd (inb (48 : Int32) (hpT h r0).2) <|
  if (hpI h r0 (ix (48 : Int32))) ≤ x1 then (
    some (0 : Int32)
  ) else (
    gd (inb ((24 : Int32) + x1) (hpT h r0).2) <|
    if (hpI h r0 (ix ((24 : Int32) + x1))) ≤ 0 then (
      some (0 : Int32)
    ) else (
      some (1 : Int32)
    )
  )

def f_X10_isIn (h : Hp) (r0 : Nat) (x1 : Int32) (x2 : Int32) (x3 : Int32) : Option Int32 :=
  gd (nz32 (hpI h r0 4)) <|
  if (hpI h r0 3) < ((x1 / (hpI h r0 4)) + x2) then (
    some (0 : Int32)
  ) else (
    gd (nz32 (hpI h r0 4)) <|
    lt (rm32 x1 (hpI h r0 4)) fun v4 =>
    if (hpI h r0 4) < (v4 + x3) then (
      some (0 : Int32)
    ) else (
      some (1 : Int32)
    )
  )

def f_X10_isOver (h : Hp) (r0 : Nat) (x1 : Int32) (x2 : Int32) (x3 : Int32) (x4 : Int32) : Option Int32 :=
  gd (nz32 (hpI h r0 4)) <|
  gd (nz32 (hpI h r0 4)) <|
  lt ((x4 / (hpI h r0 4)) - (x1 / (hpI h r0 4))) fun v3 =>
  gd (nz32 (hpI h r0 4)) <|
  lt (rm32 x4 (hpI h r0 4)) fun v5 =>
  gd (nz32 (hpI h r0 4)) <|
  lt (rm32 x1 (hpI h r0 4)) fun v7 =>
  lt (v5 - v7) fun v8 =>
  (f_X10_in h (v3.toInt64) (0 : Int64) ((x2 - (1 : Int32)).toInt64)).bind fun q9 =>
  if q9 = 0 then (
    some (0 : Int32)
  ) else (
    (f_X10_in h (v8.toInt64) (0 : Int64) ((x3 - (1 : Int32)).toInt64)).bind fun q11 =>
    if q11 = 0 then (
      some (0 : Int32)
    ) else (
      some (1 : Int32)
    )
  )

def f_X10_isLyingOver (h : Hp) (r0 : Nat) (r1 : Nat) (x2 : Int32) (x3 : Int32) : Option Int32 :=
  gd (inb x2 (hpT h r1).2) <|
  gd (inb ((8 : Int32) + x2) (hpT h r1).2) <|
  gd (inb ((16 : Int32) + x2) (hpT h r1).2) <|
  (f_X10_isOver h r0 (hpI h r1 (ix x2)) (hpI h r1 (ix ((8 : Int32) + x2))) (hpI h r1 (ix ((16 : Int32) + x2))) x3).bind fun q4 =>
  some q4

def f_X10_area_37 (h : Hp) (r0 : Nat) (x1 : Int32) (x2 : Int32) (x3 : Int32) (k6 : Int64 → Int32 → Option Int64) : Int64 → Int64 → Int32 → Option Int64 := fun s0 s1 x6 =>
  lt (s0 ||| s1) fun v6 =>
  lt (x6 + (1 : Int32)) fun v7 =>
  k6 v6 v7
def f_X10_area_6 (h : Hp) (r0 : Nat) (x1 : Int32) (x2 : Int32) (x3 : Int32) (n : Nat) : Int64 → Int32 → Option Int64 := match n with
  | 0 => fun _ _ => none
  | n + 1 => fun y4 x6 =>
    lt (f_X10_area_6 h r0 x1 x2 x3 n) fun k6 =>
    (f_X10_cells h r0).bind fun q1 =>
    if q1 ≤ x6 then (
      some y4
    ) else (
      (f_X10_isOver h r0 x1 x2 x3 x6).bind fun q3 =>
      if q3 = 0 then (
        f_X10_area_37 h r0 x1 x2 x3 k6 y4 (0 : Int64) x6
      ) else (
        lt (shl64 (1 : Int64) x6) fun v5 =>
        f_X10_area_37 h r0 x1 x2 x3 k6 y4 v5 x6
      )
    )
def f_X10_area (h : Hp) (r0 : Nat) (x1 : Int32) (x2 : Int32) (x3 : Int32) : Option Int64 :=
  f_X10_area_6 h r0 x1 x2 x3 FU (0 : Int64) (0 : Int32)

def f_X10_areaOf (h : Hp) (r0 : Nat) (r1 : Nat) (x2 : Int32) : Option Int64 :=
  gd (inb x2 (hpT h r1).2) <|
  gd (inb ((8 : Int32) + x2) (hpT h r1).2) <|
  gd (inb ((16 : Int32) + x2) (hpT h r1).2) <|
  (f_X10_area h r0 (hpI h r1 (ix x2)) (hpI h r1 (ix ((8 : Int32) + x2))) (hpI h r1 (ix ((16 : Int32) + x2)))).bind fun q4 =>
  some q4

def f_X10_on_28 (h : Hp) (r0 : Nat) (k4 : Int32 → Int32 → Option Int32) : Int32 → Int32 → Int32 → Option Int32 := fun s0 s1 x2 =>
  lt (s0 ||| s1) fun v6 =>
  lt (x2 + (1 : Int32)) fun v7 =>
  k4 v6 v7
def f_X10_on_4 (h : Hp) (r0 : Nat) (n : Nat) : Int32 → Int32 → Option Int32 := match n with
  | 0 => fun _ _ => none
  | n + 1 => fun x1 x2 =>
    lt (f_X10_on_4 h r0 n) fun k4 =>
    gd (inb (48 : Int32) (hpT h r0).2) <|
    if (hpI h r0 (ix (48 : Int32))) ≤ x2 then (
      some x1
    ) else (
      (f_X10_isOn h r0 x2).bind fun q3 =>
      if q3 = 0 then (
        f_X10_on_28 h r0 k4 x1 (0 : Int32) x2
      ) else (
        lt (shl32 (1 : Int32) x2) fun v5 =>
        f_X10_on_28 h r0 k4 x1 v5 x2
      )
    )
def f_X10_on (h : Hp) (r0 : Nat) : Option Int32 :=
  f_X10_on_4 h r0 FU (0 : Int32) (0 : Int32)

def f_X10_sumOf_4 (h : Hp) (r0 : Nat) (x1 : Int32) (n : Nat) : Int32 → Int32 → Option Int32 := match n with
  | 0 => fun _ _ => none
  | n + 1 => fun x2 x3 =>
    lt (f_X10_sumOf_4 h r0 x1 n) fun k4 =>
    gd (inb (48 : Int32) (hpT h r0).2) <|
    if (hpI h r0 (ix (48 : Int32))) ≤ x3 then (
      some x2
    ) else (
      gd (inb (x1 + x3) (hpT h r0).2) <|
      lt (x2 + (hpI h r0 (ix (x1 + x3)))) fun v4 =>
      lt (x3 + (1 : Int32)) fun v5 =>
      k4 v4 v5
    )
def f_X10_sumOf (h : Hp) (r0 : Nat) (x1 : Int32) : Option Int32 :=
  f_X10_sumOf_4 h r0 x1 FU (0 : Int32) (0 : Int32)

def f_X10_campsOver_43 (h : Hp) (r0 : Nat) (r1 : Nat) (x2 : Int32) (k5 : Int32 → Int32 → Option Int32) : Int32 → Int32 → Int32 → Option Int32 := fun s0 s1 x4 =>
  lt (s0 ||| s1) fun v8 =>
  lt (x4 + (1 : Int32)) fun v9 =>
  k5 v8 v9
def f_X10_campsOver_42 (h : Hp) (r0 : Nat) (r1 : Nat) (x2 : Int32) (k5 : Int32 → Int32 → Option Int32) : Int32 → Int32 → Option Int32 := fun s0 x4 =>
  f_X10_campsOver_43 h r0 r1 x2 k5 s0 (0 : Int32) x4
def f_X10_campsOver_5 (h : Hp) (r0 : Nat) (r1 : Nat) (x2 : Int32) (n : Nat) : Int32 → Int32 → Option Int32 := match n with
  | 0 => fun _ _ => none
  | n + 1 => fun x3 x4 =>
    lt (f_X10_campsOver_5 h r0 r1 x2 n) fun k5 =>
    gd (inb (48 : Int32) (hpT h r1).2) <|
    if (hpI h r1 (ix (48 : Int32))) ≤ x4 then (
      some x3
    ) else (
      (f_X10_isOn h r1 x4).bind fun q3 =>
      if q3 = 0 then (
        f_X10_campsOver_42 h r0 r1 x2 k5 x3 x4
      ) else (
        (f_X10_isLyingOver h r0 r1 x4 x2).bind fun q5 =>
        if q5 = 0 then (
          f_X10_campsOver_42 h r0 r1 x2 k5 x3 x4
        ) else (
          lt (shl32 (1 : Int32) x4) fun v7 =>
          f_X10_campsOver_43 h r0 r1 x2 k5 x3 v7 x4
        )
      )
    )
def f_X10_campsOver (h : Hp) (r0 : Nat) (r1 : Nat) (x2 : Int32) : Option Int32 :=
  f_X10_campsOver_5 h r0 r1 x2 FU (0 : Int32) (0 : Int32)

def f_X10_sleptBy_45 (h : Hp) (r0 : Nat) (r1 : Nat) (x2 : Int32) (k5 : Int64 → Int32 → Option Int64) : Int64 → Int64 → Int32 → Option Int64 := fun s0 s1 x5 =>
  lt (s0 ||| s1) fun v8 =>
  lt (x5 + (1 : Int32)) fun v9 =>
  k5 v8 v9
def f_X10_sleptBy_44 (h : Hp) (r0 : Nat) (r1 : Nat) (x2 : Int32) (k5 : Int64 → Int32 → Option Int64) : Int64 → Int32 → Option Int64 := fun s0 x5 =>
  f_X10_sleptBy_45 h r0 r1 x2 k5 s0 (0 : Int64) x5
def f_X10_sleptBy_5 (h : Hp) (r0 : Nat) (r1 : Nat) (x2 : Int32) (n : Nat) : Int64 → Int32 → Option Int64 := match n with
  | 0 => fun _ _ => none
  | n + 1 => fun y3 x5 =>
    lt (f_X10_sleptBy_5 h r0 r1 x2 n) fun k5 =>
    gd (inb (48 : Int32) (hpT h r1).2) <|
    if (hpI h r1 (ix (48 : Int32))) ≤ x5 then (
      some y3
    ) else (
      (f_X10_isOn h r1 x5).bind fun q3 =>
      if q3 = 0 then (
        f_X10_sleptBy_44 h r0 r1 x2 k5 y3 x5
      ) else (
        (f_X10_has h (x2.toInt64) x5).bind fun q5 =>
        if q5 = 0 then (
          f_X10_sleptBy_44 h r0 r1 x2 k5 y3 x5
        ) else (
          (f_X10_areaOf h r0 r1 x5).bind fun q7 =>
          f_X10_sleptBy_45 h r0 r1 x2 k5 y3 q7 x5
        )
      )
    )
def f_X10_sleptBy (h : Hp) (r0 : Nat) (r1 : Nat) (x2 : Int32) : Option Int64 :=
  f_X10_sleptBy_5 h r0 r1 x2 FU (0 : Int64) (0 : Int32)

def f_X10_crossing_77 (h : Hp) (r0 : Nat) (r1 : Nat) (x2 : Int32) (k5 : Int32 → Int32 → Option Int32) : Int32 → Int32 → Int32 → Option Int32 := fun s0 s1 x4 =>
  lt (s0 ||| s1) fun v13 =>
  lt (x4 + (1 : Int32)) fun v14 =>
  k5 v13 v14
def f_X10_crossing_76 (h : Hp) (r0 : Nat) (r1 : Nat) (x2 : Int32) (k5 : Int32 → Int32 → Option Int32) : Int32 → Int32 → Option Int32 := fun s0 x4 =>
  f_X10_crossing_77 h r0 r1 x2 k5 s0 (0 : Int32) x4
def f_X10_crossing_42 (h : Hp) (r0 : Nat) (r1 : Nat) (x2 : Int32) (k5 : Int32 → Int32 → Option Int32) : Int32 → Int32 → Int32 → Option Int32 := fun s0 x3 x4 =>
  if s0 = 0 then (
    f_X10_crossing_76 h r0 r1 x2 k5 x3 x4
  ) else (
    (f_X10_areaOf h r0 r1 x4).bind fun q9 =>
    (f_X10_areaOf h r0 r1 x2).bind fun q10 =>
    if (lg_cmp (q9 &&& q10) (0 : Int64)) = 0 then (
      f_X10_crossing_76 h r0 r1 x2 k5 x3 x4
    ) else (
      lt (shl32 (1 : Int32) x4) fun v12 =>
      f_X10_crossing_77 h r0 r1 x2 k5 x3 v12 x4
    )
  )
def f_X10_crossing_41 (h : Hp) (r0 : Nat) (r1 : Nat) (x2 : Int32) (k5 : Int32 → Int32 → Option Int32) : Int32 → Int32 → Option Int32 := fun x3 x4 =>
  f_X10_crossing_42 h r0 r1 x2 k5 (0 : Int32) x3 x4
def f_X10_crossing_5 (h : Hp) (r0 : Nat) (r1 : Nat) (x2 : Int32) (n : Nat) : Int32 → Int32 → Option Int32 := match n with
  | 0 => fun _ _ => none
  | n + 1 => fun x3 x4 =>
    lt (f_X10_crossing_5 h r0 r1 x2 n) fun k5 =>
    gd (inb (48 : Int32) (hpT h r1).2) <|
    if (hpI h r1 (ix (48 : Int32))) ≤ x4 then (
      some x3
    ) else (
      if x4 = x2 then (
        f_X10_crossing_41 h r0 r1 x2 k5 x3 x4
      ) else (
        (f_X10_isOn h r1 x4).bind fun q4 =>
        if q4 = 0 then (
          f_X10_crossing_41 h r0 r1 x2 k5 x3 x4
        ) else (
          (f_X10_isOn h r1 x2).bind fun q6 =>
          if q6 = 0 then (
            f_X10_crossing_41 h r0 r1 x2 k5 x3 x4
          ) else (
            f_X10_crossing_42 h r0 r1 x2 k5 (1 : Int32) x3 x4
          )
        )
      )
    )
def f_X10_crossing (h : Hp) (r0 : Nat) (r1 : Nat) (x2 : Int32) : Option Int32 :=
  f_X10_crossing_5 h r0 r1 x2 FU (0 : Int32) (0 : Int32)

def f_X10_strengthOn_37 (h : Hp) (r0 : Nat) (r1 : Nat) (x2 : Int32) (k5 : Int32 → Int32 → Option Int32) : Int32 → Int32 → Int32 → Option Int32 := fun s0 s1 x4 =>
  lt (s0 + s1) fun v6 =>
  lt (x4 + (1 : Int32)) fun v7 =>
  k5 v6 v7
def f_X10_strengthOn_5 (h : Hp) (r0 : Nat) (r1 : Nat) (x2 : Int32) (n : Nat) : Int32 → Int32 → Option Int32 := match n with
  | 0 => fun _ _ => none
  | n + 1 => fun x3 x4 =>
    lt (f_X10_strengthOn_5 h r0 r1 x2 n) fun k5 =>
    gd (inb (48 : Int32) (hpT h r1).2) <|
    if (hpI h r1 (ix (48 : Int32))) ≤ x4 then (
      some x3
    ) else (
      (f_X10_isLyingOver h r0 r1 x4 x2).bind fun q3 =>
      if q3 = 0 then (
        f_X10_strengthOn_37 h r0 r1 x2 k5 x3 (0 : Int32) x4
      ) else (
        gd (inb ((24 : Int32) + x4) (hpT h r1).2) <|
        f_X10_strengthOn_37 h r0 r1 x2 k5 x3 (hpI h r1 (ix ((24 : Int32) + x4))) x4
      )
    )
def f_X10_strengthOn (h : Hp) (r0 : Nat) (r1 : Nat) (x2 : Int32) : Option Int32 :=
  f_X10_strengthOn_5 h r0 r1 x2 FU (0 : Int32) (0 : Int32)

def f_X10_sign_18 (r0 : Nat) (x1 : Int32) (n : Nat) : Hp → Int32 → Option (Int32 × Hp) := match n with
  | 0 => fun _ _ => none
  | n + 1 => fun h x2 =>
    lt (f_X10_sign_18 r0 x1 n) fun k18 =>
    if (4 : Int32) ≤ x2 then (
      lt (upI h r0 9 ((hpI h r0 9) + (4 : Int32))) fun h4 =>
      some ((hpI h4 r0 9), h4)
    ) else (
      gd (nz (hpR h r0 8)) <|
      lt (shr32 x1 ((24 : Int32) - ((8 : Int32) * x2))) fun v7 =>
      gd (inb ((hpI h r0 9) + x2) (hpT h (hpR h r0 8)).2) <|
      lt (upI h (hpR h r0 8) (ix ((hpI h r0 9) + x2)) (v7 &&& (255 : Int32))) fun h9 =>
      lt (x2 + (1 : Int32)) fun v10 =>
      k18 h9 v10
    )
def f_X10_sign (h : Hp) (r0 : Nat) (x1 : Int32) : Option (Int32 × Hp) :=
  lt (upI h r0 0 (0 : Int32)) fun h1 =>
  if (hpI h1 r0 9) ≤ (76 : Int32) then (
    f_X10_sign_18 r0 x1 FU h1 (0 : Int32)
  ) else (
    some ((-1 : Int32), h1)
  )

def f_X10_end (h : Hp) (r0 : Nat) (x1 : Int32) : Option (Int32 × Hp) :=
  lt (upI h r0 0 (0 : Int32)) fun h1 =>
  (f_X10_in h1 (x1.toInt64) (0 : Int64) ((hpI h1 r0 9).toInt64)).bind fun q2 =>
  if q2 = 0 then (
    some ((0 : Int32), h1)
  ) else (
    lt (upI h1 r0 9 x1) fun h4 =>
    some ((1 : Int32), h4)
  )

def f_X10_begins (h : Hp) (r0 : Nat) (x1 : Int32) : Option (Int32 × Hp) :=
  lt (hpI h r0 9) fun v1 =>
  lt (upI h r0 9 (0 : Int32)) fun h2 =>
  lt (upI h2 r0 10 (0 : Int32)) fun h3 =>
  lt (upI h3 r0 12 (0 : Int32)) fun h4 =>
  lt (mn32 v1 x1) fun v5 =>
  lt (upI h4 r0 11 v5) fun h6 =>
  some (v1, h6)

def f_X10_takes_29 (r0 : Nat) (x1 : Int32) : Hp → Int32 → Option (Int32 × Hp) := fun h s0 =>
  (f_X10_flag h s0).bind fun q6 =>
  lt (upI h r0 10 ((hpI h r0 10) + q6)) fun h7 =>
  some (s0, h7)
def f_X10_takes_28 (r0 : Nat) (x1 : Int32) : Hp → Option (Int32 × Hp) := fun h =>
  f_X10_takes_29 r0 x1 h (0 : Int32)
def f_X10_takes (h : Hp) (r0 : Nat) (x1 : Int32) : Option (Int32 × Hp) :=
  if (hpI h r0 11) ≤ (hpI h r0 10) then (
    f_X10_takes_28 r0 x1 h
  ) else (
    gd (nz (hpR h r0 8)) <|
    gd (inb (hpI h r0 10) (hpT h (hpR h r0 8)).2) <|
    if (hpI h (hpR h r0 8) (ix (hpI h r0 10))) = x1 then (
      f_X10_takes_29 r0 x1 h (1 : Int32)
    ) else (
      f_X10_takes_28 r0 x1 h
    )
  )

def f_X10_isDigit (h : Hp) (r0 : Nat) : Option Int32 :=
  if (hpI h r0 11) ≤ (hpI h r0 10) then (
    some (0 : Int32)
  ) else (
    gd (nz (hpR h r0 8)) <|
    gd (inb (hpI h r0 10) (hpT h (hpR h r0 8)).2) <|
    (f_X10_in h ((hpI h (hpR h r0 8) (ix (hpI h r0 10))).toInt64) (48 : Int64) (57 : Int64)).bind fun q5 =>
    if q5 = 0 then (
      some (0 : Int32)
    ) else (
      some (1 : Int32)
    )
  )

def f_X10_takesOf_2 (r0 : Nat) (u1 : Nat) (n : Nat) : Hp → Int32 → Option (Int32 × Hp) := match n with
  | 0 => fun _ _ => none
  | n + 1 => fun h x2 =>
    lt (f_X10_takesOf_2 r0 u1 n) fun k2 =>
    if (nI (txL.getD u1 0)) ≤ x2 then (
      some ((-1 : Int32), h)
    ) else (
      if (hpI h r0 11) ≤ (hpI h r0 10) then (
        some ((-1 : Int32), h)
      ) else (
        gd (inb x2 (txL.getD u1 0)) <|
        gd (nz (hpR h r0 8)) <|
        gd (inb (hpI h r0 10) (hpT h (hpR h r0 8)).2) <|
        if ((txB.getD u1 []).getD (ix x2) 0) = (hpI h (hpR h r0 8) (ix (hpI h r0 10))) then (
          lt (upI h r0 10 ((hpI h r0 10) + (1 : Int32))) fun h9 =>
          some (x2, h9)
        ) else (
          lt (x2 + (1 : Int32)) fun v8 =>
          k2 h v8
        )
      )
    )
def f_X10_takesOf (h : Hp) (r0 : Nat) (u1 : Nat) : Option (Int32 × Hp) :=
  f_X10_takesOf_2 r0 u1 FU h (0 : Int32)

def f_X10_number_13 (r0 : Nat) (x1 : Int32) (n : Nat) : Hp → Int32 → Int32 → Option (Int32 × Hp) := match n with
  | 0 => fun _ _ _ => none
  | n + 1 => fun h x2 x3 =>
    lt (f_X10_number_13 r0 x1 n) fun k13 =>
    if x1 ≤ x3 then (
      some (x2, h)
    ) else (
      (f_X10_isDigit h r0).bind fun q4 =>
      if q4 = 0 then (
        some (x2, h)
      ) else (
        gd (nz (hpR h r0 8)) <|
        gd (inb (hpI h r0 10) (hpT h (hpR h r0 8)).2) <|
        lt ((((10 : Int32) * x2) + (hpI h (hpR h r0 8) (ix (hpI h r0 10)))) - (48 : Int32)) fun v9 =>
        lt (upI h r0 10 ((hpI h r0 10) + (1 : Int32))) fun h10 =>
        lt (x3 + (1 : Int32)) fun v11 =>
        k13 h10 v9 v11
      )
    )
def f_X10_number (h : Hp) (r0 : Nat) (x1 : Int32) : Option (Int32 × Hp) :=
  (f_X10_isDigit h r0).bind fun q1 =>
  if q1 = 0 then (
    some ((-1 : Int32), h)
  ) else (
    f_X10_number_13 r0 x1 FU h (0 : Int32) (0 : Int32)
  )

def f_X10_digitIn (h : Hp) (r0 : Nat) (x1 : Int32) (x2 : Int32) : Option (Int32 × Hp) :=
  if (hpI h r0 11) ≤ (hpI h r0 10) then (
    some ((-1 : Int32), h)
  ) else (
    gd (nz (hpR h r0 8)) <|
    gd (inb (hpI h r0 10) (hpT h (hpR h r0 8)).2) <|
    (f_X10_in h (((hpI h (hpR h r0 8) (ix (hpI h r0 10))) - (48 : Int32)).toInt64) (x1.toInt64) (x2.toInt64)).bind fun q5 =>
    if q5 = 0 then (
      some ((-1 : Int32), h)
    ) else (
      lt (upI h r0 10 ((hpI h r0 10) + (1 : Int32))) fun h7 =>
      gd (nz (hpR h7 r0 8)) <|
      gd (inb ((hpI h7 r0 10) - (1 : Int32)) (hpT h7 (hpR h7 r0 8)).2) <|
      some (((hpI h7 (hpR h7 r0 8) (ix ((hpI h7 r0 10) - (1 : Int32)))) - (48 : Int32)), h7)
    )
  )

def f_X10_faultOf_44 (h : Hp) (r0 : Nat) (x1 : Int32) (x2 : Int32) (x3 : Int32) : Int32 → Option Int32 := fun x4 =>
  if x4 = 0 then (
    some ((-1 : Int32) - (hpI h r0 10))
  ) else (
    some (0 : Int32)
  )
def f_X10_faultOf_40 (h : Hp) (r0 : Nat) (x1 : Int32) (x2 : Int32) (x3 : Int32) : Option Int32 :=
  some ((-1 : Int32) - x2)
def f_X10_faultOf_20 (h : Hp) (r0 : Nat) (x1 : Int32) (x2 : Int32) (x3 : Int32) : Int32 → Option Int32 := fun s0 =>
  if x1 ≤ x2 then (
    f_X10_faultOf_44 h r0 x1 x2 x3 s0
  ) else (
    if s0 = 0 then (
      if (hpI h r0 10) < x2 then (
        f_X10_faultOf_44 h r0 x1 x2 x3 s0
      ) else (
        f_X10_faultOf_40 h r0 x1 x2 x3
      )
    ) else (
      f_X10_faultOf_40 h r0 x1 x2 x3
    )
  )
def f_X10_faultOf_19 (h : Hp) (r0 : Nat) (x1 : Int32) (x2 : Int32) (x3 : Int32) : Option Int32 :=
  f_X10_faultOf_20 h r0 x1 x2 x3 (0 : Int32)
def f_X10_faultOf (h : Hp) (r0 : Nat) (x1 : Int32) (x2 : Int32) (x3 : Int32) : Option Int32 :=
  if x3 = 0 then (
    f_X10_faultOf_19 h r0 x1 x2 x3
  ) else (
    if (hpI h r0 10) = (hpI h r0 11) then (
      f_X10_faultOf_20 h r0 x1 x2 x3 (1 : Int32)
    ) else (
      f_X10_faultOf_19 h r0 x1 x2 x3
    )
  )

def f_X10_field_51 (r0 : Nat) : Hp → Option (Int32 × Hp) := fun h =>
  some (((-1 : Int32) - (hpI h r0 10)), h)
def f_X10_field_35 (r0 : Nat) : Hp → Int32 → Int32 → Option (Int32 × Hp) := fun h s0 x1 =>
  if s0 < 0 then (
    f_X10_field_51 r0 h
  ) else (
    if (hpI h r0 11) ≤ (hpI h r0 10) then (
      lt (upI h r0 3 x1) fun h8 =>
      lt (upI h8 r0 4 s0) fun h9 =>
      gd (nz (hpR h9 r0 6)) <|
      gd (inb (48 : Int32) (hpT h9 (hpR h9 r0 6)).2) <|
      lt (upI h9 (hpR h9 r0 6) (ix (48 : Int32)) (0 : Int32)) fun h13 =>
      gd (nz (hpR h13 r0 6)) <|
      gd (inb (49 : Int32) (hpT h13 (hpR h13 r0 6)).2) <|
      lt (upI h13 (hpR h13 r0 6) (ix (49 : Int32)) (0 : Int32)) fun h17 =>
      gd (nz (hpR h17 r0 6)) <|
      gd (inb (50 : Int32) (hpT h17 (hpR h17 r0 6)).2) <|
      lt (upI h17 (hpR h17 r0 6) (ix (50 : Int32)) (0 : Int32)) fun h21 =>
      lt (upI h21 r0 22 (0 : Int32)) fun h22 =>
      lt (upI h22 r0 5 ((hpI h22 r0 5) + (1 : Int32))) fun h23 =>
      lt (upI h23 r0 31 (0 : Int32)) fun h24 =>
      (f_X10_cells h24 r0).bind fun q25 =>
      some (q25, h24)
    ) else (
      f_X10_field_51 r0 h
    )
  )
def f_X10_field (h : Hp) (r0 : Nat) : Option (Int32 × Hp) :=
  lt (upI h r0 0 (0 : Int32)) fun h1 =>
  (f_X10_begins h1 r0 (80 : Int32)).bind fun q2 =>
  (f_X10_digitIn q2.2 r0 (3 : Int32) (6 : Int32)).bind fun q3 =>
  if 0 ≤ q3.1 then (
    (f_X10_digitIn q3.2 r0 (3 : Int32) (6 : Int32)).bind fun q5 =>
    f_X10_field_35 r0 q5.2 q5.1 q3.1
  ) else (
    f_X10_field_35 r0 q3.2 (-1 : Int32) q3.1
  )

def f_X10_readsCamp_172 (r0 : Nat) (k31 : Hp → Int32 → Int32 → Int32 → Option (Int32 × Hp)) : Hp → Int32 → Int32 → Int32 → Option (Int32 × Hp) := fun h s0 x1 x3 =>
  lt (x3 + (1 : Int32)) fun v32 =>
  k31 h x1 s0 v32
def f_X10_readsCamp_138 (r0 : Nat) (k31 : Hp → Int32 → Int32 → Int32 → Option (Int32 × Hp)) : Hp → Int32 → Int32 → Int32 → Int32 → Option (Int32 × Hp) := fun h s0 x1 x3 x4 =>
  gd (nz (hpR h r0 13)) <|
  (f_X10_digitIn h r0 x4 s0).bind fun q25 =>
  gd (inb (x1 + x3) (hpT q25.2 (hpR h r0 13)).2) <|
  lt (upI q25.2 (hpR h r0 13) (ix (x1 + x3)) q25.1) fun h27 =>
  gd (nz (hpR h27 r0 13)) <|
  gd (inb (x1 + x3) (hpT h27 (hpR h27 r0 13)).2) <|
  f_X10_readsCamp_172 r0 k31 h27 (if (hpI h27 (hpR h27 r0 13) (ix (x1 + x3))) < 0 then (0 : Int32) else (1 : Int32)) x1 x3
def f_X10_readsCamp_56 (r0 : Nat) (k31 : Hp → Int32 → Int32 → Int32 → Option (Int32 × Hp)) : Hp → Int32 → Int32 → Int32 → Option (Int32 × Hp) := fun h s0 x1 x3 =>
  (f_X10_flag h s0).bind fun q10 =>
  if x3 = 0 then (
    f_X10_readsCamp_138 r0 k31 h ((hpI h r0 3) - (1 : Int32)) x1 x3 q10
  ) else (
    if x3 = (1 : Int32) then (
      f_X10_readsCamp_138 r0 k31 h ((hpI h r0 4) - (1 : Int32)) x1 x3 q10
    ) else (
      if x3 = (2 : Int32) then (
        gd (nz (hpR h r0 13)) <|
        gd (inb x1 (hpT h (hpR h r0 13)).2) <|
        lt (mn32 (3 : Int32) ((hpI h r0 3) - (hpI h (hpR h r0 13) (ix x1)))) fun v22 =>
        f_X10_readsCamp_138 r0 k31 h v22 x1 x3 q10
      ) else (
        if x3 = (3 : Int32) then (
          gd (nz (hpR h r0 13)) <|
          gd (inb (x1 + (1 : Int32)) (hpT h (hpR h r0 13)).2) <|
          lt (mn32 (3 : Int32) ((hpI h r0 4) - (hpI h (hpR h r0 13) (ix (x1 + (1 : Int32)))))) fun v18 =>
          f_X10_readsCamp_138 r0 k31 h v18 x1 x3 q10
        ) else (
          f_X10_readsCamp_138 r0 k31 h (9 : Int32) x1 x3 q10
        )
      )
    )
  )
def f_X10_readsCamp_179 (r0 : Nat) : Hp → Int32 → Option (Int32 × Hp) := fun h x2 =>
  lt (upI h r0 14 ((hpI h r0 14) + (1 : Int32))) fun h33 =>
  some (x2, h33)
def f_X10_readsCamp_55 (r0 : Nat) (k31 : Hp → Int32 → Int32 → Int32 → Option (Int32 × Hp)) : Hp → Int32 → Int32 → Option (Int32 × Hp) := fun h x1 x3 =>
  f_X10_readsCamp_56 r0 k31 h (0 : Int32) x1 x3
def f_X10_readsCamp_31 (r0 : Nat) (n : Nat) : Hp → Int32 → Int32 → Int32 → Option (Int32 × Hp) := match n with
  | 0 => fun _ _ _ _ => none
  | n + 1 => fun h x1 x2 x3 =>
    lt (f_X10_readsCamp_31 r0 n) fun k31 =>
    if (6 : Int32) ≤ x3 then (
      f_X10_readsCamp_179 r0 h x2
    ) else (
      if x2 = 0 then (
        f_X10_readsCamp_179 r0 h x2
      ) else (
        if x3 ≤ (1 : Int32) then (
          f_X10_readsCamp_55 r0 k31 h x1 x3
        ) else (
          if (5 : Int32) ≤ x3 then (
            f_X10_readsCamp_55 r0 k31 h x1 x3
          ) else (
            f_X10_readsCamp_56 r0 k31 h (1 : Int32) x1 x3
          )
        )
      )
    )
def f_X10_readsCamp (h : Hp) (r0 : Nat) : Option (Int32 × Hp) :=
  gd (nz (hpR h r0 6)) <|
  gd (inb (48 : Int32) (hpT h (hpR h r0 6)).2) <|
  if ((hpI h (hpR h r0 6) (ix (48 : Int32))) + (hpI h r0 14)) = (8 : Int32) then (
    some ((0 : Int32), h)
  ) else (
    lt ((6 : Int32) * (hpI h r0 14)) fun v5 =>
    f_X10_readsCamp_31 r0 FU h v5 (1 : Int32) (0 : Int32)
  )

def f_X10_comes (h : Hp) (r0 : Nat) (x1 : Int32) (x2 : Int32) (x3 : Int32) (x4 : Int32) (x5 : Int32) : Option Hp :=
  gd (inb (48 : Int32) (hpT h r0).2) <|
  lt (hpI h r0 (ix (48 : Int32))) fun v2 =>
  gd (inb v2 (hpT h r0).2) <|
  lt (upI h r0 (ix v2) x1) fun h4 =>
  gd (inb ((8 : Int32) + v2) (hpT h4 r0).2) <|
  lt (upI h4 r0 (ix ((8 : Int32) + v2)) x2) fun h6 =>
  gd (inb ((16 : Int32) + v2) (hpT h6 r0).2) <|
  lt (upI h6 r0 (ix ((16 : Int32) + v2)) x3) fun h8 =>
  gd (inb ((24 : Int32) + v2) (hpT h8 r0).2) <|
  lt (upI h8 r0 (ix ((24 : Int32) + v2)) x4) fun h10 =>
  gd (inb ((32 : Int32) + v2) (hpT h10 r0).2) <|
  lt (upI h10 r0 (ix ((32 : Int32) + v2)) x5) fun h12 =>
  gd (inb ((40 : Int32) + v2) (hpT h12 r0).2) <|
  lt (upI h12 r0 (ix ((40 : Int32) + v2)) (0 : Int32)) fun h14 =>
  gd (inb (48 : Int32) (hpT h14 r0).2) <|
  gd (inb (48 : Int32) (hpT h14 r0).2) <|
  lt (upI h14 r0 (ix (48 : Int32)) ((hpI h14 r0 (ix (48 : Int32))) + (1 : Int32))) fun h17 =>
  some h17

def f_X10_camps_56 (r0 : Nat) (k29 : Hp → Int32 → Int32 → Int32 → Option (Int32 × Hp)) : Hp → Int32 → Int32 → Int32 → Option (Int32 × Hp) := fun h s0 x1 x2 =>
  k29 h x1 x2 s0
def f_X10_camps_204 (r0 : Nat) : Hp → Nat → Int32 → Int32 → Option (Int32 × Hp) := fun h s0 s1 s2 =>
  (f_X10_flag h s2).bind fun q34 =>
  lt (upI h s0 5 (s1 + q34)) fun h35 =>
  some ((hpI h35 r0 14), h35)
def f_X10_camps_184 (r0 : Nat) : Hp → Nat → Int32 → Option (Int32 × Hp) := fun h s0 s1 =>
  lt (upI h s0 22 s1) fun h32 =>
  f_X10_camps_204 r0 h32 r0 (hpI h32 r0 5) (if (hpI h32 r0 14) ≤ 0 then (0 : Int32) else (1 : Int32))
def f_X10_camps_81 (r0 : Nat) (n : Nat) : Hp → Int32 → Option (Int32 × Hp) := match n with
  | 0 => fun _ _ => none
  | n + 1 => fun h x5 =>
    lt (f_X10_camps_81 r0 n) fun k81 =>
    if (hpI h r0 14) ≤ x5 then (
      f_X10_camps_184 r0 h r0 (if (hpI h r0 14) ≤ 0 then (hpI h r0 22) else (0 : Int32))
    ) else (
      lt ((6 : Int32) * x5) fun v14 =>
      gd (nz (hpR h r0 6)) <|
      gd (nz (hpR h r0 13)) <|
      gd (inb v14 (hpT h (hpR h r0 13)).2) <|
      gd (inb (v14 + (1 : Int32)) (hpT h (hpR h r0 13)).2) <|
      gd (inb (v14 + (2 : Int32)) (hpT h (hpR h r0 13)).2) <|
      gd (inb (v14 + (3 : Int32)) (hpT h (hpR h r0 13)).2) <|
      gd (inb (v14 + (4 : Int32)) (hpT h (hpR h r0 13)).2) <|
      gd (inb (v14 + (5 : Int32)) (hpT h (hpR h r0 13)).2) <|
      (f_X10_comes h (hpR h r0 6) (((hpI h r0 4) * (hpI h (hpR h r0 13) (ix v14))) + (hpI h (hpR h r0 13) (ix (v14 + (1 : Int32))))) (hpI h (hpR h r0 13) (ix (v14 + (2 : Int32)))) (hpI h (hpR h r0 13) (ix (v14 + (3 : Int32)))) (hpI h (hpR h r0 13) (ix (v14 + (4 : Int32)))) (hpI h (hpR h r0 13) (ix (v14 + (5 : Int32))))).bind fun q30 =>
      lt (x5 + (1 : Int32)) fun v31 =>
      k81 q30 v31
    )
def f_X10_camps_55 (r0 : Nat) (k29 : Hp → Int32 → Int32 → Int32 → Option (Int32 × Hp)) : Hp → Int32 → Int32 → Option (Int32 × Hp) := fun h x1 x2 =>
  f_X10_camps_56 r0 k29 h (0 : Int32) x1 x2
def f_X10_camps_29 (r0 : Nat) (n : Nat) : Hp → Int32 → Int32 → Int32 → Option (Int32 × Hp) := match n with
  | 0 => fun _ _ _ _ => none
  | n + 1 => fun h x1 x2 x3 =>
    lt (f_X10_camps_29 r0 n) fun k29 =>
    if x3 = 0 then (
      (f_X10_faultOf h r0 x1 (55 : Int32) x2).bind fun q6 =>
      if 0 ≤ q6 then (
        f_X10_camps_81 r0 FU h (0 : Int32)
      ) else (
        some (q6, h)
      )
    ) else (
      (f_X10_readsCamp h r0).bind fun q8 =>
      if q8.1 = 0 then (
        f_X10_camps_55 r0 k29 q8.2 x1 q8.1
      ) else (
        (f_X10_takes q8.2 r0 (59 : Int32)).bind fun q10 =>
        if q10.1 = 0 then (
          f_X10_camps_55 r0 k29 q10.2 x1 q8.1
        ) else (
          f_X10_camps_56 r0 k29 q10.2 (1 : Int32) x1 q8.1
        )
      )
    )
def f_X10_camps_28 (r0 : Nat) : Hp → Int32 → Int32 → Int32 → Option (Int32 × Hp) := fun h s0 x1 x2 =>
  f_X10_camps_29 r0 FU h x1 x2 s0
def f_X10_camps (h : Hp) (r0 : Nat) : Option (Int32 × Hp) :=
  lt (upI h r0 0 (0 : Int32)) fun h1 =>
  (f_X10_begins h1 r0 (55 : Int32)).bind fun q2 =>
  lt (upI q2.2 r0 14 (0 : Int32)) fun h3 =>
  f_X10_camps_28 r0 h3 (if q2.1 ≤ 0 then (0 : Int32) else (1 : Int32)) q2.1 (1 : Int32)

def f_X10_codes (h : Hp) (r0 : Nat) (x1 : Int32) : Option Hp :=
  gd (nz (hpR h r0 16)) <|
  gd (inb (hpI h r0 18) (hpT h (hpR h r0 16)).2) <|
  lt (upI h (hpR h r0 16) (ix (hpI h r0 18)) x1) fun h4 =>
  lt (upI h4 r0 18 ((hpI h4 r0 18) + (1 : Int32))) fun h5 =>
  some h5

def fo_X10_readsThing (E_X10_readsThing : Hp → Nat → Option (Int32 × Hp)) (E_X10_readsRank : Hp → Nat → Int32 → Option (Int32 × Hp)) (h : Hp) (r0 : Nat) : Option (Int32 × Hp) :=
  (f_X10_takes h r0 (45 : Int32)).bind fun q1 =>
  if q1.1 = 0 then (
    (f_X10_isDigit q1.2 r0).bind fun q3 =>
    if q3 = 0 then (
      (f_X10_takesOf q1.2 r0 0).bind fun q5 =>
      if q5.1 < 0 then (
        if (hpI q5.2 r0 12) = (4 : Int32) then (
          some ((0 : Int32), q5.2)
        ) else (
          (f_X10_takes q5.2 r0 (40 : Int32)).bind fun q8 =>
          if q8.1 = 0 then (
            some ((0 : Int32), q8.2)
          ) else (
            lt (upI q8.2 r0 12 ((hpI q8.2 r0 12) + (1 : Int32))) fun h10 =>
            (E_X10_readsRank h10 r0 (0 : Int32)).bind fun q11 =>
            if q11.1 = 0 then (
              some ((0 : Int32), q11.2)
            ) else (
              (f_X10_takes q11.2 r0 (41 : Int32)).bind fun q13 =>
              if q13.1 = 0 then (
                some ((0 : Int32), q13.2)
              ) else (
                lt (upI q13.2 r0 12 ((hpI q13.2 r0 12) - (1 : Int32))) fun h15 =>
                some ((1 : Int32), h15)
              )
            )
          )
        )
      ) else (
        (f_X10_codes q5.2 r0 ((1000 : Int32) + q5.1)).bind fun q16 =>
        some ((1 : Int32), q16)
      )
    ) else (
      (f_X10_number q1.2 r0 (3 : Int32)).bind fun q17 =>
      (f_X10_codes q17.2 r0 q17.1).bind fun q18 =>
      some ((1 : Int32), q18)
    )
  ) else (
    (E_X10_readsThing q1.2 r0).bind fun q19 =>
    (f_X10_codes q19.2 r0 (3000 : Int32)).bind fun q20 =>
    some (q19.1, q20)
  )

def fo_X10_readsRank_109 (E_X10_readsThing : Hp → Nat → Option (Int32 × Hp)) (E_X10_readsRank : Hp → Nat → Int32 → Option (Int32 × Hp)) (r0 : Nat) (x1 : Int32) (k24 : Hp → Int32 → Option (Int32 × Hp)) : Hp → Int32 → Option (Int32 × Hp) := fun h s0 =>
  k24 h s0
def fo_X10_readsRank_96 (E_X10_readsThing : Hp → Nat → Option (Int32 × Hp)) (E_X10_readsRank : Hp → Nat → Int32 → Option (Int32 × Hp)) (r0 : Nat) (x1 : Int32) (k24 : Hp → Int32 → Option (Int32 × Hp)) : Hp → Nat → Int32 → Int32 → Option (Int32 × Hp) := fun h s0 s1 s2 =>
  (f_X10_codes h s0 (s1 + s2)).bind fun q14 =>
  fo_X10_readsRank_109 E_X10_readsThing E_X10_readsRank r0 x1 k24 q14 (if x1 ≤ 0 then (0 : Int32) else (1 : Int32))
def fo_X10_readsRank_50 (E_X10_readsThing : Hp → Nat → Option (Int32 × Hp)) (E_X10_readsRank : Hp → Nat → Int32 → Option (Int32 × Hp)) (r0 : Nat) (x1 : Int32) (k24 : Hp → Int32 → Option (Int32 × Hp)) : Hp → Nat → Nat → Option (Int32 × Hp) := fun h s0 s1 =>
  (f_X10_takesOf h s0 s1).bind fun q8 =>
  if 0 ≤ q8.1 then (
    (E_X10_readsRank q8.2 r0 (x1 + (1 : Int32))).bind fun q10 =>
    if q10.1 = 0 then (
      some ((0 : Int32), q10.2)
    ) else (
      fo_X10_readsRank_96 E_X10_readsThing E_X10_readsRank r0 x1 k24 q10.2 r0 ((2000 : Int32) + q8.1) (if x1 = 0 then (0 : Int32) else (if x1 = (1 : Int32) then (3 : Int32) else (5 : Int32)))
    )
  ) else (
    some ((1 : Int32), q8.2)
  )
def fo_X10_readsRank_24 (E_X10_readsThing : Hp → Nat → Option (Int32 × Hp)) (E_X10_readsRank : Hp → Nat → Int32 → Option (Int32 × Hp)) (r0 : Nat) (x1 : Int32) (n : Nat) : Hp → Int32 → Option (Int32 × Hp) := match n with
  | 0 => fun _ _ => none
  | n + 1 => fun h x2 =>
    lt (fo_X10_readsRank_24 E_X10_readsThing E_X10_readsRank r0 x1 n) fun k24 =>
    if x2 = 0 then (
      some ((1 : Int32), h)
    ) else (
      fo_X10_readsRank_50 E_X10_readsThing E_X10_readsRank r0 x1 k24 h r0 (if x1 = 0 then 1 else (if x1 = (1 : Int32) then 2 else 3))
    )
def fo_X10_readsRank (E_X10_readsThing : Hp → Nat → Option (Int32 × Hp)) (E_X10_readsRank : Hp → Nat → Int32 → Option (Int32 × Hp)) (h : Hp) (r0 : Nat) (x1 : Int32) : Option (Int32 × Hp) :=
  if x1 = (3 : Int32) then (
    (E_X10_readsThing h r0).bind fun q4 =>
    some (q4.1, q4.2)
  ) else (
    (E_X10_readsRank h r0 (x1 + (1 : Int32))).bind fun q2 =>
    if q2.1 = 0 then (
      some ((0 : Int32), q2.2)
    ) else (
      fo_X10_readsRank_24 E_X10_readsThing E_X10_readsRank r0 x1 FU q2.2 (1 : Int32)
    )
  )

def fx_B (n : Nat) : (Hp → Nat → Option (Int32 × Hp)) × (Hp → Nat → Int32 → Option (Int32 × Hp)) := match n with
  | 0 => (fun _ _ => none, fun _ _ _ => none)
  | n + 1 => lt (fx_B n) fun F => (fo_X10_readsThing F.1 F.2, fo_X10_readsRank F.1 F.2)
def f_X10_readsThing : Hp → Nat → Option (Int32 × Hp) := (fx_B 90).1
def f_X10_readsRank : Hp → Nat → Int32 → Option (Int32 × Hp) := (fx_B 90).2

def f_X10_readsRule_29 (r0 : Nat) : Hp → Int32 → Int32 → Option (Int32 × Hp) := fun h s0 x1 =>
  (f_X10_faultOf h r0 x1 (40 : Int32) s0).bind fun q6 =>
  some (q6, h)
def f_X10_readsRule_24 (r0 : Nat) : Hp → Int32 → Option (Int32 × Hp) := fun h x1 =>
  f_X10_readsRule_29 r0 h (1 : Int32) x1
def f_X10_readsRule (h : Hp) (r0 : Nat) : Option (Int32 × Hp) :=
  (f_X10_begins h r0 (40 : Int32)).bind fun q1 =>
  lt (upI q1.2 r0 18 (0 : Int32)) fun h2 =>
  if q1.1 = 0 then (
    f_X10_readsRule_24 r0 h2 q1.1
  ) else (
    (f_X10_readsRank h2 r0 (0 : Int32)).bind fun q4 =>
    if q4.1 = 0 then (
      f_X10_readsRule_29 r0 q4.2 (0 : Int32) q1.1
    ) else (
      f_X10_readsRule_24 r0 q4.2 q1.1
    )
  )

def f_X10_laysCode_7 (r0 : Nat) (r1 : Nat) (x2 : Int32) (n : Nat) : Hp → Int32 → Option Hp := match n with
  | 0 => fun _ _ => none
  | n + 1 => fun h x3 =>
    lt (f_X10_laysCode_7 r0 r1 x2 n) fun k7 =>
    if x2 ≤ x3 then (
      some h
    ) else (
      gd (nz (hpR h r0 15)) <|
      gd (inb x3 (hpT h r1).2) <|
      gd (inb x3 (hpT h (hpR h r0 15)).2) <|
      lt (upI h (hpR h r0 15) (ix x3) (hpI h r1 (ix x3))) fun h7 =>
      lt (x3 + (1 : Int32)) fun v8 =>
      k7 h7 v8
    )
def f_X10_laysCode (h : Hp) (r0 : Nat) (r1 : Nat) (x2 : Int32) : Option Hp :=
  lt (upI h r0 17 x2) fun h1 =>
  f_X10_laysCode_7 r0 r1 x2 FU h1 (0 : Int32)

def f_X10_rule (h : Hp) (r0 : Nat) : Option (Int32 × Hp) :=
  lt (upI h r0 0 (0 : Int32)) fun h1 =>
  (f_X10_readsRule h1 r0).bind fun q2 =>
  if q2.1 = 0 then (
    gd (nz (hpR q2.2 r0 16)) <|
    (f_X10_laysCode q2.2 r0 (hpR q2.2 r0 16) (hpI q2.2 r0 18)).bind fun q6 =>
    some (q2.1, q6)
  ) else (
    some (q2.1, q2.2)
  )

def f_X10_worked_50 (h : Hp) (x0 : Int32) (x1 : Int32) (x2 : Int32) : Int32 → Option Int32 := fun s0 =>
  (f_X10_flag h s0).bind fun q9 =>
  some q9
def f_X10_worked_78 (h : Hp) (x0 : Int32) (x1 : Int32) (x2 : Int32) : Int32 → Option Int32 := fun s0 =>
  (f_X10_flag h s0).bind fun q7 =>
  some q7
def f_X10_worked_64 (h : Hp) (x0 : Int32) (x1 : Int32) (x2 : Int32) : Int32 → Option Int32 := fun s0 =>
  (f_X10_flag h s0).bind fun q8 =>
  some q8
def f_X10_worked (h : Hp) (x0 : Int32) (x1 : Int32) (x2 : Int32) : Option Int32 :=
  if x0 = (0 : Int32) then (
    f_X10_worked_50 h x0 x1 x2 (if x2 ≤ x1 then (0 : Int32) else (1 : Int32))
  ) else
  if x0 = (1 : Int32) then (
    f_X10_worked_64 h x0 x1 x2 (if x1 ≤ x2 then (0 : Int32) else (1 : Int32))
  ) else
  if x0 = (2 : Int32) then (
    f_X10_worked_78 h x0 x1 x2 (if x1 = x2 then (1 : Int32) else (0 : Int32))
  ) else
  if x0 = (3 : Int32) then (
    some (x1 + x2)
  ) else
  if x0 = (4 : Int32) then (
    some (x1 - x2)
  ) else
  if x0 = (5 : Int32) then (
    some (x1 * x2)
  ) else
  if x2 = 0 then (
    some (0 : Int32)
  ) else (
    gd (nz32 x2) <|
    some (x1 / x2)
  )

def f_X10_ruled_119 (r0 : Nat) (k4 : Hp → Int32 → Int32 → Option (Int32 × Hp)) : Hp → Int32 → Int32 → Option (Int32 × Hp) := fun h x1 x2 =>
  lt (x2 + (1 : Int32)) fun v38 =>
  k4 h x1 v38
def f_X10_ruled_115 (r0 : Nat) (k4 : Hp → Int32 → Int32 → Option (Int32 × Hp)) : Hp → Nat → Int32 → Int32 → Int32 → Int32 → Option (Int32 × Hp) := fun h s0 s1 s2 x1 x2 =>
  gd (inb s1 (hpT h s0).2) <|
  lt (upI h s0 (ix s1) s2) fun h40 =>
  lt (x1 + (1 : Int32)) fun v41 =>
  f_X10_ruled_119 r0 k4 h40 v41 x2
def f_X10_ruled_148 (r0 : Nat) : Hp → Int32 → Int32 → Option (Int32 × Hp) := fun h s0 s1 =>
  (f_X10_flag h s1).bind fun q42 =>
  some ((s0 + q42), h)
def f_X10_ruled_4 (r0 : Nat) (n : Nat) : Hp → Int32 → Int32 → Option (Int32 × Hp) := match n with
  | 0 => fun _ _ _ => none
  | n + 1 => fun h x1 x2 =>
    lt (f_X10_ruled_4 r0 n) fun k4 =>
    if (hpI h r0 17) ≤ x2 then (
      if (hpI h r0 17) = 0 then (
        gd (nz (hpR h r0 20)) <|
        gd (inb (2 : Int32) (hpT h (hpR h r0 20)).2) <|
        f_X10_ruled_148 r0 h (1 : Int32) (if (hpI h (hpR h r0 20) (ix (2 : Int32))) ≤ (1 : Int32) then (0 : Int32) else (1 : Int32))
      ) else (
        gd (nz (hpR h r0 19)) <|
        gd (inb (0 : Int32) (hpT h (hpR h r0 19)).2) <|
        some ((hpI h (hpR h r0 19) (ix (0 : Int32))), h)
      )
    ) else (
      gd (nz (hpR h r0 15)) <|
      gd (inb x2 (hpT h (hpR h r0 15)).2) <|
      lt (hpI h (hpR h r0 15) (ix x2)) fun v13 =>
      if v13 = (3000 : Int32) then (
        gd (nz (hpR h r0 19)) <|
        gd (inb (x1 - (1 : Int32)) (hpT h (hpR h r0 19)).2) <|
        gd (inb (x1 - (1 : Int32)) (hpT h (hpR h r0 19)).2) <|
        lt (upI h (hpR h r0 19) (ix (x1 - (1 : Int32))) (-(hpI h (hpR h r0 19) (ix (x1 - (1 : Int32)))))) fun h37 =>
        f_X10_ruled_119 r0 k4 h37 x1 x2
      ) else (
        if v13 < (2000 : Int32) then (
          gd (nz (hpR h r0 19)) <|
          if v13 < (1000 : Int32) then (
            f_X10_ruled_115 r0 k4 h (hpR h r0 19) x1 v13 x1 x2
          ) else (
            gd (nz (hpR h r0 20)) <|
            gd (inb (v13 - (1000 : Int32)) (hpT h (hpR h r0 20)).2) <|
            f_X10_ruled_115 r0 k4 h (hpR h r0 19) x1 (hpI h (hpR h r0 20) (ix (v13 - (1000 : Int32)))) x1 x2
          )
        ) else (
          lt (x1 + (-1 : Int32)) fun v22 =>
          gd (nz (hpR h r0 19)) <|
          gd (inb (v22 - (1 : Int32)) (hpT h (hpR h r0 19)).2) <|
          gd (inb v22 (hpT h (hpR h r0 19)).2) <|
          (f_X10_worked h (v13 - (2000 : Int32)) (hpI h (hpR h r0 19) (ix (v22 - (1 : Int32)))) (hpI h (hpR h r0 19) (ix v22))).bind fun q29 =>
          gd (inb (v22 - (1 : Int32)) (hpT h (hpR h r0 19)).2) <|
          lt (upI h (hpR h r0 19) (ix (v22 - (1 : Int32))) q29) fun h31 =>
          f_X10_ruled_119 r0 k4 h31 v22 x2
        )
      )
    )
def f_X10_ruled (h : Hp) (r0 : Nat) : Option (Int32 × Hp) :=
  f_X10_ruled_4 r0 FU h (0 : Int32) (0 : Int32)

def f_X10_loss_140 (r0 : Nat) (r1 : Nat) (x2 : Int32) : Hp → Int32 → Option (Int32 × Hp) := fun h s0 =>
  lt (mn32 (9 : Int32) s0) fun v52 =>
  lt (mx32 (0 : Int32) v52) fun v53 =>
  some (v53, h)
def f_X10_loss (h : Hp) (r0 : Nat) (r1 : Nat) (x2 : Int32) : Option (Int32 × Hp) :=
  gd (nz (hpR h r0 20)) <|
  gd (inb ((24 : Int32) + x2) (hpT h r1).2) <|
  gd (inb (0 : Int32) (hpT h (hpR h r0 20)).2) <|
  lt (upI h (hpR h r0 20) (ix (0 : Int32)) (hpI h r1 (ix ((24 : Int32) + x2)))) fun h5 =>
  gd (nz (hpR h5 r0 20)) <|
  gd (inb ((40 : Int32) + x2) (hpT h5 r1).2) <|
  gd (inb (1 : Int32) (hpT h5 (hpR h5 r0 20)).2) <|
  lt (upI h5 (hpR h5 r0 20) (ix (1 : Int32)) (hpI h5 r1 (ix ((40 : Int32) + x2)))) fun h10 =>
  gd (nz (hpR h10 r0 20)) <|
  (f_X10_crossing h10 r0 r1 x2).bind fun q13 =>
  (f_J6_bitCount_0f7a4 h10 q13).bind fun q14 =>
  gd (inb (2 : Int32) (hpT h10 (hpR h10 r0 20)).2) <|
  lt (upI h10 (hpR h10 r0 20) (ix (2 : Int32)) q14) fun h16 =>
  gd (nz (hpR h16 r0 20)) <|
  gd (inb ((8 : Int32) + x2) (hpT h16 r1).2) <|
  gd (inb (3 : Int32) (hpT h16 (hpR h16 r0 20)).2) <|
  lt (upI h16 (hpR h16 r0 20) (ix (3 : Int32)) (hpI h16 r1 (ix ((8 : Int32) + x2)))) fun h21 =>
  gd (nz (hpR h21 r0 20)) <|
  gd (inb ((16 : Int32) + x2) (hpT h21 r1).2) <|
  gd (inb (4 : Int32) (hpT h21 (hpR h21 r0 20)).2) <|
  lt (upI h21 (hpR h21 r0 20) (ix (4 : Int32)) (hpI h21 r1 (ix ((16 : Int32) + x2)))) fun h26 =>
  gd (nz (hpR h26 r0 20)) <|
  gd (inb x2 (hpT h26 r1).2) <|
  gd (nz32 (hpI h26 r0 4)) <|
  lt (rm32 (hpI h26 r1 (ix x2)) (hpI h26 r0 4)) fun v31 =>
  gd (inb (5 : Int32) (hpT h26 (hpR h26 r0 20)).2) <|
  lt (upI h26 (hpR h26 r0 20) (ix (5 : Int32)) v31) fun h33 =>
  gd (nz (hpR h33 r0 20)) <|
  gd (inb x2 (hpT h33 r1).2) <|
  gd (nz32 (hpI h33 r0 4)) <|
  gd (inb (6 : Int32) (hpT h33 (hpR h33 r0 20)).2) <|
  lt (upI h33 (hpR h33 r0 20) (ix (6 : Int32)) ((hpI h33 r1 (ix x2)) / (hpI h33 r0 4))) fun h39 =>
  gd (nz (hpR h39 r0 20)) <|
  gd (inb (49 : Int32) (hpT h39 r1).2) <|
  lt (rm32 (hpI h39 r1 (ix (49 : Int32))) (7 : Int32)) fun v43 =>
  gd (inb (7 : Int32) (hpT h39 (hpR h39 r0 20)).2) <|
  lt (upI h39 (hpR h39 r0 20) (ix (7 : Int32)) v43) fun h45 =>
  if (hpI h45 r0 21) < 0 then (
    (f_X10_ruled h45 r0).bind fun q47 =>
    f_X10_loss_140 r0 r1 x2 q47.2 q47.1
  ) else (
    lt (rm32 (hpI h45 r0 21) (4 : Int32)) fun v48 =>
    gd (nz (hpR h45 r0 20)) <|
    gd (inb (2 : Int32) (hpT h45 (hpR h45 r0 20)).2) <|
    f_X10_loss_140 r0 r1 x2 h45 (((hpI h45 r0 21) / (4 : Int32)) + (v48 * (hpI h45 (hpR h45 r0 20) (ix (2 : Int32)))))
  )

def f_X10_lossOn (h : Hp) (r0 : Nat) (x1 : Int32) : Option (Int32 × Hp) :=
  gd (nz (hpR h r0 6)) <|
  (f_X10_isOn h (hpR h r0 6) x1).bind fun q3 =>
  if q3 = 0 then (
    some ((0 : Int32), h)
  ) else (
    (f_X10_loss h r0 (hpR h r0 6) x1).bind fun q6 =>
    some (q6.1, q6.2)
  )

def f_X10_camp_25 (r0 : Nat) (x1 : Int32) (x2 : Int32) : Hp → Option (Int32 × Hp) := fun h =>
  (f_X10_refuse h r0).bind fun q15 =>
  some (q15.1, q15.2)
def f_X10_camp (h : Hp) (r0 : Nat) (x1 : Int32) (x2 : Int32) : Option (Int32 × Hp) :=
  lt (upI h r0 0 (0 : Int32)) fun h1 =>
  (f_X10_isCamp h1 r0 x1).bind fun q2 =>
  if q2 = 0 then (
    f_X10_camp_25 r0 x1 x2 h1
  ) else (
    (f_X10_in h1 (x2.toInt64) (0 : Int64) (7 : Int64)).bind fun q4 =>
    if q4 = 0 then (
      f_X10_camp_25 r0 x1 x2 h1
    ) else (
      if (6 : Int32) ≤ x2 then (
        if x2 = (6 : Int32) then (
          (f_X10_lossOn h1 r0 x1).bind fun q11 =>
          some (q11.1, q11.2)
        ) else (
          gd (nz (hpR h1 r0 6)) <|
          (f_X10_crossing h1 r0 (hpR h1 r0 6) x1).bind fun q10 =>
          some (q10, h1)
        )
      ) else (
        gd (nz (hpR h1 r0 6)) <|
        gd (inb (((8 : Int32) * x2) + x1) (hpT h1 (hpR h1 r0 6)).2) <|
        some ((hpI h1 (hpR h1 r0 6) (ix (((8 : Int32) * x2) + x1))), h1)
      )
    )
  )

def f_X10_strongest_43 (h : Hp) (r0 : Nat) (x1 : Int32) (k4 : Int32 → Int32 → Option Int32) : Int32 → Int32 → Option Int32 := fun s0 x3 =>
  lt (x3 + (1 : Int32)) fun v8 =>
  k4 s0 v8
def f_X10_strongest_42 (h : Hp) (r0 : Nat) (x1 : Int32) (k4 : Int32 → Int32 → Option Int32) : Int32 → Int32 → Option Int32 := fun x2 x3 =>
  f_X10_strongest_43 h r0 x1 k4 x2 x3
def f_X10_strongest_38 (h : Hp) (r0 : Nat) (x1 : Int32) (k4 : Int32 → Int32 → Option Int32) : Int32 → Option Int32 := fun x3 =>
  f_X10_strongest_43 h r0 x1 k4 x3 x3
def f_X10_strongest_4 (h : Hp) (r0 : Nat) (x1 : Int32) (n : Nat) : Int32 → Int32 → Option Int32 := match n with
  | 0 => fun _ _ => none
  | n + 1 => fun x2 x3 =>
    lt (f_X10_strongest_4 h r0 x1 n) fun k4 =>
    if (8 : Int32) ≤ x3 then (
      some x2
    ) else (
      (f_X10_has h (x1.toInt64) x3).bind fun q2 =>
      if q2 = 0 then (
        f_X10_strongest_42 h r0 x1 k4 x2 x3
      ) else (
        if x2 < 0 then (
          f_X10_strongest_38 h r0 x1 k4 x3
        ) else (
          gd (inb ((24 : Int32) + x3) (hpT h r0).2) <|
          gd (inb ((24 : Int32) + x2) (hpT h r0).2) <|
          if (hpI h r0 (ix ((24 : Int32) + x3))) ≤ (hpI h r0 (ix ((24 : Int32) + x2))) then (
            f_X10_strongest_42 h r0 x1 k4 x2 x3
          ) else (
            f_X10_strongest_38 h r0 x1 k4 x3
          )
        )
      )
    )
def f_X10_strongest (h : Hp) (r0 : Nat) (x1 : Int32) : Option Int32 :=
  f_X10_strongest_4 h r0 x1 FU (-1 : Int32) (0 : Int32)

def f_X10_cell_25 (r0 : Nat) (x1 : Int32) (x2 : Int32) : Hp → Option (Int32 × Hp) := fun h =>
  (f_X10_refuse h r0).bind fun q15 =>
  some (q15.1, q15.2)
def f_X10_cell (h : Hp) (r0 : Nat) (x1 : Int32) (x2 : Int32) : Option (Int32 × Hp) :=
  lt (upI h r0 0 (0 : Int32)) fun h1 =>
  (f_X10_isCell h1 r0 x1).bind fun q2 =>
  if q2 = 0 then (
    f_X10_cell_25 r0 x1 x2 h1
  ) else (
    (f_X10_in h1 (x2.toInt64) (0 : Int64) (2 : Int64)).bind fun q4 =>
    if q4 = 0 then (
      f_X10_cell_25 r0 x1 x2 h1
    ) else (
      gd (nz (hpR h1 r0 6)) <|
      (f_X10_campsOver h1 r0 (hpR h1 r0 6) x1).bind fun q8 =>
      if x2 = 0 then (
        some (q8, h1)
      ) else (
        if x2 = (1 : Int32) then (
          (f_X10_strengthOn h1 r0 (hpR h1 r0 6) x1).bind fun q14 =>
          some (q14, h1)
        ) else (
          (f_X10_strongest h1 (hpR h1 r0 6) q8).bind fun q12 =>
          some (q12, h1)
        )
      )
    )
  )

def f_X10_sheet_115 (r0 : Nat) (x1 : Int32) (x2 : Int32) (x3 : Int32) (x4 : Int32) (k43 : Hp → Int32 → Int32 → Option (Int32 × Hp)) : Hp → Nat → Int32 → Int32 → Int32 → Int32 → Option (Int32 × Hp) := fun h s0 s1 s2 x5 x6 =>
  gd (inb s1 (hpT h s0).2) <|
  lt (upI h s0 (ix s1) s2) fun h23 =>
  lt (x5 + x4) fun v24 =>
  lt (x6 + (1 : Int32)) fun v25 =>
  k43 h23 v24 v25
def f_X10_sheet_100 (r0 : Nat) (x1 : Int32) (x2 : Int32) (x3 : Int32) (x4 : Int32) (k43 : Hp → Int32 → Int32 → Option (Int32 × Hp)) : Hp → Nat → Int32 → Int32 → Int32 → Option (Int32 × Hp) := fun h s0 s1 x5 x6 =>
  f_X10_sheet_115 r0 x1 x2 x3 x4 k43 h s0 s1 (0 : Int32) x5 x6
def f_X10_sheet_78 (r0 : Nat) (x1 : Int32) (x2 : Int32) (x3 : Int32) (x4 : Int32) (k43 : Hp → Int32 → Int32 → Option (Int32 × Hp)) : Hp → Int32 → Int32 → Int32 → Option (Int32 × Hp) := fun h s0 x5 x6 =>
  gd (nz (hpR h r0 6)) <|
  if x1 = (3 : Int32) then (
    f_X10_sheet_100 r0 x1 x2 x3 x4 k43 h (hpR h r0 6) ((24 : Int32) + x6) x5 x6
  ) else (
    if x6 < x2 then (
      lt (mn32 (9 : Int32) s0) fun v20 =>
      lt (mx32 (0 : Int32) v20) fun v21 =>
      f_X10_sheet_115 r0 x1 x2 x3 x4 k43 h (hpR h r0 6) ((24 : Int32) + x6) v21 x5 x6
    ) else (
      f_X10_sheet_100 r0 x1 x2 x3 x4 k43 h (hpR h r0 6) ((24 : Int32) + x6) x5 x6
    )
  )
def f_X10_sheet_43 (r0 : Nat) (x1 : Int32) (x2 : Int32) (x3 : Int32) (x4 : Int32) (n : Nat) : Hp → Int32 → Int32 → Option (Int32 × Hp) := match n with
  | 0 => fun _ _ _ => none
  | n + 1 => fun h x5 x6 =>
    lt (f_X10_sheet_43 r0 x1 x2 x3 x4 n) fun k43 =>
    gd (nz (hpR h r0 6)) <|
    gd (inb (48 : Int32) (hpT h (hpR h r0 6)).2) <|
    if (hpI h (hpR h r0 6) (ix (48 : Int32))) ≤ x6 then (
      if x1 = (3 : Int32) then (
        some ((-3 : Int32), h)
      ) else (
        (f_X10_sumOf h (hpR h r0 6) (24 : Int32)).bind fun q13 =>
        some (q13, h)
      )
    ) else (
      f_X10_sheet_78 r0 x1 x2 x3 x4 k43 h (if x1 = 0 then (x5.toInt8.toInt32) else (if x1 = (1 : Int32) then (x5.toInt16.toInt32) else x5)) x5 x6
    )
def f_X10_sheet_37 (r0 : Nat) (x1 : Int32) (x2 : Int32) (x3 : Int32) (x4 : Int32) : Hp → Option (Int32 × Hp) := fun h =>
  f_X10_sheet_43 r0 x1 x2 x3 x4 FU h x3 (0 : Int32)
def f_X10_sheet (h : Hp) (r0 : Nat) (x1 : Int32) (x2 : Int32) (x3 : Int32) (x4 : Int32) : Option (Int32 × Hp) :=
  lt (upI h r0 0 (0 : Int32)) fun h1 =>
  (f_X10_in h1 (x1.toInt64) (0 : Int64) (3 : Int64)).bind fun q2 =>
  if q2 = 0 then (
    some ((-1 : Int32), h1)
  ) else (
    if x2 ≤ (8 : Int32) then (
      if x1 = (3 : Int32) then (
        f_X10_sheet_37 r0 x1 x2 x3 x4 h1
      ) else (
        if 0 ≤ x2 then (
          f_X10_sheet_37 r0 x1 x2 x3 x4 h1
        ) else (
          some ((-2 : Int32), h1)
        )
      )
    ) else (
      some ((-1 : Int32), h1)
    )
  )

def f_X10_putsBy_2 (r0 : Nat) (n : Nat) : Hp → Int32 → Option Hp := match n with
  | 0 => fun _ _ => none
  | n + 1 => fun h x1 =>
    lt (f_X10_putsBy_2 r0 n) fun k2 =>
    if (51 : Int32) ≤ x1 then (
      some h
    ) else (
      gd (nz (hpR h r0 23)) <|
      gd (nz (hpR h r0 6)) <|
      gd (inb x1 (hpT h (hpR h r0 6)).2) <|
      gd (inb (((51 : Int32) * (hpI h r0 22)) + x1) (hpT h (hpR h r0 23)).2) <|
      lt (upI h (hpR h r0 23) (ix (((51 : Int32) * (hpI h r0 22)) + x1)) (hpI h (hpR h r0 6) (ix x1))) fun h8 =>
      lt (x1 + (1 : Int32)) fun v9 =>
      k2 h8 v9
    )
def f_X10_putsBy (h : Hp) (r0 : Nat) : Option Hp :=
  f_X10_putsBy_2 r0 FU h (0 : Int32)

def f_X10_adds_21 (r0 : Nat) (x1 : Int32) (n : Nat) : Hp → Int32 → Option (Int32 × Hp) := match n with
  | 0 => fun _ _ => none
  | n + 1 => fun h x2 =>
    lt (f_X10_adds_21 r0 x1 n) fun k21 =>
    if (765 : Int32) ≤ x2 then (
      lt (upI h r0 22 ((hpI h r0 22) - (1 : Int32))) fun h4 =>
      some (x1, h4)
    ) else (
      gd (nz (hpR h r0 23)) <|
      gd (inb (x2 + (51 : Int32)) (hpT h (hpR h r0 23)).2) <|
      gd (inb x2 (hpT h (hpR h r0 23)).2) <|
      lt (upI h (hpR h r0 23) (ix x2) (hpI h (hpR h r0 23) (ix (x2 + (51 : Int32))))) fun h10 =>
      lt (x2 + (1 : Int32)) fun v11 =>
      k21 h10 v11
    )
def f_X10_adds (h : Hp) (r0 : Nat) (x1 : Int32) : Option (Int32 × Hp) :=
  lt (upI h r0 22 ((hpI h r0 22) + (1 : Int32))) fun h1 =>
  if (hpI h1 r0 22) ≤ (15 : Int32) then (
    some (x1, h1)
  ) else (
    f_X10_adds_21 r0 x1 FU h1 (0 : Int32)
  )

def f_X10_counted (h : Hp) (r0 : Nat) (x1 : Int32) : Option (Int32 × Hp) :=
  if 0 ≤ x1 then (
    (f_X10_adds h r0 x1).bind fun q2 =>
    some (q2.1, q2.2)
  ) else (
    some (x1, h)
  )

def f_X10_undo_26 (r0 : Nat) (n : Nat) : Hp → Int32 → Option (Int32 × Hp) := match n with
  | 0 => fun _ _ => none
  | n + 1 => fun h x1 =>
    lt (f_X10_undo_26 r0 n) fun k26 =>
    if (51 : Int32) ≤ x1 then (
      some ((hpI h r0 22), h)
    ) else (
      gd (nz (hpR h r0 6)) <|
      gd (nz (hpR h r0 23)) <|
      gd (inb (((51 : Int32) * (hpI h r0 22)) + x1) (hpT h (hpR h r0 23)).2) <|
      gd (inb x1 (hpT h (hpR h r0 6)).2) <|
      lt (upI h (hpR h r0 6) (ix x1) (hpI h (hpR h r0 23) (ix (((51 : Int32) * (hpI h r0 22)) + x1)))) fun h11 =>
      lt (x1 + (1 : Int32)) fun v12 =>
      k26 h11 v12
    )
def f_X10_undo (h : Hp) (r0 : Nat) : Option (Int32 × Hp) :=
  lt (upI h r0 0 (0 : Int32)) fun h1 =>
  if (hpI h1 r0 22) = 0 then (
    some ((-1 : Int32), h1)
  ) else (
    lt (upI h1 r0 22 ((hpI h1 r0 22) - (1 : Int32))) fun h3 =>
    f_X10_undo_26 r0 FU h3 (0 : Int32)
  )

def f_X10_yearGoes_39 (r0 : Nat) (r1 : Nat) (k7 : Hp → Int32 → Int32 → Option Hp) : Hp → Nat → Int32 → Int32 → Int32 → Int32 → Option Hp := fun h s0 s1 s2 x2 x3 =>
  gd (inb s1 (hpT h s0).2) <|
  lt (upI h s0 (ix s1) s2) fun h10 =>
  lt (x3 + (1 : Int32)) fun v11 =>
  k7 h10 x2 v11
def f_X10_yearGoes_247 (r0 : Nat) (r1 : Nat) (k48 : Hp → Int32 → Int32 → Option Hp) : Hp → Int32 → Int32 → Option Hp := fun h x2 x3 =>
  lt (x3 + (1 : Int32)) fun v61 =>
  k48 h x2 v61
def f_X10_yearGoes_246 (r0 : Nat) (r1 : Nat) (k48 : Hp → Int32 → Int32 → Option Hp) : Hp → Nat → Int32 → Int32 → Int32 → Int32 → Option Hp := fun h s0 s1 s2 x2 x3 =>
  gd (inb s1 (hpT h s0).2) <|
  lt (upI h s0 (ix s1) s2) fun h60 =>
  f_X10_yearGoes_247 r0 r1 k48 h60 x2 x3
def f_X10_yearGoes_217 (r0 : Nat) (r1 : Nat) (k48 : Hp → Int32 → Int32 → Option Hp) : Hp → Int32 → Int32 → Int32 → Option Hp := fun h s0 x2 x3 =>
  if s0 = 0 then (
    gd (inb x3 (hpT h r1).2) <|
    gd (inb x3 (hpT h r1).2) <|
    gd (nz32 (hpI h r0 4)) <|
    lt (rm32 (hpI h r1 (ix x3)) (hpI h r0 4)) fun v57 =>
    f_X10_yearGoes_246 r0 r1 k48 h r1 x3 ((hpI h r1 (ix x3)) - v57) x2 x3
  ) else (
    gd (inb x3 (hpT h r1).2) <|
    f_X10_yearGoes_246 r0 r1 k48 h r1 x3 ((hpI h r1 (ix x3)) + (1 : Int32)) x2 x3
  )
def f_X10_yearGoes_138 (r0 : Nat) (r1 : Nat) (k48 : Hp → Int32 → Int32 → Option Hp) : Hp → Nat → Int32 → Int32 → Int32 → Int32 → Int32 → Int32 → Option Hp := fun h s0 s1 s2 s3 s4 x2 x3 =>
  (f_X10_flag h s4).bind fun q33 =>
  lt (mn32 s2 (s3 + q33)) fun v34 =>
  gd (inb s1 (hpT h s0).2) <|
  lt (upI h s0 (ix s1) v34) fun h36 =>
  gd (inb ((40 : Int32) + x3) (hpT h36 r1).2) <|
  lt (mn32 (99 : Int32) ((hpI h36 r1 (ix ((40 : Int32) + x3))) + (1 : Int32))) fun v38 =>
  gd (inb ((40 : Int32) + x3) (hpT h36 r1).2) <|
  lt (upI h36 r1 (ix ((40 : Int32) + x3)) v38) fun h40 =>
  gd (inb ((32 : Int32) + x3) (hpT h40 r1).2) <|
  if (hpI h40 r1 (ix ((32 : Int32) + x3))) ≤ 0 then (
    f_X10_yearGoes_247 r0 r1 k48 h40 x2 x3
  ) else (
    gd (inb ((40 : Int32) + x3) (hpT h40 r1).2) <|
    gd (inb ((32 : Int32) + x3) (hpT h40 r1).2) <|
    gd (nz32 (hpI h40 r1 (ix ((32 : Int32) + x3)))) <|
    lt (rm32 (hpI h40 r1 (ix ((40 : Int32) + x3))) (hpI h40 r1 (ix ((32 : Int32) + x3)))) fun v46 =>
    if v46 = 0 then (
      gd (inb x3 (hpT h40 r1).2) <|
      gd (nz32 (hpI h40 r0 4)) <|
      lt (rm32 (hpI h40 r1 (ix x3)) (hpI h40 r0 4)) fun v50 =>
      gd (inb ((16 : Int32) + x3) (hpT h40 r1).2) <|
      f_X10_yearGoes_217 r0 r1 k48 h40 (if (hpI h40 r0 4) ≤ (v50 + (hpI h40 r1 (ix ((16 : Int32) + x3)))) then (0 : Int32) else (1 : Int32)) x2 x3
    ) else (
      f_X10_yearGoes_247 r0 r1 k48 h40 x2 x3
    )
  )
def f_X10_yearGoes_107 (r0 : Nat) (r1 : Nat) (k48 : Hp → Int32 → Int32 → Option Hp) : Hp → Nat → Int32 → Int32 → Int32 → Int32 → Option Hp := fun h s0 s1 s2 x2 x3 =>
  (f_X10_flag h s2).bind fun q28 =>
  lt (upI h s0 25 (s1 + q28)) fun h29 =>
  gd (inb (50 : Int32) (hpT h29 r1).2) <|
  gd (inb ((24 : Int32) + x3) (hpT h29 r1).2) <|
  f_X10_yearGoes_138 r0 r1 k48 h29 r1 (50 : Int32) (999 : Int32) (hpI h29 r1 (ix (50 : Int32))) (if (hpI h29 r1 (ix ((24 : Int32) + x3))) = 0 then (1 : Int32) else (0 : Int32)) x2 x3
def f_X10_yearGoes_48 (r0 : Nat) (r1 : Nat) (n : Nat) : Hp → Int32 → Int32 → Option Hp := match n with
  | 0 => fun _ _ _ => none
  | n + 1 => fun h x2 x3 =>
    lt (f_X10_yearGoes_48 r0 r1 n) fun k48 =>
    gd (inb (48 : Int32) (hpT h r1).2) <|
    if (hpI h r1 (ix (48 : Int32))) ≤ x3 then (
      gd (inb (49 : Int32) (hpT h r1).2) <|
      gd (inb (49 : Int32) (hpT h r1).2) <|
      lt (upI h r1 (ix (49 : Int32)) ((hpI h r1 (ix (49 : Int32))) + (1 : Int32))) fun h16 =>
      some h16
    ) else (
      (f_X10_has h (x2.toInt64) x3).bind fun q17 =>
      if q17 = 0 then (
        f_X10_yearGoes_247 r0 r1 k48 h x2 x3
      ) else (
        gd (inb ((24 : Int32) + x3) (hpT h r1).2) <|
        gd (nz (hpR h r0 24)) <|
        gd (inb x3 (hpT h (hpR h r0 24)).2) <|
        lt (mx32 (0 : Int32) ((hpI h r1 (ix ((24 : Int32) + x3))) - (hpI h (hpR h r0 24) (ix x3)))) fun v23 =>
        gd (inb ((24 : Int32) + x3) (hpT h r1).2) <|
        lt (upI h r1 (ix ((24 : Int32) + x3)) v23) fun h25 =>
        gd (inb ((24 : Int32) + x3) (hpT h25 r1).2) <|
        f_X10_yearGoes_107 r0 r1 k48 h25 r0 (hpI h25 r0 25) (if (hpI h25 r1 (ix ((24 : Int32) + x3))) = 0 then (1 : Int32) else (0 : Int32)) x2 x3
      )
    )
def f_X10_yearGoes_7 (r0 : Nat) (r1 : Nat) (n : Nat) : Hp → Int32 → Int32 → Option Hp := match n with
  | 0 => fun _ _ _ => none
  | n + 1 => fun h x2 x3 =>
    lt (f_X10_yearGoes_7 r0 r1 n) fun k7 =>
    gd (inb (48 : Int32) (hpT h r1).2) <|
    if (hpI h r1 (ix (48 : Int32))) ≤ x3 then (
      f_X10_yearGoes_48 r0 r1 FU h x2 (0 : Int32)
    ) else (
      gd (nz (hpR h r0 24)) <|
      (f_X10_has h (x2.toInt64) x3).bind fun q6 =>
      if q6 = 0 then (
        f_X10_yearGoes_39 r0 r1 k7 h (hpR h r0 24) x3 (0 : Int32) x2 x3
      ) else (
        (f_X10_loss h r0 r1 x3).bind fun q8 =>
        f_X10_yearGoes_39 r0 r1 k7 q8.2 (hpR h r0 24) x3 q8.1 x2 x3
      )
    )
def f_X10_yearGoes (h : Hp) (r0 : Nat) (r1 : Nat) : Option Hp :=
  (f_X10_on h r1).bind fun q1 =>
  f_X10_yearGoes_7 r0 r1 FU h q1 (0 : Int32)

def f_X10_goesOn_7 (r0 : Nat) (r1 : Nat) (x2 : Int32) (n : Nat) : Hp → Int32 → Option Hp := match n with
  | 0 => fun _ _ => none
  | n + 1 => fun h x3 =>
    lt (f_X10_goesOn_7 r0 r1 x2 n) fun k7 =>
    if x2 ≤ x3 then (
      some h
    ) else (
      (f_X10_yearGoes h r0 r1).bind fun q3 =>
      lt (x3 + (1 : Int32)) fun v4 =>
      k7 q3 v4
    )
def f_X10_goesOn (h : Hp) (r0 : Nat) (r1 : Nat) (x2 : Int32) : Option Hp :=
  lt (upI h r0 25 (0 : Int32)) fun h1 =>
  f_X10_goesOn_7 r0 r1 x2 FU h1 (0 : Int32)

def f_X10_pitches (h : Hp) (r0 : Nat) (r1 : Nat) (x2 : Int32) (x3 : Int32) (x4 : Int32) (x5 : Int32) (x6 : Int32) : Option (Int32 × Hp) :=
  (f_X10_isCell h r0 x2).bind fun q1 =>
  if q1 = 0 then (
    some ((-1 : Int32), h)
  ) else (
    (f_X10_in h (x3.toInt64) (1 : Int64) (3 : Int64)).bind fun q3 =>
    if q3 = 0 then (
      some ((-1 : Int32), h)
    ) else (
      (f_X10_in h (x4.toInt64) (1 : Int64) (3 : Int64)).bind fun q5 =>
      if q5 = 0 then (
        some ((-1 : Int32), h)
      ) else (
        (f_X10_in h (x5.toInt64) (1 : Int64) (9 : Int64)).bind fun q7 =>
        if q7 = 0 then (
          some ((-1 : Int32), h)
        ) else (
          (f_X10_in h (x6.toInt64) (0 : Int64) (9 : Int64)).bind fun q9 =>
          if q9 = 0 then (
            some ((-1 : Int32), h)
          ) else (
            (f_X10_isIn h r0 x2 x3 x4).bind fun q11 =>
            if q11 = 0 then (
              some ((-2 : Int32), h)
            ) else (
              gd (inb (48 : Int32) (hpT h r1).2) <|
              if (hpI h r1 (ix (48 : Int32))) = (8 : Int32) then (
                some ((-3 : Int32), h)
              ) else (
                (f_X10_area h r0 x2 x3 x4).bind fun q15 =>
                (f_X10_sleptBy h r0 r1 (255 : Int32)).bind fun q16 =>
                if (lg_cmp (q15 &&& q16) (0 : Int64)) = 0 then (
                  (f_X10_comes h r1 x2 x3 x4 x5 x6).bind fun q18 =>
                  gd (inb (48 : Int32) (hpT q18 r1).2) <|
                  some (((hpI q18 r1 (ix (48 : Int32))) - (1 : Int32)), q18)
                ) else (
                  some ((-4 : Int32), h)
                )
              )
            )
          )
        )
      )
    )
  )

def f_X10_treadsOn (h : Hp) (r0 : Nat) (x1 : Int32) (x2 : Int32) : Option (Int32 × Hp) :=
  (f_X10_isCamp h r0 x1).bind fun q1 =>
  if q1 = 0 then (
    some ((-1 : Int32), h)
  ) else (
    (f_X10_in h (x2.toInt64) (1 : Int64) (9 : Int64)).bind fun q3 =>
    if q3 = 0 then (
      some ((-1 : Int32), h)
    ) else (
      gd (nz (hpR h r0 6)) <|
      (f_X10_isOn h (hpR h r0 6) x1).bind fun q7 =>
      if q7 = 0 then (
        some ((-2 : Int32), h)
      ) else (
        gd (inb ((24 : Int32) + x1) (hpT h (hpR h r0 6)).2) <|
        lt (mx32 (0 : Int32) ((hpI h (hpR h r0 6) (ix ((24 : Int32) + x1))) - x2)) fun v12 =>
        gd (inb ((24 : Int32) + x1) (hpT h (hpR h r0 6)).2) <|
        lt (upI h (hpR h r0 6) (ix ((24 : Int32) + x1)) v12) fun h14 =>
        gd (nz (hpR h14 r0 6)) <|
        gd (inb ((24 : Int32) + x1) (hpT h14 (hpR h14 r0 6)).2) <|
        some ((hpI h14 (hpR h14 r0 6) (ix ((24 : Int32) + x1))), h14)
      )
    )
  )

def f_X10_singsTo (h : Hp) (r0 : Nat) (x1 : Int32) (x2 : Int32) : Option (Int32 × Hp) :=
  (f_X10_isCamp h r0 x1).bind fun q1 =>
  if q1 = 0 then (
    some ((-1 : Int32), h)
  ) else (
    (f_X10_in h (x2.toInt64) (1 : Int64) (9 : Int64)).bind fun q3 =>
    if q3 = 0 then (
      some ((-1 : Int32), h)
    ) else (
      gd (nz (hpR h r0 6)) <|
      gd (inb ((24 : Int32) + x1) (hpT h (hpR h r0 6)).2) <|
      lt (mn32 (9 : Int32) ((hpI h (hpR h r0 6) (ix ((24 : Int32) + x1))) + x2)) fun v9 =>
      gd (inb ((24 : Int32) + x1) (hpT h (hpR h r0 6)).2) <|
      lt (upI h (hpR h r0 6) (ix ((24 : Int32) + x1)) v9) fun h11 =>
      gd (nz (hpR h11 r0 6)) <|
      gd (inb ((24 : Int32) + x1) (hpT h11 (hpR h11 r0 6)).2) <|
      some ((hpI h11 (hpR h11 r0 6) (ix ((24 : Int32) + x1))), h11)
    )
  )

def f_X10_movesOne_86 (r0 : Nat) (r1 : Nat) (x2 : Int32) (x3 : Int32) : Hp → Int32 → Int32 → Int32 → Option (Int32 × Hp) := fun h s0 s1 x4 =>
  lt (s0 + s1) fun v16 =>
  gd (inb ((8 : Int32) + x2) (hpT h r1).2) <|
  (f_X10_in h (x4.toInt64) (0 : Int64) (((hpI h r0 3) - (hpI h r1 (ix ((8 : Int32) + x2)))).toInt64)).bind fun q18 =>
  if q18 = 0 then (
    some ((-2 : Int32), h)
  ) else (
    gd (inb ((16 : Int32) + x2) (hpT h r1).2) <|
    (f_X10_in h (v16.toInt64) (0 : Int64) (((hpI h r0 4) - (hpI h r1 (ix ((16 : Int32) + x2)))).toInt64)).bind fun q21 =>
    if q21 = 0 then (
      some ((-2 : Int32), h)
    ) else (
      gd (inb x2 (hpT h r1).2) <|
      lt (upI h r1 (ix x2) (((hpI h r0 4) * x4) + v16)) fun h24 =>
      gd (inb x2 (hpT h24 r1).2) <|
      some ((hpI h24 r1 (ix x2)), h24)
    )
  )
def f_X10_movesOne_56 (r0 : Nat) (r1 : Nat) (x2 : Int32) (x3 : Int32) : Hp → Int32 → Int32 → Option (Int32 × Hp) := fun h s0 s1 =>
  lt (s0 + s1) fun v10 =>
  gd (inb x2 (hpT h r1).2) <|
  gd (nz32 (hpI h r0 4)) <|
  lt (rm32 (hpI h r1 (ix x2)) (hpI h r0 4)) fun v13 =>
  f_X10_movesOne_86 r0 r1 x2 x3 h v13 (if x3 = (1 : Int32) then (1 : Int32) else (if x3 = (3 : Int32) then (-1 : Int32) else (0 : Int32))) v10
def f_X10_movesOne (h : Hp) (r0 : Nat) (r1 : Nat) (x2 : Int32) (x3 : Int32) : Option (Int32 × Hp) :=
  gd (inb (48 : Int32) (hpT h r1).2) <|
  (f_X10_in h (x2.toInt64) (0 : Int64) (((hpI h r1 (ix (48 : Int32))) - (1 : Int32)).toInt64)).bind fun q2 =>
  if q2 = 0 then (
    some ((-1 : Int32), h)
  ) else (
    (f_X10_in h (x3.toInt64) (0 : Int64) (3 : Int64)).bind fun q4 =>
    if q4 = 0 then (
      some ((-1 : Int32), h)
    ) else (
      gd (inb x2 (hpT h r1).2) <|
      gd (nz32 (hpI h r0 4)) <|
      f_X10_movesOne_56 r0 r1 x2 x3 h ((hpI h r1 (ix x2)) / (hpI h r0 4)) (if x3 = (2 : Int32) then (1 : Int32) else (if x3 = 0 then (-1 : Int32) else (0 : Int32)))
    )
  )

def f_X10_years (h : Hp) (r0 : Nat) (x1 : Int32) : Option (Int32 × Hp) :=
  lt (upI h r0 0 (0 : Int32)) fun h1 =>
  (f_X10_in h1 (x1.toInt64) (0 : Int64) (60 : Int64)).bind fun q2 =>
  if q2 = 0 then (
    some ((-1 : Int32), h1)
  ) else (
    (f_X10_putsBy h1 r0).bind fun q4 =>
    gd (nz (hpR q4 r0 6)) <|
    (f_X10_goesOn q4 r0 (hpR q4 r0 6) x1).bind fun q7 =>
    lt (upI q7 r0 1 (0 : Int32)) fun h8 =>
    (f_X10_enters h8 r0 ((hpI h8 r0 25).toInt64)).bind fun q9 =>
    gd (nz (hpR q9 r0 6)) <|
    (f_X10_sumOf q9 (hpR q9 r0 6) (24 : Int32)).bind fun q12 =>
    (f_X10_enters q9 r0 (q12.toInt64)).bind fun q13 =>
    gd (nz (hpR q13 r0 6)) <|
    (f_X10_on q13 (hpR q13 r0 6)).bind fun q16 =>
    (f_J6_bitCount_0f7a4 q13 q16).bind fun q17 =>
    (f_X10_adds q13 r0 q17).bind fun q18 =>
    some (q18.1, q18.2)
  )

def f_X10_pitch (h : Hp) (r0 : Nat) (x1 : Int32) (x2 : Int32) (x3 : Int32) (x4 : Int32) (x5 : Int32) : Option (Int32 × Hp) :=
  lt (upI h r0 0 (0 : Int32)) fun h1 =>
  (f_X10_putsBy h1 r0).bind fun q2 =>
  gd (nz (hpR q2 r0 6)) <|
  (f_X10_pitches q2 r0 (hpR q2 r0 6) x1 x2 x3 x4 x5).bind fun q5 =>
  (f_X10_counted q5.2 r0 q5.1).bind fun q6 =>
  some (q6.1, q6.2)

def f_X10_treads (h : Hp) (r0 : Nat) (x1 : Int32) (x2 : Int32) : Option (Int32 × Hp) :=
  lt (upI h r0 0 (0 : Int32)) fun h1 =>
  (f_X10_putsBy h1 r0).bind fun q2 =>
  (f_X10_treadsOn q2 r0 x1 x2).bind fun q3 =>
  (f_X10_counted q3.2 r0 q3.1).bind fun q4 =>
  some (q4.1, q4.2)

def f_X10_sings (h : Hp) (r0 : Nat) (x1 : Int32) (x2 : Int32) : Option (Int32 × Hp) :=
  lt (upI h r0 0 (0 : Int32)) fun h1 =>
  (f_X10_putsBy h1 r0).bind fun q2 =>
  (f_X10_singsTo q2 r0 x1 x2).bind fun q3 =>
  (f_X10_counted q3.2 r0 q3.1).bind fun q4 =>
  some (q4.1, q4.2)

def f_X10_moves (h : Hp) (r0 : Nat) (x1 : Int32) (x2 : Int32) : Option (Int32 × Hp) :=
  lt (upI h r0 0 (0 : Int32)) fun h1 =>
  (f_X10_putsBy h1 r0).bind fun q2 =>
  gd (nz (hpR q2 r0 6)) <|
  (f_X10_movesOne q2 r0 (hpR q2 r0 6) x1 x2).bind fun q5 =>
  (f_X10_counted q5.2 r0 q5.1).bind fun q6 =>
  some (q6.1, q6.2)

def f_X10_readsAct_155 (r0 : Nat) (k74 : Hp → Int32 → Int32 → Int32 → Int32 → Option (Int32 × Hp)) : Hp → Int32 → Int32 → Int32 → Int32 → Option (Int32 × Hp) := fun h s0 x1 x2 x4 =>
  lt (x4 + (1 : Int32)) fun v36 =>
  k74 h x1 x2 s0 v36
def f_X10_readsAct_126 (r0 : Nat) (k74 : Hp → Int32 → Int32 → Int32 → Int32 → Option (Int32 × Hp)) : Hp → Nat → Int32 → Nat → Int32 → Int32 → Int32 → Int32 → Option (Int32 × Hp) := fun h s0 s1 s2 s3 x1 x2 x4 =>
  (f_X10_flag h s3).bind fun q28 =>
  (f_X10_digitIn h s2 q28 (9 : Int32)).bind fun q29 =>
  gd (inb s1 (hpT q29.2 s0).2) <|
  lt (upI q29.2 s0 (ix s1) q29.1) fun h31 =>
  gd (nz (hpR h31 r0 27)) <|
  gd (inb (((6 : Int32) * x1) + x4) (hpT h31 (hpR h31 r0 27)).2) <|
  f_X10_readsAct_155 r0 k74 h31 (if (hpI h31 (hpR h31 r0 27) (ix (((6 : Int32) * x1) + x4))) < 0 then (0 : Int32) else (1 : Int32)) x1 x2 x4
def f_X10_readsAct_125 (r0 : Nat) (k74 : Hp → Int32 → Int32 → Int32 → Int32 → Option (Int32 × Hp)) : Hp → Nat → Int32 → Nat → Int32 → Int32 → Int32 → Option (Int32 × Hp) := fun h s0 s1 s2 x1 x2 x4 =>
  f_X10_readsAct_126 r0 k74 h s0 s1 s2 (0 : Int32) x1 x2 x4
def f_X10_readsAct_74 (r0 : Nat) (n : Nat) : Hp → Int32 → Int32 → Int32 → Int32 → Option (Int32 × Hp) := match n with
  | 0 => fun _ _ _ _ _ => none
  | n + 1 => fun h x1 x2 x3 x4 =>
    lt (f_X10_readsAct_74 r0 n) fun k74 =>
    if x2 ≤ x4 then (
      some (x3, h)
    ) else (
      if x3 = 0 then (
        some (x3, h)
      ) else (
        gd (nz (hpR h r0 27)) <|
        if x4 = (1 : Int32) then (
          gd (nz (hpR h r0 26)) <|
          gd (inb x1 (hpT h (hpR h r0 26)).2) <|
          (f_X10_in h ((hpI h (hpR h r0 26) (ix x1)).toInt64) (2 : Int64) (3 : Int64)).bind fun q26 =>
          if q26 = 0 then (
            f_X10_readsAct_125 r0 k74 h (hpR h r0 27) (((6 : Int32) * x1) + x4) r0 x1 x2 x4
          ) else (
            f_X10_readsAct_126 r0 k74 h (hpR h r0 27) (((6 : Int32) * x1) + x4) r0 (1 : Int32) x1 x2 x4
          )
        ) else (
          f_X10_readsAct_125 r0 k74 h (hpR h r0 27) (((6 : Int32) * x1) + x4) r0 x1 x2 x4
        )
      )
    )
def f_X10_readsAct_68 (r0 : Nat) : Hp → Int32 → Int32 → Option (Int32 × Hp) := fun h s0 x1 =>
  f_X10_readsAct_74 r0 FU h x1 s0 (1 : Int32) (0 : Int32)
def f_X10_readsAct (h : Hp) (r0 : Nat) : Option (Int32 × Hp) :=
  lt (hpI h r0 28) fun v1 =>
  gd (nz (hpR h r0 26)) <|
  (f_X10_takesOf h r0 4).bind fun q4 =>
  gd (inb v1 (hpT q4.2 (hpR h r0 26)).2) <|
  lt (upI q4.2 (hpR h r0 26) (ix v1) q4.1) fun h6 =>
  lt (upI h6 r0 28 ((hpI h6 r0 28) + (1 : Int32))) fun h7 =>
  gd (nz (hpR h7 r0 26)) <|
  gd (inb v1 (hpT h7 (hpR h7 r0 26)).2) <|
  if 0 ≤ (hpI h7 (hpR h7 r0 26) (ix v1)) then (
    gd (inb v1 (hpT h7 (hpR h7 r0 26)).2) <|
    if (hpI h7 (hpR h7 r0 26) (ix v1)) = 0 then (
      f_X10_readsAct_68 r0 h7 (1 : Int32) v1
    ) else (
      gd (inb v1 (hpT h7 (hpR h7 r0 26)).2) <|
      f_X10_readsAct_68 r0 h7 (if (4 : Int32) ≤ (hpI h7 (hpR h7 r0 26) (ix v1)) then (6 : Int32) else (2 : Int32)) v1
    )
  ) else (
    some ((0 : Int32), h7)
  )

def f_X10_does_171 (r0 : Nat) (x1 : Int32) : Hp → Int32 → Int32 → Int32 → Option (Int32 × Hp) := fun h s0 x2 x3 =>
  if s0 = 0 then (
    some ((0 : Int32), h)
  ) else (
    gd (nz (hpR h r0 6)) <|
    gd (nz (hpR h r0 27)) <|
    gd (inb (x2 + (1 : Int32)) (hpT h (hpR h r0 27)).2) <|
    gd (inb (x2 + (2 : Int32)) (hpT h (hpR h r0 27)).2) <|
    gd (inb (x2 + (3 : Int32)) (hpT h (hpR h r0 27)).2) <|
    gd (inb (x2 + (4 : Int32)) (hpT h (hpR h r0 27)).2) <|
    gd (inb (x2 + (5 : Int32)) (hpT h (hpR h r0 27)).2) <|
    (f_X10_pitches h r0 (hpR h r0 6) (((hpI h r0 4) * x3) + (hpI h (hpR h r0 27) (ix (x2 + (1 : Int32))))) (hpI h (hpR h r0 27) (ix (x2 + (2 : Int32)))) (hpI h (hpR h r0 27) (ix (x2 + (3 : Int32)))) (hpI h (hpR h r0 27) (ix (x2 + (4 : Int32)))) (hpI h (hpR h r0 27) (ix (x2 + (5 : Int32))))).bind fun q43 =>
    if q43.1 < 0 then (
      some ((0 : Int32), q43.2)
    ) else (
      some ((1 : Int32), q43.2)
    )
  )
def f_X10_does_170 (r0 : Nat) (x1 : Int32) : Hp → Int32 → Int32 → Option (Int32 × Hp) := fun h x2 x3 =>
  f_X10_does_171 r0 x1 h (0 : Int32) x2 x3
def f_X10_does_51 (r0 : Nat) (x1 : Int32) (n : Nat) : Hp → Int32 → Int32 → Option (Int32 × Hp) := match n with
  | 0 => fun _ _ _ => none
  | n + 1 => fun h x3 x4 =>
    lt (f_X10_does_51 r0 x1 n) fun k51 =>
    if x3 ≤ x4 then (
      some ((1 : Int32), h)
    ) else (
      gd (nz (hpR h r0 6)) <|
      (f_X10_yearGoes h r0 (hpR h r0 6)).bind fun q48 =>
      lt (x4 + (1 : Int32)) fun v49 =>
      k51 q48 x3 v49
    )
def f_X10_does (h : Hp) (r0 : Nat) (x1 : Int32) : Option (Int32 × Hp) :=
  lt ((6 : Int32) * x1) fun v1 =>
  gd (nz (hpR h r0 27)) <|
  gd (inb v1 (hpT h (hpR h r0 27)).2) <|
  lt (hpI h (hpR h r0 27) (ix v1)) fun v5 =>
  gd (nz (hpR h r0 26)) <|
  gd (inb x1 (hpT h (hpR h r0 26)).2) <|
  lt (hpI h (hpR h r0 26) (ix x1)) fun v9 =>
  if v9 = (0 : Int32) then (
    f_X10_does_51 r0 x1 FU h v5 (0 : Int32)
  ) else
  if v9 = (1 : Int32) then (
    gd (nz (hpR h r0 6)) <|
    gd (inb (v1 + (1 : Int32)) (hpT h (hpR h r0 27)).2) <|
    (f_X10_movesOne h r0 (hpR h r0 6) v5 (hpI h (hpR h r0 27) (ix (v1 + (1 : Int32))))).bind fun q14 =>
    if q14.1 < 0 then (
      some ((0 : Int32), q14.2)
    ) else (
      some ((1 : Int32), q14.2)
    )
  ) else
  if v9 = (2 : Int32) then (
    gd (inb (v1 + (1 : Int32)) (hpT h (hpR h r0 27)).2) <|
    (f_X10_treadsOn h r0 v5 (hpI h (hpR h r0 27) (ix (v1 + (1 : Int32))))).bind fun q18 =>
    if q18.1 < 0 then (
      some ((0 : Int32), q18.2)
    ) else (
      some ((1 : Int32), q18.2)
    )
  ) else
  if v9 = (3 : Int32) then (
    gd (inb (v1 + (1 : Int32)) (hpT h (hpR h r0 27)).2) <|
    (f_X10_singsTo h r0 v5 (hpI h (hpR h r0 27) (ix (v1 + (1 : Int32))))).bind fun q22 =>
    if q22.1 < 0 then (
      some ((0 : Int32), q22.2)
    ) else (
      some ((1 : Int32), q22.2)
    )
  ) else
  if (hpI h r0 3) ≤ v5 then (
    f_X10_does_170 r0 x1 h v1 v5
  ) else (
    gd (inb (v1 + (1 : Int32)) (hpT h (hpR h r0 27)).2) <|
    if (hpI h r0 4) ≤ (hpI h (hpR h r0 27) (ix (v1 + (1 : Int32)))) then (
      f_X10_does_170 r0 x1 h v1 v5
    ) else (
      f_X10_does_171 r0 x1 h (1 : Int32) v1 v5
    )
  )

def f_X10_story_108 (r0 : Nat) : Hp → Nat → Int32 → Int32 → Option (Int32 × Hp) := fun h s0 s1 x4 =>
  (f_X10_flag h s1).bind fun q16 =>
  (f_X10_enters h s0 (q16.toInt64)).bind fun q17 =>
  gd (nz (hpR q17 r0 6)) <|
  gd (inb (49 : Int32) (hpT q17 (hpR q17 r0 6)).2) <|
  (f_X10_enters q17 r0 ((hpI q17 (hpR q17 r0 6) (ix (49 : Int32))).toInt64)).bind fun q21 =>
  if x4 ≤ 0 then (
    some ((0 : Int32), q21)
  ) else (
    (f_X10_adds q21 r0 x4).bind fun q23 =>
    some (q23.1, q23.2)
  )
def f_X10_story_88 (r0 : Nat) : Hp → Int32 → Option (Int32 × Hp) := fun h x4 =>
  lt (upI h r0 1 (0 : Int32)) fun h14 =>
  f_X10_story_108 r0 h14 r0 (if (hpI h14 r0 28) ≤ x4 then (0 : Int32) else (1 : Int32)) x4
def f_X10_story_64 (r0 : Nat) (n : Nat) : Hp → Int32 → Option (Int32 × Hp) := match n with
  | 0 => fun _ _ => none
  | n + 1 => fun h x4 =>
    lt (f_X10_story_64 r0 n) fun k64 =>
    if (hpI h r0 28) ≤ x4 then (
      f_X10_story_88 r0 h x4
    ) else (
      (f_X10_does h r0 x4).bind fun q11 =>
      if q11.1 = 0 then (
        f_X10_story_88 r0 q11.2 x4
      ) else (
        lt (x4 + (1 : Int32)) fun v13 =>
        k64 q11.2 v13
      )
    )
def f_X10_story_42 (r0 : Nat) : Hp → Int32 → Int32 → Option (Int32 × Hp) := fun h x1 x2 =>
  (f_X10_faultOf h r0 x1 (60 : Int32) x2).bind fun q7 =>
  if 0 ≤ q7 then (
    (f_X10_putsBy h r0).bind fun q9 =>
    f_X10_story_64 r0 FU q9 (0 : Int32)
  ) else (
    some (q7, h)
  )
def f_X10_story_19 (r0 : Nat) (n : Nat) : Hp → Int32 → Int32 → Option (Int32 × Hp) := match n with
  | 0 => fun _ _ _ => none
  | n + 1 => fun h x1 x2 =>
    lt (f_X10_story_19 r0 n) fun k19 =>
    if x2 = 0 then (
      f_X10_story_42 r0 h x1 x2
    ) else (
      if (hpI h r0 11) ≤ (hpI h r0 10) then (
        f_X10_story_42 r0 h x1 x2
      ) else (
        (f_X10_readsAct h r0).bind fun q6 =>
        k19 q6.2 x1 q6.1
      )
    )
def f_X10_story (h : Hp) (r0 : Nat) : Option (Int32 × Hp) :=
  lt (upI h r0 0 (0 : Int32)) fun h1 =>
  (f_X10_begins h1 r0 (60 : Int32)).bind fun q2 =>
  lt (upI q2.2 r0 28 (0 : Int32)) fun h3 =>
  f_X10_story_19 r0 FU h3 q2.1 (1 : Int32)

def f_X10_copies_2 (r0 : Nat) (n : Nat) : Hp → Int32 → Option Hp := match n with
  | 0 => fun _ _ => none
  | n + 1 => fun h x1 =>
    lt (f_X10_copies_2 r0 n) fun k2 =>
    if (51 : Int32) ≤ x1 then (
      some h
    ) else (
      gd (nz (hpR h r0 7)) <|
      gd (nz (hpR h r0 6)) <|
      gd (inb x1 (hpT h (hpR h r0 6)).2) <|
      gd (inb x1 (hpT h (hpR h r0 7)).2) <|
      lt (upI h (hpR h r0 7) (ix x1) (hpI h (hpR h r0 6) (ix x1))) fun h8 =>
      lt (x1 + (1 : Int32)) fun v9 =>
      k2 h8 v9
    )
def f_X10_copies (h : Hp) (r0 : Nat) : Option Hp :=
  f_X10_copies_2 r0 FU h (0 : Int32)

def f_X10_slept_62 (r0 : Nat) (k25 : Hp → Int64 → Int32 → Int32 → Int32 → Option (Int64 × Hp)) : Hp → Int32 → Int64 → Int32 → Int32 → Int32 → Option (Int64 × Hp) := fun h s0 y1 x4 x5 x6 =>
  lt (mx32 x4 x6) fun v17 =>
  lt (x5 + (1 : Int32)) fun v18 =>
  k25 h y1 s0 v17 v18
def f_X10_slept_25 (r0 : Nat) (n : Nat) : Hp → Int64 → Int32 → Int32 → Int32 → Option (Int64 × Hp) := match n with
  | 0 => fun _ _ _ _ _ => none
  | n + 1 => fun h y1 x3 x4 x5 =>
    lt (f_X10_slept_25 r0 n) fun k25 =>
    (f_X10_cells h r0).bind fun q5 =>
    if q5 ≤ x5 then (
      lt (upI h r0 1 (0 : Int32)) fun h7 =>
      (f_J13_bitCount_95d88 h7 y1).bind fun q8 =>
      (f_X10_enters h7 r0 (q8.toInt64)).bind fun q9 =>
      (f_X10_enters q9 r0 (x4.toInt64)).bind fun q10 =>
      (f_X10_enters q10 r0 (x3.toInt64)).bind fun q11 =>
      some (y1, q11)
    ) else (
      gd (nz (hpR h r0 6)) <|
      (f_X10_campsOver h r0 (hpR h r0 6) x5).bind fun q14 =>
      (f_J6_bitCount_0f7a4 h q14).bind fun q15 =>
      f_X10_slept_62 r0 k25 h (if q15 ≤ x4 then x3 else x5) y1 x4 x5 q15
    )
def f_X10_slept (h : Hp) (r0 : Nat) : Option (Int64 × Hp) :=
  lt (upI h r0 0 (0 : Int32)) fun h1 =>
  gd (nz (hpR h1 r0 6)) <|
  (f_X10_sleptBy h1 r0 (hpR h1 r0 6) (255 : Int32)).bind fun q4 =>
  f_X10_slept_25 r0 FU h1 q4 (-1 : Int32) (0 : Int32) (0 : Int32)

def f_J6_numberOfTrailingZeros_0f7a4_74 (h : Hp) : Int32 → Int32 → Option Int32 := fun x0 x1 =>
  lt (ush32 x0 (1 : Int32)) fun v15 =>
  some (x1 + v15)
def f_J6_numberOfTrailingZeros_0f7a4_62 (h : Hp) : Int32 → Int32 → Option Int32 := fun x0 x1 =>
  if x0 ≤ (4 : Int32) then (
    f_J6_numberOfTrailingZeros_0f7a4_74 h x0 x1
  ) else (
    lt (x1 + (2 : Int32)) fun v13 =>
    lt (ush32 x0 (2 : Int32)) fun v14 =>
    f_J6_numberOfTrailingZeros_0f7a4_74 h v14 v13
  )
def f_J6_numberOfTrailingZeros_0f7a4_49 (h : Hp) : Int32 → Int32 → Option Int32 := fun x0 x1 =>
  if x0 ≤ (16 : Int32) then (
    f_J6_numberOfTrailingZeros_0f7a4_62 h x0 x1
  ) else (
    lt (x1 + (4 : Int32)) fun v10 =>
    lt (ush32 x0 (4 : Int32)) fun v11 =>
    f_J6_numberOfTrailingZeros_0f7a4_62 h v11 v10
  )
def f_J6_numberOfTrailingZeros_0f7a4_34 (h : Hp) : Int32 → Int32 → Option Int32 := fun x0 x1 =>
  if x0 ≤ (256 : Int32) then (
    f_J6_numberOfTrailingZeros_0f7a4_49 h x0 x1
  ) else (
    lt (x1 + (8 : Int32)) fun v7 =>
    lt (ush32 x0 (8 : Int32)) fun v8 =>
    f_J6_numberOfTrailingZeros_0f7a4_49 h v8 v7
  )
def f_J6_numberOfTrailingZeros_0f7a4 (h : Hp) (x0 : Int32) : Option Int32 :=
  lt ((x0 ^^^ (-1 : Int32)) &&& (x0 - (1 : Int32))) fun v1 =>
  if 0 < v1 then (
    if v1 ≤ (65536 : Int32) then (
      f_J6_numberOfTrailingZeros_0f7a4_34 h v1 (1 : Int32)
    ) else (
      lt ((1 : Int32) + (16 : Int32)) fun v4 =>
      lt (ush32 v1 (16 : Int32)) fun v5 =>
      f_J6_numberOfTrailingZeros_0f7a4_34 h v5 v4
    )
  ) else (
    some (v1 &&& (32 : Int32))
  )

def f_X10_crosses_80 (r0 : Nat) (k14 : Hp → Int32 → Int32 → Int32 → Int32 → Option (Int32 × Hp)) : Hp → Int32 → Int32 → Int32 → Int32 → Int32 → Option (Int32 × Hp) := fun h s0 x1 x2 x4 x5 =>
  (f_J6_bitCount_0f7a4 h x5).bind fun q15 =>
  lt (x1 + q15) fun v16 =>
  lt (x4 + (1 : Int32)) fun v17 =>
  k14 h v16 x2 s0 v17
def f_X10_crosses_79 (r0 : Nat) (k14 : Hp → Int32 → Int32 → Int32 → Int32 → Option (Int32 × Hp)) : Hp → Int32 → Int32 → Int32 → Int32 → Int32 → Option (Int32 × Hp) := fun h x1 x2 x3 x4 x5 =>
  f_X10_crosses_80 r0 k14 h x3 x1 x2 x4 x5
def f_X10_crosses_59 (r0 : Nat) (k14 : Hp → Int32 → Int32 → Int32 → Int32 → Option (Int32 × Hp)) : Hp → Int32 → Int32 → Int32 → Int32 → Int32 → Option (Int32 × Hp) := fun h s0 x1 x3 x4 x5 =>
  if s0 = x4 then (
    if x5 = 0 then (
      f_X10_crosses_79 r0 k14 h x1 s0 x3 x4 x5
    ) else (
      (f_J6_numberOfTrailingZeros_0f7a4 h x5).bind fun q14 =>
      f_X10_crosses_80 r0 k14 h q14 x1 s0 x4 x5
    )
  ) else (
    f_X10_crosses_79 r0 k14 h x1 s0 x3 x4 x5
  )
def f_X10_crosses_58 (r0 : Nat) (k14 : Hp → Int32 → Int32 → Int32 → Int32 → Option (Int32 × Hp)) : Hp → Int32 → Int32 → Int32 → Int32 → Int32 → Option (Int32 × Hp) := fun h x1 x2 x3 x4 x5 =>
  f_X10_crosses_59 r0 k14 h x2 x1 x3 x4 x5
def f_X10_crosses_134 (r0 : Nat) (k101 : Hp → Int32 → Int32 → Int32 → Int32 → Int32 → Option (Int32 × Hp)) : Hp → Int32 → Int32 → Int32 → Int32 → Int32 → Int32 → Option (Int32 × Hp) := fun h s0 s1 x1 x2 x3 x5 =>
  (f_X10_flag h s1).bind fun q30 =>
  lt (s0 + q30) fun v31 =>
  lt (x5 + (1 : Int32)) fun v32 =>
  k101 h x1 x2 x3 v31 v32
def f_X10_crosses_101 (r0 : Nat) (n : Nat) : Hp → Int32 → Int32 → Int32 → Int32 → Int32 → Option (Int32 × Hp) := match n with
  | 0 => fun _ _ _ _ _ _ => none
  | n + 1 => fun h x1 x2 x3 x4 x5 =>
    lt (f_X10_crosses_101 r0 n) fun k101 =>
    (f_X10_cells h r0).bind fun q18 =>
    if q18 ≤ x5 then (
      lt (upI h r0 1 (0 : Int32)) fun h20 =>
      (f_X10_enters h20 r0 (x4.toInt64)).bind fun q21 =>
      if x1 ≤ 0 then (
        some (x1, q21)
      ) else (
        (f_X10_enters q21 r0 (x2.toInt64)).bind fun q23 =>
        (f_X10_enters q23 r0 (x3.toInt64)).bind fun q24 =>
        some (x1, q24)
      )
    ) else (
      gd (nz (hpR h r0 6)) <|
      (f_X10_campsOver h r0 (hpR h r0 6) x5).bind fun q27 =>
      (f_J6_bitCount_0f7a4 h q27).bind fun q28 =>
      f_X10_crosses_134 r0 k101 h x4 (if q28 ≤ (1 : Int32) then (0 : Int32) else (1 : Int32)) x1 x2 x3 x5
    )
def f_X10_crosses_14 (r0 : Nat) (n : Nat) : Hp → Int32 → Int32 → Int32 → Int32 → Option (Int32 × Hp) := match n with
  | 0 => fun _ _ _ _ _ => none
  | n + 1 => fun h x1 x2 x3 x4 =>
    lt (f_X10_crosses_14 r0 n) fun k14 =>
    gd (nz (hpR h r0 6)) <|
    gd (inb (48 : Int32) (hpT h (hpR h r0 6)).2) <|
    if (hpI h (hpR h r0 6) (ix (48 : Int32))) ≤ x4 then (
      f_X10_crosses_101 r0 FU h x1 x2 x3 (0 : Int32) (0 : Int32)
    ) else (
      (f_X10_crossing h r0 (hpR h r0 6) x4).bind fun q7 =>
      lt (shr32 q7 x4) fun v8 =>
      lt (shl32 v8 x4) fun v9 =>
      if 0 ≤ x2 then (
        f_X10_crosses_58 r0 k14 h x1 x2 x3 x4 v9
      ) else (
        if v9 = 0 then (
          f_X10_crosses_58 r0 k14 h x1 x2 x3 x4 v9
        ) else (
          f_X10_crosses_59 r0 k14 h x4 x1 x3 x4 v9
        )
      )
    )
def f_X10_crosses (h : Hp) (r0 : Nat) : Option (Int32 × Hp) :=
  lt (upI h r0 0 (0 : Int32)) fun h1 =>
  f_X10_crosses_14 r0 FU h1 (0 : Int32) (-1 : Int32) (-1 : Int32) (0 : Int32)

def f_X10_heap_85 (r0 : Nat) (x1 : Int32) (k35 : Hp → Int32 → Int32 → Option (Int32 × Hp)) (k47 : Hp → Int32 → Int32 → Int32 → Int32 → Option (Int32 × Hp)) : Hp → Int32 → Int32 → Int32 → Int32 → Int32 → Option (Int32 × Hp) := fun h s0 s1 x2 x3 x5 =>
  lt (s0 ||| s1) fun v26 =>
  lt (x5 + (1 : Int32)) fun v27 =>
  k47 h x2 x3 v26 v27
def f_X10_heap_47 (r0 : Nat) (x1 : Int32) (k35 : Hp → Int32 → Int32 → Option (Int32 × Hp)) (n : Nat) : Hp → Int32 → Int32 → Int32 → Int32 → Option (Int32 × Hp) := match n with
  | 0 => fun _ _ _ _ _ => none
  | n + 1 => fun h x2 x3 x4 x5 =>
    lt (f_X10_heap_47 r0 x1 k35 n) fun k47 =>
    gd (nz (hpR h r0 6)) <|
    gd (inb (48 : Int32) (hpT h (hpR h r0 6)).2) <|
    if (hpI h (hpR h r0 6) (ix (48 : Int32))) ≤ x5 then (
      lt (x3 + (1 : Int32)) fun v21 =>
      k35 h x4 v21
    ) else (
      (f_X10_has h (x2.toInt64) x5).bind fun q22 =>
      if q22 = 0 then (
        f_X10_heap_85 r0 x1 k35 k47 h x4 (0 : Int32) x2 x3 x5
      ) else (
        (f_X10_crossing h r0 (hpR h r0 6) x5).bind fun q25 =>
        f_X10_heap_85 r0 x1 k35 k47 h x4 q25 x2 x3 x5
      )
    )
def f_X10_heap_35 (r0 : Nat) (x1 : Int32) (n : Nat) : Hp → Int32 → Int32 → Option (Int32 × Hp) := match n with
  | 0 => fun _ _ _ => none
  | n + 1 => fun h x2 x3 =>
    lt (f_X10_heap_35 r0 x1 n) fun k35 =>
    if (8 : Int32) ≤ x3 then (
      lt (upI h r0 1 (0 : Int32)) fun h10 =>
      (f_J6_bitCount_0f7a4 h10 x2).bind fun q11 =>
      (f_X10_enters h10 r0 (q11.toInt64)).bind fun q12 =>
      gd (nz (hpR q12 r0 6)) <|
      (f_X10_sleptBy q12 r0 (hpR q12 r0 6) x2).bind fun q15 =>
      (f_X10_enters q12 r0 q15).bind fun q16 =>
      some (x2, q16)
    ) else (
      f_X10_heap_47 r0 x1 k35 FU h x2 x3 x2 (0 : Int32)
    )
def f_X10_heap (h : Hp) (r0 : Nat) (x1 : Int32) : Option (Int32 × Hp) :=
  lt (upI h r0 0 (0 : Int32)) fun h1 =>
  (f_X10_isCamp h1 r0 x1).bind fun q2 =>
  if q2 = 0 then (
    some ((-1 : Int32), h1)
  ) else (
    gd (nz (hpR h1 r0 6)) <|
    (f_X10_isOn h1 (hpR h1 r0 6) x1).bind fun q6 =>
    if q6 = 0 then (
      some ((-2 : Int32), h1)
    ) else (
      lt (shl32 (1 : Int32) x1) fun v8 =>
      f_X10_heap_35 r0 x1 FU h1 v8 (0 : Int32)
    )
  )

def f_X10_gone_21 (r0 : Nat) (x1 : Int32) (n : Nat) : Hp → Int32 → Option (Int32 × Hp) := match n with
  | 0 => fun _ _ => none
  | n + 1 => fun h x2 =>
    lt (f_X10_gone_21 r0 x1 n) fun k21 =>
    if (99 : Int32) < x2 then (
      some ((-2 : Int32), h)
    ) else (
      gd (nz (hpR h r0 7)) <|
      (f_X10_isOn h (hpR h r0 7) x1).bind fun q8 =>
      if q8 = 0 then (
        lt (upI h r0 1 (0 : Int32)) fun h13 =>
        gd (nz (hpR h13 r0 7)) <|
        gd (inb x1 (hpT h13 (hpR h13 r0 7)).2) <|
        (f_X10_enters h13 r0 ((hpI h13 (hpR h13 r0 7) (ix x1)).toInt64)).bind fun q17 =>
        some (x2, q17)
      ) else (
        (f_X10_yearGoes h r0 (hpR h r0 7)).bind fun q11 =>
        lt (x2 + (1 : Int32)) fun v12 =>
        k21 q11 v12
      )
    )
def f_X10_gone (h : Hp) (r0 : Nat) (x1 : Int32) : Option (Int32 × Hp) :=
  lt (upI h r0 0 (0 : Int32)) fun h1 =>
  (f_X10_isCamp h1 r0 x1).bind fun q2 =>
  if q2 = 0 then (
    some ((-1 : Int32), h1)
  ) else (
    (f_X10_copies h1 r0).bind fun q4 =>
    f_X10_gone_21 r0 x1 FU q4 (0 : Int32)
  )

def f_X10_lies (h : Hp) (r0 : Nat) (x1 : Int32) (x2 : Int32) : Option (Int32 × Hp) :=
  lt (upI h r0 0 (0 : Int32)) fun h1 =>
  (f_X10_isCamp h1 r0 x1).bind fun q2 =>
  if q2 = 0 then (
    some ((-1 : Int32), h1)
  ) else (
    (f_X10_in h1 (x2.toInt64) (0 : Int64) (99 : Int64)).bind fun q4 =>
    if q4 = 0 then (
      some ((-1 : Int32), h1)
    ) else (
      (f_X10_copies h1 r0).bind fun q6 =>
      gd (nz (hpR q6 r0 7)) <|
      (f_X10_goesOn q6 r0 (hpR q6 r0 7) x2).bind fun q9 =>
      lt (upI q9 r0 1 (0 : Int32)) fun h10 =>
      gd (nz (hpR h10 r0 7)) <|
      gd (inb ((24 : Int32) + x1) (hpT h10 (hpR h10 r0 7)).2) <|
      (f_X10_enters h10 r0 ((hpI h10 (hpR h10 r0 7) (ix ((24 : Int32) + x1))).toInt64)).bind fun q14 =>
      gd (nz (hpR q14 r0 7)) <|
      (f_X10_on q14 (hpR q14 r0 7)).bind fun q17 =>
      (f_X10_enters q14 r0 (q17.toInt64)).bind fun q18 =>
      gd (nz (hpR q18 r0 7)) <|
      gd (inb x1 (hpT q18 (hpR q18 r0 7)).2) <|
      some ((hpI q18 (hpR q18 r0 7) (ix x1)), q18)
    )
  )

def f_X10_clears_68 (r0 : Nat) (x1 : Int32) (k27 : Hp → Int32 → Int32 → Int32 → Option (Int32 × Hp)) : Hp → Int32 → Int32 → Int32 → Int32 → Option (Int32 × Hp) := fun h s0 x3 x4 x5 =>
  (f_X10_flag h x5).bind fun q15 =>
  lt (x3 + q15) fun v16 =>
  gd (nz (hpR h r0 7)) <|
  (f_X10_yearGoes h r0 (hpR h r0 7)).bind fun q19 =>
  lt (x4 + (1 : Int32)) fun v20 =>
  k27 q19 s0 v16 v20
def f_X10_clears_67 (r0 : Nat) (x1 : Int32) (k27 : Hp → Int32 → Int32 → Int32 → Option (Int32 × Hp)) : Hp → Int32 → Int32 → Int32 → Int32 → Option (Int32 × Hp) := fun h x2 x3 x4 x5 =>
  f_X10_clears_68 r0 x1 k27 h x2 x3 x4 x5
def f_X10_clears_51 (r0 : Nat) (x1 : Int32) (k27 : Hp → Int32 → Int32 → Int32 → Option (Int32 × Hp)) : Hp → Int32 → Int32 → Int32 → Int32 → Option (Int32 × Hp) := fun h s0 x2 x3 x4 =>
  if s0 = 0 then (
    if 0 ≤ x2 then (
      f_X10_clears_67 r0 x1 k27 h x2 x3 x4 s0
    ) else (
      f_X10_clears_68 r0 x1 k27 h x4 x3 x4 s0
    )
  ) else (
    f_X10_clears_67 r0 x1 k27 h x2 x3 x4 s0
  )
def f_X10_clears_27 (r0 : Nat) (x1 : Int32) (n : Nat) : Hp → Int32 → Int32 → Int32 → Option (Int32 × Hp) := match n with
  | 0 => fun _ _ _ _ => none
  | n + 1 => fun h x2 x3 x4 =>
    lt (f_X10_clears_27 r0 x1 n) fun k27 =>
    if (99 : Int32) < x4 then (
      if x2 < 0 then (
        some (x2, h)
      ) else (
        lt (upI h r0 1 (0 : Int32)) fun h7 =>
        (f_X10_enters h7 r0 (x3.toInt64)).bind fun q8 =>
        some (x2, q8)
      )
    ) else (
      gd (nz (hpR h r0 7)) <|
      (f_X10_campsOver h r0 (hpR h r0 7) x1).bind fun q11 =>
      f_X10_clears_51 r0 x1 k27 h (if q11 = 0 then (0 : Int32) else (1 : Int32)) x2 x3 x4
    )
def f_X10_clears (h : Hp) (r0 : Nat) (x1 : Int32) : Option (Int32 × Hp) :=
  lt (upI h r0 0 (0 : Int32)) fun h1 =>
  (f_X10_isCell h1 r0 x1).bind fun q2 =>
  if q2 = 0 then (
    some ((-1 : Int32), h1)
  ) else (
    (f_X10_copies h1 r0).bind fun q4 =>
    f_X10_clears_27 r0 x1 FU q4 (-2 : Int32) (0 : Int32) (0 : Int32)
  )

def f_X10_isSize (h : Hp) (x0 : Int32) (x1 : Int32) : Option Int32 :=
  (f_X10_in h (x0.toInt64) (1 : Int64) (3 : Int64)).bind fun q1 =>
  if q1 = 0 then (
    some (0 : Int32)
  ) else (
    (f_X10_in h (x1.toInt64) (1 : Int64) (3 : Int64)).bind fun q3 =>
    if q3 = 0 then (
      some (0 : Int32)
    ) else (
      some (1 : Int32)
    )
  )

def f_X10_roomOf_67 (r0 : Nat) (y1 : Int64) (x3 : Int32) (x4 : Int32) (k15 : Hp → Int32 → Int32 → Int32 → Option (Int32 × Hp)) : Hp → Int32 → Int32 → Int32 → Int32 → Option (Int32 × Hp) := fun h s0 x6 x7 x8 =>
  (f_X10_flag h x8).bind fun q12 =>
  lt (x6 + q12) fun v13 =>
  lt (x7 + (-1 : Int32)) fun v14 =>
  k15 h s0 v13 v14
def f_X10_roomOf_53 (r0 : Nat) (y1 : Int64) (x3 : Int32) (x4 : Int32) (k15 : Hp → Int32 → Int32 → Int32 → Option (Int32 × Hp)) : Hp → Int32 → Int32 → Int32 → Int32 → Option (Int32 × Hp) := fun h s0 x5 x6 x7 =>
  f_X10_roomOf_67 r0 y1 x3 x4 k15 h (if s0 = 0 then x5 else x7) x6 x7 s0
def f_X10_roomOf_52 (r0 : Nat) (y1 : Int64) (x3 : Int32) (x4 : Int32) (k15 : Hp → Int32 → Int32 → Int32 → Option (Int32 × Hp)) : Hp → Int32 → Int32 → Int32 → Option (Int32 × Hp) := fun h x5 x6 x7 =>
  f_X10_roomOf_53 r0 y1 x3 x4 k15 h (0 : Int32) x5 x6 x7
def f_X10_roomOf_15 (r0 : Nat) (y1 : Int64) (x3 : Int32) (x4 : Int32) (n : Nat) : Hp → Int32 → Int32 → Int32 → Option (Int32 × Hp) := match n with
  | 0 => fun _ _ _ _ => none
  | n + 1 => fun h x5 x6 x7 =>
    lt (f_X10_roomOf_15 r0 y1 x3 x4 n) fun k15 =>
    if x7 < 0 then (
      if x5 < 0 then (
        some (x5, h)
      ) else (
        lt (upI h r0 1 (0 : Int32)) fun h5 =>
        (f_X10_enters h5 r0 (x6.toInt64)).bind fun q6 =>
        some (x5, q6)
      )
    ) else (
      (f_X10_isIn h r0 x7 x3 x4).bind fun q7 =>
      if q7 = 0 then (
        f_X10_roomOf_52 r0 y1 x3 x4 k15 h x5 x6 x7
      ) else (
        (f_X10_area h r0 x7 x3 x4).bind fun q9 =>
        if (lg_cmp (q9 &&& y1) (0 : Int64)) = 0 then (
          f_X10_roomOf_53 r0 y1 x3 x4 k15 h (1 : Int32) x5 x6 x7
        ) else (
          f_X10_roomOf_52 r0 y1 x3 x4 k15 h x5 x6 x7
        )
      )
    )
def f_X10_roomOf (h : Hp) (r0 : Nat) (y1 : Int64) (x3 : Int32) (x4 : Int32) : Option (Int32 × Hp) :=
  (f_X10_cells h r0).bind fun q1 =>
  lt (q1 - (1 : Int32)) fun v2 =>
  f_X10_roomOf_15 r0 y1 x3 x4 FU h (-2 : Int32) (0 : Int32) v2

def f_X10_room (h : Hp) (r0 : Nat) (x1 : Int32) (x2 : Int32) : Option (Int32 × Hp) :=
  lt (upI h r0 0 (0 : Int32)) fun h1 =>
  (f_X10_isSize h1 x1 x2).bind fun q2 =>
  if q2 = 0 then (
    some ((-1 : Int32), h1)
  ) else (
    gd (nz (hpR h1 r0 6)) <|
    (f_X10_sleptBy h1 r0 (hpR h1 r0 6) (255 : Int32)).bind fun q6 =>
    (f_X10_roomOf h1 r0 q6 x1 x2).bind fun q7 =>
    some (q7.1, q7.2)
  )

def f_X10_when_21 (r0 : Nat) (x1 : Int32) (x2 : Int32) (n : Nat) : Hp → Int32 → Option (Int32 × Hp) := match n with
  | 0 => fun _ _ => none
  | n + 1 => fun h x3 =>
    lt (f_X10_when_21 r0 x1 x2 n) fun k21 =>
    if (99 : Int32) < x3 then (
      some ((-2 : Int32), h)
    ) else (
      gd (nz (hpR h r0 7)) <|
      (f_X10_sleptBy h r0 (hpR h r0 7) (255 : Int32)).bind fun q8 =>
      (f_X10_roomOf h r0 q8 x1 x2).bind fun q9 =>
      if q9.1 < 0 then (
        gd (nz (hpR q9.2 r0 7)) <|
        (f_X10_yearGoes q9.2 r0 (hpR q9.2 r0 7)).bind fun q13 =>
        lt (x3 + (1 : Int32)) fun v14 =>
        k21 q13 v14
      ) else (
        lt (upI q9.2 r0 1 (0 : Int32)) fun h15 =>
        (f_X10_enters h15 r0 (q9.1.toInt64)).bind fun q16 =>
        some (x3, q16)
      )
    )
def f_X10_when (h : Hp) (r0 : Nat) (x1 : Int32) (x2 : Int32) : Option (Int32 × Hp) :=
  lt (upI h r0 0 (0 : Int32)) fun h1 =>
  (f_X10_isSize h1 x1 x2).bind fun q2 =>
  if q2 = 0 then (
    some ((-1 : Int32), h1)
  ) else (
    (f_X10_copies h1 r0).bind fun q4 =>
    f_X10_when_21 r0 x1 x2 FU q4 (0 : Int32)
  )

def f_X10_least_198 (r0 : Nat) (x1 : Int32) (x2 : Int32) (k141 : Hp → Int32 → Int32 → Int32 → Int32 → Option (Int32 × Hp)) : Hp → Int32 → Int32 → Int32 → Int32 → Int32 → Option (Int32 × Hp) := fun h s0 s1 x3 x4 x6 =>
  lt (s0 ||| s1) fun v36 =>
  lt (x6 + (1 : Int32)) fun v37 =>
  k141 h x3 x4 v36 v37
def f_X10_least_197 (r0 : Nat) (x1 : Int32) (x2 : Int32) (k141 : Hp → Int32 → Int32 → Int32 → Int32 → Option (Int32 × Hp)) : Hp → Int32 → Int32 → Int32 → Int32 → Option (Int32 × Hp) := fun h s0 x3 x4 x6 =>
  f_X10_least_198 r0 x1 x2 k141 h s0 (0 : Int32) x3 x4 x6
def f_X10_least_141 (r0 : Nat) (x1 : Int32) (x2 : Int32) (n : Nat) : Hp → Int32 → Int32 → Int32 → Int32 → Option (Int32 × Hp) := match n with
  | 0 => fun _ _ _ _ _ => none
  | n + 1 => fun h x3 x4 x5 x6 =>
    lt (f_X10_least_141 r0 x1 x2 n) fun k141 =>
    gd (nz (hpR h r0 6)) <|
    gd (inb (48 : Int32) (hpT h (hpR h r0 6)).2) <|
    if (hpI h (hpR h r0 6) (ix (48 : Int32))) ≤ x6 then (
      lt (upI h r0 1 (0 : Int32)) fun h25 =>
      (f_X10_enters h25 r0 (x4.toInt64)).bind fun q26 =>
      (f_X10_enters q26 r0 (x5.toInt64)).bind fun q27 =>
      some (x3, q27)
    ) else (
      (f_X10_isOn h (hpR h r0 6) x6).bind fun q29 =>
      if q29 = 0 then (
        f_X10_least_197 r0 x1 x2 k141 h x5 x3 x4 x6
      ) else (
        (f_X10_areaOf h r0 (hpR h r0 6) x6).bind fun q32 =>
        (f_X10_area h r0 x3 x1 x2).bind fun q33 =>
        if (lg_cmp (q32 &&& q33) (0 : Int64)) = 0 then (
          f_X10_least_197 r0 x1 x2 k141 h x5 x3 x4 x6
        ) else (
          lt (shl32 (1 : Int32) x6) fun v35 =>
          f_X10_least_198 r0 x1 x2 k141 h x5 v35 x3 x4 x6
        )
      )
    )
def f_X10_least_122 (r0 : Nat) (x1 : Int32) (x2 : Int32) (k26 : Hp → Int32 → Int32 → Int32 → Option (Int32 × Hp)) : Hp → Int32 → Int32 → Int32 → Option (Int32 × Hp) := fun h x3 x4 x5 =>
  lt (x5 + (1 : Int32)) fun v20 =>
  k26 h x3 x4 v20
def f_X10_least_112 (r0 : Nat) (x1 : Int32) (x2 : Int32) (k26 : Hp → Int32 → Int32 → Int32 → Option (Int32 × Hp)) : Hp → Int32 → Int32 → Int32 → Int32 → Option (Int32 × Hp) := fun h s0 x4 x5 x6 =>
  lt (mn32 x4 x6) fun v19 =>
  f_X10_least_122 r0 x1 x2 k26 h s0 v19 x5
def f_X10_least_90 (r0 : Nat) (x1 : Int32) (x2 : Int32) (k26 : Hp → Int32 → Int32 → Int32 → Option (Int32 × Hp)) (k52 : Hp → Int32 → Int32 → Int32 → Int32 → Int32 → Option (Int32 × Hp)) : Hp → Int32 → Int32 → Int32 → Int32 → Int32 → Int32 → Option (Int32 × Hp) := fun h s0 s1 x3 x4 x5 x7 =>
  lt (s0 + s1) fun v17 =>
  lt (x7 + (1 : Int32)) fun v18 =>
  k52 h x3 x4 x5 v17 v18
def f_X10_least_52 (r0 : Nat) (x1 : Int32) (x2 : Int32) (k26 : Hp → Int32 → Int32 → Int32 → Option (Int32 × Hp)) (n : Nat) : Hp → Int32 → Int32 → Int32 → Int32 → Int32 → Option (Int32 × Hp) := match n with
  | 0 => fun _ _ _ _ _ _ => none
  | n + 1 => fun h x3 x4 x5 x6 x7 =>
    lt (f_X10_least_52 r0 x1 x2 k26 n) fun k52 =>
    (f_X10_cells h r0).bind fun q9 =>
    if q9 ≤ x7 then (
      f_X10_least_112 r0 x1 x2 k26 h (if x4 ≤ x6 then x3 else x5) x4 x5 x6
    ) else (
      (f_X10_isOver h r0 x5 x1 x2 x7).bind fun q12 =>
      if q12 = 0 then (
        f_X10_least_90 r0 x1 x2 k26 k52 h x6 (0 : Int32) x3 x4 x5 x7
      ) else (
        gd (nz (hpR h r0 6)) <|
        (f_X10_strengthOn h r0 (hpR h r0 6) x7).bind fun q16 =>
        f_X10_least_90 r0 x1 x2 k26 k52 h x6 q16 x3 x4 x5 x7
      )
    )
def f_X10_least_26 (r0 : Nat) (x1 : Int32) (x2 : Int32) (n : Nat) : Hp → Int32 → Int32 → Int32 → Option (Int32 × Hp) := match n with
  | 0 => fun _ _ _ _ => none
  | n + 1 => fun h x3 x4 x5 =>
    lt (f_X10_least_26 r0 x1 x2 n) fun k26 =>
    (f_X10_cells h r0).bind fun q4 =>
    if q4 ≤ x5 then (
      if 0 ≤ x3 then (
        f_X10_least_141 r0 x1 x2 FU h x3 x4 (0 : Int32) (0 : Int32)
      ) else (
        some ((-2 : Int32), h)
      )
    ) else (
      (f_X10_isIn h r0 x5 x1 x2).bind fun q7 =>
      if q7 = 0 then (
        f_X10_least_122 r0 x1 x2 k26 h x3 x4 x5
      ) else (
        f_X10_least_52 r0 x1 x2 k26 FU h x3 x4 x5 (0 : Int32) (0 : Int32)
      )
    )
def f_X10_least (h : Hp) (r0 : Nat) (x1 : Int32) (x2 : Int32) : Option (Int32 × Hp) :=
  lt (upI h r0 0 (0 : Int32)) fun h1 =>
  (f_X10_isSize h1 x1 x2).bind fun q2 =>
  if q2 = 0 then (
    some ((-1 : Int32), h1)
  ) else (
    f_X10_least_26 r0 x1 x2 FU h1 (-2 : Int32) (1000000 : Int32) (0 : Int32)
  )

def f_X10_largest_131 (r0 : Nat) (k27 : Hp → Int64 → Int32 → Int32 → Option (Int32 × Hp)) (k39 : Hp → Int64 → Int32 → Int32 → Int32 → Option (Int32 × Hp)) (k51 : Hp → Int64 → Int32 → Int32 → Int32 → Int32 → Option (Int32 × Hp)) : Hp → Int64 → Int32 → Int32 → Int32 → Int32 → Option (Int32 × Hp) := fun h y1 x3 x4 x5 x6 =>
  lt (x6 + (1 : Int32)) fun v22 =>
  k51 h y1 x3 x4 x5 v22
def f_X10_largest_51 (r0 : Nat) (k27 : Hp → Int64 → Int32 → Int32 → Option (Int32 × Hp)) (k39 : Hp → Int64 → Int32 → Int32 → Int32 → Option (Int32 × Hp)) (n : Nat) : Hp → Int64 → Int32 → Int32 → Int32 → Int32 → Option (Int32 × Hp) := match n with
  | 0 => fun _ _ _ _ _ _ => none
  | n + 1 => fun h y1 x3 x4 x5 x6 =>
    lt (f_X10_largest_51 r0 k27 k39 n) fun k51 =>
    if (hpI h r0 4) < x6 then (
      lt (x5 + (1 : Int32)) fun v11 =>
      k39 h y1 x3 x4 v11
    ) else (
      if (x5 * x6) ≤ x3 then (
        f_X10_largest_131 r0 k27 k39 k51 h y1 x3 x4 x5 x6
      ) else (
        (f_X10_isIn h r0 x4 x5 x6).bind fun q13 =>
        if q13 = 0 then (
          f_X10_largest_131 r0 k27 k39 k51 h y1 x3 x4 x5 x6
        ) else (
          (f_X10_area h r0 x4 x5 x6).bind fun q15 =>
          if (lg_cmp (q15 &&& y1) (0 : Int64)) = 0 then (
            lt (x5 * x6) fun v17 =>
            lt (upI h r0 1 (0 : Int32)) fun h18 =>
            (f_X10_enters h18 r0 (x4.toInt64)).bind fun q19 =>
            (f_X10_enters q19 r0 (x5.toInt64)).bind fun q20 =>
            (f_X10_enters q20 r0 (x6.toInt64)).bind fun q21 =>
            f_X10_largest_131 r0 k27 k39 k51 q21 y1 v17 x4 x5 x6
          ) else (
            f_X10_largest_131 r0 k27 k39 k51 h y1 x3 x4 x5 x6
          )
        )
      )
    )
def f_X10_largest_39 (r0 : Nat) (k27 : Hp → Int64 → Int32 → Int32 → Option (Int32 × Hp)) (n : Nat) : Hp → Int64 → Int32 → Int32 → Int32 → Option (Int32 × Hp) := match n with
  | 0 => fun _ _ _ _ _ => none
  | n + 1 => fun h y1 x3 x4 x5 =>
    lt (f_X10_largest_39 r0 k27 n) fun k39 =>
    if (hpI h r0 3) < x5 then (
      lt (x4 + (1 : Int32)) fun v9 =>
      k27 h y1 x3 v9
    ) else (
      f_X10_largest_51 r0 k27 k39 FU h y1 x3 x4 x5 (1 : Int32)
    )
def f_X10_largest_27 (r0 : Nat) (n : Nat) : Hp → Int64 → Int32 → Int32 → Option (Int32 × Hp) := match n with
  | 0 => fun _ _ _ _ => none
  | n + 1 => fun h y1 x3 x4 =>
    lt (f_X10_largest_27 r0 n) fun k27 =>
    (f_X10_cells h r0).bind fun q6 =>
    if q6 ≤ x4 then (
      some (x3, h)
    ) else (
      f_X10_largest_39 r0 k27 FU h y1 x3 x4 (1 : Int32)
    )
def f_X10_largest (h : Hp) (r0 : Nat) : Option (Int32 × Hp) :=
  lt (upI h r0 0 (0 : Int32)) fun h1 =>
  gd (nz (hpR h1 r0 6)) <|
  (f_X10_sleptBy h1 r0 (hpR h1 r0 6) (255 : Int32)).bind fun q4 =>
  lt (upI h1 r0 1 (0 : Int32)) fun h5 =>
  f_X10_largest_27 r0 FU h5 q4 (0 : Int32) (0 : Int32)

def f_X10_isFewer_15 (h : Hp) (x0 : Int32) (x1 : Int32) : Option Int32 :=
  some (1 : Int32)
def f_X10_isFewer (h : Hp) (x0 : Int32) (x1 : Int32) : Option Int32 :=
  if x1 < 0 then (
    f_X10_isFewer_15 h x0 x1
  ) else (
    (f_J6_bitCount_0f7a4 h x0).bind fun q2 =>
    (f_J6_bitCount_0f7a4 h x1).bind fun q3 =>
    if q3 ≤ q2 then (
      some (0 : Int32)
    ) else (
      f_X10_isFewer_15 h x0 x1
    )
  )

def f_X10_makes_74 (r0 : Nat) (x1 : Int32) (x2 : Int32) (k20 : Hp → Int32 → Int32 → Option (Int32 × Hp)) : Hp → Int32 → Int32 → Option (Int32 × Hp) := fun h s0 x4 =>
  lt (x4 + (1 : Int32)) fun v19 =>
  k20 h s0 v19
def f_X10_makes_73 (r0 : Nat) (x1 : Int32) (x2 : Int32) (k20 : Hp → Int32 → Int32 → Option (Int32 × Hp)) : Hp → Int32 → Int32 → Option (Int32 × Hp) := fun h x3 x4 =>
  f_X10_makes_74 r0 x1 x2 k20 h x3 x4
def f_X10_makes_20 (r0 : Nat) (x1 : Int32) (x2 : Int32) (n : Nat) : Hp → Int32 → Int32 → Option (Int32 × Hp) := match n with
  | 0 => fun _ _ _ => none
  | n + 1 => fun h x3 x4 =>
    lt (f_X10_makes_20 r0 x1 x2 n) fun k20 =>
    gd (nz (hpR h r0 6)) <|
    gd (inb (48 : Int32) (hpT h (hpR h r0 6)).2) <|
    lt (shl32 (1 : Int32) (hpI h (hpR h r0 6) (ix (48 : Int32)))) fun v7 =>
    if v7 ≤ x4 then (
      if 0 ≤ x3 then (
        lt (upI h r0 1 (0 : Int32)) fun h10 =>
        (f_X10_enters h10 r0 (x3.toInt64)).bind fun q11 =>
        (f_J6_bitCount_0f7a4 q11 x3).bind fun q12 =>
        some (q12, q11)
      ) else (
        some ((-2 : Int32), h)
      )
    ) else (
      (f_X10_isFewer h x4 x3).bind fun q13 =>
      if q13 = 0 then (
        f_X10_makes_73 r0 x1 x2 k20 h x3 x4
      ) else (
        (f_X10_sleptBy h r0 (hpR h r0 6) ((255 : Int32) &&& (x4 ^^^ (-1 : Int32)))).bind fun q16 =>
        (f_X10_roomOf h r0 q16 x1 x2).bind fun q17 =>
        if q17.1 < 0 then (
          f_X10_makes_73 r0 x1 x2 k20 q17.2 x3 x4
        ) else (
          f_X10_makes_74 r0 x1 x2 k20 q17.2 x4 x4
        )
      )
    )
def f_X10_makes (h : Hp) (r0 : Nat) (x1 : Int32) (x2 : Int32) : Option (Int32 × Hp) :=
  lt (upI h r0 0 (0 : Int32)) fun h1 =>
  (f_X10_isSize h1 x1 x2).bind fun q2 =>
  if q2 = 0 then (
    some ((-1 : Int32), h1)
  ) else (
    f_X10_makes_20 r0 x1 x2 FU h1 (-1 : Int32) (0 : Int32)
  )

def f_X10_beside_51 (h : Hp) (r0 : Nat) (x1 : Int32) (x2 : Int32) : Int32 → Int32 → Int32 → Option Int32 := fun s0 s1 x3 =>
  lt (s0 + s1) fun v9 =>
  (f_X10_in h (x3.toInt64) (0 : Int64) (((hpI h r0 3) - (1 : Int32)).toInt64)).bind fun q10 =>
  if q10 = 0 then (
    some (-1 : Int32)
  ) else (
    (f_X10_in h (v9.toInt64) (0 : Int64) (((hpI h r0 4) - (1 : Int32)).toInt64)).bind fun q12 =>
    if q12 = 0 then (
      some (-1 : Int32)
    ) else (
      some (((hpI h r0 4) * x3) + v9)
    )
  )
def f_X10_beside_24 (h : Hp) (r0 : Nat) (x1 : Int32) (x2 : Int32) : Int32 → Int32 → Option Int32 := fun s0 s1 =>
  lt (s0 + s1) fun v4 =>
  gd (nz32 (hpI h r0 4)) <|
  lt (rm32 x1 (hpI h r0 4)) fun v6 =>
  f_X10_beside_51 h r0 x1 x2 v6 (if x2 = (1 : Int32) then (1 : Int32) else (if x2 = (3 : Int32) then (-1 : Int32) else (0 : Int32))) v4
def f_X10_beside (h : Hp) (r0 : Nat) (x1 : Int32) (x2 : Int32) : Option Int32 :=
  gd (nz32 (hpI h r0 4)) <|
  f_X10_beside_24 h r0 x1 x2 (x1 / (hpI h r0 4)) (if x2 = (2 : Int32) then (1 : Int32) else (if x2 = 0 then (-1 : Int32) else (0 : Int32)))

def f_X10_state (h : Hp) (x0 : Int32) (x1 : Int32) : Option Int32 :=
  lt (shl32 x0 (8 : Int32)) fun v1 =>
  some (v1 ||| x1)

def f_X10_laysYet_47 (r0 : Nat) (x1 : Int32) (x2 : Int32) (k2 : Hp → Int32 → Option Hp) (k13 : Hp → Int32 → Int32 → Option Hp) : Hp → Nat → Int32 → Int32 → Int32 → Int32 → Option Hp := fun h s0 s1 s2 x3 x4 =>
  gd (inb s1 (hpT h s0).2) <|
  lt (upI h s0 (ix s1) s2) fun h11 =>
  lt (x4 + (1 : Int32)) fun v12 =>
  k13 h11 x3 v12
def f_X10_laysYet_44 (r0 : Nat) (x1 : Int32) (x2 : Int32) (k2 : Hp → Int32 → Option Hp) (k13 : Hp → Int32 → Int32 → Option Hp) : Hp → Nat → Int32 → Int32 → Int32 → Option Hp := fun h s0 s1 x3 x4 =>
  f_X10_laysYet_47 r0 x1 x2 k2 k13 h s0 s1 (1000000 : Int32) x3 x4
def f_X10_laysYet_13 (r0 : Nat) (x1 : Int32) (x2 : Int32) (k2 : Hp → Int32 → Option Hp) (n : Nat) : Hp → Int32 → Int32 → Option Hp := match n with
  | 0 => fun _ _ _ => none
  | n + 1 => fun h x3 x4 =>
    lt (f_X10_laysYet_13 r0 x1 x2 k2 n) fun k13 =>
    if x2 < x4 then (
      lt (x3 + (1 : Int32)) fun v4 =>
      k2 h v4
    ) else (
      gd (nz (hpR h r0 29)) <|
      (f_X10_state h x3 x4).bind fun q7 =>
      if x3 = x1 then (
        if x4 = x2 then (
          f_X10_laysYet_47 r0 x1 x2 k2 k13 h (hpR h r0 29) q7 (0 : Int32) x3 x4
        ) else (
          f_X10_laysYet_44 r0 x1 x2 k2 k13 h (hpR h r0 29) q7 x3 x4
        )
      ) else (
        f_X10_laysYet_44 r0 x1 x2 k2 k13 h (hpR h r0 29) q7 x3 x4
      )
    )
def f_X10_laysYet_196 (r0 : Nat) (x1 : Int32) (x2 : Int32) (k62 : Hp → Int32 → Option Hp) (k71 : Hp → Int32 → Int32 → Option Hp) (k83 : Hp → Int32 → Int32 → Int32 → Option Hp) (k92 : Hp → Int32 → Int32 → Int32 → Int32 → Option Hp) : Hp → Int32 → Int32 → Int32 → Int32 → Option Hp := fun h x3 x4 x5 x6 =>
  lt (x6 + (1 : Int32)) fun v41 =>
  k92 h x3 x4 x5 v41
def f_X10_laysYet_161 (r0 : Nat) (x1 : Int32) (x2 : Int32) (k62 : Hp → Int32 → Option Hp) (k71 : Hp → Int32 → Int32 → Option Hp) (k83 : Hp → Int32 → Int32 → Int32 → Option Hp) (k92 : Hp → Int32 → Int32 → Int32 → Int32 → Option Hp) : Hp → Int32 → Int32 → Int32 → Int32 → Int32 → Option Hp := fun h s0 x3 x4 x5 x6 =>
  gd (nz (hpR h r0 29)) <|
  (f_X10_state h x4 x5).bind fun q34 =>
  gd (inb q34 (hpT h (hpR h r0 29)).2) <|
  if (hpI h (hpR h r0 29) (ix q34)) ≤ s0 then (
    f_X10_laysYet_196 r0 x1 x2 k62 k71 k83 k92 h x3 x4 x5 x6
  ) else (
    (f_X10_state h x4 x5).bind fun q38 =>
    gd (inb q38 (hpT h (hpR h r0 29)).2) <|
    lt (upI h (hpR h r0 29) (ix q38) s0) fun h40 =>
    f_X10_laysYet_196 r0 x1 x2 k62 k71 k83 k92 h40 (1 : Int32) x4 x5 x6
  )
def f_X10_laysYet_202 (r0 : Nat) (x1 : Int32) (x2 : Int32) (k62 : Hp → Int32 → Option Hp) (k71 : Hp → Int32 → Int32 → Option Hp) (k83 : Hp → Int32 → Int32 → Int32 → Option Hp) : Hp → Int32 → Int32 → Int32 → Option Hp := fun h x3 x4 x5 =>
  lt (x5 + (1 : Int32)) fun v42 =>
  k83 h x3 x4 v42
def f_X10_laysYet_92 (r0 : Nat) (x1 : Int32) (x2 : Int32) (k62 : Hp → Int32 → Option Hp) (k71 : Hp → Int32 → Int32 → Option Hp) (k83 : Hp → Int32 → Int32 → Int32 → Option Hp) (n : Nat) : Hp → Int32 → Int32 → Int32 → Int32 → Option Hp := match n with
  | 0 => fun _ _ _ _ _ => none
  | n + 1 => fun h x3 x4 x5 x6 =>
    lt (f_X10_laysYet_92 r0 x1 x2 k62 k71 k83 n) fun k92 =>
    if (4 : Int32) ≤ x6 then (
      f_X10_laysYet_202 r0 x1 x2 k62 k71 k83 h x3 x4 x5
    ) else (
      if (x5 &&& (x2 ^^^ (-1 : Int32))) = 0 then (
        (f_X10_beside h r0 x4 x6).bind fun q20 =>
        if 0 ≤ q20 then (
          gd (nz (hpR h r0 29)) <|
          gd (nz (hpR h r0 6)) <|
          (f_X10_campsOver h r0 (hpR h r0 6) q20).bind fun q26 =>
          (f_X10_state h q20 (x5 ||| (q26 &&& x2))).bind fun q27 =>
          gd (inb q27 (hpT h (hpR h r0 29)).2) <|
          gd (nz (hpR h r0 30)) <|
          gd (inb q20 (hpT h (hpR h r0 30)).2) <|
          f_X10_laysYet_161 r0 x1 x2 k62 k71 k83 k92 h ((hpI h (hpR h r0 29) (ix q27)) + (hpI h (hpR h r0 30) (ix q20))) x3 x4 x5 x6
        ) else (
          f_X10_laysYet_161 r0 x1 x2 k62 k71 k83 k92 h (1000000 : Int32) x3 x4 x5 x6
        )
      ) else (
        f_X10_laysYet_202 r0 x1 x2 k62 k71 k83 h x3 x4 x5
      )
    )
def f_X10_laysYet_83 (r0 : Nat) (x1 : Int32) (x2 : Int32) (k62 : Hp → Int32 → Option Hp) (k71 : Hp → Int32 → Int32 → Option Hp) (n : Nat) : Hp → Int32 → Int32 → Int32 → Option Hp := match n with
  | 0 => fun _ _ _ _ => none
  | n + 1 => fun h x3 x4 x5 =>
    lt (f_X10_laysYet_83 r0 x1 x2 k62 k71 n) fun k83 =>
    if x2 < x5 then (
      lt (x4 + (1 : Int32)) fun v17 =>
      k71 h x3 v17
    ) else (
      f_X10_laysYet_92 r0 x1 x2 k62 k71 k83 FU h x3 x4 x5 (0 : Int32)
    )
def f_X10_laysYet_71 (r0 : Nat) (x1 : Int32) (x2 : Int32) (k62 : Hp → Int32 → Option Hp) (n : Nat) : Hp → Int32 → Int32 → Option Hp := match n with
  | 0 => fun _ _ _ => none
  | n + 1 => fun h x3 x4 =>
    lt (f_X10_laysYet_71 r0 x1 x2 k62 n) fun k71 =>
    (f_X10_cells h r0).bind fun q14 =>
    if q14 ≤ x4 then (
      k62 h x3
    ) else (
      f_X10_laysYet_83 r0 x1 x2 k62 k71 FU h x3 x4 (0 : Int32)
    )
def f_X10_laysYet_62 (r0 : Nat) (x1 : Int32) (x2 : Int32) (n : Nat) : Hp → Int32 → Option Hp := match n with
  | 0 => fun _ _ => none
  | n + 1 => fun h x3 =>
    lt (f_X10_laysYet_62 r0 x1 x2 n) fun k62 =>
    if x3 = 0 then (
      some h
    ) else (
      f_X10_laysYet_71 r0 x1 x2 k62 FU h (0 : Int32) (0 : Int32)
    )
def f_X10_laysYet_2 (r0 : Nat) (x1 : Int32) (x2 : Int32) (n : Nat) : Hp → Int32 → Option Hp := match n with
  | 0 => fun _ _ => none
  | n + 1 => fun h x3 =>
    lt (f_X10_laysYet_2 r0 x1 x2 n) fun k2 =>
    (f_X10_cells h r0).bind fun q1 =>
    if q1 ≤ x3 then (
      f_X10_laysYet_62 r0 x1 x2 FU h (1 : Int32)
    ) else (
      f_X10_laysYet_13 r0 x1 x2 k2 FU h x3 (0 : Int32)
    )
def f_X10_laysYet (h : Hp) (r0 : Nat) (x1 : Int32) (x2 : Int32) : Option Hp :=
  f_X10_laysYet_2 r0 x1 x2 FU h (0 : Int32)

def f_X10_tellsWay_144 (r0 : Nat) (x1 : Int32) (x2 : Int32) (k26 : Hp → Int32 → Int32 → Option (Int32 × Hp)) (k46 : Hp → Int32 → Int32 → Int32 → Int32 → Option (Int32 × Hp)) : Hp → Int32 → Int32 → Int32 → Int32 → Option (Int32 × Hp) := fun h s0 x3 x4 x6 =>
  lt (x6 + (1 : Int32)) fun v37 =>
  k46 h x3 x4 s0 v37
def f_X10_tellsWay_142 (r0 : Nat) (x1 : Int32) (x2 : Int32) (k26 : Hp → Int32 → Int32 → Option (Int32 × Hp)) (k46 : Hp → Int32 → Int32 → Int32 → Int32 → Option (Int32 × Hp)) : Hp → Int32 → Int32 → Int32 → Int32 → Option (Int32 × Hp) := fun h x3 x4 x5 x6 =>
  f_X10_tellsWay_144 r0 x1 x2 k26 k46 h x5 x3 x4 x6
def f_X10_tellsWay_137 (r0 : Nat) (x1 : Int32) (x2 : Int32) (k26 : Hp → Int32 → Int32 → Option (Int32 × Hp)) (k46 : Hp → Int32 → Int32 → Int32 → Int32 → Option (Int32 × Hp)) : Hp → Int32 → Int32 → Int32 → Int32 → Option (Int32 × Hp) := fun h x3 x4 x6 x7 =>
  f_X10_tellsWay_144 r0 x1 x2 k26 k46 h x7 x3 x4 x6
def f_X10_tellsWay_118 (r0 : Nat) (x1 : Int32) (x2 : Int32) (k26 : Hp → Int32 → Int32 → Option (Int32 × Hp)) (k46 : Hp → Int32 → Int32 → Int32 → Int32 → Option (Int32 × Hp)) : Hp → Int32 → Int32 → Int32 → Int32 → Int32 → Int32 → Option (Int32 × Hp) := fun h s0 x3 x4 x5 x6 x7 =>
  if s0 = 0 then (
    f_X10_tellsWay_142 r0 x1 x2 k26 k46 h x3 x4 x5 x6
  ) else (
    if x5 < 0 then (
      f_X10_tellsWay_137 r0 x1 x2 k26 k46 h x3 x4 x6 x7
    ) else (
      if x5 ≤ x7 then (
        f_X10_tellsWay_142 r0 x1 x2 k26 k46 h x3 x4 x5 x6
      ) else (
        f_X10_tellsWay_137 r0 x1 x2 k26 k46 h x3 x4 x6 x7
      )
    )
  )
def f_X10_tellsWay_117 (r0 : Nat) (x1 : Int32) (x2 : Int32) (k26 : Hp → Int32 → Int32 → Option (Int32 × Hp)) (k46 : Hp → Int32 → Int32 → Int32 → Int32 → Option (Int32 × Hp)) : Hp → Int32 → Int32 → Int32 → Int32 → Int32 → Option (Int32 × Hp) := fun h x3 x4 x5 x6 x7 =>
  f_X10_tellsWay_118 r0 x1 x2 k26 k46 h (0 : Int32) x3 x4 x5 x6 x7
def f_X10_tellsWay_46 (r0 : Nat) (x1 : Int32) (x2 : Int32) (k26 : Hp → Int32 → Int32 → Option (Int32 × Hp)) (n : Nat) : Hp → Int32 → Int32 → Int32 → Int32 → Option (Int32 × Hp) := match n with
  | 0 => fun _ _ _ _ _ => none
  | n + 1 => fun h x3 x4 x5 x6 =>
    lt (f_X10_tellsWay_46 r0 x1 x2 k26 n) fun k46 =>
    if (4 : Int32) ≤ x6 then (
      gd (nz (hpR h r0 6)) <|
      (f_X10_campsOver h r0 (hpR h r0 6) x5).bind fun q15 =>
      lt (x4 ||| (q15 &&& x2)) fun v16 =>
      (f_X10_enters h r0 (x5.toInt64)).bind fun q17 =>
      k26 q17 x5 v16
    ) else (
      (f_X10_beside h r0 x3 x6).bind fun q18 =>
      if q18 < 0 then (
        f_X10_tellsWay_117 r0 x1 x2 k26 k46 h x3 x4 x5 x6 q18
      ) else (
        gd (nz (hpR h r0 29)) <|
        gd (nz (hpR h r0 6)) <|
        (f_X10_campsOver h r0 (hpR h r0 6) q18).bind fun q24 =>
        (f_X10_state h q18 (x4 ||| (q24 &&& x2))).bind fun q25 =>
        gd (inb q25 (hpT h (hpR h r0 29)).2) <|
        gd (nz (hpR h r0 30)) <|
        gd (inb q18 (hpT h (hpR h r0 30)).2) <|
        (f_X10_state h x3 x4).bind fun q31 =>
        gd (inb q31 (hpT h (hpR h r0 29)).2) <|
        if ((hpI h (hpR h r0 29) (ix q25)) + (hpI h (hpR h r0 30) (ix q18))) = (hpI h (hpR h r0 29) (ix q31)) then (
          f_X10_tellsWay_118 r0 x1 x2 k26 k46 h (1 : Int32) x3 x4 x5 x6 q18
        ) else (
          f_X10_tellsWay_117 r0 x1 x2 k26 k46 h x3 x4 x5 x6 q18
        )
      )
    )
def f_X10_tellsWay_26 (r0 : Nat) (x1 : Int32) (x2 : Int32) (n : Nat) : Hp → Int32 → Int32 → Option (Int32 × Hp) := match n with
  | 0 => fun _ _ _ => none
  | n + 1 => fun h x3 x4 =>
    lt (f_X10_tellsWay_26 r0 x1 x2 n) fun k26 =>
    gd (nz (hpR h r0 29)) <|
    (f_X10_state h x3 x4).bind fun q9 =>
    gd (inb q9 (hpT h (hpR h r0 29)).2) <|
    if (hpI h (hpR h r0 29) (ix q9)) ≤ 0 then (
      some ((hpI h r0 1), h)
    ) else (
      f_X10_tellsWay_46 r0 x1 x2 k26 FU h x3 x4 (-1 : Int32) (0 : Int32)
    )
def f_X10_tellsWay (h : Hp) (r0 : Nat) (x1 : Int32) (x2 : Int32) : Option (Int32 × Hp) :=
  gd (nz (hpR h r0 6)) <|
  (f_X10_campsOver h r0 (hpR h r0 6) x1).bind fun q3 =>
  lt (q3 &&& x2) fun v4 =>
  lt (upI h r0 1 (0 : Int32)) fun h5 =>
  (f_X10_enters h5 r0 (x1.toInt64)).bind fun q6 =>
  f_X10_tellsWay_26 r0 x1 x2 FU q6 x1 v4

def f_X10_meets_64 (r0 : Nat) (x1 : Int32) (x2 : Int32) (x3 : Int32) (n : Nat) : Hp → Int32 → Option (Int32 × Hp) := match n with
  | 0 => fun _ _ => none
  | n + 1 => fun h x4 =>
    lt (f_X10_meets_64 r0 x1 x2 x3 n) fun k64 =>
    (f_X10_cells h r0).bind fun q15 =>
    if q15 ≤ x4 then (
      (f_X10_laysYet h r0 x2 x3).bind fun q17 =>
      (f_X10_tellsWay q17 r0 x1 x3).bind fun q18 =>
      some ((q18.1 - (1 : Int32)), q18.2)
    ) else (
      gd (nz (hpR h r0 30)) <|
      gd (inb x4 (hpT h (hpR h r0 30)).2) <|
      lt (upI h (hpR h r0 30) (ix x4) (1 : Int32)) fun h22 =>
      lt (x4 + (1 : Int32)) fun v23 =>
      k64 h22 v23
    )
def f_X10_meets (h : Hp) (r0 : Nat) (x1 : Int32) (x2 : Int32) (x3 : Int32) : Option (Int32 × Hp) :=
  lt (upI h r0 0 (0 : Int32)) fun h1 =>
  (f_X10_isCell h1 r0 x1).bind fun q2 =>
  if q2 = 0 then (
    some ((-1 : Int32), h1)
  ) else (
    (f_X10_isCell h1 r0 x2).bind fun q4 =>
    if q4 = 0 then (
      some ((-1 : Int32), h1)
    ) else (
      gd (nz (hpR h1 r0 6)) <|
      gd (inb (48 : Int32) (hpT h1 (hpR h1 r0 6)).2) <|
      lt (shl32 (1 : Int32) (hpI h1 (hpR h1 r0 6) (ix (48 : Int32)))) fun v9 =>
      (f_X10_in h1 (x3.toInt64) (0 : Int64) ((v9 - (1 : Int32)).toInt64)).bind fun q10 =>
      if q10 = 0 then (
        some ((-1 : Int32), h1)
      ) else (
        (f_X10_on h1 (hpR h1 r0 6)).bind fun q13 =>
        if (x3 &&& (q13 ^^^ (-1 : Int32))) = 0 then (
          f_X10_meets_64 r0 x1 x2 x3 FU h1 (0 : Int32)
        ) else (
          some ((-2 : Int32), h1)
        )
      )
    )
  )

def f_X10_quiet_62 (r0 : Nat) (x1 : Int32) (x2 : Int32) (k25 : Hp → Int32 → Option (Int32 × Hp)) : Hp → Nat → Int32 → Int32 → Int32 → Option (Int32 × Hp) := fun h s0 s1 s2 x3 =>
  gd (inb s1 (hpT h s0).2) <|
  lt (upI h s0 (ix s1) s2) fun h23 =>
  lt (x3 + (1 : Int32)) fun v24 =>
  k25 h23 v24
def f_X10_quiet_61 (r0 : Nat) (x1 : Int32) (x2 : Int32) (k25 : Hp → Int32 → Option (Int32 × Hp)) : Hp → Nat → Int32 → Int32 → Option (Int32 × Hp) := fun h s0 s1 x3 =>
  f_X10_quiet_62 r0 x1 x2 k25 h s0 s1 (1 : Int32) x3
def f_X10_quiet_25 (r0 : Nat) (x1 : Int32) (x2 : Int32) (n : Nat) : Hp → Int32 → Option (Int32 × Hp) := match n with
  | 0 => fun _ _ => none
  | n + 1 => fun h x3 =>
    lt (f_X10_quiet_25 r0 x1 x2 n) fun k25 =>
    (f_X10_cells h r0).bind fun q6 =>
    if q6 ≤ x3 then (
      (f_X10_laysYet h r0 x2 (0 : Int32)).bind fun q8 =>
      gd (nz (hpR q8 r0 29)) <|
      (f_X10_state q8 x1 (0 : Int32)).bind fun q11 =>
      gd (inb q11 (hpT q8 (hpR q8 r0 29)).2) <|
      if (hpI q8 (hpR q8 r0 29) (ix q11)) < (1000000 : Int32) then (
        (f_X10_tellsWay q8 r0 x1 (0 : Int32)).bind fun q14 =>
        some ((q14.1 - (1 : Int32)), q14.2)
      ) else (
        some ((-2 : Int32), q8)
      )
    ) else (
      gd (nz (hpR h r0 30)) <|
      if x3 = x2 then (
        f_X10_quiet_61 r0 x1 x2 k25 h (hpR h r0 30) x3 x3
      ) else (
        gd (nz (hpR h r0 6)) <|
        (f_X10_campsOver h r0 (hpR h r0 6) x3).bind fun q20 =>
        if q20 = 0 then (
          f_X10_quiet_61 r0 x1 x2 k25 h (hpR h r0 30) x3 x3
        ) else (
          f_X10_quiet_62 r0 x1 x2 k25 h (hpR h r0 30) x3 (1000000 : Int32) x3
        )
      )
    )
def f_X10_quiet (h : Hp) (r0 : Nat) (x1 : Int32) (x2 : Int32) : Option (Int32 × Hp) :=
  lt (upI h r0 0 (0 : Int32)) fun h1 =>
  (f_X10_isCell h1 r0 x1).bind fun q2 =>
  if q2 = 0 then (
    some ((-1 : Int32), h1)
  ) else (
    (f_X10_isCell h1 r0 x2).bind fun q4 =>
    if q4 = 0 then (
      some ((-1 : Int32), h1)
    ) else (
      f_X10_quiet_25 r0 x1 x2 FU h1 (0 : Int32)
    )
  )

def f_X10_soft_25 (r0 : Nat) (x1 : Int32) (x2 : Int32) (n : Nat) : Hp → Int32 → Option (Int32 × Hp) := match n with
  | 0 => fun _ _ => none
  | n + 1 => fun h x3 =>
    lt (f_X10_soft_25 r0 x1 x2 n) fun k25 =>
    (f_X10_cells h r0).bind fun q6 =>
    if q6 ≤ x3 then (
      (f_X10_laysYet h r0 x2 (0 : Int32)).bind fun q8 =>
      gd (nz (hpR q8 r0 6)) <|
      (f_X10_strengthOn q8 r0 (hpR q8 r0 6) x1).bind fun q11 =>
      gd (nz (hpR q8 r0 29)) <|
      (f_X10_state q8 x1 (0 : Int32)).bind fun q14 =>
      gd (inb q14 (hpT q8 (hpR q8 r0 29)).2) <|
      lt (q11 + ((hpI q8 (hpR q8 r0 29) (ix q14)) / (100 : Int32))) fun v16 =>
      (f_X10_tellsWay q8 r0 x1 (0 : Int32)).bind fun q17 =>
      some (v16, q17.2)
    ) else (
      gd (nz (hpR h r0 30)) <|
      gd (nz (hpR h r0 6)) <|
      (f_X10_strengthOn h r0 (hpR h r0 6) x3).bind fun q22 =>
      gd (inb x3 (hpT h (hpR h r0 30)).2) <|
      lt (upI h (hpR h r0 30) (ix x3) (((100 : Int32) * q22) + (1 : Int32))) fun h24 =>
      lt (x3 + (1 : Int32)) fun v25 =>
      k25 h24 v25
    )
def f_X10_soft (h : Hp) (r0 : Nat) (x1 : Int32) (x2 : Int32) : Option (Int32 × Hp) :=
  lt (upI h r0 0 (0 : Int32)) fun h1 =>
  (f_X10_isCell h1 r0 x1).bind fun q2 =>
  if q2 = 0 then (
    some ((-1 : Int32), h1)
  ) else (
    (f_X10_isCell h1 r0 x2).bind fun q4 =>
    if q4 = 0 then (
      some ((-1 : Int32), h1)
    ) else (
      f_X10_soft_25 r0 x1 x2 FU h1 (0 : Int32)
    )
  )

def f_X10_seenFrom_116 (h : Hp) (r0 : Nat) (x1 : Int32) (k7 : Int32 → Int32 → Int32 → Option Int32) (k41 : Int32 → Int32 → Int32 → Int32 → Int32 → Int32 → Option Int32) : Int32 → Int32 → Int32 → Int32 → Int32 → Int32 → Int32 → Option Int32 := fun s0 s1 x2 x3 x4 x5 x7 =>
  lt (mx32 s0 s1) fun v23 =>
  lt (x7 + (1 : Int32)) fun v24 =>
  k41 x2 x3 x4 x5 v23 v24
def f_X10_seenFrom_87 (h : Hp) (r0 : Nat) (x1 : Int32) (k7 : Int32 → Int32 → Int32 → Option Int32) (k41 : Int32 → Int32 → Int32 → Int32 → Int32 → Int32 → Option Int32) : Int32 → Int32 → Int32 → Int32 → Int32 → Int32 → Int32 → Option Int32 := fun s0 s1 x3 x4 x5 x6 x7 =>
  lt (s0 ||| s1) fun v17 =>
  (f_X10_has h (x5.toInt64) x7).bind fun q18 =>
  if q18 = 0 then (
    f_X10_seenFrom_116 h r0 x1 k7 k41 x6 (0 : Int32) v17 x3 x4 x5 x7
  ) else (
    gd (nz (hpR h r0 6)) <|
    gd (inb ((24 : Int32) + x7) (hpT h (hpR h r0 6)).2) <|
    f_X10_seenFrom_116 h r0 x1 k7 k41 x6 (hpI h (hpR h r0 6) (ix ((24 : Int32) + x7))) v17 x3 x4 x5 x7
  )
def f_X10_seenFrom_86 (h : Hp) (r0 : Nat) (x1 : Int32) (k7 : Int32 → Int32 → Int32 → Option Int32) (k41 : Int32 → Int32 → Int32 → Int32 → Int32 → Int32 → Option Int32) : Int32 → Int32 → Int32 → Int32 → Int32 → Int32 → Option Int32 := fun s0 x3 x4 x5 x6 x7 =>
  f_X10_seenFrom_87 h r0 x1 k7 k41 s0 (0 : Int32) x3 x4 x5 x6 x7
def f_X10_seenFrom_41 (h : Hp) (r0 : Nat) (x1 : Int32) (k7 : Int32 → Int32 → Int32 → Option Int32) (n : Nat) : Int32 → Int32 → Int32 → Int32 → Int32 → Int32 → Option Int32 := match n with
  | 0 => fun _ _ _ _ _ _ => none
  | n + 1 => fun x2 x3 x4 x5 x6 x7 =>
    lt (f_X10_seenFrom_41 h r0 x1 k7 n) fun k41 =>
    gd (nz (hpR h r0 6)) <|
    gd (inb (48 : Int32) (hpT h (hpR h r0 6)).2) <|
    if (hpI h (hpR h r0 6) (ix (48 : Int32))) ≤ x7 then (
      lt (mx32 x3 x6) fun v9 =>
      lt (x4 + (1 : Int32)) fun v10 =>
      k7 x2 v9 v10
    ) else (
      (f_X10_has h (x5.toInt64) x7).bind fun q11 =>
      if q11 = 0 then (
        f_X10_seenFrom_86 h r0 x1 k7 k41 x2 x3 x4 x5 x6 x7
      ) else (
        gd (inb ((24 : Int32) + x7) (hpT h (hpR h r0 6)).2) <|
        if (hpI h (hpR h r0 6) (ix ((24 : Int32) + x7))) < x3 then (
          f_X10_seenFrom_86 h r0 x1 k7 k41 x2 x3 x4 x5 x6 x7
        ) else (
          lt (shl32 (1 : Int32) x7) fun v16 =>
          f_X10_seenFrom_87 h r0 x1 k7 k41 x2 v16 x3 x4 x5 x6 x7
        )
      )
    )
def f_X10_seenFrom_7 (h : Hp) (r0 : Nat) (x1 : Int32) (n : Nat) : Int32 → Int32 → Int32 → Option Int32 := match n with
  | 0 => fun _ _ _ => none
  | n + 1 => fun x2 x3 x4 =>
    lt (f_X10_seenFrom_7 h r0 x1 n) fun k7 =>
    if (hpI h r0 4) ≤ x4 then (
      some x2
    ) else (
      gd (nz (hpR h r0 6)) <|
      (f_X10_campsOver h r0 (hpR h r0 6) (((hpI h r0 4) * x1) + x4)).bind fun q4 =>
      f_X10_seenFrom_41 h r0 x1 k7 FU x2 x3 x4 q4 (0 : Int32) (0 : Int32)
    )
def f_X10_seenFrom (h : Hp) (r0 : Nat) (x1 : Int32) : Option Int32 :=
  f_X10_seenFrom_7 h r0 x1 FU (0 : Int32) (0 : Int32) (0 : Int32)

def f_X10_seen (h : Hp) (r0 : Nat) (x1 : Int32) : Option (Int32 × Hp) :=
  lt (upI h r0 0 (0 : Int32)) fun h1 =>
  (f_X10_in h1 (x1.toInt64) (0 : Int64) (((hpI h1 r0 3) - (1 : Int32)).toInt64)).bind fun q2 =>
  if q2 = 0 then (
    some ((-1 : Int32), h1)
  ) else (
    (f_X10_seenFrom h1 r0 x1).bind fun q4 =>
    lt (upI h1 r0 1 (0 : Int32)) fun h5 =>
    (f_J6_bitCount_0f7a4 h5 q4).bind fun q6 =>
    (f_X10_enters h5 r0 (q6.toInt64)).bind fun q7 =>
    some (q4, q7)
  )

def f_X10_seenBy_31 (h : Hp) (r0 : Nat) (x1 : Int32) (k4 : Int32 → Int32 → Option Int32) : Int32 → Int32 → Int32 → Option Int32 := fun s0 s1 x3 =>
  lt (s0 ||| s1) fun v5 =>
  lt (x3 + (1 : Int32)) fun v6 =>
  k4 v5 v6
def f_X10_seenBy_4 (h : Hp) (r0 : Nat) (x1 : Int32) (n : Nat) : Int32 → Int32 → Option Int32 := match n with
  | 0 => fun _ _ => none
  | n + 1 => fun x2 x3 =>
    lt (f_X10_seenBy_4 h r0 x1 n) fun k4 =>
    if (hpI h r0 3) ≤ x3 then (
      some x2
    ) else (
      (f_X10_has h (x1.toInt64) x3).bind fun q2 =>
      if q2 = 0 then (
        f_X10_seenBy_31 h r0 x1 k4 x2 (0 : Int32) x3
      ) else (
        (f_X10_seenFrom h r0 x3).bind fun q4 =>
        f_X10_seenBy_31 h r0 x1 k4 x2 q4 x3
      )
    )
def f_X10_seenBy (h : Hp) (r0 : Nat) (x1 : Int32) : Option Int32 :=
  f_X10_seenBy_4 h r0 x1 FU (0 : Int32) (0 : Int32)

def f_X10_seats_54 (r0 : Nat) (k22 : Hp → Int32 → Int32 → Int32 → Option (Int32 × Hp)) : Hp → Int32 → Int32 → Int32 → Option (Int32 × Hp) := fun h s0 x1 x3 =>
  lt (x3 + (1 : Int32)) fun v17 =>
  k22 h x1 s0 v17
def f_X10_seats_53 (r0 : Nat) (k22 : Hp → Int32 → Int32 → Int32 → Option (Int32 × Hp)) : Hp → Int32 → Int32 → Int32 → Option (Int32 × Hp) := fun h x1 x2 x3 =>
  f_X10_seats_54 r0 k22 h x2 x1 x3
def f_X10_seats_22 (r0 : Nat) (n : Nat) : Hp → Int32 → Int32 → Int32 → Option (Int32 × Hp) := match n with
  | 0 => fun _ _ _ _ => none
  | n + 1 => fun h x1 x2 x3 =>
    lt (f_X10_seats_22 r0 n) fun k22 =>
    lt (shl32 (1 : Int32) (hpI h r0 3)) fun v4 =>
    if v4 ≤ x3 then (
      lt (upI h r0 1 (0 : Int32)) fun h6 =>
      (f_X10_enters h6 r0 (x2.toInt64)).bind fun q7 =>
      gd (nz (hpR q7 r0 6)) <|
      (f_X10_on q7 (hpR q7 r0 6)).bind fun q10 =>
      (f_X10_enters q7 r0 ((q10 &&& (x1 ^^^ (-1 : Int32))).toInt64)).bind fun q11 =>
      (f_J6_bitCount_0f7a4 q11 x2).bind fun q12 =>
      some (q12, q11)
    ) else (
      (f_X10_isFewer h x3 x2).bind fun q13 =>
      if q13 = 0 then (
        f_X10_seats_53 r0 k22 h x1 x2 x3
      ) else (
        (f_X10_seenBy h r0 x3).bind fun q15 =>
        if q15 = x1 then (
          f_X10_seats_54 r0 k22 h x3 x1 x3
        ) else (
          f_X10_seats_53 r0 k22 h x1 x2 x3
        )
      )
    )
def f_X10_seats (h : Hp) (r0 : Nat) : Option (Int32 × Hp) :=
  lt (upI h r0 0 (0 : Int32)) fun h1 =>
  lt (shl32 (1 : Int32) (hpI h1 r0 3)) fun v2 =>
  (f_X10_seenBy h1 r0 (v2 - (1 : Int32))).bind fun q3 =>
  f_X10_seats_22 r0 FU h1 q3 (-1 : Int32) (0 : Int32)

def f_X10_marked (h : Hp) (r0 : Nat) (x1 : Int32) (x2 : Int32) (x3 : Int32) : Option (Int32 × Hp) :=
  lt (upI h r0 0 (0 : Int32)) fun h1 =>
  (f_X10_isCamp h1 r0 x1).bind fun q2 =>
  if q2 = 0 then (
    some ((-1 : Int32), h1)
  ) else (
    (f_X10_in h1 (x2.toInt64) (0 : Int64) (30 : Int64)).bind fun q4 =>
    if q4 = 0 then (
      some ((-1 : Int32), h1)
    ) else (
      (f_X10_in h1 (x3.toInt64) (0 : Int64) (1 : Int64)).bind fun q6 =>
      if q6 = 0 then (
        some ((-1 : Int32), h1)
      ) else (
        if (hpI h1 r0 31) = (10 : Int32) then (
          some ((-1 : Int32), h1)
        ) else (
          gd (nz (hpR h1 r0 32)) <|
          gd (inb (hpI h1 r0 31) (hpT h1 (hpR h1 r0 32)).2) <|
          lt (upI h1 (hpR h1 r0 32) (ix (hpI h1 r0 31)) x1) fun h12 =>
          gd (nz (hpR h12 r0 33)) <|
          gd (inb (hpI h12 r0 31) (hpT h12 (hpR h12 r0 33)).2) <|
          lt (upI h12 (hpR h12 r0 33) (ix (hpI h12 r0 31)) x2) fun h16 =>
          gd (nz (hpR h16 r0 34)) <|
          gd (inb (hpI h16 r0 31) (hpT h16 (hpR h16 r0 34)).2) <|
          lt (upI h16 (hpR h16 r0 34) (ix (hpI h16 r0 31)) x3) fun h20 =>
          lt (upI h20 r0 31 ((hpI h20 r0 31) + (1 : Int32))) fun h21 =>
          some ((hpI h21 r0 31), h21)
        )
      )
    )
  )

def f_X10_wiped (h : Hp) (r0 : Nat) : Option (Int32 × Hp) :=
  lt (upI h r0 0 (0 : Int32)) fun h1 =>
  lt (hpI h1 r0 31) fun v2 =>
  lt (upI h1 r0 31 (0 : Int32)) fun h3 =>
  some (v2, h3)

def f_X10_isLaw_113 (r0 : Nat) (x1 : Int32) (k58 : Hp → Int32 → Int32 → Option (Int32 × Hp)) : Hp → Int32 → Int32 → Option (Int32 × Hp) := fun h s0 x3 =>
  lt (x3 + (1 : Int32)) fun v33 =>
  k58 h s0 v33
def f_X10_isLaw_112 (r0 : Nat) (x1 : Int32) (k58 : Hp → Int32 → Int32 → Option (Int32 × Hp)) : Hp → Int32 → Option (Int32 × Hp) := fun h x3 =>
  f_X10_isLaw_113 r0 x1 k58 h (0 : Int32) x3
def f_X10_isLaw_58 (r0 : Nat) (x1 : Int32) (n : Nat) : Hp → Int32 → Int32 → Option (Int32 × Hp) := match n with
  | 0 => fun _ _ _ => none
  | n + 1 => fun h x2 x3 =>
    lt (f_X10_isLaw_58 r0 x1 n) fun k58 =>
    if (hpI h r0 31) ≤ x3 then (
      some (x2, h)
    ) else (
      if x2 = 0 then (
        f_X10_isLaw_112 r0 x1 k58 h x3
      ) else (
        gd (nz (hpR h r0 35)) <|
        gd (nz (hpR h r0 33)) <|
        gd (inb x3 (hpT h (hpR h r0 33)).2) <|
        gd (inb ((x1 * (31 : Int32)) + (hpI h (hpR h r0 33) (ix x3))) (hpT h (hpR h r0 35)).2) <|
        gd (nz (hpR h r0 32)) <|
        gd (inb x3 (hpT h (hpR h r0 32)).2) <|
        (f_X10_has h ((hpI h (hpR h r0 35) (ix ((x1 * (31 : Int32)) + (hpI h (hpR h r0 33) (ix x3))))).toInt64) (hpI h (hpR h r0 32) (ix x3))).bind fun q27 =>
        (f_X10_flag h q27).bind fun q28 =>
        gd (nz (hpR h r0 34)) <|
        gd (inb x3 (hpT h (hpR h r0 34)).2) <|
        if q28 = (hpI h (hpR h r0 34) (ix x3)) then (
          f_X10_isLaw_113 r0 x1 k58 h (1 : Int32) x3
        ) else (
          f_X10_isLaw_112 r0 x1 k58 h x3
        )
      )
    )
def f_X10_isLaw_11 (r0 : Nat) (x1 : Int32) (n : Nat) : Hp → Int32 → Option (Int32 × Hp) := match n with
  | 0 => fun _ _ => none
  | n + 1 => fun h x2 =>
    lt (f_X10_isLaw_11 r0 x1 n) fun k11 =>
    if (30 : Int32) < x2 then (
      lt (upI h r0 21 (-1 : Int32)) fun h4 =>
      f_X10_isLaw_58 r0 x1 FU h4 (1 : Int32) (0 : Int32)
    ) else (
      gd (nz (hpR h r0 35)) <|
      gd (nz (hpR h r0 7)) <|
      (f_X10_on h (hpR h r0 7)).bind fun q9 =>
      gd (inb ((x1 * (31 : Int32)) + x2) (hpT h (hpR h r0 35)).2) <|
      lt (upI h (hpR h r0 35) (ix ((x1 * (31 : Int32)) + x2)) q9) fun h11 =>
      gd (nz (hpR h11 r0 7)) <|
      (f_X10_yearGoes h11 r0 (hpR h11 r0 7)).bind fun q14 =>
      lt (x2 + (1 : Int32)) fun v15 =>
      k11 q14 v15
    )
def f_X10_isLaw (h : Hp) (r0 : Nat) (x1 : Int32) : Option (Int32 × Hp) :=
  (f_X10_copies h r0).bind fun q1 =>
  lt (upI q1 r0 21 x1) fun h2 =>
  f_X10_isLaw_11 r0 x1 FU h2 (0 : Int32)

def f_X10_laws_50 (r0 : Nat) (k14 : Hp → Int32 → Int32 → Option (Int32 × Hp)) : Hp → Int32 → Int32 → Int32 → Option (Int32 × Hp) := fun h x1 x2 x3 =>
  (f_X10_flag h x3).bind fun q10 =>
  lt (x1 + q10) fun v11 =>
  lt (x2 + (1 : Int32)) fun v12 =>
  k14 h v11 v12
def f_X10_laws_14 (r0 : Nat) (n : Nat) : Hp → Int32 → Int32 → Option (Int32 × Hp) := match n with
  | 0 => fun _ _ _ => none
  | n + 1 => fun h x1 x2 =>
    lt (f_X10_laws_14 r0 n) fun k14 =>
    if (16 : Int32) ≤ x2 then (
      some (x1, h)
    ) else (
      (f_X10_isLaw h r0 x2).bind fun q4 =>
      if q4.1 = 0 then (
        f_X10_laws_50 r0 k14 q4.2 x1 x2 q4.1
      ) else (
        if x1 = 0 then (
          (f_X10_enters q4.2 r0 ((x2 / (4 : Int32)).toInt64)).bind fun q7 =>
          lt (rm32 x2 (4 : Int32)) fun v8 =>
          (f_X10_enters q7 r0 (v8.toInt64)).bind fun q9 =>
          f_X10_laws_50 r0 k14 q9 x1 x2 q4.1
        ) else (
          f_X10_laws_50 r0 k14 q4.2 x1 x2 q4.1
        )
      )
    )
def f_X10_laws (h : Hp) (r0 : Nat) : Option (Int32 × Hp) :=
  lt (upI h r0 0 (0 : Int32)) fun h1 =>
  lt (upI h1 r0 1 (0 : Int32)) fun h2 =>
  f_X10_laws_14 r0 FU h2 (0 : Int32) (0 : Int32)

def f_X10_watch_31 (r0 : Nat) (k9 : Hp → Int32 → Int32 → Option (Int32 × Hp)) : Hp → Int32 → Int32 → Int32 → Option (Int32 × Hp) := fun h s0 s1 x2 =>
  lt (s0 ||| s1) fun v6 =>
  lt (x2 + (1 : Int32)) fun v7 =>
  k9 h v6 v7
def f_X10_watch_191 (r0 : Nat) : Hp → Int32 → Int32 → Option (Int32 × Hp) := fun h x2 x3 =>
  if x2 < 0 then (
    some (x2, h)
  ) else (
    lt (upI h r0 1 (0 : Int32)) fun h32 =>
    (f_X10_enters h32 r0 (x3.toInt64)).bind fun q33 =>
    some (x2, q33)
  )
def f_X10_watch_127 (r0 : Nat) (k49 : Hp → Int32 → Int32 → Int32 → Int32 → Option (Int32 × Hp)) (k68 : Hp → Int32 → Int32 → Int32 → Int32 → Int32 → Option (Int32 × Hp)) (k81 : Hp → Int32 → Int32 → Int32 → Int32 → Int32 → Int32 → Int32 → Option (Int32 × Hp)) : Hp → Int32 → Int32 → Int32 → Int32 → Int32 → Int32 → Int32 → Int32 → Option (Int32 × Hp) := fun h s0 s1 x1 x2 x3 x4 x5 x7 =>
  (f_X10_flag h s1).bind fun q26 =>
  lt (s0 + q26) fun v27 =>
  lt (x7 + (1 : Int32)) fun v28 =>
  k81 h x1 x2 x3 x4 x5 v27 v28
def f_X10_watch_126 (r0 : Nat) (k49 : Hp → Int32 → Int32 → Int32 → Int32 → Option (Int32 × Hp)) (k68 : Hp → Int32 → Int32 → Int32 → Int32 → Int32 → Option (Int32 × Hp)) (k81 : Hp → Int32 → Int32 → Int32 → Int32 → Int32 → Int32 → Int32 → Option (Int32 × Hp)) : Hp → Int32 → Int32 → Int32 → Int32 → Int32 → Int32 → Int32 → Option (Int32 × Hp) := fun h s0 x1 x2 x3 x4 x5 x7 =>
  f_X10_watch_127 r0 k49 k68 k81 h s0 (0 : Int32) x1 x2 x3 x4 x5 x7
def f_X10_watch_171 (r0 : Nat) (k49 : Hp → Int32 → Int32 → Int32 → Int32 → Option (Int32 × Hp)) (k68 : Hp → Int32 → Int32 → Int32 → Int32 → Int32 → Option (Int32 × Hp)) : Hp → Int32 → Int32 → Int32 → Int32 → Int32 → Int32 → Option (Int32 × Hp) := fun h s0 x1 x3 x4 x5 x7 =>
  lt (mn32 x3 x7) fun v29 =>
  lt (x5 + (1 : Int32)) fun v30 =>
  k68 h x1 s0 v29 x4 v30
def f_X10_watch_81 (r0 : Nat) (k49 : Hp → Int32 → Int32 → Int32 → Int32 → Option (Int32 × Hp)) (k68 : Hp → Int32 → Int32 → Int32 → Int32 → Int32 → Option (Int32 × Hp)) (n : Nat) : Hp → Int32 → Int32 → Int32 → Int32 → Int32 → Int32 → Int32 → Option (Int32 × Hp) := match n with
  | 0 => fun _ _ _ _ _ _ _ _ => none
  | n + 1 => fun h x1 x2 x3 x4 x5 x6 x7 =>
    lt (f_X10_watch_81 r0 k49 k68 n) fun k81 =>
    if (16 : Int32) ≤ x7 then (
      (f_J6_bitCount_0f7a4 h x1).bind fun q16 =>
      lt (mx32 x6 (q16 - x6)) fun v17 =>
      f_X10_watch_171 r0 k49 k68 h (if x3 ≤ v17 then x2 else (((31 : Int32) * x4) + x5)) x1 x3 x4 x5 v17
    ) else (
      (f_X10_has h (x1.toInt64) x7).bind fun q19 =>
      if q19 = 0 then (
        f_X10_watch_126 r0 k49 k68 k81 h x6 x1 x2 x3 x4 x5 x7
      ) else (
        gd (nz (hpR h r0 35)) <|
        gd (inb ((x7 * (31 : Int32)) + x5) (hpT h (hpR h r0 35)).2) <|
        (f_X10_has h ((hpI h (hpR h r0 35) (ix ((x7 * (31 : Int32)) + x5))).toInt64) x4).bind fun q24 =>
        if q24 = 0 then (
          f_X10_watch_126 r0 k49 k68 k81 h x6 x1 x2 x3 x4 x5 x7
        ) else (
          f_X10_watch_127 r0 k49 k68 k81 h x6 (1 : Int32) x1 x2 x3 x4 x5 x7
        )
      )
    )
def f_X10_watch_68 (r0 : Nat) (k49 : Hp → Int32 → Int32 → Int32 → Int32 → Option (Int32 × Hp)) (n : Nat) : Hp → Int32 → Int32 → Int32 → Int32 → Int32 → Option (Int32 × Hp) := match n with
  | 0 => fun _ _ _ _ _ _ => none
  | n + 1 => fun h x1 x2 x3 x4 x5 =>
    lt (f_X10_watch_68 r0 k49 n) fun k68 =>
    if (30 : Int32) < x5 then (
      lt (x4 + (1 : Int32)) fun v14 =>
      k49 h x1 x2 x3 v14
    ) else (
      f_X10_watch_81 r0 k49 k68 FU h x1 x2 x3 x4 x5 (0 : Int32) (0 : Int32)
    )
def f_X10_watch_49 (r0 : Nat) (n : Nat) : Hp → Int32 → Int32 → Int32 → Int32 → Option (Int32 × Hp) := match n with
  | 0 => fun _ _ _ _ _ => none
  | n + 1 => fun h x1 x2 x3 x4 =>
    lt (f_X10_watch_49 r0 n) fun k49 =>
    gd (nz (hpR h r0 6)) <|
    gd (inb (48 : Int32) (hpT h (hpR h r0 6)).2) <|
    if (hpI h (hpR h r0 6) (ix (48 : Int32))) ≤ x4 then (
      f_X10_watch_191 r0 h x2 x3
    ) else (
      if x1 = 0 then (
        f_X10_watch_191 r0 h x2 x3
      ) else (
        f_X10_watch_68 r0 k49 FU h x1 x2 x3 x4 (0 : Int32)
      )
    )
def f_X10_watch_9 (r0 : Nat) (n : Nat) : Hp → Int32 → Int32 → Option (Int32 × Hp) := match n with
  | 0 => fun _ _ _ => none
  | n + 1 => fun h x1 x2 =>
    lt (f_X10_watch_9 r0 n) fun k9 =>
    if (16 : Int32) ≤ x2 then (
      f_X10_watch_49 r0 FU h x1 (-2 : Int32) (1000000 : Int32) (0 : Int32)
    ) else (
      (f_X10_isLaw h r0 x2).bind fun q3 =>
      if q3.1 = 0 then (
        f_X10_watch_31 r0 k9 q3.2 x1 (0 : Int32) x2
      ) else (
        lt (shl32 (1 : Int32) x2) fun v5 =>
        f_X10_watch_31 r0 k9 q3.2 x1 v5 x2
      )
    )
def f_X10_watch (h : Hp) (r0 : Nat) : Option (Int32 × Hp) :=
  lt (upI h r0 0 (0 : Int32)) fun h1 =>
  f_X10_watch_9 r0 FU h1 (0 : Int32) (0 : Int32)

def f_X10_heard_35 (r0 : Nat) (x1 : Int32) (x2 : Int32) : Hp → Int32 → Option (Int32 × Hp) := fun h s0 =>
  (f_X10_in h (x1.toInt64) (0 : Int64) (4 : Int64)).bind fun q5 =>
  if q5 = 0 then (
    some ((-1 : Int32), h)
  ) else (
    (f_X10_in h (x2.toInt64) (0 : Int64) (s0.toInt64)).bind fun q7 =>
    if q7 = 0 then (
      some ((-1 : Int32), h)
    ) else (
      if (hpI h r0 36) = (12 : Int32) then (
        some ((-1 : Int32), h)
      ) else (
        gd (nz (hpR h r0 37)) <|
        gd (inb (hpI h r0 36) (hpT h (hpR h r0 37)).2) <|
        lt (upI h (hpR h r0 37) (ix (hpI h r0 36)) x1) fun h13 =>
        gd (nz (hpR h13 r0 38)) <|
        gd (inb (hpI h13 r0 36) (hpT h13 (hpR h13 r0 38)).2) <|
        lt (upI h13 (hpR h13 r0 38) (ix (hpI h13 r0 36)) x2) fun h17 =>
        lt (upI h17 r0 36 ((hpI h17 r0 36) + (1 : Int32))) fun h18 =>
        some ((hpI h18 r0 36), h18)
      )
    )
  )
def f_X10_heard (h : Hp) (r0 : Nat) (x1 : Int32) (x2 : Int32) : Option (Int32 × Hp) :=
  lt (upI h r0 0 (0 : Int32)) fun h1 =>
  f_X10_heard_35 r0 x1 x2 h1 (if x1 = 0 then (9 : Int32) else (if x1 = (3 : Int32) then (99 : Int32) else (if x1 = (4 : Int32) then (7 : Int32) else (5 : Int32))))

def f_X10_forget (h : Hp) (r0 : Nat) : Option (Int32 × Hp) :=
  lt (upI h r0 0 (0 : Int32)) fun h1 =>
  lt (hpI h1 r0 36) fun v2 =>
  lt (upI h1 r0 36 (0 : Int32)) fun h3 =>
  some (v2, h3)

def f_X10_isSo (h : Hp) (r0 : Nat) (x1 : Int32) (x2 : Int32) (x3 : Int32) : Option Int32 :=
  if x2 = (0 : Int32) then (
    gd (nz (hpR h r0 6)) <|
    gd (inb ((24 : Int32) + x1) (hpT h (hpR h r0 6)).2) <|
    if x3 < (hpI h (hpR h r0 6) (ix ((24 : Int32) + x1))) then (
      some (0 : Int32)
    ) else (
      some (1 : Int32)
    )
  ) else
  if x2 = (1 : Int32) then (
    gd (nz (hpR h r0 6)) <|
    gd (inb x1 (hpT h (hpR h r0 6)).2) <|
    gd (nz32 (hpI h r0 4)) <|
    gd (inb ((8 : Int32) + x1) (hpT h (hpR h r0 6)).2) <|
    (f_X10_in h ((x3 - ((hpI h (hpR h r0 6) (ix x1)) / (hpI h r0 4))).toInt64) (0 : Int64) (((hpI h (hpR h r0 6) (ix ((8 : Int32) + x1))) - (1 : Int32)).toInt64)).bind fun q11 =>
    some q11
  ) else
  if x2 = (2 : Int32) then (
    gd (nz (hpR h r0 6)) <|
    gd (inb x1 (hpT h (hpR h r0 6)).2) <|
    gd (nz32 (hpI h r0 4)) <|
    lt (rm32 (hpI h (hpR h r0 6) (ix x1)) (hpI h r0 4)) fun v16 =>
    gd (inb ((16 : Int32) + x1) (hpT h (hpR h r0 6)).2) <|
    (f_X10_in h ((x3 - v16).toInt64) (0 : Int64) (((hpI h (hpR h r0 6) (ix ((16 : Int32) + x1))) - (1 : Int32)).toInt64)).bind fun q19 =>
    some q19
  ) else
  if x2 = (3 : Int32) then (
    gd (nz (hpR h r0 6)) <|
    gd (inb ((40 : Int32) + x1) (hpT h (hpR h r0 6)).2) <|
    if (hpI h (hpR h r0 6) (ix ((40 : Int32) + x1))) < x3 then (
      some (0 : Int32)
    ) else (
      some (1 : Int32)
    )
  ) else
  gd (nz (hpR h r0 6)) <|
  (f_X10_crossing h r0 (hpR h r0 6) x1).bind fun q26 =>
  (f_J6_bitCount_0f7a4 h q26).bind fun q27 =>
  if q27 < x3 then (
    some (0 : Int32)
  ) else (
    some (1 : Int32)
  )

def f_X10_fits_72 (r0 : Nat) (k9 : Hp → Int32 → Int32 → Option (Int32 × Hp)) (k32 : Hp → Int32 → Int32 → Int32 → Int32 → Option (Int32 × Hp)) : Hp → Int32 → Int32 → Int32 → Int32 → Option (Int32 × Hp) := fun h s0 x1 x2 x4 =>
  lt (x4 + (1 : Int32)) fun v23 =>
  k32 h x1 x2 s0 v23
def f_X10_fits_71 (r0 : Nat) (k9 : Hp → Int32 → Int32 → Option (Int32 × Hp)) (k32 : Hp → Int32 → Int32 → Int32 → Int32 → Option (Int32 × Hp)) : Hp → Int32 → Int32 → Int32 → Option (Int32 × Hp) := fun h x1 x2 x4 =>
  f_X10_fits_72 r0 k9 k32 h (0 : Int32) x1 x2 x4
def f_X10_fits_91 (r0 : Nat) (k9 : Hp → Int32 → Int32 → Option (Int32 × Hp)) : Hp → Int32 → Int32 → Int32 → Option (Int32 × Hp) := fun h s0 s1 x2 =>
  lt (s0 ||| s1) fun v24 =>
  lt (x2 + (1 : Int32)) fun v25 =>
  k9 h v24 v25
def f_X10_fits_32 (r0 : Nat) (k9 : Hp → Int32 → Int32 → Option (Int32 × Hp)) (n : Nat) : Hp → Int32 → Int32 → Int32 → Int32 → Option (Int32 × Hp) := match n with
  | 0 => fun _ _ _ _ _ => none
  | n + 1 => fun h x1 x2 x3 x4 =>
    lt (f_X10_fits_32 r0 k9 n) fun k32 =>
    if (hpI h r0 36) ≤ x4 then (
      if x3 = 0 then (
        f_X10_fits_91 r0 k9 h x1 (0 : Int32) x2
      ) else (
        lt (shl32 (1 : Int32) x2) fun v13 =>
        f_X10_fits_91 r0 k9 h x1 v13 x2
      )
    ) else (
      if x3 = 0 then (
        f_X10_fits_71 r0 k9 k32 h x1 x2 x4
      ) else (
        gd (nz (hpR h r0 37)) <|
        gd (inb x4 (hpT h (hpR h r0 37)).2) <|
        gd (nz (hpR h r0 38)) <|
        gd (inb x4 (hpT h (hpR h r0 38)).2) <|
        (f_X10_isSo h r0 x2 (hpI h (hpR h r0 37) (ix x4)) (hpI h (hpR h r0 38) (ix x4))).bind fun q21 =>
        if q21 = 0 then (
          f_X10_fits_71 r0 k9 k32 h x1 x2 x4
        ) else (
          f_X10_fits_72 r0 k9 k32 h (1 : Int32) x1 x2 x4
        )
      )
    )
def f_X10_fits_9 (r0 : Nat) (n : Nat) : Hp → Int32 → Int32 → Option (Int32 × Hp) := match n with
  | 0 => fun _ _ _ => none
  | n + 1 => fun h x1 x2 =>
    lt (f_X10_fits_9 r0 n) fun k9 =>
    gd (nz (hpR h r0 6)) <|
    gd (inb (48 : Int32) (hpT h (hpR h r0 6)).2) <|
    if (hpI h (hpR h r0 6) (ix (48 : Int32))) ≤ x2 then (
      lt (upI h r0 1 (0 : Int32)) fun h6 =>
      (f_J6_bitCount_0f7a4 h6 x1).bind fun q7 =>
      (f_X10_enters h6 r0 (q7.toInt64)).bind fun q8 =>
      some (x1, q8)
    ) else (
      (f_X10_isOn h (hpR h r0 6) x2).bind fun q10 =>
      f_X10_fits_32 r0 k9 FU h x1 x2 q10 (0 : Int32)
    )
def f_X10_fits (h : Hp) (r0 : Nat) : Option (Int32 × Hp) :=
  lt (upI h r0 0 (0 : Int32)) fun h1 =>
  f_X10_fits_9 r0 FU h1 (0 : Int32) (0 : Int32)

def f_X10_sung_148 (r0 : Nat) (x1 : Int32) (x2 : Int32) (x3 : Int32) (k86 : Hp → Int32 → Int64 → Int64 → Int32 → Option (Int32 × Hp)) (k118 : Hp → Int32 → Int64 → Int64 → Int32 → Int64 → Int32 → Option (Int32 × Hp)) : Hp → Int64 → Int64 → Int32 → Int64 → Int64 → Int32 → Int32 → Option (Int32 × Hp) := fun h s0 s1 x4 y5 y7 x9 x12 =>
  lt (s0 * s1) fun v32 =>
  lt (x12 + (1 : Int32)) fun v33 =>
  k118 h x4 y5 y7 x9 v32 v33
def f_X10_sung_118 (r0 : Nat) (x1 : Int32) (x2 : Int32) (x3 : Int32) (k86 : Hp → Int32 → Int64 → Int64 → Int32 → Option (Int32 × Hp)) (n : Nat) : Hp → Int32 → Int64 → Int64 → Int32 → Int64 → Int32 → Option (Int32 × Hp) := match n with
  | 0 => fun _ _ _ _ _ _ _ => none
  | n + 1 => fun h x4 y5 y7 x9 y10 x12 =>
    lt (f_X10_sung_118 r0 x1 x2 x3 k86 n) fun k118 =>
    if x4 ≤ x12 then (
      lt (y5 + y10) fun v28 =>
      lt (x9 + (1 : Int32)) fun v29 =>
      k86 h x4 v28 y7 v29
    ) else (
      (f_X10_has h (x9.toInt64) x12).bind fun q30 =>
      f_X10_sung_148 r0 x1 x2 x3 k86 k118 h y10 (if q30 = 0 then (((10 : Int32) - x3).toInt64) else (x3.toInt64)) x4 y5 y7 x9 x12
    )
def f_X10_sung_109 (r0 : Nat) (x1 : Int32) (x2 : Int32) (x3 : Int32) (k86 : Hp → Int32 → Int64 → Int64 → Int32 → Option (Int32 × Hp)) : Hp → Int32 → Int32 → Int64 → Int64 → Int32 → Option (Int32 × Hp) := fun h s0 x4 y5 y7 x9 =>
  (f_X10_flag h s0).bind fun q25 =>
  lt (q25.toInt64) fun v26 =>
  f_X10_sung_118 r0 x1 x2 x3 k86 FU h x4 y5 y7 x9 v26 (0 : Int32)
def f_X10_sung_86 (r0 : Nat) (x1 : Int32) (x2 : Int32) (x3 : Int32) (n : Nat) : Hp → Int32 → Int64 → Int64 → Int32 → Option (Int32 × Hp) := match n with
  | 0 => fun _ _ _ _ _ => none
  | n + 1 => fun h x4 y5 y7 x9 =>
    lt (f_X10_sung_86 r0 x1 x2 x3 n) fun k86 =>
    lt (shl32 (1 : Int32) x4) fun v15 =>
    if v15 ≤ x9 then (
      (f_X10_common h y5 y7).bind fun q17 =>
      lt (upI h r0 1 (0 : Int32)) fun h18 =>
      gd (nz64 q17) <|
      (f_X10_enters h18 r0 (y5 / q17)).bind fun q20 =>
      gd (nz64 q17) <|
      (f_X10_enters q20 r0 (y7 / q17)).bind fun q22 =>
      some ((0 : Int32), q22)
    ) else (
      (f_J6_bitCount_0f7a4 h x9).bind fun q23 =>
      f_X10_sung_109 r0 x1 x2 x3 k86 h (if q23 < x2 then (0 : Int32) else (1 : Int32)) x4 y5 y7 x9
    )
def f_X10_sung_62 (r0 : Nat) (x1 : Int32) (x2 : Int32) (x3 : Int32) (n : Nat) : Hp → Int32 → Int64 → Int64 → Int32 → Option (Int32 × Hp) := match n with
  | 0 => fun _ _ _ _ _ => none
  | n + 1 => fun h x4 y5 y7 x9 =>
    lt (f_X10_sung_62 r0 x1 x2 x3 n) fun k62 =>
    if x4 ≤ x9 then (
      f_X10_sung_86 r0 x1 x2 x3 FU h x4 y5 y7 (0 : Int32)
    ) else (
      lt (y7 * (10 : Int64)) fun v13 =>
      lt (x9 + (1 : Int32)) fun v14 =>
      k62 h x4 y5 v13 v14
    )
def f_X10_sung (h : Hp) (r0 : Nat) (x1 : Int32) (x2 : Int32) (x3 : Int32) : Option (Int32 × Hp) :=
  lt (upI h r0 0 (0 : Int32)) fun h1 =>
  (f_X10_isCell h1 r0 x1).bind fun q2 =>
  if q2 = 0 then (
    some ((-1 : Int32), h1)
  ) else (
    (f_X10_in h1 (x2.toInt64) (0 : Int64) (8 : Int64)).bind fun q4 =>
    if q4 = 0 then (
      some ((-1 : Int32), h1)
    ) else (
      (f_X10_in h1 (x3.toInt64) (0 : Int64) (10 : Int64)).bind fun q6 =>
      if q6 = 0 then (
        some ((-1 : Int32), h1)
      ) else (
        gd (nz (hpR h1 r0 6)) <|
        (f_X10_campsOver h1 r0 (hpR h1 r0 6) x1).bind fun q10 =>
        (f_J6_bitCount_0f7a4 h1 q10).bind fun q11 =>
        f_X10_sung_62 r0 x1 x2 x3 FU h1 q11 (0 : Int64) (1 : Int64) (0 : Int32)
      )
    )
  )

def f_X10_worthOf_74 (r0 : Nat) (x1 : Int32) (n : Nat) : Hp → Int32 → Option (Int32 × Hp) := match n with
  | 0 => fun _ _ => none
  | n + 1 => fun h x2 =>
    lt (f_X10_worthOf_74 r0 x1 n) fun k74 =>
    gd (nz (hpR h r0 40)) <|
    gd (inb x2 (hpT h (hpR h r0 40)).2) <|
    if (hpI h (hpR h r0 40) (ix x2)) = 0 then (
      some (x2, h)
    ) else (
      lt (x2 + (1 : Int32)) fun v24 =>
      k74 h v24
    )
def f_X10_worthOf_30 (r0 : Nat) (x1 : Int32) (k23 : Hp → Int32 → Option (Int32 × Hp)) (n : Nat) : Hp → Int32 → Int32 → Option (Int32 × Hp) := match n with
  | 0 => fun _ _ _ => none
  | n + 1 => fun h x2 x3 =>
    lt (f_X10_worthOf_30 r0 x1 k23 n) fun k30 =>
    if x1 < (x3 + x2) then (
      lt (x2 + (1 : Int32)) fun v9 =>
      k23 h v9
    ) else (
      gd (nz (hpR h r0 40)) <|
      gd (nz (hpR h r0 39)) <|
      gd (inb x3 (hpT h (hpR h r0 39)).2) <|
      gd (inb ((x1 - x2) - x3) (hpT h (hpR h r0 39)).2) <|
      gd (inb ((hpI h (hpR h r0 39) (ix x3)) ^^^ (hpI h (hpR h r0 39) (ix ((x1 - x2) - x3)))) (hpT h (hpR h r0 40)).2) <|
      lt (upI h (hpR h r0 40) (ix ((hpI h (hpR h r0 39) (ix x3)) ^^^ (hpI h (hpR h r0 39) (ix ((x1 - x2) - x3))))) (1 : Int32)) fun h18 =>
      lt (x3 + (1 : Int32)) fun v19 =>
      k30 h18 x2 v19
    )
def f_X10_worthOf_23 (r0 : Nat) (x1 : Int32) (n : Nat) : Hp → Int32 → Option (Int32 × Hp) := match n with
  | 0 => fun _ _ => none
  | n + 1 => fun h x2 =>
    lt (f_X10_worthOf_23 r0 x1 n) fun k23 =>
    if (3 : Int32) < x2 then (
      f_X10_worthOf_74 r0 x1 FU h (0 : Int32)
    ) else (
      f_X10_worthOf_30 r0 x1 k23 FU h x2 (0 : Int32)
    )
def f_X10_worthOf_2 (r0 : Nat) (x1 : Int32) (n : Nat) : Hp → Int32 → Option (Int32 × Hp) := match n with
  | 0 => fun _ _ => none
  | n + 1 => fun h x2 =>
    lt (f_X10_worthOf_2 r0 x1 n) fun k2 =>
    if (64 : Int32) ≤ x2 then (
      f_X10_worthOf_23 r0 x1 FU h (1 : Int32)
    ) else (
      gd (nz (hpR h r0 40)) <|
      gd (inb x2 (hpT h (hpR h r0 40)).2) <|
      lt (upI h (hpR h r0 40) (ix x2) (0 : Int32)) fun h5 =>
      lt (x2 + (1 : Int32)) fun v6 =>
      k2 h5 v6
    )
def f_X10_worthOf (h : Hp) (r0 : Nat) (x1 : Int32) : Option (Int32 × Hp) :=
  f_X10_worthOf_2 r0 x1 FU h (0 : Int32)

