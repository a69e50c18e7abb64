def f_X0_init (h : Hp) (r0 : Nat) : Option Hp :=
  lt (upI h r0 0 (4 : Int32)) fun h1 =>
  lt (upI h1 r0 1 (4 : Int32)) fun h2 =>
  lt (hpN h2 + 1) fun a3 =>
  lt (hpNew h2 (2, ix (8 : Int32))) fun h4 =>
  lt (upR h4 r0 5 a3) fun h5 =>
  lt (hpN h5 + 1) fun a6 =>
  lt (hpNew h5 (2, ix (8 : Int32))) fun h7 =>
  lt (upR h7 r0 6 a6) fun h8 =>
  lt (hpN h8 + 1) fun a9 =>
  lt (hpNew h8 (2, ix (8 : Int32))) fun h10 =>
  lt (upR h10 r0 7 a9) fun h11 =>
  lt (hpN h11 + 1) fun a12 =>
  lt (hpNew h11 (2, ix (8 : Int32))) fun h13 =>
  lt (upR h13 r0 8 a12) fun h14 =>
  lt (hpN h14 + 1) fun a15 =>
  lt (hpNew h14 (2, ix (8 : Int32))) fun h16 =>
  lt (upR h16 r0 9 a15) fun h17 =>
  lt (hpN h17 + 1) fun a18 =>
  lt (hpNew h17 (2, ix (8 : Int32))) fun h19 =>
  lt (upR h19 r0 10 a18) fun h20 =>
  lt (hpN h20 + 1) fun a21 =>
  lt (hpNew h20 (2, ix (8 : Int32))) fun h22 =>
  lt (upR h22 r0 11 a21) fun h23 =>
  some h23

def f_X0_copy (h : Hp) (r0 : Nat) (r1 : Nat) : Option Hp :=
  lt (upI h r0 0 (hpI h r1 0)) fun h1 =>
  lt (upI h1 r0 1 (hpI h1 r1 1)) fun h2 =>
  lt (upI h2 r0 2 (hpI h2 r1 2)) fun h3 =>
  lt (upI h3 r0 3 (hpI h3 r1 3)) fun h4 =>
  lt (upI h4 r0 4 (hpI h4 r1 4)) fun h5 =>
  gd (nz (hpR h5 r1 5)) <|
  gd (nz (hpR h5 r0 5)) <|
  gd (cpok (0 : Int32) (0 : Int32) (8 : Int32) (hpT h5 (hpR h5 r1 5)).2 (hpT h5 (hpR h5 r0 5)).2) <|
  lt (cpI h5 (hpR h5 r1 5) (ix (0 : Int32)) (hpR h5 r0 5) (ix (0 : Int32)) (ix (8 : Int32))) fun h11 =>
  gd (nz (hpR h11 r1 6)) <|
  gd (nz (hpR h11 r0 6)) <|
  gd (cpok (0 : Int32) (0 : Int32) (8 : Int32) (hpT h11 (hpR h11 r1 6)).2 (hpT h11 (hpR h11 r0 6)).2) <|
  lt (cpI h11 (hpR h11 r1 6) (ix (0 : Int32)) (hpR h11 r0 6) (ix (0 : Int32)) (ix (8 : Int32))) fun h17 =>
  gd (nz (hpR h17 r1 7)) <|
  gd (nz (hpR h17 r0 7)) <|
  gd (cpok (0 : Int32) (0 : Int32) (8 : Int32) (hpT h17 (hpR h17 r1 7)).2 (hpT h17 (hpR h17 r0 7)).2) <|
  lt (cpI h17 (hpR h17 r1 7) (ix (0 : Int32)) (hpR h17 r0 7) (ix (0 : Int32)) (ix (8 : Int32))) fun h23 =>
  gd (nz (hpR h23 r1 8)) <|
  gd (nz (hpR h23 r0 8)) <|
  gd (cpok (0 : Int32) (0 : Int32) (8 : Int32) (hpT h23 (hpR h23 r1 8)).2 (hpT h23 (hpR h23 r0 8)).2) <|
  lt (cpI h23 (hpR h23 r1 8) (ix (0 : Int32)) (hpR h23 r0 8) (ix (0 : Int32)) (ix (8 : Int32))) fun h29 =>
  gd (nz (hpR h29 r1 9)) <|
  gd (nz (hpR h29 r0 9)) <|
  gd (cpok (0 : Int32) (0 : Int32) (8 : Int32) (hpT h29 (hpR h29 r1 9)).2 (hpT h29 (hpR h29 r0 9)).2) <|
  lt (cpI h29 (hpR h29 r1 9) (ix (0 : Int32)) (hpR h29 r0 9) (ix (0 : Int32)) (ix (8 : Int32))) fun h35 =>
  gd (nz (hpR h35 r1 10)) <|
  gd (nz (hpR h35 r0 10)) <|
  gd (cpok (0 : Int32) (0 : Int32) (8 : Int32) (hpT h35 (hpR h35 r1 10)).2 (hpT h35 (hpR h35 r0 10)).2) <|
  lt (cpI h35 (hpR h35 r1 10) (ix (0 : Int32)) (hpR h35 r0 10) (ix (0 : Int32)) (ix (8 : Int32))) fun h41 =>
  gd (nz (hpR h41 r1 11)) <|
  gd (nz (hpR h41 r0 11)) <|
  gd (cpok (0 : Int32) (0 : Int32) (8 : Int32) (hpT h41 (hpR h41 r1 11)).2 (hpT h41 (hpR h41 r0 11)).2) <|
  lt (cpI h41 (hpR h41 r1 11) (ix (0 : Int32)) (hpR h41 r0 11) (ix (0 : Int32)) (ix (8 : Int32))) fun h47 =>
  some h47

def f_X0_layOut (h : Hp) (r0 : Nat) (x1 : Int32) (x2 : Int32) : Option Hp :=
  lt (upI h r0 0 x1) fun h1 =>
  lt (upI h1 r0 1 x2) fun h2 =>
  lt (upI h2 r0 2 (0 : Int32)) fun h3 =>
  lt (upI h3 r0 3 (0 : Int32)) fun h4 =>
  lt (upI h4 r0 4 (0 : Int32)) fun h5 =>
  some h5

def f_X0_cells (h : Hp) (r0 : Nat) : Option Int32 :=
  some ((hpI h r0 0) * (hpI h r0 1))

def f_X0_hasCell (h : Hp) (r0 : Nat) (x1 : Int32) : Option Int32 :=
  if x1 < 0 then (
    some (0 : Int32)
  ) else (
    (f_X0_cells h r0).bind fun q2 =>
    if q2 ≤ x1 then (
      some (0 : Int32)
    ) else (
      some (1 : Int32)
    )
  )

def f_X0_cellAt_29 (h : Hp) (r0 : Nat) (x1 : Int32) (x2 : Int32) : Int32 → Option Int32 := fun s0 =>
  if s0 = 0 then (
    some (-1 : Int32)
  ) else (
    some ((x1 * (hpI h r0 1)) + x2)
  )
def f_X0_cellAt_28 (h : Hp) (r0 : Nat) (x1 : Int32) (x2 : Int32) : Option Int32 :=
  f_X0_cellAt_29 h r0 x1 x2 (0 : Int32)
def f_X0_cellAt (h : Hp) (r0 : Nat) (x1 : Int32) (x2 : Int32) : Option Int32 :=
  if x1 < 0 then (
    f_X0_cellAt_28 h r0 x1 x2
  ) else (
    if (hpI h r0 0) ≤ x1 then (
      f_X0_cellAt_28 h r0 x1 x2
    ) else (
      if x2 < 0 then (
        f_X0_cellAt_28 h r0 x1 x2
      ) else (
        if (hpI h r0 1) ≤ x2 then (
          f_X0_cellAt_28 h r0 x1 x2
        ) else (
          f_X0_cellAt_29 h r0 x1 x2 (1 : Int32)
        )
      )
    )
  )

def f_X0_rowOf (h : Hp) (r0 : Nat) (x1 : Int32) : Option Int32 :=
  if (hpI h r0 1) ≤ 0 then (
    some (0 : Int32)
  ) else (
    gd (nz32 (hpI h r0 1)) <|
    some (x1 / (hpI h r0 1))
  )

def f_X0_columnOf (h : Hp) (r0 : Nat) (x1 : Int32) : Option Int32 :=
  if (hpI h r0 1) ≤ 0 then (
    some (0 : Int32)
  ) else (
    gd (nz32 (hpI h r0 1)) <|
    lt (rm32 x1 (hpI h r0 1)) fun v3 =>
    some v3
  )

def f_X0_beside (h : Hp) (r0 : Nat) (x1 : Int32) (x2 : Int32) : Option Int32 :=
  (f_X0_rowOf h r0 x1).bind fun q1 =>
  (f_X0_columnOf h r0 x1).bind fun q2 =>
  if x2 = (0 : Int32) then (
    (f_X0_cellAt h r0 (q1 - (1 : Int32)) q2).bind fun q3 =>
    some q3
  ) else
  if x2 = (1 : Int32) then (
    (f_X0_cellAt h r0 q1 (q2 - (1 : Int32))).bind fun q4 =>
    some q4
  ) else
  if x2 = (2 : Int32) then (
    (f_X0_cellAt h r0 q1 (q2 + (1 : Int32))).bind fun q5 =>
    some q5
  ) else
  (f_X0_cellAt h r0 (q1 + (1 : Int32)) q2).bind fun q6 =>
  some q6

def f_X0_has (h : Hp) (r0 : Nat) (x1 : Int32) : Option Int32 :=
  if x1 < 0 then (
    some (0 : Int32)
  ) else (
    if (hpI h r0 2) ≤ x1 then (
      some (0 : Int32)
    ) else (
      some (1 : Int32)
    )
  )

def f_X0_isOn (h : Hp) (r0 : Nat) (x1 : Int32) : Option Int32 :=
  (f_X0_has h r0 x1).bind fun q1 =>
  if q1 = 0 then (
    some (0 : Int32)
  ) else (
    gd (nz (hpR h r0 9)) <|
    gd (inb x1 (hpT h (hpR h r0 9)).2) <|
    if (hpI h (hpR h r0 9) (ix x1)) ≤ 0 then (
      some (0 : Int32)
    ) else (
      some (1 : Int32)
    )
  )

def f_X0_firstCell (h : Hp) (r0 : Nat) (x1 : Int32) : Option Int32 :=
  (f_X0_has h r0 x1).bind fun q1 =>
  if q1 = 0 then (
    some (-1 : Int32)
  ) else (
    gd (nz (hpR h r0 5)) <|
    gd (inb x1 (hpT h (hpR h r0 5)).2) <|
    gd (nz (hpR h r0 6)) <|
    gd (inb x1 (hpT h (hpR h r0 6)).2) <|
    (f_X0_cellAt h r0 (hpI h (hpR h r0 5) (ix x1)) (hpI h (hpR h r0 6) (ix x1))).bind fun q9 =>
    some q9
  )

def f_X0_isOverRow (h : Hp) (r0 : Nat) (x1 : Int32) (x2 : Int32) : Option Int32 :=
  (f_X0_has h r0 x1).bind fun q1 =>
  if q1 = 0 then (
    some (0 : Int32)
  ) else (
    gd (nz (hpR h r0 5)) <|
    gd (inb x1 (hpT h (hpR h r0 5)).2) <|
    if x2 < (hpI h (hpR h r0 5) (ix x1)) then (
      some (0 : Int32)
    ) else (
      gd (inb x1 (hpT h (hpR h r0 5)).2) <|
      gd (nz (hpR h r0 7)) <|
      gd (inb x1 (hpT h (hpR h r0 7)).2) <|
      if ((hpI h (hpR h r0 5) (ix x1)) + (hpI h (hpR h r0 7) (ix x1))) ≤ x2 then (
        some (0 : Int32)
      ) else (
        some (1 : Int32)
      )
    )
  )

def f_X0_isOverColumn (h : Hp) (r0 : Nat) (x1 : Int32) (x2 : Int32) : Option Int32 :=
  (f_X0_has h r0 x1).bind fun q1 =>
  if q1 = 0 then (
    some (0 : Int32)
  ) else (
    gd (nz (hpR h r0 6)) <|
    gd (inb x1 (hpT h (hpR h r0 6)).2) <|
    if x2 < (hpI h (hpR h r0 6) (ix x1)) then (
      some (0 : Int32)
    ) else (
      gd (inb x1 (hpT h (hpR h r0 6)).2) <|
      gd (nz (hpR h r0 8)) <|
      gd (inb x1 (hpT h (hpR h r0 8)).2) <|
      if ((hpI h (hpR h r0 6) (ix x1)) + (hpI h (hpR h r0 8) (ix x1))) ≤ x2 then (
        some (0 : Int32)
      ) else (
        some (1 : Int32)
      )
    )
  )

def f_X0_cellsOf_49 (h : Hp) (r0 : Nat) (x1 : Int32) (k5 : Int64 → Int32 → Option Int64) : Int64 → Int32 → Option Int64 := fun y2 x4 =>
  lt (x4 + (1 : Int32)) fun v11 =>
  k5 y2 v11
def f_X0_cellsOf_5 (h : Hp) (r0 : Nat) (x1 : Int32) (n : Nat) : Int64 → Int32 → Option Int64 := match n with
  | 0 => fun _ _ => none
  | n + 1 => fun y2 x4 =>
    lt (f_X0_cellsOf_5 h r0 x1 n) fun k5 =>
    (f_X0_cells h r0).bind fun q1 =>
    if q1 ≤ x4 then (
      some y2
    ) else (
      (f_X0_rowOf h r0 x4).bind fun q3 =>
      (f_X0_isOverRow h r0 x1 q3).bind fun q4 =>
      if q4 = 0 then (
        f_X0_cellsOf_49 h r0 x1 k5 y2 x4
      ) else (
        (f_X0_columnOf h r0 x4).bind fun q6 =>
        (f_X0_isOverColumn h r0 x1 q6).bind fun q7 =>
        if q7 = 0 then (
          f_X0_cellsOf_49 h r0 x1 k5 y2 x4
        ) else (
          lt (shl64 (1 : Int64) x4) fun v9 =>
          lt (y2 ||| v9) fun v10 =>
          f_X0_cellsOf_49 h r0 x1 k5 v10 x4
        )
      )
    )
def f_X0_cellsOf (h : Hp) (r0 : Nat) (x1 : Int32) : Option Int64 :=
  f_X0_cellsOf_5 h r0 x1 FU (0 : Int64) (0 : Int32)

def f_X0_cross (h : Hp) (r0 : Nat) (x1 : Int32) (x2 : Int32) : Option Int32 :=
  gd (nz (hpR h r0 9)) <|
  gd (inb x1 (hpT h (hpR h r0 9)).2) <|
  if (hpI h (hpR h r0 9) (ix x1)) ≤ 0 then (
    some (0 : Int32)
  ) else (
    gd (inb x2 (hpT h (hpR h r0 9)).2) <|
    if (hpI h (hpR h r0 9) (ix x2)) ≤ 0 then (
      some (0 : Int32)
    ) else (
      gd (nz (hpR h r0 5)) <|
      gd (inb x1 (hpT h (hpR h r0 5)).2) <|
      gd (inb x2 (hpT h (hpR h r0 5)).2) <|
      gd (nz (hpR h r0 7)) <|
      gd (inb x2 (hpT h (hpR h r0 7)).2) <|
      if ((hpI h (hpR h r0 5) (ix x2)) + (hpI h (hpR h r0 7) (ix x2))) ≤ (hpI h (hpR h r0 5) (ix x1)) then (
        some (0 : Int32)
      ) else (
        gd (inb x2 (hpT h (hpR h r0 5)).2) <|
        gd (inb x1 (hpT h (hpR h r0 5)).2) <|
        gd (inb x1 (hpT h (hpR h r0 7)).2) <|
        if ((hpI h (hpR h r0 5) (ix x1)) + (hpI h (hpR h r0 7) (ix x1))) ≤ (hpI h (hpR h r0 5) (ix x2)) then (
          some (0 : Int32)
        ) else (
          gd (nz (hpR h r0 6)) <|
          gd (inb x1 (hpT h (hpR h r0 6)).2) <|
          gd (inb x2 (hpT h (hpR h r0 6)).2) <|
          gd (nz (hpR h r0 8)) <|
          gd (inb x2 (hpT h (hpR h r0 8)).2) <|
          if ((hpI h (hpR h r0 6) (ix x2)) + (hpI h (hpR h r0 8) (ix x2))) ≤ (hpI h (hpR h r0 6) (ix x1)) then (
            some (0 : Int32)
          ) else (
            gd (inb x2 (hpT h (hpR h r0 6)).2) <|
            gd (inb x1 (hpT h (hpR h r0 6)).2) <|
            gd (inb x1 (hpT h (hpR h r0 8)).2) <|
            if ((hpI h (hpR h r0 6) (ix x1)) + (hpI h (hpR h r0 8) (ix x1))) ≤ (hpI h (hpR h r0 6) (ix x2)) then (
              some (0 : Int32)
            ) else (
              some (1 : Int32)
            )
          )
        )
      )
    )
  )

def f_X0_crossedBy_42 (h : Hp) (r0 : Nat) (x1 : Int32) (k14 : Int32 → Int32 → Option Int32) : Int32 → Int32 → Option Int32 := fun x2 x3 =>
  lt (x3 + (1 : Int32)) fun v9 =>
  k14 x2 v9
def f_X0_crossedBy_14 (h : Hp) (r0 : Nat) (x1 : Int32) (n : Nat) : Int32 → Int32 → Option Int32 := match n with
  | 0 => fun _ _ => none
  | n + 1 => fun x2 x3 =>
    lt (f_X0_crossedBy_14 h r0 x1 n) fun k14 =>
    if (hpI h r0 2) ≤ x3 then (
      some x2
    ) else (
      if x3 = x1 then (
        f_X0_crossedBy_42 h r0 x1 k14 x2 x3
      ) else (
        (f_X0_cross h r0 x1 x3).bind fun q5 =>
        if q5 = 0 then (
          f_X0_crossedBy_42 h r0 x1 k14 x2 x3
        ) else (
          lt (shl32 (1 : Int32) x3) fun v7 =>
          lt (x2 ||| v7) fun v8 =>
          f_X0_crossedBy_42 h r0 x1 k14 v8 x3
        )
      )
    )
def f_X0_crossedBy (h : Hp) (r0 : Nat) (x1 : Int32) : Option Int32 :=
  (f_X0_has h r0 x1).bind fun q1 =>
  if q1 = 0 then (
    some (0 : Int32)
  ) else (
    f_X0_crossedBy_14 h r0 x1 FU (0 : Int32) (0 : Int32)
  )

def f_X9_isIn (h : Hp) (x0 : Int32) (x1 : Int32) : Option Int32 :=
  lt (shr32 x0 x1) fun v1 =>
  if (v1 &&& (1 : Int32)) = 0 then (
    some (0 : Int32)
  ) else (
    some (1 : Int32)
  )

def f_X0_hangTogether_44 (h : Hp) (r0 : Nat) (x1 : Int32) (k6 : Int32 → Int32 → Option Int32) (k17 : Int32 → Int32 → Int32 → Option Int32) : Int32 → Int32 → Int32 → Option Int32 := fun x2 x3 x4 =>
  lt (x4 + (1 : Int32)) fun v9 =>
  k17 x2 x3 v9
def f_X0_hangTogether_17 (h : Hp) (r0 : Nat) (x1 : Int32) (k6 : Int32 → Int32 → Option Int32) (n : Nat) : Int32 → Int32 → Int32 → Option Int32 := match n with
  | 0 => fun _ _ _ => none
  | n + 1 => fun x2 x3 x4 =>
    lt (f_X0_hangTogether_17 h r0 x1 k6 n) fun k17 =>
    if (hpI h r0 2) ≤ x4 then (
      lt (x3 + (1 : Int32)) fun v4 =>
      k6 x2 v4
    ) else (
      (f_X9_isIn h x2 x4).bind fun q5 =>
      if q5 = 0 then (
        f_X0_hangTogether_44 h r0 x1 k6 k17 x2 x3 x4
      ) else (
        (f_X0_crossedBy h r0 x4).bind fun q7 =>
        lt (x2 ||| q7) fun v8 =>
        f_X0_hangTogether_44 h r0 x1 k6 k17 v8 x3 x4
      )
    )
def f_X0_hangTogether_6 (h : Hp) (r0 : Nat) (x1 : Int32) (n : Nat) : Int32 → Int32 → Option Int32 := match n with
  | 0 => fun _ _ => none
  | n + 1 => fun x2 x3 =>
    lt (f_X0_hangTogether_6 h r0 x1 n) fun k6 =>
    if (hpI h r0 2) ≤ x3 then (
      some x2
    ) else (
      f_X0_hangTogether_17 h r0 x1 k6 FU x2 x3 (0 : Int32)
    )
def f_X0_hangTogether (h : Hp) (r0 : Nat) (x1 : Int32) : Option Int32 :=
  lt (shl32 (1 : Int32) x1) fun v1 =>
  f_X0_hangTogether_6 h r0 x1 FU v1 (0 : Int32)

def f_X0_onBits_27 (h : Hp) (r0 : Nat) (k4 : Int32 → Int32 → Option Int32) : Int32 → Int32 → Option Int32 := fun x1 x2 =>
  lt (x2 + (1 : Int32)) fun v8 =>
  k4 x1 v8
def f_X0_onBits_4 (h : Hp) (r0 : Nat) (n : Nat) : Int32 → Int32 → Option Int32 := match n with
  | 0 => fun _ _ => none
  | n + 1 => fun x1 x2 =>
    lt (f_X0_onBits_4 h r0 n) fun k4 =>
    if (hpI h r0 2) ≤ x2 then (
      some x1
    ) else (
      gd (nz (hpR h r0 9)) <|
      gd (inb x2 (hpT h (hpR h r0 9)).2) <|
      if (hpI h (hpR h r0 9) (ix x2)) ≤ 0 then (
        f_X0_onBits_27 h r0 k4 x1 x2
      ) else (
        lt (shl32 (1 : Int32) x2) fun v6 =>
        lt (x1 ||| v6) fun v7 =>
        f_X0_onBits_27 h r0 k4 v7 x2
      )
    )
def f_X0_onBits (h : Hp) (r0 : Nat) : Option Int32 :=
  f_X0_onBits_4 h r0 FU (0 : Int32) (0 : Int32)

def f_J6_bitCount_0f7a4 (h : Hp) (x0 : Int32) : Option Int32 :=
  lt (ush32 x0 (1 : Int32)) fun v1 =>
  lt (x0 - (v1 &&& (1431655765 : Int32))) fun v2 =>
  lt (ush32 v2 (2 : Int32)) fun v3 =>
  lt ((v2 &&& (858993459 : Int32)) + (v3 &&& (858993459 : Int32))) fun v4 =>
  lt (ush32 v4 (4 : Int32)) fun v5 =>
  lt ((v4 + v5) &&& (252645135 : Int32)) fun v6 =>
  lt (ush32 v6 (8 : Int32)) fun v7 =>
  lt (v6 + v7) fun v8 =>
  lt (ush32 v8 (16 : Int32)) fun v9 =>
  lt (v8 + v9) fun v10 =>
  some (v10 &&& (63 : Int32))

def f_X0_onCount (h : Hp) (r0 : Nat) : Option Int32 :=
  (f_X0_onBits h r0).bind fun q1 =>
  (f_J6_bitCount_0f7a4 h q1).bind fun q2 =>
  some q2

def f_X0_strengthOfAll_4 (h : Hp) (r0 : Nat) (n : Nat) : Int32 → Int32 → Option Int32 := match n with
  | 0 => fun _ _ => none
  | n + 1 => fun x1 x2 =>
    lt (f_X0_strengthOfAll_4 h r0 n) fun k4 =>
    if (hpI h r0 2) ≤ x2 then (
      some x1
    ) else (
      gd (nz (hpR h r0 9)) <|
      gd (inb x2 (hpT h (hpR h r0 9)).2) <|
      lt (x1 + (hpI h (hpR h r0 9) (ix x2))) fun v5 =>
      lt (x2 + (1 : Int32)) fun v6 =>
      k4 v5 v6
    )
def f_X0_strengthOfAll (h : Hp) (r0 : Nat) : Option Int32 :=
  f_X0_strengthOfAll_4 h r0 FU (0 : Int32) (0 : Int32)

def f_X0_common (h : Hp) (r0 : Nat) (x1 : Int32) (x2 : Int32) (x3 : Int32) (x4 : Int32) : Option Int32 :=
  lt (mn32 (x1 + x2) (x3 + x4)) fun v1 =>
  lt (mx32 x1 x3) fun v2 =>
  lt (mx32 (0 : Int32) (v1 - v2)) fun v3 =>
  some v3

def f_X0_commonCells (h : Hp) (r0 : Nat) (x1 : Int32) (x2 : Int32) (x3 : Int32) (x4 : Int32) : Option Int32 :=
  gd (nz (hpR h r0 5)) <|
  gd (inb x1 (hpT h (hpR h r0 5)).2) <|
  gd (nz (hpR h r0 7)) <|
  gd (inb x1 (hpT h (hpR h r0 7)).2) <|
  (f_X0_rowOf h r0 x2).bind fun q7 =>
  (f_X0_common h r0 (hpI h (hpR h r0 5) (ix x1)) (hpI h (hpR h r0 7) (ix x1)) q7 x3).bind fun q8 =>
  gd (nz (hpR h r0 6)) <|
  gd (inb x1 (hpT h (hpR h r0 6)).2) <|
  gd (nz (hpR h r0 8)) <|
  gd (inb x1 (hpT h (hpR h r0 8)).2) <|
  (f_X0_columnOf h r0 x2).bind fun q15 =>
  (f_X0_common h r0 (hpI h (hpR h r0 6) (ix x1)) (hpI h (hpR h r0 8) (ix x1)) q15 x4).bind fun q16 =>
  some (q8 * q16)

def f_X0_onUnder_46 (h : Hp) (r0 : Nat) (x1 : Int32) (x2 : Int32) (x3 : Int32) (k6 : Int32 → Int32 → Option Int32) : Int32 → Int32 → Option Int32 := fun x4 x5 =>
  lt (x5 + (1 : Int32)) fun v10 =>
  k6 x4 v10
def f_X0_onUnder_6 (h : Hp) (r0 : Nat) (x1 : Int32) (x2 : Int32) (x3 : Int32) (n : Nat) : Int32 → Int32 → Option Int32 := match n with
  | 0 => fun _ _ => none
  | n + 1 => fun x4 x5 =>
    lt (f_X0_onUnder_6 h r0 x1 x2 x3 n) fun k6 =>
    if (hpI h r0 2) ≤ x5 then (
      some x4
    ) else (
      gd (nz (hpR h r0 9)) <|
      gd (inb x5 (hpT h (hpR h r0 9)).2) <|
      if (hpI h (hpR h r0 9) (ix x5)) ≤ 0 then (
        f_X0_onUnder_46 h r0 x1 x2 x3 k6 x4 x5
      ) else (
        (f_X0_commonCells h r0 x5 x1 x2 x3).bind fun q6 =>
        if q6 ≤ 0 then (
          f_X0_onUnder_46 h r0 x1 x2 x3 k6 x4 x5
        ) else (
          lt (shl32 (1 : Int32) x5) fun v8 =>
          lt (x4 ||| v8) fun v9 =>
          f_X0_onUnder_46 h r0 x1 x2 x3 k6 v9 x5
        )
      )
    )
def f_X0_onUnder (h : Hp) (r0 : Nat) (x1 : Int32) (x2 : Int32) (x3 : Int32) : Option Int32 :=
  f_X0_onUnder_6 h r0 x1 x2 x3 FU (0 : Int32) (0 : Int32)

def f_X0_onOver (h : Hp) (r0 : Nat) (x1 : Int32) : Option Int32 :=
  (f_X0_onUnder h r0 x1 (1 : Int32) (1 : Int32)).bind fun q1 =>
  some q1

def f_X0_strengthUnder_6 (h : Hp) (r0 : Nat) (x1 : Int32) (x2 : Int32) (x3 : Int32) (n : Nat) : Int32 → Int32 → Option Int32 := match n with
  | 0 => fun _ _ => none
  | n + 1 => fun x4 x5 =>
    lt (f_X0_strengthUnder_6 h r0 x1 x2 x3 n) fun k6 =>
    if (hpI h r0 2) ≤ x5 then (
      some x4
    ) else (
      gd (nz (hpR h r0 9)) <|
      gd (inb x5 (hpT h (hpR h r0 9)).2) <|
      (f_X0_commonCells h r0 x5 x1 x2 x3).bind fun q5 =>
      lt (x4 + ((hpI h (hpR h r0 9) (ix x5)) * q5)) fun v6 =>
      lt (x5 + (1 : Int32)) fun v7 =>
      k6 v6 v7
    )
def f_X0_strengthUnder (h : Hp) (r0 : Nat) (x1 : Int32) (x2 : Int32) (x3 : Int32) : Option Int32 :=
  f_X0_strengthUnder_6 h r0 x1 x2 x3 FU (0 : Int32) (0 : Int32)

def f_X0_strengthOver (h : Hp) (r0 : Nat) (x1 : Int32) : Option Int32 :=
  (f_X0_strengthUnder h r0 x1 (1 : Int32) (1 : Int32)).bind fun q1 =>
  some q1

def f_X0_strongestOver_53 (h : Hp) (r0 : Nat) (x1 : Int32) (k11 : Int32 → Int32 → Int32 → Option Int32) : Int32 → Int32 → Int32 → Option Int32 := fun x2 x3 x4 =>
  lt (x4 + (1 : Int32)) fun v12 =>
  k11 x2 x3 v12
def f_X0_strongestOver_50 (h : Hp) (r0 : Nat) (x1 : Int32) (k11 : Int32 → Int32 → Int32 → Option Int32) : Int32 → Int32 → Option Int32 := fun x2 x4 =>
  f_X0_strongestOver_53 h r0 x1 k11 x2 x4 x4
def f_X0_strongestOver_11 (h : Hp) (r0 : Nat) (x1 : Int32) (n : Nat) : Int32 → Int32 → Int32 → Option Int32 := match n with
  | 0 => fun _ _ _ => none
  | n + 1 => fun x2 x3 x4 =>
    lt (f_X0_strongestOver_11 h r0 x1 n) fun k11 =>
    if (hpI h r0 2) ≤ x4 then (
      some x3
    ) else (
      (f_X9_isIn h x2 x4).bind fun q3 =>
      if q3 = 0 then (
        f_X0_strongestOver_53 h r0 x1 k11 x2 x3 x4
      ) else (
        if x3 = (-1 : Int32) then (
          f_X0_strongestOver_50 h r0 x1 k11 x2 x4
        ) else (
          gd (nz (hpR h r0 9)) <|
          gd (inb x4 (hpT h (hpR h r0 9)).2) <|
          gd (inb x3 (hpT h (hpR h r0 9)).2) <|
          if (hpI h (hpR h r0 9) (ix x4)) ≤ (hpI h (hpR h r0 9) (ix x3)) then (
            f_X0_strongestOver_53 h r0 x1 k11 x2 x3 x4
          ) else (
            f_X0_strongestOver_50 h r0 x1 k11 x2 x4
          )
        )
      )
    )
def f_X0_strongestOver (h : Hp) (r0 : Nat) (x1 : Int32) : Option Int32 :=
  (f_X0_onOver h r0 x1).bind fun q1 =>
  f_X0_strongestOver_11 h r0 x1 FU q1 (-1 : Int32) (0 : Int32)

def f_X0_sleptCells_26 (h : Hp) (r0 : Nat) (k4 : Int64 → Int32 → Option Int64) : Int64 → Int32 → Option Int64 := fun y1 x3 =>
  lt (x3 + (1 : Int32)) fun v7 =>
  k4 y1 v7
def f_X0_sleptCells_4 (h : Hp) (r0 : Nat) (n : Nat) : Int64 → Int32 → Option Int64 := match n with
  | 0 => fun _ _ => none
  | n + 1 => fun y1 x3 =>
    lt (f_X0_sleptCells_4 h r0 n) fun k4 =>
    (f_X0_cells h r0).bind fun q1 =>
    if q1 ≤ x3 then (
      some y1
    ) else (
      (f_X0_onOver h r0 x3).bind fun q3 =>
      if q3 = 0 then (
        f_X0_sleptCells_26 h r0 k4 y1 x3
      ) else (
        lt (shl64 (1 : Int64) x3) fun v5 =>
        lt (y1 ||| v5) fun v6 =>
        f_X0_sleptCells_26 h r0 k4 v6 x3
      )
    )
def f_X0_sleptCells (h : Hp) (r0 : Nat) : Option Int64 :=
  f_X0_sleptCells_4 h r0 FU (0 : Int64) (0 : Int32)

def f_X0_isHidden_51 (h : Hp) (r0 : Nat) (x1 : Int32) (x2 : Int32) (k2 : Int32 → Option Int32) : Int32 → Option Int32 := fun x3 =>
  lt (x3 + (1 : Int32)) fun v16 =>
  k2 v16
def f_X0_isHidden_2 (h : Hp) (r0 : Nat) (x1 : Int32) (x2 : Int32) (n : Nat) : Int32 → Option Int32 := match n with
  | 0 => fun _ => none
  | n + 1 => fun x3 =>
    lt (f_X0_isHidden_2 h r0 x1 x2 n) fun k2 =>
    if (hpI h r0 2) ≤ x3 then (
      some (0 : Int32)
    ) else (
      (f_X0_isOverRow h r0 x3 x2).bind fun q2 =>
      if q2 = 0 then (
        f_X0_isHidden_51 h r0 x1 x2 k2 x3
      ) else (
        gd (nz (hpR h r0 6)) <|
        gd (inb x3 (hpT h (hpR h r0 6)).2) <|
        gd (inb x1 (hpT h (hpR h r0 6)).2) <|
        if (hpI h (hpR h r0 6) (ix x1)) ≤ (hpI h (hpR h r0 6) (ix x3)) then (
          f_X0_isHidden_51 h r0 x1 x2 k2 x3
        ) else (
          gd (nz (hpR h r0 9)) <|
          gd (inb x3 (hpT h (hpR h r0 9)).2) <|
          gd (inb x1 (hpT h (hpR h r0 9)).2) <|
          if (hpI h (hpR h r0 9) (ix x3)) ≤ (hpI h (hpR h r0 9) (ix x1)) then (
            f_X0_isHidden_51 h r0 x1 x2 k2 x3
          ) else (
            some (1 : Int32)
          )
        )
      )
    )
def f_X0_isHidden (h : Hp) (r0 : Nat) (x1 : Int32) (x2 : Int32) : Option Int32 :=
  f_X0_isHidden_2 h r0 x1 x2 FU (0 : Int32)

def f_X0_seenFrom_44 (h : Hp) (r0 : Nat) (x1 : Int32) (k4 : Int32 → Int32 → Option Int32) : Int32 → Int32 → Option Int32 := fun x2 x3 =>
  lt (x3 + (1 : Int32)) fun v10 =>
  k4 x2 v10
def f_X0_seenFrom_4 (h : Hp) (r0 : Nat) (x1 : Int32) (n : Nat) : Int32 → Int32 → Option Int32 := match n with
  | 0 => fun _ _ => none
  | n + 1 => fun x2 x3 =>
    lt (f_X0_seenFrom_4 h r0 x1 n) fun k4 =>
    if (hpI h r0 2) ≤ x3 then (
      some x2
    ) else (
      (f_X0_isOn h r0 x3).bind fun q2 =>
      if q2 = 0 then (
        f_X0_seenFrom_44 h r0 x1 k4 x2 x3
      ) else (
        (f_X0_isOverRow h r0 x3 x1).bind fun q4 =>
        if q4 = 0 then (
          f_X0_seenFrom_44 h r0 x1 k4 x2 x3
        ) else (
          (f_X0_isHidden h r0 x3 x1).bind fun q6 =>
          if q6 = 0 then (
            lt (shl32 (1 : Int32) x3) fun v8 =>
            lt (x2 ||| v8) fun v9 =>
            f_X0_seenFrom_44 h r0 x1 k4 v9 x3
          ) else (
            f_X0_seenFrom_44 h r0 x1 k4 x2 x3
          )
        )
      )
    )
def f_X0_seenFrom (h : Hp) (r0 : Nat) (x1 : Int32) : Option Int32 :=
  f_X0_seenFrom_4 h r0 x1 FU (0 : Int32) (0 : Int32)

def f_X0_seenFromRows_28 (h : Hp) (r0 : Nat) (x1 : Int32) (k4 : Int32 → Int32 → Option Int32) : Int32 → Int32 → Option Int32 := fun x2 x3 =>
  lt (x3 + (1 : Int32)) fun v6 =>
  k4 x2 v6
def f_X0_seenFromRows_4 (h : Hp) (r0 : Nat) (x1 : Int32) (n : Nat) : Int32 → Int32 → Option Int32 := match n with
  | 0 => fun _ _ => none
  | n + 1 => fun x2 x3 =>
    lt (f_X0_seenFromRows_4 h r0 x1 n) fun k4 =>
    if (hpI h r0 0) ≤ x3 then (
      some x2
    ) else (
      (f_X9_isIn h x1 x3).bind fun q2 =>
      if q2 = 0 then (
        f_X0_seenFromRows_28 h r0 x1 k4 x2 x3
      ) else (
        (f_X0_seenFrom h r0 x3).bind fun q4 =>
        lt (x2 ||| q4) fun v5 =>
        f_X0_seenFromRows_28 h r0 x1 k4 v5 x3
      )
    )
def f_X0_seenFromRows (h : Hp) (r0 : Nat) (x1 : Int32) : Option Int32 :=
  f_X0_seenFromRows_4 h r0 x1 FU (0 : Int32) (0 : Int32)

def f_X0_holds (h : Hp) (r0 : Nat) (x1 : Int32) (x2 : Int32) (x3 : Int32) : Option Int32 :=
  (f_X0_hasCell h r0 x1).bind fun q1 =>
  if q1 = 0 then (
    some (0 : Int32)
  ) else (
    (f_X0_rowOf h r0 x1).bind fun q3 =>
    if (hpI h r0 0) < (q3 + x2) then (
      some (0 : Int32)
    ) else (
      (f_X0_columnOf h r0 x1).bind fun q5 =>
      if (hpI h r0 1) < (q5 + x3) then (
        some (0 : Int32)
      ) else (
        some (1 : Int32)
      )
    )
  )

def f_X0_isRoom (h : Hp) (r0 : Nat) (x1 : Int32) (x2 : Int32) (x3 : Int32) : Option Int32 :=
  (f_X0_holds h r0 x1 x2 x3).bind fun q1 =>
  if q1 = 0 then (
    some (0 : Int32)
  ) else (
    (f_X0_onUnder h r0 x1 x2 x3).bind fun q3 =>
    if q3 = 0 then (
      some (1 : Int32)
    ) else (
      some (0 : Int32)
    )
  )

def f_X0_firstRoom_2 (h : Hp) (r0 : Nat) (x1 : Int32) (x2 : Int32) (n : Nat) : Int32 → Option Int32 := match n with
  | 0 => fun _ => none
  | n + 1 => fun x3 =>
    lt (f_X0_firstRoom_2 h r0 x1 x2 n) fun k2 =>
    (f_X0_cells h r0).bind fun q1 =>
    if q1 ≤ x3 then (
      some (-1 : Int32)
    ) else (
      (f_X0_isRoom h r0 x3 x1 x2).bind fun q3 =>
      if q3 = 0 then (
        lt (x3 + (1 : Int32)) fun v5 =>
        k2 v5
      ) else (
        some x3
      )
    )
def f_X0_firstRoom (h : Hp) (r0 : Nat) (x1 : Int32) (x2 : Int32) : Option Int32 :=
  f_X0_firstRoom_2 h r0 x1 x2 FU (0 : Int32)

def f_X4_push (h : Hp) (r0 : Nat) (x1 : Int32) : Option Hp :=
  gd (nz (hpR h r0 1)) <|
  if (nI (hpT h (hpR h r0 1)).2) ≤ (hpI h r0 4) then (
    some h
  ) else (
    gd (inb (hpI h r0 4) (hpT h (hpR h r0 1)).2) <|
    lt (upI h (hpR h r0 1) (ix (hpI h r0 4)) x1) fun h6 =>
    lt (upI h6 r0 4 ((hpI h6 r0 4) + (1 : Int32))) fun h7 =>
    some h7
  )

def f_X4_pop (h : Hp) (r0 : Nat) : Option (Int32 × Hp) :=
  if 0 < (hpI h r0 4) then (
    lt (upI h r0 4 ((hpI h r0 4) - (1 : Int32))) fun h2 =>
    gd (nz (hpR h2 r0 1)) <|
    gd (inb (hpI h2 r0 4) (hpT h2 (hpR h2 r0 1)).2) <|
    some ((hpI h2 (hpR h2 r0 1) (ix (hpI h2 r0 4))), h2)
  ) else (
    some ((0 : Int32), h)
  )

def f_X4_isOperator (h : Hp) (x0 : Int32) : Option Int32 :=
  if x0 = (42 : Int32) then (
    some (1 : Int32)
  ) else
  if x0 = (43 : Int32) then (
    some (1 : Int32)
  ) else
  if x0 = (44 : Int32) then (
    some (0 : Int32)
  ) else
  if x0 = (45 : Int32) then (
    some (1 : Int32)
  ) else
  if x0 = (46 : Int32) then (
    some (0 : Int32)
  ) else
  if x0 = (47 : Int32) then (
    some (1 : Int32)
  ) else
  if x0 = (48 : Int32) then (
    some (0 : Int32)
  ) else
  if x0 = (49 : Int32) then (
    some (0 : Int32)
  ) else
  if x0 = (50 : Int32) then (
    some (0 : Int32)
  ) else
  if x0 = (51 : Int32) then (
    some (0 : Int32)
  ) else
  if x0 = (52 : Int32) then (
    some (0 : Int32)
  ) else
  if x0 = (53 : Int32) then (
    some (0 : Int32)
  ) else
  if x0 = (54 : Int32) then (
    some (0 : Int32)
  ) else
  if x0 = (55 : Int32) then (
    some (0 : Int32)
  ) else
  if x0 = (56 : Int32) then (
    some (0 : Int32)
  ) else
  if x0 = (57 : Int32) then (
    some (0 : Int32)
  ) else
  if x0 = (58 : Int32) then (
    some (0 : Int32)
  ) else
  if x0 = (59 : Int32) then (
    some (0 : Int32)
  ) else
  if x0 = (60 : Int32) then (
    some (1 : Int32)
  ) else
  if x0 = (61 : Int32) then (
    some (1 : Int32)
  ) else
  if x0 = (62 : Int32) then (
    some (1 : Int32)
  ) else
  some (0 : Int32)

def f_X4_joined (h : Hp) (x0 : Int32) (x1 : Int32) (x2 : Int32) : Option Int32 :=
  if x0 = (42 : Int32) then (
    some (x1 * x2)
  ) else
  if x0 = (43 : Int32) then (
    some (x1 + x2)
  ) else
  if x0 = (45 : Int32) then (
    some (x1 - x2)
  ) else
  if x0 = (47 : Int32) then (
    if x2 = 0 then (
      some (0 : Int32)
    ) else (
      gd (nz32 x2) <|
      some (x1 / x2)
    )
  ) else
  if x0 = (60 : Int32) then (
    if x2 ≤ x1 then (
      some (0 : Int32)
    ) else (
      some (1 : Int32)
    )
  ) else
  if x0 = (62 : Int32) then (
    if x1 ≤ x2 then (
      some (0 : Int32)
    ) else (
      some (1 : Int32)
    )
  ) else
  if x1 = x2 then (
    some (1 : Int32)
  ) else (
    some (0 : Int32)
  )

def f_X4_meaning (h : Hp) (r0 : Nat) (x1 : Int32) (r2 : Nat) (x3 : Int32) : Option Int32 :=
  if x1 = (97 : Int32) then (
    gd (nz (hpR h r2 11)) <|
    gd (inb x3 (hpT h (hpR h r2 11)).2) <|
    some (hpI h (hpR h r2 11) (ix x3))
  ) else
  if x1 = (98 : Int32) then (
    lt (rm32 (hpI h r2 3) (7 : Int32)) fun v4 =>
    some v4
  ) else
  if x1 = (99 : Int32) then (
    gd (nz (hpR h r2 6)) <|
    gd (inb x3 (hpT h (hpR h r2 6)).2) <|
    some (hpI h (hpR h r2 6) (ix x3))
  ) else
  if x1 = (100 : Int32) then (
    lt (rm32 (hpI h r2 3) (7 : Int32)) fun v8 =>
    some v8
  ) else
  if x1 = (101 : Int32) then (
    lt (rm32 (hpI h r2 3) (7 : Int32)) fun v9 =>
    some v9
  ) else
  if x1 = (102 : Int32) then (
    lt (rm32 (hpI h r2 3) (7 : Int32)) fun v10 =>
    some v10
  ) else
  if x1 = (103 : Int32) then (
    lt (rm32 (hpI h r2 3) (7 : Int32)) fun v11 =>
    some v11
  ) else
  if x1 = (104 : Int32) then (
    gd (nz (hpR h r2 7)) <|
    gd (inb x3 (hpT h (hpR h r2 7)).2) <|
    some (hpI h (hpR h r2 7) (ix x3))
  ) else
  if x1 = (105 : Int32) then (
    lt (rm32 (hpI h r2 3) (7 : Int32)) fun v15 =>
    some v15
  ) else
  if x1 = (106 : Int32) then (
    lt (rm32 (hpI h r2 3) (7 : Int32)) fun v16 =>
    some v16
  ) else
  if x1 = (107 : Int32) then (
    lt (rm32 (hpI h r2 3) (7 : Int32)) fun v17 =>
    some v17
  ) else
  if x1 = (108 : Int32) then (
    lt (rm32 (hpI h r2 3) (7 : Int32)) fun v18 =>
    some v18
  ) else
  if x1 = (109 : Int32) then (
    lt (rm32 (hpI h r2 3) (7 : Int32)) fun v19 =>
    some v19
  ) else
  if x1 = (110 : Int32) then (
    lt (rm32 (hpI h r2 3) (7 : Int32)) fun v20 =>
    some v20
  ) else
  if x1 = (111 : Int32) then (
    some (hpI h r0 5)
  ) else
  if x1 = (112 : Int32) then (
    lt (rm32 (hpI h r2 3) (7 : Int32)) fun v21 =>
    some v21
  ) else
  if x1 = (113 : Int32) then (
    lt (rm32 (hpI h r2 3) (7 : Int32)) fun v22 =>
    some v22
  ) else
  if x1 = (114 : Int32) then (
    gd (nz (hpR h r2 5)) <|
    gd (inb x3 (hpT h (hpR h r2 5)).2) <|
    some (hpI h (hpR h r2 5) (ix x3))
  ) else
  if x1 = (115 : Int32) then (
    gd (nz (hpR h r2 9)) <|
    gd (inb x3 (hpT h (hpR h r2 9)).2) <|
    some (hpI h (hpR h r2 9) (ix x3))
  ) else
  if x1 = (116 : Int32) then (
    lt (rm32 (hpI h r2 3) (7 : Int32)) fun v29 =>
    some v29
  ) else
  if x1 = (117 : Int32) then (
    lt (rm32 (hpI h r2 3) (7 : Int32)) fun v30 =>
    some v30
  ) else
  if x1 = (118 : Int32) then (
    lt (rm32 (hpI h r2 3) (7 : Int32)) fun v31 =>
    some v31
  ) else
  if x1 = (119 : Int32) then (
    gd (nz (hpR h r2 8)) <|
    gd (inb x3 (hpT h (hpR h r2 8)).2) <|
    some (hpI h (hpR h r2 8) (ix x3))
  ) else
  lt (rm32 (hpI h r2 3) (7 : Int32)) fun v35 =>
  some v35

def f_X9_digitOf (h : Hp) (x0 : Int32) : Option Int32 :=
  lt (mn32 (9 : Int32) x0) fun v1 =>
  lt (mx32 (0 : Int32) v1) fun v2 =>
  some v2

def f_X4_loss_107 (r0 : Nat) (r1 : Nat) (x2 : Int32) (k7 : Hp → Int32 → Option (Int32 × Hp)) : Hp → Int32 → Option (Int32 × Hp) := fun h x3 =>
  lt (x3 + (1 : Int32)) fun v22 =>
  k7 h v22
def f_X4_loss_7 (r0 : Nat) (r1 : Nat) (x2 : Int32) (n : Nat) : Hp → Int32 → Option (Int32 × Hp) := match n with
  | 0 => fun _ _ => none
  | n + 1 => fun h x3 =>
    lt (f_X4_loss_7 r0 r1 x2 n) fun k7 =>
    if (hpI h r0 3) ≤ x3 then (
      (f_X4_pop h r0).bind fun q3 =>
      (f_X9_digitOf q3.2 q3.1).bind fun q4 =>
      some (q4, q3.2)
    ) else (
      gd (nz (hpR h r0 0)) <|
      gd (inb x3 (hpT h (hpR h r0 0)).2) <|
      lt (hpI h (hpR h r0 0) (ix x3)) fun v8 =>
      if v8 < 0 then (
        if v8 = (-126 : Int32) then (
          (f_X4_pop h r0).bind fun q19 =>
          (f_X4_push q19.2 r0 (-q19.1)).bind fun q20 =>
          f_X4_loss_107 r0 r1 x2 k7 q20 x3
        ) else (
          (f_X4_isOperator h (-v8)).bind fun q11 =>
          if q11 = 0 then (
            (f_X4_meaning h r0 (-v8) r1 x2).bind fun q13 =>
            (f_X4_push h r0 q13).bind fun q14 =>
            f_X4_loss_107 r0 r1 x2 k7 q14 x3
          ) else (
            (f_X4_pop h r0).bind fun q15 =>
            (f_X4_pop q15.2 r0).bind fun q16 =>
            (f_X4_joined q16.2 (-v8) q16.1 q15.1).bind fun q17 =>
            (f_X4_push q16.2 r0 q17).bind fun q18 =>
            f_X4_loss_107 r0 r1 x2 k7 q18 x3
          )
        )
      ) else (
        (f_X4_push h r0 v8).bind fun q21 =>
        f_X4_loss_107 r0 r1 x2 k7 q21 x3
      )
    )
def f_X4_loss (h : Hp) (r0 : Nat) (r1 : Nat) (x2 : Int32) : Option (Int32 × Hp) :=
  lt (upI h r0 4 (0 : Int32)) fun h1 =>
  f_X4_loss_7 r0 r1 x2 FU h1 (0 : Int32)

def f_X4_losses_47 (r0 : Nat) (r1 : Nat) (k2 : Hp → Int32 → Option (Nat × Hp)) : Hp → Int32 → Option (Nat × Hp) := fun h x2 =>
  lt (x2 + (1 : Int32)) fun v18 =>
  k2 h v18
def f_X4_losses_2 (r0 : Nat) (r1 : Nat) (n : Nat) : Hp → Int32 → Option (Nat × Hp) := match n with
  | 0 => fun _ _ => none
  | n + 1 => fun h x2 =>
    lt (f_X4_losses_2 r0 r1 n) fun k2 =>
    if (8 : Int32) ≤ x2 then (
      gd (nz (hpR h r0 2)) <|
      some ((hpR h r0 2), h)
    ) else (
      gd (nz (hpR h r0 2)) <|
      gd (inb x2 (hpT h (hpR h r0 2)).2) <|
      lt (upI h (hpR h r0 2) (ix x2) (0 : Int32)) fun h7 =>
      (f_X0_isOn h7 r1 x2).bind fun q8 =>
      if q8 = 0 then (
        f_X4_losses_47 r0 r1 k2 h7 x2
      ) else (
        (f_X0_crossedBy h7 r1 x2).bind fun q10 =>
        (f_J6_bitCount_0f7a4 h7 q10).bind fun q11 =>
        lt (upI h7 r0 5 q11) fun h12 =>
        gd (nz (hpR h12 r0 2)) <|
        (f_X4_loss h12 r0 r1 x2).bind fun q15 =>
        gd (inb x2 (hpT q15.2 (hpR h12 r0 2)).2) <|
        lt (upI q15.2 (hpR h12 r0 2) (ix x2) q15.1) fun h17 =>
        f_X4_losses_47 r0 r1 k2 h17 x2
      )
    )
def f_X4_losses (h : Hp) (r0 : Nat) (r1 : Nat) : Option (Nat × Hp) :=
  f_X4_losses_2 r0 r1 FU h (0 : Int32)

def f_X0_slide_74 (r0 : Nat) (x1 : Int32) : Hp → Nat → Int32 → Int32 → Option Hp := fun h s0 s1 s2 =>
  gd (inb s1 (hpT h s0).2) <|
  lt (upI h s0 (ix s1) s2) fun h26 =>
  some h26
def f_X0_slide_52 (r0 : Nat) (x1 : Int32) : Hp → Int32 → Option Hp := fun h s0 =>
  gd (nz (hpR h r0 6)) <|
  if s0 = 0 then (
    f_X0_slide_74 r0 x1 h (hpR h r0 6) x1 (0 : Int32)
  ) else (
    gd (inb x1 (hpT h (hpR h r0 6)).2) <|
    f_X0_slide_74 r0 x1 h (hpR h r0 6) x1 ((hpI h (hpR h r0 6) (ix x1)) + (1 : Int32))
  )
def f_X0_slide (h : Hp) (r0 : Nat) (x1 : Int32) : Option Hp :=
  gd (nz (hpR h r0 10)) <|
  gd (inb x1 (hpT h (hpR h r0 10)).2) <|
  if (hpI h (hpR h r0 10) (ix x1)) ≤ 0 then (
    some h
  ) else (
    gd (nz (hpR h r0 11)) <|
    gd (inb x1 (hpT h (hpR h r0 11)).2) <|
    gd (inb x1 (hpT h (hpR h r0 10)).2) <|
    gd (nz32 (hpI h (hpR h r0 10) (ix x1))) <|
    lt (rm32 (hpI h (hpR h r0 11) (ix x1)) (hpI h (hpR h r0 10) (ix x1))) fun v11 =>
    if v11 = 0 then (
      gd (nz (hpR h r0 6)) <|
      gd (inb x1 (hpT h (hpR h r0 6)).2) <|
      gd (nz (hpR h r0 8)) <|
      gd (inb x1 (hpT h (hpR h r0 8)).2) <|
      f_X0_slide_52 r0 x1 h (if (hpI h r0 1) < (((hpI h (hpR h r0 6) (ix x1)) + (1 : Int32)) + (hpI h (hpR h r0 8) (ix x1))) then (0 : Int32) else (1 : Int32))
    ) else (
      some h
    )
  )

def f_X0_goBy_93 (r0 : Nat) (r1 : Nat) (k11 : Hp → Nat → Int32 → Int32 → Option (Int32 × Hp)) : Hp → Nat → Int32 → Int32 → Option (Int32 × Hp) := fun h r2 x3 x4 =>
  lt (x4 + (1 : Int32)) fun v30 =>
  k11 h r2 x3 v30
def f_X0_goBy_66 (r0 : Nat) (r1 : Nat) (k11 : Hp → Nat → Int32 → Int32 → Option (Int32 × Hp)) : Hp → Nat → Int32 → Int32 → Option (Int32 × Hp) := fun h r2 x3 x4 =>
  gd (nz (hpR h r0 11)) <|
  gd (inb x4 (hpT h (hpR h r0 11)).2) <|
  lt (mn32 (99 : Int32) ((hpI h (hpR h r0 11) (ix x4)) + (1 : Int32))) fun v26 =>
  gd (inb x4 (hpT h (hpR h r0 11)).2) <|
  lt (upI h (hpR h r0 11) (ix x4) v26) fun h28 =>
  (f_X0_slide h28 r0 x4).bind fun q29 =>
  f_X0_goBy_93 r0 r1 k11 q29 r2 x3 x4
def f_X0_goBy_11 (r0 : Nat) (r1 : Nat) (n : Nat) : Hp → Nat → Int32 → Int32 → Option (Int32 × Hp) := match n with
  | 0 => fun _ _ _ _ => none
  | n + 1 => fun h r2 x3 x4 =>
    lt (f_X0_goBy_11 r0 r1 n) fun k11 =>
    if (hpI h r0 2) ≤ x4 then (
      lt (mn32 (999 : Int32) ((hpI h r0 4) + x3)) fun v3 =>
      lt (upI h r0 4 v3) fun h4 =>
      lt (upI h4 r0 3 ((hpI h4 r0 3) + (1 : Int32))) fun h5 =>
      some (x3, h5)
    ) else (
      gd (nz (hpR h r0 9)) <|
      gd (inb x4 (hpT h (hpR h r0 9)).2) <|
      if (hpI h (hpR h r0 9) (ix x4)) ≤ 0 then (
        f_X0_goBy_93 r0 r1 k11 h r2 x3 x4
      ) else (
        gd (inb x4 (hpT h (hpR h r0 9)).2) <|
        gd (inb x4 (hpT h r2).2) <|
        lt (mx32 (0 : Int32) ((hpI h (hpR h r0 9) (ix x4)) - (hpI h r2 (ix x4)))) fun v14 =>
        gd (inb x4 (hpT h (hpR h r0 9)).2) <|
        lt (upI h (hpR h r0 9) (ix x4) v14) fun h16 =>
        gd (nz (hpR h16 r0 9)) <|
        gd (inb x4 (hpT h16 (hpR h16 r0 9)).2) <|
        if (hpI h16 (hpR h16 r0 9) (ix x4)) = 0 then (
          lt (x3 + (1 : Int32)) fun v21 =>
          f_X0_goBy_66 r0 r1 k11 h16 r2 v21 x4
        ) else (
          f_X0_goBy_66 r0 r1 k11 h16 r2 x3 x4
        )
      )
    )
def f_X0_goBy (h : Hp) (r0 : Nat) (r1 : Nat) : Option (Int32 × Hp) :=
  (f_X4_losses h r1 r0).bind fun q1 =>
  f_X0_goBy_11 r0 r1 FU q1.2 q1.1 (0 : Int32) (0 : Int32)

def f_X0_goByTimes_5 (r0 : Nat) (r1 : Nat) (x2 : Int32) (n : Nat) : Hp → Int32 → Int32 → Option (Int32 × Hp) := match n with
  | 0 => fun _ _ _ => none
  | n + 1 => fun h x3 x4 =>
    lt (f_X0_goByTimes_5 r0 r1 x2 n) fun k5 =>
    if x2 ≤ x4 then (
      some (x3, h)
    ) else (
      (f_X0_goBy h r0 r1).bind fun q2 =>
      lt (x3 + q2.1) fun v3 =>
      lt (x4 + (1 : Int32)) fun v4 =>
      k5 q2.2 v3 v4
    )
def f_X0_goByTimes (h : Hp) (r0 : Nat) (r1 : Nat) (x2 : Int32) : Option (Int32 × Hp) :=
  f_X0_goByTimes_5 r0 r1 x2 FU h (0 : Int32) (0 : Int32)

def f_X9_areSides (h : Hp) (x0 : Int32) (x1 : Int32) : Option Int32 :=
  if x0 < (1 : Int32) then (
    some (0 : Int32)
  ) else (
    if (3 : Int32) < x0 then (
      some (0 : Int32)
    ) else (
      if x1 < (1 : Int32) then (
        some (0 : Int32)
      ) else (
        if (3 : Int32) < x1 then (
          some (0 : Int32)
        ) else (
          some (1 : Int32)
        )
      )
    )
  )

def f_X0_pitchOn (h : Hp) (r0 : Nat) (x1 : Int32) (x2 : Int32) (x3 : Int32) (x4 : Int32) (x5 : Int32) : Option (Int32 × Hp) :=
  (f_X0_hasCell h r0 x1).bind fun q1 =>
  if q1 = 0 then (
    some ((-1 : Int32), h)
  ) else (
    (f_X9_areSides h x2 x3).bind fun q3 =>
    if q3 = 0 then (
      some ((-1 : Int32), h)
    ) else (
      if x4 < (1 : Int32) then (
        some ((-1 : Int32), h)
      ) else (
        if (9 : Int32) < x4 then (
          some ((-1 : Int32), h)
        ) else (
          if x5 < 0 then (
            some ((-1 : Int32), h)
          ) else (
            if x5 ≤ (9 : Int32) then (
              (f_X0_holds h r0 x1 x2 x3).bind fun q9 =>
              if q9 = 0 then (
                some ((-2 : Int32), h)
              ) else (
                if (hpI h r0 2) < (8 : Int32) then (
                  (f_X0_onUnder h r0 x1 x2 x3).bind fun q12 =>
                  if q12 = 0 then (
                    gd (nz (hpR h r0 5)) <|
                    (f_X0_rowOf h r0 x1).bind fun q16 =>
                    gd (inb (hpI h r0 2) (hpT h (hpR h r0 5)).2) <|
                    lt (upI h (hpR h r0 5) (ix (hpI h r0 2)) q16) fun h18 =>
                    gd (nz (hpR h18 r0 6)) <|
                    (f_X0_columnOf h18 r0 x1).bind fun q21 =>
                    gd (inb (hpI h18 r0 2) (hpT h18 (hpR h18 r0 6)).2) <|
                    lt (upI h18 (hpR h18 r0 6) (ix (hpI h18 r0 2)) q21) fun h23 =>
                    gd (nz (hpR h23 r0 7)) <|
                    gd (inb (hpI h23 r0 2) (hpT h23 (hpR h23 r0 7)).2) <|
                    lt (upI h23 (hpR h23 r0 7) (ix (hpI h23 r0 2)) x2) fun h27 =>
                    gd (nz (hpR h27 r0 8)) <|
                    gd (inb (hpI h27 r0 2) (hpT h27 (hpR h27 r0 8)).2) <|
                    lt (upI h27 (hpR h27 r0 8) (ix (hpI h27 r0 2)) x3) fun h31 =>
                    gd (nz (hpR h31 r0 9)) <|
                    gd (inb (hpI h31 r0 2) (hpT h31 (hpR h31 r0 9)).2) <|
                    lt (upI h31 (hpR h31 r0 9) (ix (hpI h31 r0 2)) x4) fun h35 =>
                    gd (nz (hpR h35 r0 10)) <|
                    gd (inb (hpI h35 r0 2) (hpT h35 (hpR h35 r0 10)).2) <|
                    lt (upI h35 (hpR h35 r0 10) (ix (hpI h35 r0 2)) x5) fun h39 =>
                    gd (nz (hpR h39 r0 11)) <|
                    gd (inb (hpI h39 r0 2) (hpT h39 (hpR h39 r0 11)).2) <|
                    lt (upI h39 (hpR h39 r0 11) (ix (hpI h39 r0 2)) (0 : Int32)) fun h43 =>
                    lt (upI h43 r0 2 ((hpI h43 r0 2) + (1 : Int32))) fun h44 =>
                    some (((hpI h44 r0 2) - (1 : Int32)), h44)
                  ) else (
                    some ((-4 : Int32), h)
                  )
                ) else (
                  some ((-3 : Int32), h)
                )
              )
            ) else (
              some ((-1 : Int32), h)
            )
          )
        )
      )
    )
  )

def f_X0_treadOn (h : Hp) (r0 : Nat) (x1 : Int32) (x2 : Int32) : Option (Int32 × Hp) :=
  (f_X0_has h r0 x1).bind fun q1 =>
  if q1 = 0 then (
    some ((-1 : Int32), h)
  ) else (
    if x2 < (1 : Int32) then (
      some ((-1 : Int32), h)
    ) else (
      if x2 ≤ (9 : Int32) then (
        (f_X0_isOn h r0 x1).bind fun q5 =>
        if q5 = 0 then (
          some ((-2 : Int32), h)
        ) else (
          gd (nz (hpR h r0 9)) <|
          gd (inb x1 (hpT h (hpR h r0 9)).2) <|
          lt (mx32 (0 : Int32) ((hpI h (hpR h r0 9) (ix x1)) - x2)) fun v11 =>
          gd (inb x1 (hpT h (hpR h r0 9)).2) <|
          lt (upI h (hpR h r0 9) (ix x1) v11) fun h13 =>
          gd (nz (hpR h13 r0 9)) <|
          gd (inb x1 (hpT h13 (hpR h13 r0 9)).2) <|
          some ((hpI h13 (hpR h13 r0 9) (ix x1)), h13)
        )
      ) else (
        some ((-1 : Int32), h)
      )
    )
  )

def f_X0_singTo (h : Hp) (r0 : Nat) (x1 : Int32) (x2 : Int32) : Option (Int32 × Hp) :=
  (f_X0_has h r0 x1).bind fun q1 =>
  if q1 = 0 then (
    some ((-1 : Int32), h)
  ) else (
    if x2 < (1 : Int32) then (
      some ((-1 : Int32), h)
    ) else (
      if x2 ≤ (9 : Int32) then (
        gd (nz (hpR h r0 9)) <|
        gd (inb x1 (hpT h (hpR h r0 9)).2) <|
        lt (mn32 (9 : Int32) ((hpI h (hpR h r0 9) (ix x1)) + x2)) fun v9 =>
        gd (inb x1 (hpT h (hpR h r0 9)).2) <|
        lt (upI h (hpR h r0 9) (ix x1) v9) fun h11 =>
        gd (nz (hpR h11 r0 9)) <|
        gd (inb x1 (hpT h11 (hpR h11 r0 9)).2) <|
        some ((hpI h11 (hpR h11 r0 9) (ix x1)), h11)
      ) else (
        some ((-1 : Int32), h)
      )
    )
  )

def f_X0_move_70 (r0 : Nat) (x1 : Int32) (x2 : Int32) : Hp → Int32 → Int32 → Int32 → Option (Int32 × Hp) := fun h s0 s1 x3 =>
  lt (s0 + s1) fun v16 =>
  (f_X0_cellAt h r0 x3 v16).bind fun q17 =>
  gd (nz (hpR h r0 7)) <|
  gd (inb x1 (hpT h (hpR h r0 7)).2) <|
  gd (nz (hpR h r0 8)) <|
  gd (inb x1 (hpT h (hpR h r0 8)).2) <|
  (f_X0_holds h r0 q17 (hpI h (hpR h r0 7) (ix x1)) (hpI h (hpR h r0 8) (ix x1))).bind fun q24 =>
  if q24 = 0 then (
    some ((-2 : Int32), h)
  ) else (
    gd (nz (hpR h r0 5)) <|
    gd (inb x1 (hpT h (hpR h r0 5)).2) <|
    lt (upI h (hpR h r0 5) (ix x1) x3) fun h29 =>
    gd (nz (hpR h29 r0 6)) <|
    gd (inb x1 (hpT h29 (hpR h29 r0 6)).2) <|
    lt (upI h29 (hpR h29 r0 6) (ix x1) v16) fun h33 =>
    (f_X0_firstCell h33 r0 x1).bind fun q34 =>
    some (q34, h33)
  )
def f_X0_move_43 (r0 : Nat) (x1 : Int32) (x2 : Int32) : Hp → Int32 → Int32 → Option (Int32 × Hp) := fun h s0 s1 =>
  lt (s0 + s1) fun v10 =>
  gd (nz (hpR h r0 6)) <|
  gd (inb x1 (hpT h (hpR h r0 6)).2) <|
  f_X0_move_70 r0 x1 x2 h (hpI h (hpR h r0 6) (ix x1)) (if x2 = (1 : Int32) then (1 : Int32) else (if x2 = (3 : Int32) then (-1 : Int32) else (0 : Int32))) v10
def f_X0_move (h : Hp) (r0 : Nat) (x1 : Int32) (x2 : Int32) : Option (Int32 × Hp) :=
  (f_X0_has h r0 x1).bind fun q1 =>
  if q1 = 0 then (
    some ((-1 : Int32), h)
  ) else (
    if x2 < 0 then (
      some ((-1 : Int32), h)
    ) else (
      if x2 ≤ (3 : Int32) then (
        gd (nz (hpR h r0 5)) <|
        gd (inb x1 (hpT h (hpR h r0 5)).2) <|
        f_X0_move_43 r0 x1 x2 h (hpI h (hpR h r0 5) (ix x1)) (if x2 = (2 : Int32) then (1 : Int32) else (if x2 = 0 then (-1 : Int32) else (0 : Int32)))
      ) else (
        some ((-1 : Int32), h)
      )
    )
  )

def f_X0_weaken_6 (r0 : Nat) (x1 : Int32) (n : Nat) : Hp → Int32 → Option Hp := match n with
  | 0 => fun _ _ => none
  | n + 1 => fun h x2 =>
    lt (f_X0_weaken_6 r0 x1 n) fun k6 =>
    if (hpI h r0 2) ≤ x2 then (
      some h
    ) else (
      gd (nz (hpR h r0 9)) <|
      gd (inb x2 (hpT h (hpR h r0 9)).2) <|
      lt (upI h (hpR h r0 9) (ix x2) (0 : Int32)) fun h6 =>
      lt (x2 + (1 : Int32)) fun v7 =>
      k6 h6 v7
    )
def f_X0_weaken (h : Hp) (r0 : Nat) (x1 : Int32) : Option Hp :=
  lt (mx32 (0 : Int32) x1) fun v1 =>
  f_X0_weaken_6 r0 x1 FU h v1

def f_X6_get (h : Hp) (r0 : Nat) (x1 : Int32) : Option Int32 :=
  if x1 < 0 then (
    some (-1 : Int32)
  ) else (
    if (hpI h r0 1) ≤ x1 then (
      some (-1 : Int32)
    ) else (
      gd (nz (hpR h r0 0)) <|
      gd (inb x1 (hpT h (hpR h r0 0)).2) <|
      some (hpI h (hpR h r0 0) (ix x1))
    )
  )

def f_X6_digit_14 (h : Hp) (r0 : Nat) (x1 : Int32) (x2 : Int32) : Int32 → Option Int32 := fun s0 =>
  if s0 < (48 : Int32) then (
    some (-1 : Int32)
  ) else (
    if (57 : Int32) < s0 then (
      some (-1 : Int32)
    ) else (
      some (s0 - (48 : Int32))
    )
  )
def f_X6_digit (h : Hp) (r0 : Nat) (x1 : Int32) (x2 : Int32) : Option Int32 :=
  if x2 ≤ x1 then (
    f_X6_digit_14 h r0 x1 x2 (-1 : Int32)
  ) else (
    (f_X6_get h r0 x1).bind fun q2 =>
    f_X6_digit_14 h r0 x1 x2 q2
  )

def f_X0_takeDigit (h : Hp) (r0 : Nat) (x1 : Int32) (x2 : Int32) : Option (Int32 × Hp) :=
  if (hpI h r0 2) < (8 : Int32) then (
    if x1 = (0 : Int32) then (
      gd (nz (hpR h r0 5)) <|
      gd (inb (hpI h r0 2) (hpT h (hpR h r0 5)).2) <|
      lt (upI h (hpR h r0 5) (ix (hpI h r0 2)) x2) fun h5 =>
      if (hpI h5 r0 0) ≤ x2 then (
        some ((0 : Int32), h5)
      ) else (
        some ((1 : Int32), h5)
      )
    ) else
    if x1 = (1 : Int32) then (
      gd (nz (hpR h r0 6)) <|
      gd (inb (hpI h r0 2) (hpT h (hpR h r0 6)).2) <|
      lt (upI h (hpR h r0 6) (ix (hpI h r0 2)) x2) fun h10 =>
      if (hpI h10 r0 1) ≤ x2 then (
        some ((0 : Int32), h10)
      ) else (
        some ((1 : Int32), h10)
      )
    ) else
    if x1 = (2 : Int32) then (
      gd (nz (hpR h r0 7)) <|
      gd (inb (hpI h r0 2) (hpT h (hpR h r0 7)).2) <|
      lt (upI h (hpR h r0 7) (ix (hpI h r0 2)) x2) fun h15 =>
      if x2 < (1 : Int32) then (
        some ((0 : Int32), h15)
      ) else (
        if (3 : Int32) < x2 then (
          some ((0 : Int32), h15)
        ) else (
          gd (nz (hpR h15 r0 5)) <|
          gd (inb (hpI h15 r0 2) (hpT h15 (hpR h15 r0 5)).2) <|
          if (hpI h15 r0 0) < ((hpI h15 (hpR h15 r0 5) (ix (hpI h15 r0 2))) + x2) then (
            some ((0 : Int32), h15)
          ) else (
            some ((1 : Int32), h15)
          )
        )
      )
    ) else
    if x1 = (3 : Int32) then (
      gd (nz (hpR h r0 8)) <|
      gd (inb (hpI h r0 2) (hpT h (hpR h r0 8)).2) <|
      lt (upI h (hpR h r0 8) (ix (hpI h r0 2)) x2) fun h25 =>
      if x2 < (1 : Int32) then (
        some ((0 : Int32), h25)
      ) else (
        if (3 : Int32) < x2 then (
          some ((0 : Int32), h25)
        ) else (
          gd (nz (hpR h25 r0 6)) <|
          gd (inb (hpI h25 r0 2) (hpT h25 (hpR h25 r0 6)).2) <|
          if (hpI h25 r0 1) < ((hpI h25 (hpR h25 r0 6) (ix (hpI h25 r0 2))) + x2) then (
            some ((0 : Int32), h25)
          ) else (
            some ((1 : Int32), h25)
          )
        )
      )
    ) else
    if x1 = (4 : Int32) then (
      gd (nz (hpR h r0 9)) <|
      gd (inb (hpI h r0 2) (hpT h (hpR h r0 9)).2) <|
      lt (upI h (hpR h r0 9) (ix (hpI h r0 2)) x2) fun h35 =>
      if x2 < (1 : Int32) then (
        some ((0 : Int32), h35)
      ) else (
        some ((1 : Int32), h35)
      )
    ) else
    gd (nz (hpR h r0 10)) <|
    gd (inb (hpI h r0 2) (hpT h (hpR h r0 10)).2) <|
    lt (upI h (hpR h r0 10) (ix (hpI h r0 2)) x2) fun h40 =>
    some ((1 : Int32), h40)
  ) else (
    some ((0 : Int32), h)
  )

def f_X0_readLine_49 (r0 : Nat) (r1 : Nat) (x2 : Int32) (x3 : Int32) : Hp → Int32 → Option (Int32 × Hp) := fun h x4 =>
  some ((x2 + x4), h)
def f_X0_readLine_14 (r0 : Nat) (r1 : Nat) (x2 : Int32) (x3 : Int32) (n : Nat) : Hp → Int32 → Option (Int32 × Hp) := match n with
  | 0 => fun _ _ => none
  | n + 1 => fun h x4 =>
    lt (f_X0_readLine_14 r0 r1 x2 x3 n) fun k14 =>
    if (6 : Int32) ≤ x4 then (
      gd (nz (hpR h r0 11)) <|
      gd (inb (hpI h r0 2) (hpT h (hpR h r0 11)).2) <|
      lt (upI h (hpR h r0 11) (ix (hpI h r0 2)) (0 : Int32)) fun h6 =>
      lt (upI h6 r0 2 ((hpI h6 r0 2) + (1 : Int32))) fun h7 =>
      some ((-1 : Int32), h7)
    ) else (
      (f_X6_digit h r1 (x2 + x4) x3).bind fun q8 =>
      if q8 = (-1 : Int32) then (
        f_X0_readLine_49 r0 r1 x2 x3 h x4
      ) else (
        (f_X0_takeDigit h r0 x4 q8).bind fun q10 =>
        if q10.1 = 0 then (
          f_X0_readLine_49 r0 r1 x2 x3 q10.2 x4
        ) else (
          lt (x4 + (1 : Int32)) fun v12 =>
          k14 q10.2 v12
        )
      )
    )
def f_X0_readLine (h : Hp) (r0 : Nat) (r1 : Nat) (x2 : Int32) (x3 : Int32) : Option (Int32 × Hp) :=
  if (hpI h r0 2) < (8 : Int32) then (
    f_X0_readLine_14 r0 r1 x2 x3 FU h (0 : Int32)
  ) else (
    some (x2, h)
  )

def f_X1_init (h : Hp) (r0 : Nat) (x1 : Int32) : Option Hp :=
  lt (upI h r0 0 x1) fun h1 =>
  some h1

def f_X1_of (h : Hp) (r0 : Nat) (x1 : Int32) : Option (Int32 × Hp) :=
  lt (upI h r0 0 (((hpI h r0 0) * (1103515245 : Int32)) + (12345 : Int32))) fun h1 =>
  if x1 ≤ 0 then (
    some ((0 : Int32), h1)
  ) else (
    lt (ush32 (hpI h1 r0 0) (16 : Int32)) fun v3 =>
    gd (nz32 x1) <|
    lt (rm32 v3 x1) fun v5 =>
    some (v5, h1)
  )

def f_X2_init_10 (h : Hp) (r0 : Nat) : Option Hp :=
  lt (hpN h + 1) fun a1 =>
  lt (hpNew h (2, ix (10 : Int32))) fun h2 =>
  lt (upR h2 r0 0 a1) fun h3 =>
  lt (hpN h3 + 1) fun a4 =>
  lt (hpNew h3 (2, ix (10 : Int32))) fun h5 =>
  lt (upR h5 r0 1 a4) fun h6 =>
  lt (hpN h6 + 1) fun a7 =>
  lt (hpNew h6 (2, ix (10 : Int32))) fun h8 =>
  lt (upR h8 r0 2 a7) fun h9 =>
  some h9

def f_X2_init_12 (h : Hp) (r0 : Nat) : Option Hp :=
  lt (hpN h + 1) fun a1 =>
  lt (hpNew h (2, ix (12 : Int32))) fun h2 =>
  lt (upR h2 r0 0 a1) fun h3 =>
  lt (hpN h3 + 1) fun a4 =>
  lt (hpNew h3 (2, ix (12 : Int32))) fun h5 =>
  lt (upR h5 r0 1 a4) fun h6 =>
  lt (hpN h6 + 1) fun a7 =>
  lt (hpNew h6 (2, ix (12 : Int32))) fun h8 =>
  lt (upR h8 r0 2 a7) fun h9 =>
  some h9

def f_X2_isFull (h : Hp) (r0 : Nat) : Option Int32 :=
  gd (nz (hpR h r0 0)) <|
  if (hpI h r0 3) < (nI (hpT h (hpR h r0 0)).2) then (
    some (0 : Int32)
  ) else (
    some (1 : Int32)
  )

def f_X2_add (h : Hp) (r0 : Nat) (x1 : Int32) (x2 : Int32) (x3 : Int32) : Option Hp :=
  (f_X2_isFull h r0).bind fun q1 =>
  if q1 = 0 then (
    gd (nz (hpR h r0 0)) <|
    gd (inb (hpI h r0 3) (hpT h (hpR h r0 0)).2) <|
    lt (upI h (hpR h r0 0) (ix (hpI h r0 3)) x1) fun h6 =>
    gd (nz (hpR h6 r0 1)) <|
    gd (inb (hpI h6 r0 3) (hpT h6 (hpR h6 r0 1)).2) <|
    lt (upI h6 (hpR h6 r0 1) (ix (hpI h6 r0 3)) x2) fun h10 =>
    gd (nz (hpR h10 r0 2)) <|
    gd (inb (hpI h10 r0 3) (hpT h10 (hpR h10 r0 2)).2) <|
    lt (upI h10 (hpR h10 r0 2) (ix (hpI h10 r0 3)) x3) fun h14 =>
    lt (upI h14 r0 3 ((hpI h14 r0 3) + (1 : Int32))) fun h15 =>
    some h15
  ) else (
    some h
  )

def f_X2_wipe (h : Hp) (r0 : Nat) : Option (Int32 × Hp) :=
  lt (hpI h r0 3) fun v1 =>
  lt (upI h r0 3 (0 : Int32)) fun h2 =>
  some (v1, h2)

def f_X3_init (h : Hp) (r0 : Nat) : Option Hp :=
  lt (hpN h + 1) fun a1 =>
  lt (hpNew h (5, ix (15 : Int32))) fun h2 =>
  lt (upR h2 r0 0 a1) fun h3 =>
  gd (nz (hpR h3 r0 0)) <|
  lt (hpN h3 + 1) fun a6 =>
  lt (hpNew h3 (1, 0)) fun h7 =>
  (f_X0_init h7 a6).bind fun q8 =>
  gd (inb (0 : Int32) (hpT q8 (hpR h3 r0 0)).2) <|
  lt (upR q8 (hpR h3 r0 0) (ix (0 : Int32)) a6) fun h10 =>
  gd (nz (hpR h10 r0 0)) <|
  lt (hpN h10 + 1) fun a13 =>
  lt (hpNew h10 (1, 0)) fun h14 =>
  (f_X0_init h14 a13).bind fun q15 =>
  gd (inb (1 : Int32) (hpT q15 (hpR h10 r0 0)).2) <|
  lt (upR q15 (hpR h10 r0 0) (ix (1 : Int32)) a13) fun h17 =>
  gd (nz (hpR h17 r0 0)) <|
  lt (hpN h17 + 1) fun a20 =>
  lt (hpNew h17 (1, 0)) fun h21 =>
  (f_X0_init h21 a20).bind fun q22 =>
  gd (inb (2 : Int32) (hpT q22 (hpR h17 r0 0)).2) <|
  lt (upR q22 (hpR h17 r0 0) (ix (2 : Int32)) a20) fun h24 =>
  gd (nz (hpR h24 r0 0)) <|
  lt (hpN h24 + 1) fun a27 =>
  lt (hpNew h24 (1, 0)) fun h28 =>
  (f_X0_init h28 a27).bind fun q29 =>
  gd (inb (3 : Int32) (hpT q29 (hpR h24 r0 0)).2) <|
  lt (upR q29 (hpR h24 r0 0) (ix (3 : Int32)) a27) fun h31 =>
  gd (nz (hpR h31 r0 0)) <|
  lt (hpN h31 + 1) fun a34 =>
  lt (hpNew h31 (1, 0)) fun h35 =>
  (f_X0_init h35 a34).bind fun q36 =>
  gd (inb (4 : Int32) (hpT q36 (hpR h31 r0 0)).2) <|
  lt (upR q36 (hpR h31 r0 0) (ix (4 : Int32)) a34) fun h38 =>
  gd (nz (hpR h38 r0 0)) <|
  lt (hpN h38 + 1) fun a41 =>
  lt (hpNew h38 (1, 0)) fun h42 =>
  (f_X0_init h42 a41).bind fun q43 =>
  gd (inb (5 : Int32) (hpT q43 (hpR h38 r0 0)).2) <|
  lt (upR q43 (hpR h38 r0 0) (ix (5 : Int32)) a41) fun h45 =>
  gd (nz (hpR h45 r0 0)) <|
  lt (hpN h45 + 1) fun a48 =>
  lt (hpNew h45 (1, 0)) fun h49 =>
  (f_X0_init h49 a48).bind fun q50 =>
  gd (inb (6 : Int32) (hpT q50 (hpR h45 r0 0)).2) <|
  lt (upR q50 (hpR h45 r0 0) (ix (6 : Int32)) a48) fun h52 =>
  gd (nz (hpR h52 r0 0)) <|
  lt (hpN h52 + 1) fun a55 =>
  lt (hpNew h52 (1, 0)) fun h56 =>
  (f_X0_init h56 a55).bind fun q57 =>
  gd (inb (7 : Int32) (hpT q57 (hpR h52 r0 0)).2) <|
  lt (upR q57 (hpR h52 r0 0) (ix (7 : Int32)) a55) fun h59 =>
  gd (nz (hpR h59 r0 0)) <|
  lt (hpN h59 + 1) fun a62 =>
  lt (hpNew h59 (1, 0)) fun h63 =>
  (f_X0_init h63 a62).bind fun q64 =>
  gd (inb (8 : Int32) (hpT q64 (hpR h59 r0 0)).2) <|
  lt (upR q64 (hpR h59 r0 0) (ix (8 : Int32)) a62) fun h66 =>
  gd (nz (hpR h66 r0 0)) <|
  lt (hpN h66 + 1) fun a69 =>
  lt (hpNew h66 (1, 0)) fun h70 =>
  (f_X0_init h70 a69).bind fun q71 =>
  gd (inb (9 : Int32) (hpT q71 (hpR h66 r0 0)).2) <|
  lt (upR q71 (hpR h66 r0 0) (ix (9 : Int32)) a69) fun h73 =>
  gd (nz (hpR h73 r0 0)) <|
  lt (hpN h73 + 1) fun a76 =>
  lt (hpNew h73 (1, 0)) fun h77 =>
  (f_X0_init h77 a76).bind fun q78 =>
  gd (inb (10 : Int32) (hpT q78 (hpR h73 r0 0)).2) <|
  lt (upR q78 (hpR h73 r0 0) (ix (10 : Int32)) a76) fun h80 =>
  gd (nz (hpR h80 r0 0)) <|
  lt (hpN h80 + 1) fun a83 =>
  lt (hpNew h80 (1, 0)) fun h84 =>
  (f_X0_init h84 a83).bind fun q85 =>
  gd (inb (11 : Int32) (hpT q85 (hpR h80 r0 0)).2) <|
  lt (upR q85 (hpR h80 r0 0) (ix (11 : Int32)) a83) fun h87 =>
  gd (nz (hpR h87 r0 0)) <|
  lt (hpN h87 + 1) fun a90 =>
  lt (hpNew h87 (1, 0)) fun h91 =>
  (f_X0_init h91 a90).bind fun q92 =>
  gd (inb (12 : Int32) (hpT q92 (hpR h87 r0 0)).2) <|
  lt (upR q92 (hpR h87 r0 0) (ix (12 : Int32)) a90) fun h94 =>
  gd (nz (hpR h94 r0 0)) <|
  lt (hpN h94 + 1) fun a97 =>
  lt (hpNew h94 (1, 0)) fun h98 =>
  (f_X0_init h98 a97).bind fun q99 =>
  gd (inb (13 : Int32) (hpT q99 (hpR h94 r0 0)).2) <|
  lt (upR q99 (hpR h94 r0 0) (ix (13 : Int32)) a97) fun h101 =>
  gd (nz (hpR h101 r0 0)) <|
  lt (hpN h101 + 1) fun a104 =>
  lt (hpNew h101 (1, 0)) fun h105 =>
  (f_X0_init h105 a104).bind fun q106 =>
  gd (inb (14 : Int32) (hpT q106 (hpR h101 r0 0)).2) <|
  lt (upR q106 (hpR h101 r0 0) (ix (14 : Int32)) a104) fun h108 =>
  some h108

def f_X3_wipe (h : Hp) (r0 : Nat) : Option Hp :=
  lt (upI h r0 1 (0 : Int32)) fun h1 =>
  lt (upI h1 r0 2 (0 : Int32)) fun h2 =>
  some h2

def f_X3_push_32 (r0 : Nat) (r1 : Nat) : Hp → Option Hp := fun h =>
  gd (nz (hpR h r0 0)) <|
  lt (rm32 ((hpI h r0 1) + (hpI h r0 2)) (15 : Int32)) fun v7 =>
  gd (inb v7 (hpT h (hpR h r0 0)).2) <|
  gd (nz (hpR h (hpR h r0 0) (ix v7))) <|
  (f_X0_copy h (hpR h (hpR h r0 0) (ix v7)) r1).bind fun q10 =>
  lt (upI q10 r0 2 ((hpI q10 r0 2) + (1 : Int32))) fun h11 =>
  some h11
def f_X3_push (h : Hp) (r0 : Nat) (r1 : Nat) : Option Hp :=
  if (hpI h r0 2) = (15 : Int32) then (
    lt (rm32 ((hpI h r0 1) + (1 : Int32)) (15 : Int32)) fun v2 =>
    lt (upI h r0 1 v2) fun h3 =>
    lt (upI h3 r0 2 ((hpI h3 r0 2) - (1 : Int32))) fun h4 =>
    f_X3_push_32 r0 r1 h4
  ) else (
    f_X3_push_32 r0 r1 h
  )

def f_X3_pop (h : Hp) (r0 : Nat) (r1 : Nat) : Option Hp :=
  if (hpI h r0 2) ≤ 0 then (
    some h
  ) else (
    lt (upI h r0 2 ((hpI h r0 2) - (1 : Int32))) fun h2 =>
    gd (nz (hpR h2 r0 0)) <|
    lt (rm32 ((hpI h2 r0 1) + (hpI h2 r0 2)) (15 : Int32)) fun v5 =>
    gd (inb v5 (hpT h2 (hpR h2 r0 0)).2) <|
    gd (nz (hpR h2 (hpR h2 r0 0) (ix v5))) <|
    (f_X0_copy h2 r1 (hpR h2 (hpR h2 r0 0) (ix v5))).bind fun q8 =>
    some q8
  )

def f_X4_init (h : Hp) (r0 : Nat) : Option Hp :=
  lt (hpN h + 1) fun a1 =>
  lt (hpNew h (2, ix (40 : Int32))) fun h2 =>
  lt (upR h2 r0 0 a1) fun h3 =>
  lt (hpN h3 + 1) fun a4 =>
  lt (hpNew h3 (2, ix (40 : Int32))) fun h5 =>
  lt (upR h5 r0 1 a4) fun h6 =>
  lt (hpN h6 + 1) fun a7 =>
  lt (hpNew h6 (2, ix (8 : Int32))) fun h8 =>
  lt (upR h8 r0 2 a7) fun h9 =>
  some h9

def f_X4_start (h : Hp) (r0 : Nat) : Option Hp :=
  lt (upI h r0 3 (0 : Int32)) fun h1 =>
  some h1

def f_X4_addNumber (h : Hp) (r0 : Nat) (x1 : Int32) : Option Hp :=
  gd (nz (hpR h r0 0)) <|
  if (nI (hpT h (hpR h r0 0)).2) ≤ (hpI h r0 3) then (
    some h
  ) else (
    gd (inb (hpI h r0 3) (hpT h (hpR h r0 0)).2) <|
    lt (upI h (hpR h r0 0) (ix (hpI h r0 3)) x1) fun h6 =>
    lt (upI h6 r0 3 ((hpI h6 r0 3) + (1 : Int32))) fun h7 =>
    some h7
  )

def f_X4_addSign (h : Hp) (r0 : Nat) (x1 : Int32) : Option Hp :=
  (f_X4_addNumber h r0 (-x1)).bind fun q1 =>
  some q1

def f_X4_copy (h : Hp) (r0 : Nat) (r1 : Nat) : Option Hp :=
  lt (upI h r0 3 (hpI h r1 3)) fun h1 =>
  gd (nz (hpR h1 r1 0)) <|
  gd (nz (hpR h1 r0 0)) <|
  gd (cpok (0 : Int32) (0 : Int32) (40 : Int32) (hpT h1 (hpR h1 r1 0)).2 (hpT h1 (hpR h1 r0 0)).2) <|
  lt (cpI h1 (hpR h1 r1 0) (ix (0 : Int32)) (hpR h1 r0 0) (ix (0 : Int32)) (ix (40 : Int32))) fun h7 =>
  some h7

def f_X4_putNone (h : Hp) (r0 : Nat) : Option Hp :=
  (f_X4_start h r0).bind fun q1 =>
  (f_X4_addNumber q1 r0 (1 : Int32)).bind fun q2 =>
  (f_X4_addSign q2 r0 (111 : Int32)).bind fun q3 =>
  (f_X4_addNumber q3 r0 (1 : Int32)).bind fun q4 =>
  (f_X4_addSign q4 r0 (62 : Int32)).bind fun q5 =>
  (f_X4_addSign q5 r0 (43 : Int32)).bind fun q6 =>
  some q6

def f_X4_putLaw (h : Hp) (r0 : Nat) (x1 : Int32) (x2 : Int32) : Option Hp :=
  (f_X4_start h r0).bind fun q1 =>
  (f_X4_addNumber q1 r0 x1).bind fun q2 =>
  (f_X4_addNumber q2 r0 x2).bind fun q3 =>
  (f_X4_addSign q3 r0 (111 : Int32)).bind fun q4 =>
  (f_X4_addSign q4 r0 (42 : Int32)).bind fun q5 =>
  (f_X4_addSign q5 r0 (43 : Int32)).bind fun q6 =>
  some q6

def f_X4_isComparison_18 (h : Hp) (x0 : Int32) : Option Int32 :=
  some (1 : Int32)
def f_X4_isComparison (h : Hp) (x0 : Int32) : Option Int32 :=
  if x0 = (60 : Int32) then (
    f_X4_isComparison_18 h x0
  ) else (
    if x0 = (62 : Int32) then (
      f_X4_isComparison_18 h x0
    ) else (
      if x0 = (61 : Int32) then (
        f_X4_isComparison_18 h x0
      ) else (
        some (0 : Int32)
      )
    )
  )

def f_X5_init (h : Hp) (r0 : Nat) : Option Hp :=
  some h

def f_X5_next (h : Hp) (r0 : Nat) : Option Int32 :=
  if (hpI h r0 3) ≤ (hpI h r0 2) then (
    some (-1 : Int32)
  ) else (
    if hpR h r0 0 = 0 then (
      some (-1 : Int32)
    ) else (
      gd (nz (hpR h r0 0)) <|
      (f_X6_get h (hpR h r0 0) (hpI h r0 2)).bind fun q5 =>
      some q5
    )
  )

def f_X5_number_56 (r0 : Nat) : Hp → Int32 → Option Hp := fun h x1 =>
  if hpR h r0 1 = 0 then (
    some h
  ) else (
    gd (nz (hpR h r0 1)) <|
    (f_X4_addNumber h (hpR h r0 1) x1).bind fun q13 =>
    some q13
  )
def f_X5_number_4 (r0 : Nat) (n : Nat) : Hp → Int32 → Int32 → Option Hp := match n with
  | 0 => fun _ _ _ => none
  | n + 1 => fun h x1 x2 =>
    lt (f_X5_number_4 r0 n) fun k4 =>
    if (3 : Int32) ≤ x2 then (
      f_X5_number_56 r0 h x1
    ) else (
      (f_X5_next h r0).bind fun q2 =>
      if q2 < (48 : Int32) then (
        f_X5_number_56 r0 h x1
      ) else (
        (f_X5_next h r0).bind fun q4 =>
        if (57 : Int32) < q4 then (
          f_X5_number_56 r0 h x1
        ) else (
          (f_X5_next h r0).bind fun q6 =>
          lt (((x1 * (10 : Int32)) + q6) - (48 : Int32)) fun v7 =>
          lt (upI h r0 2 ((hpI h r0 2) + (1 : Int32))) fun h8 =>
          lt (x2 + (1 : Int32)) fun v9 =>
          k4 h8 v7 v9
        )
      )
    )
def f_X5_number (h : Hp) (r0 : Nat) : Option Hp :=
  f_X5_number_4 r0 FU h (0 : Int32) (0 : Int32)

def f_X5_isLetter (h : Hp) (x0 : Int32) : Option Int32 :=
  if x0 = (97 : Int32) then (
    some (1 : Int32)
  ) else
  if x0 = (98 : Int32) then (
    some (0 : Int32)
  ) else
  if x0 = (99 : Int32) then (
    some (1 : Int32)
  ) else
  if x0 = (100 : Int32) then (
    some (0 : Int32)
  ) else
  if x0 = (101 : Int32) then (
    some (0 : Int32)
  ) else
  if x0 = (102 : Int32) then (
    some (0 : Int32)
  ) else
  if x0 = (103 : Int32) then (
    some (0 : Int32)
  ) else
  if x0 = (104 : Int32) then (
    some (1 : Int32)
  ) else
  if x0 = (105 : Int32) then (
    some (0 : Int32)
  ) else
  if x0 = (106 : Int32) then (
    some (0 : Int32)
  ) else
  if x0 = (107 : Int32) then (
    some (0 : Int32)
  ) else
  if x0 = (108 : Int32) then (
    some (0 : Int32)
  ) else
  if x0 = (109 : Int32) then (
    some (0 : Int32)
  ) else
  if x0 = (110 : Int32) then (
    some (1 : Int32)
  ) else
  if x0 = (111 : Int32) then (
    some (1 : Int32)
  ) else
  if x0 = (112 : Int32) then (
    some (0 : Int32)
  ) else
  if x0 = (113 : Int32) then (
    some (0 : Int32)
  ) else
  if x0 = (114 : Int32) then (
    some (1 : Int32)
  ) else
  if x0 = (115 : Int32) then (
    some (1 : Int32)
  ) else
  if x0 = (116 : Int32) then (
    some (0 : Int32)
  ) else
  if x0 = (117 : Int32) then (
    some (0 : Int32)
  ) else
  if x0 = (118 : Int32) then (
    some (0 : Int32)
  ) else
  if x0 = (119 : Int32) then (
    some (1 : Int32)
  ) else
  some (0 : Int32)

def f_X5_write (h : Hp) (r0 : Nat) (x1 : Int32) : Option Hp :=
  if hpR h r0 1 = 0 then (
    some h
  ) else (
    gd (nz (hpR h r0 1)) <|
    (f_X4_addSign h (hpR h r0 1) x1).bind fun q4 =>
    some q4
  )

def fo_X5_expression (E_X5_sum : Hp → Nat → Int32 → Option (Int32 × Hp)) (h : Hp) (r0 : Nat) (x1 : Int32) : Option (Int32 × Hp) :=
  (E_X5_sum h r0 x1).bind fun q1 =>
  if q1.1 = 0 then (
    some ((0 : Int32), q1.2)
  ) else (
    (f_X5_next q1.2 r0).bind fun q3 =>
    (f_X4_isComparison q1.2 q3).bind fun q4 =>
    if q4 = 0 then (
      some ((1 : Int32), q1.2)
    ) else (
      lt (upI q1.2 r0 2 ((hpI q1.2 r0 2) + (1 : Int32))) fun h6 =>
      (E_X5_sum h6 r0 x1).bind fun q7 =>
      if q7.1 = 0 then (
        some ((0 : Int32), q7.2)
      ) else (
        (f_X5_write q7.2 r0 q3).bind fun q9 =>
        some ((1 : Int32), q9)
      )
    )
  )

def fo_X5_sum_36 (E_X5_product : Hp → Nat → Int32 → Option (Int32 × Hp)) (r0 : Nat) (x1 : Int32) (k12 : Hp → Int32 → Option (Int32 × Hp)) : Hp → Int32 → Option (Int32 × Hp) := fun h x2 =>
  (f_X5_next h r0).bind fun q8 =>
  lt (upI h r0 2 ((hpI h r0 2) + (1 : Int32))) fun h9 =>
  (E_X5_product h9 r0 x1).bind fun q10 =>
  if q10.1 = 0 then (
    some ((0 : Int32), q10.2)
  ) else (
    (f_X5_write q10.2 r0 q8).bind fun q12 =>
    lt (x2 + (1 : Int32)) fun v13 =>
    k12 q12 v13
  )
def fo_X5_sum_12 (E_X5_product : Hp → Nat → Int32 → Option (Int32 × Hp)) (r0 : Nat) (x1 : Int32) (n : Nat) : Hp → Int32 → Option (Int32 × Hp) := match n with
  | 0 => fun _ _ => none
  | n + 1 => fun h x2 =>
    lt (fo_X5_sum_12 E_X5_product r0 x1 n) fun k12 =>
    if (40 : Int32) ≤ x2 then (
      some ((1 : Int32), h)
    ) else (
      (f_X5_next h r0).bind fun q4 =>
      if q4 = (43 : Int32) then (
        fo_X5_sum_36 E_X5_product r0 x1 k12 h x2
      ) else (
        (f_X5_next h r0).bind fun q6 =>
        if q6 = (45 : Int32) then (
          fo_X5_sum_36 E_X5_product r0 x1 k12 h x2
        ) else (
          some ((1 : Int32), h)
        )
      )
    )
def fo_X5_sum (E_X5_product : Hp → Nat → Int32 → Option (Int32 × Hp)) (h : Hp) (r0 : Nat) (x1 : Int32) : Option (Int32 × Hp) :=
  (E_X5_product h r0 x1).bind fun q1 =>
  if q1.1 = 0 then (
    some ((0 : Int32), q1.2)
  ) else (
    fo_X5_sum_12 E_X5_product r0 x1 FU q1.2 (0 : Int32)
  )

def fo_X5_product_36 (E_X5_signedThing : Hp → Nat → Int32 → Option (Int32 × Hp)) (r0 : Nat) (x1 : Int32) (k12 : Hp → Int32 → Option (Int32 × Hp)) : Hp → Int32 → Option (Int32 × Hp) := fun h x2 =>
  (f_X5_next h r0).bind fun q8 =>
  lt (upI h r0 2 ((hpI h r0 2) + (1 : Int32))) fun h9 =>
  (E_X5_signedThing h9 r0 x1).bind fun q10 =>
  if q10.1 = 0 then (
    some ((0 : Int32), q10.2)
  ) else (
    (f_X5_write q10.2 r0 q8).bind fun q12 =>
    lt (x2 + (1 : Int32)) fun v13 =>
    k12 q12 v13
  )
def fo_X5_product_12 (E_X5_signedThing : Hp → Nat → Int32 → Option (Int32 × Hp)) (r0 : Nat) (x1 : Int32) (n : Nat) : Hp → Int32 → Option (Int32 × Hp) := match n with
  | 0 => fun _ _ => none
  | n + 1 => fun h x2 =>
    lt (fo_X5_product_12 E_X5_signedThing r0 x1 n) fun k12 =>
    if (40 : Int32) ≤ x2 then (
      some ((1 : Int32), h)
    ) else (
      (f_X5_next h r0).bind fun q4 =>
      if q4 = (42 : Int32) then (
        fo_X5_product_36 E_X5_signedThing r0 x1 k12 h x2
      ) else (
        (f_X5_next h r0).bind fun q6 =>
        if q6 = (47 : Int32) then (
          fo_X5_product_36 E_X5_signedThing r0 x1 k12 h x2
        ) else (
          some ((1 : Int32), h)
        )
      )
    )
def fo_X5_product (E_X5_signedThing : Hp → Nat → Int32 → Option (Int32 × Hp)) (h : Hp) (r0 : Nat) (x1 : Int32) : Option (Int32 × Hp) :=
  (E_X5_signedThing h r0 x1).bind fun q1 =>
  if q1.1 = 0 then (
    some ((0 : Int32), q1.2)
  ) else (
    fo_X5_product_12 E_X5_signedThing r0 x1 FU q1.2 (0 : Int32)
  )

def fo_X5_signedThing_28 (E_X5_thing : Hp → Nat → Int32 → Option (Int32 × Hp)) (r0 : Nat) (x1 : Int32) (k4 : Hp → Int32 → Int32 → Option (Int32 × Hp)) : Hp → Int32 → Int32 → Option (Int32 × Hp) := fun h s0 x3 =>
  lt (upI h r0 2 ((hpI h r0 2) + (1 : Int32))) fun h5 =>
  lt (x3 + (1 : Int32)) fun v6 =>
  k4 h5 s0 v6
def fo_X5_signedThing_45 (E_X5_thing : Hp → Nat → Int32 → Option (Int32 × Hp)) (r0 : Nat) (x1 : Int32) : Hp → Int32 → Option (Int32 × Hp) := fun h x2 =>
  (E_X5_thing h r0 x1).bind fun q7 =>
  if q7.1 = 0 then (
    some ((0 : Int32), q7.2)
  ) else (
    if x2 = 0 then (
      some ((1 : Int32), q7.2)
    ) else (
      (f_X5_write q7.2 r0 (126 : Int32)).bind fun q10 =>
      some ((1 : Int32), q10)
    )
  )
def fo_X5_signedThing_4 (E_X5_thing : Hp → Nat → Int32 → Option (Int32 × Hp)) (r0 : Nat) (x1 : Int32) (n : Nat) : Hp → Int32 → Int32 → Option (Int32 × Hp) := match n with
  | 0 => fun _ _ _ => none
  | n + 1 => fun h x2 x3 =>
    lt (fo_X5_signedThing_4 E_X5_thing r0 x1 n) fun k4 =>
    if (40 : Int32) ≤ x3 then (
      fo_X5_signedThing_45 E_X5_thing r0 x1 h x2
    ) else (
      (f_X5_next h r0).bind fun q2 =>
      if q2 = (45 : Int32) then (
        fo_X5_signedThing_28 E_X5_thing r0 x1 k4 h (if x2 = 0 then (1 : Int32) else (0 : Int32)) x3
      ) else (
        fo_X5_signedThing_45 E_X5_thing r0 x1 h x2
      )
    )
def fo_X5_signedThing (E_X5_thing : Hp → Nat → Int32 → Option (Int32 × Hp)) (h : Hp) (r0 : Nat) (x1 : Int32) : Option (Int32 × Hp) :=
  fo_X5_signedThing_4 E_X5_thing r0 x1 FU h (0 : Int32) (0 : Int32)

def fo_X5_thing_23 (E_X5_expression : Hp → Nat → Int32 → Option (Int32 × Hp)) (r0 : Nat) (x1 : Int32) : Hp → Int32 → Option (Int32 × Hp) := fun h x2 =>
  (f_X5_isLetter h x2).bind fun q5 =>
  if q5 = 0 then (
    if x2 = (40 : Int32) then (
      if x1 < (4 : Int32) then (
        lt (upI h r0 2 ((hpI h r0 2) + (1 : Int32))) fun h9 =>
        (E_X5_expression h9 r0 (x1 + (1 : Int32))).bind fun q10 =>
        if q10.1 = 0 then (
          some ((0 : Int32), q10.2)
        ) else (
          (f_X5_next q10.2 r0).bind fun q12 =>
          if q12 = (41 : Int32) then (
            lt (upI q10.2 r0 2 ((hpI q10.2 r0 2) + (1 : Int32))) fun h14 =>
            some ((1 : Int32), h14)
          ) else (
            some ((0 : Int32), q10.2)
          )
        )
      ) else (
        some ((0 : Int32), h)
      )
    ) else (
      some ((0 : Int32), h)
    )
  ) else (
    lt (upI h r0 2 ((hpI h r0 2) + (1 : Int32))) fun h15 =>
    (f_X5_write h15 r0 x2).bind fun q16 =>
    some ((1 : Int32), q16)
  )
def fo_X5_thing (E_X5_expression : Hp → Nat → Int32 → Option (Int32 × Hp)) (h : Hp) (r0 : Nat) (x1 : Int32) : Option (Int32 × Hp) :=
  (f_X5_next h r0).bind fun q1 =>
  if q1 < (48 : Int32) then (
    fo_X5_thing_23 E_X5_expression r0 x1 h q1
  ) else (
    if (57 : Int32) < q1 then (
      fo_X5_thing_23 E_X5_expression r0 x1 h q1
    ) else (
      (f_X5_number h r0).bind fun q4 =>
      some ((1 : Int32), q4)
    )
  )

def fx_A (n : Nat) : (Hp → Nat → Int32 → Option (Int32 × Hp)) × (Hp → Nat → Int32 → Option (Int32 × Hp)) × (Hp → Nat → Int32 → Option (Int32 × Hp)) × (Hp → Nat → Int32 → Option (Int32 × Hp)) × (Hp → Nat → Int32 → Option (Int32 × Hp)) := match n with
  | 0 => (fun _ _ _ => none, fun _ _ _ => none, fun _ _ _ => none, fun _ _ _ => none, fun _ _ _ => none)
  | n + 1 => lt (fx_A n) fun F => (fo_X5_expression F.2.1, fo_X5_sum F.2.2.1, fo_X5_product F.2.2.2.1, fo_X5_signedThing F.2.2.2.2, fo_X5_thing F.1)
def f_X5_expression : Hp → Nat → Int32 → Option (Int32 × Hp) := (fx_A 30).1
def f_X5_sum : Hp → Nat → Int32 → Option (Int32 × Hp) := (fx_A 30).2.1
def f_X5_product : Hp → Nat → Int32 → Option (Int32 × Hp) := (fx_A 30).2.2.1
def f_X5_signedThing : Hp → Nat → Int32 → Option (Int32 × Hp) := (fx_A 30).2.2.2.1
def f_X5_thing : Hp → Nat → Int32 → Option (Int32 × Hp) := (fx_A 30).2.2.2.2

def f_X5_read_78 (r0 : Nat) (r1 : Nat) (r2 : Nat) : Hp → Int32 → Option (Int32 × Hp) := fun h s0 =>
  if s0 = 0 then (
    some ((hpI h r0 2), h)
  ) else (
    some ((-1 : Int32), h)
  )
def f_X5_read_77 (r0 : Nat) (r1 : Nat) (r2 : Nat) : Hp → Option (Int32 × Hp) := fun h =>
  f_X5_read_78 r0 r1 r2 h (0 : Int32)
def f_X5_read (h : Hp) (r0 : Nat) (r1 : Nat) (r2 : Nat) : Option (Int32 × Hp) :=
  lt (upR h r0 0 r1) fun h1 =>
  lt (upR h1 r0 1 r2) fun h2 =>
  lt (upI h2 r0 2 (0 : Int32)) fun h3 =>
  lt (mn32 (hpI h3 r1 1) (40 : Int32)) fun v4 =>
  lt (upI h3 r0 3 v4) fun h5 =>
  if (hpI h5 r1 1) = 0 then (
    (f_X4_putNone h5 r2).bind fun q12 =>
    some ((-1 : Int32), q12)
  ) else (
    (f_X4_start h5 r2).bind fun q7 =>
    (f_X5_expression q7 r0 (0 : Int32)).bind fun q8 =>
    if q8.1 = 0 then (
      f_X5_read_77 r0 r1 r2 q8.2
    ) else (
      if (hpI q8.2 r0 2) = (hpI q8.2 r0 3) then (
        if (40 : Int32) < (hpI q8.2 r1 1) then (
          f_X5_read_77 r0 r1 r2 q8.2
        ) else (
          f_X5_read_78 r0 r1 r2 q8.2 (1 : Int32)
        )
      ) else (
        f_X5_read_77 r0 r1 r2 q8.2
      )
    )
  )

def f_X6_init (h : Hp) (r0 : Nat) : Option Hp :=
  lt (hpN h + 1) fun a1 =>
  lt (hpNew h (2, ix (80 : Int32))) fun h2 =>
  lt (upR h2 r0 0 a1) fun h3 =>
  some h3

def f_X6_add (h : Hp) (r0 : Nat) (x1 : Int32) : Option Hp :=
  if (hpI h r0 1) < 0 then (
    some h
  ) else (
    gd (nz (hpR h r0 0)) <|
    if (nI (hpT h (hpR h r0 0)).2) ≤ (hpI h r0 1) then (
      some h
    ) else (
      gd (inb (hpI h r0 1) (hpT h (hpR h r0 0)).2) <|
      lt (upI h (hpR h r0 0) (ix (hpI h r0 1)) x1) fun h7 =>
      lt (upI h7 r0 1 ((hpI h7 r0 1) + (1 : Int32))) fun h8 =>
      some h8
    )
  )

def f_X7_init (h : Hp) (r0 : Nat) : Option Hp :=
  lt (hpN h + 1) fun a1 =>
  lt (hpNew h (3, ix (128 : Int32))) fun h2 =>
  lt (upR h2 r0 0 a1) fun h3 =>
  some h3

def f_X7_start (h : Hp) (r0 : Nat) : Option Hp :=
  lt (upI h r0 1 (0 : Int32)) fun h1 =>
  some h1

def f_X7_add (h : Hp) (r0 : Nat) (y1 : Int64) : Option Hp :=
  gd (nz (hpR h r0 0)) <|
  if (nI (hpT h (hpR h r0 0)).2) ≤ (hpI h r0 1) then (
    some h
  ) else (
    gd (inb (hpI h r0 1) (hpT h (hpR h r0 0)).2) <|
    lt (upL h (hpR h r0 0) (ix (hpI h r0 1)) y1) fun h6 =>
    lt (upI h6 r0 1 ((hpI h6 r0 1) + (1 : Int32))) fun h7 =>
    some h7
  )

def f_X7_turnRound_2 (r0 : Nat) (n : Nat) : Hp → Int32 → Option Hp := match n with
  | 0 => fun _ _ => none
  | n + 1 => fun h x1 =>
    lt (f_X7_turnRound_2 r0 n) fun k2 =>
    if ((hpI h r0 1) / (2 : Int32)) ≤ x1 then (
      some h
    ) else (
      gd (nz (hpR h r0 0)) <|
      gd (inb x1 (hpT h (hpR h r0 0)).2) <|
      lt (hpL h (hpR h r0 0) (ix x1)) fun v5 =>
      gd (inb (((hpI h r0 1) - (1 : Int32)) - x1) (hpT h (hpR h r0 0)).2) <|
      gd (inb x1 (hpT h (hpR h r0 0)).2) <|
      lt (upL h (hpR h r0 0) (ix x1) (hpL h (hpR h r0 0) (ix (((hpI h r0 1) - (1 : Int32)) - x1)))) fun h10 =>
      gd (nz (hpR h10 r0 0)) <|
      gd (inb (((hpI h10 r0 1) - (1 : Int32)) - x1) (hpT h10 (hpR h10 r0 0)).2) <|
      lt (upL h10 (hpR h10 r0 0) (ix (((hpI h10 r0 1) - (1 : Int32)) - x1)) v5) fun h14 =>
      lt (x1 + (1 : Int32)) fun v15 =>
      k2 h14 v15
    )
def f_X7_turnRound (h : Hp) (r0 : Nat) : Option Hp :=
  f_X7_turnRound_2 r0 FU h (0 : Int32)

def f_X8_init (h : Hp) (r0 : Nat) : Option Hp :=
  lt (hpN h + 1) fun a1 =>
  lt (hpNew h (2, ix (9216 : Int32))) fun h2 =>
  lt (upR h2 r0 0 a1) fun h3 =>
  lt (hpN h3 + 1) fun a4 =>
  lt (hpNew h3 (3, ix (256 : Int32))) fun h5 =>
  lt (upR h5 r0 1 a4) fun h6 =>
  lt (hpN h6 + 1) fun a7 =>
  lt (hpNew h6 (2, ix (36 : Int32))) fun h8 =>
  lt (upR h8 r0 2 a7) fun h9 =>
  lt (hpN h9 + 1) fun a10 =>
  lt (hpNew h9 (2, ix (36 : Int32))) fun h11 =>
  lt (upR h11 r0 3 a10) fun h12 =>
  lt (hpN h12 + 1) fun a13 =>
  lt (hpNew h12 (2, ix (36 : Int32))) fun h14 =>
  lt (upR h14 r0 4 a13) fun h15 =>
  some h15

def f_J7_fill_d0a16_6 (r0 : Nat) (y1 : Int64) (n : Nat) : Hp → Int32 → Int32 → Option Hp := match n with
  | 0 => fun _ _ _ => none
  | n + 1 => fun h x3 x4 =>
    lt (f_J7_fill_d0a16_6 r0 y1 n) fun k6 =>
    if x4 ≤ x3 then (
      some h
    ) else (
      gd (inb x3 (hpT h r0).2) <|
      lt (upL h r0 (ix x3) y1) fun h4 =>
      lt (x3 + (1 : Int32)) fun v5 =>
      k6 h4 v5 x4
    )
def f_J7_fill_d0a16 (h : Hp) (r0 : Nat) (y1 : Int64) : Option Hp :=
  lt (nI (hpT h r0).2) fun v1 =>
  f_J7_fill_d0a16_6 r0 y1 FU h (0 : Int32) v1

def f_X8_reach (h : Hp) (r0 : Nat) (x1 : Int32) (x2 : Int32) (x3 : Int32) (x4 : Int32) : Option (Int32 × Hp) :=
  if x1 < 0 then (
    some (x4, h)
  ) else (
    if (36 : Int32) ≤ x1 then (
      some (x4, h)
    ) else (
      gd (nz (hpR h r0 0)) <|
      if x4 < (nI (hpT h (hpR h r0 0)).2) then (
        gd (nz (hpR h r0 2)) <|
        gd (inb x1 (hpT h (hpR h r0 2)).2) <|
        lt (rm32 (x2 ||| (hpI h (hpR h r0 2) (ix x1))) (256 : Int32)) fun v9 =>
        gd (nz (hpR h r0 1)) <|
        gd (inb v9 (hpT h (hpR h r0 1)).2) <|
        lt (shr64 (hpL h (hpR h r0 1) (ix v9)) x1) fun v13 =>
        if (lg_cmp (v13 &&& (1 : Int64)) (0 : Int64)) = 0 then (
          gd (inb v9 (hpT h (hpR h r0 1)).2) <|
          lt (shl64 (1 : Int64) x1) fun v17 =>
          gd (inb v9 (hpT h (hpR h r0 1)).2) <|
          lt (upL h (hpR h r0 1) (ix v9) ((hpL h (hpR h r0 1) (ix v9)) ||| v17)) fun h19 =>
          gd (nz (hpR h19 r0 0)) <|
          gd (inb x4 (hpT h19 (hpR h19 r0 0)).2) <|
          lt (upI h19 (hpR h19 r0 0) (ix x4) (((x3 * (16384 : Int32)) + (x1 * (256 : Int32))) + v9)) fun h23 =>
          some ((x4 + (1 : Int32)), h23)
        ) else (
          some (x4, h)
        )
      ) else (
        some (x4, h)
      )
    )
  )

def f_X8_tellWay_68 (r0 : Nat) (x1 : Int32) (r2 : Nat) : Hp → Option (Int32 × Hp) := fun h =>
  gd (nz (hpR h r0 0)) <|
  gd (inb (0 : Int32) (hpT h (hpR h r0 0)).2) <|
  lt (rm32 (hpI h (hpR h r0 0) (ix (0 : Int32))) (16384 : Int32)) fun v20 =>
  (f_X7_add h r2 ((v20 / (256 : Int32)).toInt64)).bind fun q21 =>
  (f_X7_turnRound q21 r2).bind fun q22 =>
  some (((hpI q22 r2 1) - (1 : Int32)), q22)
def f_X8_tellWay_9 (r0 : Nat) (x1 : Int32) (r2 : Nat) (n : Nat) : Hp → Int32 → Int32 → Option (Int32 × Hp) := match n with
  | 0 => fun _ _ _ => none
  | n + 1 => fun h x3 x4 =>
    lt (f_X8_tellWay_9 r0 x1 r2 n) fun k9 =>
    gd (nz (hpR h r0 0)) <|
    if (nI (hpT h (hpR h r0 0)).2) ≤ x4 then (
      f_X8_tellWay_68 r0 x1 r2 h
    ) else (
      if x3 ≤ 0 then (
        f_X8_tellWay_68 r0 x1 r2 h
      ) else (
        if (nI (hpT h (hpR h r0 0)).2) ≤ x3 then (
          f_X8_tellWay_68 r0 x1 r2 h
        ) else (
          gd (inb x3 (hpT h (hpR h r0 0)).2) <|
          lt (rm32 (hpI h (hpR h r0 0) (ix x3)) (16384 : Int32)) fun v10 =>
          (f_X7_add h r2 ((v10 / (256 : Int32)).toInt64)).bind fun q11 =>
          gd (nz (hpR q11 r0 0)) <|
          gd (inb x3 (hpT q11 (hpR q11 r0 0)).2) <|
          lt ((hpI q11 (hpR q11 r0 0) (ix x3)) / (16384 : Int32)) fun v15 =>
          lt (x4 + (1 : Int32)) fun v16 =>
          k9 q11 v15 v16
        )
      )
    )
def f_X8_tellWay (h : Hp) (r0 : Nat) (x1 : Int32) (r2 : Nat) : Option (Int32 × Hp) :=
  (f_X7_start h r2).bind fun q1 =>
  f_X8_tellWay_9 r0 x1 r2 FU q1 x1 (0 : Int32)

def f_X8_shortest_181 (r0 : Nat) (r1 : Nat) (x2 : Int32) (x3 : Int32) (x4 : Int32) (y5 : Int64) (r7 : Nat) (k62 : Hp → Int32 → Int32 → Option (Int32 × Hp)) (k133 : Hp → Int32 → Int32 → Int32 → Int32 → Int32 → Option (Int32 × Hp)) : Hp → Int32 → Int32 → Int32 → Int32 → Int32 → Option (Int32 × Hp) := fun h x8 x9 x11 x12 x13 =>
  lt (x13 + (1 : Int32)) fun v33 =>
  k133 h x8 x9 x11 x12 v33
def f_X8_shortest_133 (r0 : Nat) (r1 : Nat) (x2 : Int32) (x3 : Int32) (x4 : Int32) (y5 : Int64) (r7 : Nat) (k62 : Hp → Int32 → Int32 → Option (Int32 × Hp)) (n : Nat) : Hp → Int32 → Int32 → Int32 → Int32 → Int32 → Option (Int32 × Hp) := match n with
  | 0 => fun _ _ _ _ _ _ => none
  | n + 1 => fun h x8 x9 x11 x12 x13 =>
    lt (f_X8_shortest_133 r0 r1 x2 x3 x4 y5 r7 k62 n) fun k133 =>
    if (4 : Int32) ≤ x13 then (
      lt (x9 + (1 : Int32)) fun v27 =>
      k62 h x8 v27
    ) else (
      (f_X0_beside h r1 x11 x13).bind fun q28 =>
      if q28 = (-1 : Int32) then (
        f_X8_shortest_181 r0 r1 x2 x3 x4 y5 r7 k62 k133 h x8 x9 x11 x12 x13
      ) else (
        lt (shr64 y5 q28) fun v30 =>
        if (lg_cmp (v30 &&& (1 : Int64)) (0 : Int64)) = 0 then (
          f_X8_shortest_181 r0 r1 x2 x3 x4 y5 r7 k62 k133 h x8 x9 x11 x12 x13
        ) else (
          (f_X8_reach h r0 q28 x12 x9 x8).bind fun q32 =>
          f_X8_shortest_181 r0 r1 x2 x3 x4 y5 r7 k62 k133 q32.2 q32.1 x9 x11 x12 x13
        )
      )
    )
def f_X8_shortest_130 (r0 : Nat) (r1 : Nat) (x2 : Int32) (x3 : Int32) (x4 : Int32) (y5 : Int64) (r7 : Nat) (k62 : Hp → Int32 → Int32 → Option (Int32 × Hp)) : Hp → Int32 → Int32 → Int32 → Int32 → Option (Int32 × Hp) := fun h x8 x9 x11 x12 =>
  f_X8_shortest_133 r0 r1 x2 x3 x4 y5 r7 k62 FU h x8 x9 x11 x12 (0 : Int32)
def f_X8_shortest_62 (r0 : Nat) (r1 : Nat) (x2 : Int32) (x3 : Int32) (x4 : Int32) (y5 : Int64) (r7 : Nat) (n : Nat) : Hp → Int32 → Int32 → Option (Int32 × Hp) := match n with
  | 0 => fun _ _ _ => none
  | n + 1 => fun h x8 x9 =>
    lt (f_X8_shortest_62 r0 r1 x2 x3 x4 y5 r7 n) fun k62 =>
    if x8 ≤ x9 then (
      some ((-2 : Int32), h)
    ) else (
      gd (nz (hpR h r0 0)) <|
      if (nI (hpT h (hpR h r0 0)).2) ≤ x9 then (
        some ((-2 : Int32), h)
      ) else (
        gd (inb x9 (hpT h (hpR h r0 0)).2) <|
        lt (rm32 (hpI h (hpR h r0 0) (ix x9)) (16384 : Int32)) fun v20 =>
        lt (v20 / (256 : Int32)) fun v21 =>
        lt (rm32 v20 (256 : Int32)) fun v22 =>
        if v21 = x3 then (
          if v22 = x4 then (
            (f_X8_tellWay h r0 x9 r7).bind fun q25 =>
            some (q25.1, q25.2)
          ) else (
            f_X8_shortest_130 r0 r1 x2 x3 x4 y5 r7 k62 h x8 x9 v21 v22
          )
        ) else (
          f_X8_shortest_130 r0 r1 x2 x3 x4 y5 r7 k62 h x8 x9 v21 v22
        )
      )
    )
def f_X8_shortest_49 (r0 : Nat) (r1 : Nat) (x2 : Int32) (x3 : Int32) (x4 : Int32) (y5 : Int64) (r7 : Nat) : Hp → Option (Int32 × Hp) := fun h =>
  (f_X8_reach h r0 x2 (0 : Int32) (0 : Int32) (0 : Int32)).bind fun q13 =>
  f_X8_shortest_62 r0 r1 x2 x3 x4 y5 r7 FU q13.2 q13.1 (0 : Int32)
def f_X8_shortest_11 (r0 : Nat) (r1 : Nat) (x2 : Int32) (x3 : Int32) (x4 : Int32) (y5 : Int64) (r7 : Nat) (n : Nat) : Hp → Int32 → Option (Int32 × Hp) := match n with
  | 0 => fun _ _ => none
  | n + 1 => fun h x8 =>
    lt (f_X8_shortest_11 r0 r1 x2 x3 x4 y5 r7 n) fun k11 =>
    (f_X0_cells h r1).bind fun q4 =>
    if q4 ≤ x8 then (
      f_X8_shortest_49 r0 r1 x2 x3 x4 y5 r7 h
    ) else (
      if (36 : Int32) ≤ x8 then (
        f_X8_shortest_49 r0 r1 x2 x3 x4 y5 r7 h
      ) else (
        gd (nz (hpR h r0 2)) <|
        (f_X0_onOver h r1 x8).bind fun q9 =>
        gd (inb x8 (hpT h (hpR h r0 2)).2) <|
        lt (upI h (hpR h r0 2) (ix x8) (q9 &&& x4)) fun h11 =>
        lt (x8 + (1 : Int32)) fun v12 =>
        k11 h11 v12
      )
    )
def f_X8_shortest (h : Hp) (r0 : Nat) (r1 : Nat) (x2 : Int32) (x3 : Int32) (x4 : Int32) (y5 : Int64) (r7 : Nat) : Option (Int32 × Hp) :=
  gd (nz (hpR h r0 1)) <|
  (f_J7_fill_d0a16 h (hpR h r0 1) (0 : Int64)).bind fun q3 =>
  f_X8_shortest_11 r0 r1 x2 x3 x4 y5 r7 FU q3 (0 : Int32)

def f_X8_improve_91 (r0 : Nat) (r1 : Nat) (x2 : Int32) (k5 : Hp → Int32 → Int32 → Option (Int32 × Hp)) (k14 : Hp → Int32 → Int32 → Int32 → Option (Int32 × Hp)) : Hp → Int32 → Int32 → Int32 → Option (Int32 × Hp) := fun h x3 x4 x5 =>
  lt (x5 + (1 : Int32)) fun v23 =>
  k14 h x3 x4 v23
def f_X8_improve_14 (r0 : Nat) (r1 : Nat) (x2 : Int32) (k5 : Hp → Int32 → Int32 → Option (Int32 × Hp)) (n : Nat) : Hp → Int32 → Int32 → Int32 → Option (Int32 × Hp) := match n with
  | 0 => fun _ _ _ _ => none
  | n + 1 => fun h x3 x4 x5 =>
    lt (f_X8_improve_14 r0 r1 x2 k5 n) fun k14 =>
    if (4 : Int32) ≤ x5 then (
      lt (x4 + (1 : Int32)) fun v3 =>
      k5 h x3 v3
    ) else (
      (f_X0_beside h r1 x4 x5).bind fun q4 =>
      if q4 < 0 then (
        f_X8_improve_91 r0 r1 x2 k5 k14 h x3 x4 x5
      ) else (
        if (36 : Int32) ≤ q4 then (
          f_X8_improve_91 r0 r1 x2 k5 k14 h x3 x4 x5
        ) else (
          gd (nz (hpR h r0 3)) <|
          gd (inb x4 (hpT h (hpR h r0 3)).2) <|
          gd (nz (hpR h r0 4)) <|
          gd (inb q4 (hpT h (hpR h r0 4)).2) <|
          gd (inb x4 (hpT h (hpR h r0 4)).2) <|
          if (hpI h (hpR h r0 4) (ix x4)) ≤ ((hpI h (hpR h r0 3) (ix x4)) + (hpI h (hpR h r0 4) (ix q4))) then (
            f_X8_improve_91 r0 r1 x2 k5 k14 h x3 x4 x5
          ) else (
            gd (inb x4 (hpT h (hpR h r0 3)).2) <|
            gd (inb q4 (hpT h (hpR h r0 4)).2) <|
            gd (inb x4 (hpT h (hpR h r0 4)).2) <|
            lt (upI h (hpR h r0 4) (ix x4) ((hpI h (hpR h r0 3) (ix x4)) + (hpI h (hpR h r0 4) (ix q4)))) fun h22 =>
            f_X8_improve_91 r0 r1 x2 k5 k14 h22 (1 : Int32) x4 x5
          )
        )
      )
    )
def f_X8_improve_5 (r0 : Nat) (r1 : Nat) (x2 : Int32) (n : Nat) : Hp → Int32 → Int32 → Option (Int32 × Hp) := match n with
  | 0 => fun _ _ _ => none
  | n + 1 => fun h x3 x4 =>
    lt (f_X8_improve_5 r0 r1 x2 n) fun k5 =>
    if x2 ≤ x4 then (
      some (x3, h)
    ) else (
      f_X8_improve_14 r0 r1 x2 k5 FU h x3 x4 (0 : Int32)
    )
def f_X8_improve (h : Hp) (r0 : Nat) (r1 : Nat) (x2 : Int32) : Option (Int32 × Hp) :=
  f_X8_improve_5 r0 r1 x2 FU h (0 : Int32) (0 : Int32)

def f_X8_softStep_53 (h : Hp) (r0 : Nat) (r1 : Nat) (x2 : Int32) (k2 : Int32 → Option Int32) : Int32 → Option Int32 := fun x3 =>
  lt (x3 + (1 : Int32)) fun v14 =>
  k2 v14
def f_X8_softStep_2 (h : Hp) (r0 : Nat) (r1 : Nat) (x2 : Int32) (n : Nat) : Int32 → Option Int32 := match n with
  | 0 => fun _ => none
  | n + 1 => fun x3 =>
    lt (f_X8_softStep_2 h r0 r1 x2 n) fun k2 =>
    if (4 : Int32) ≤ x3 then (
      some x2
    ) else (
      (f_X0_beside h r1 x2 x3).bind fun q2 =>
      if q2 < 0 then (
        f_X8_softStep_53 h r0 r1 x2 k2 x3
      ) else (
        if (36 : Int32) ≤ q2 then (
          f_X8_softStep_53 h r0 r1 x2 k2 x3
        ) else (
          gd (nz (hpR h r0 4)) <|
          gd (inb x2 (hpT h (hpR h r0 4)).2) <|
          gd (nz (hpR h r0 3)) <|
          gd (inb x2 (hpT h (hpR h r0 3)).2) <|
          gd (inb q2 (hpT h (hpR h r0 4)).2) <|
          if (hpI h (hpR h r0 4) (ix x2)) = ((hpI h (hpR h r0 3) (ix x2)) + (hpI h (hpR h r0 4) (ix q2))) then (
            some q2
          ) else (
            f_X8_softStep_53 h r0 r1 x2 k2 x3
          )
        )
      )
    )
def f_X8_softStep (h : Hp) (r0 : Nat) (r1 : Nat) (x2 : Int32) : Option Int32 :=
  f_X8_softStep_2 h r0 r1 x2 FU (0 : Int32)

def f_X8_softest_175 (r0 : Nat) (r1 : Nat) (x2 : Int32) (x3 : Int32) (r4 : Nat) : Hp → Option (Int32 × Hp) := fun h =>
  gd (nz (hpR h r0 4)) <|
  gd (inb x2 (hpT h (hpR h r0 4)).2) <|
  some (((hpI h (hpR h r0 4) (ix x2)) / (64 : Int32)), h)
def f_X8_softest_139 (r0 : Nat) (r1 : Nat) (x2 : Int32) (x3 : Int32) (r4 : Nat) (n : Nat) : Hp → Int32 → Int32 → Int32 → Option (Int32 × Hp) := match n with
  | 0 => fun _ _ _ _ => none
  | n + 1 => fun h x5 x7 x8 =>
    lt (f_X8_softest_139 r0 r1 x2 x3 r4 n) fun k139 =>
    if x5 ≤ x8 then (
      f_X8_softest_175 r0 r1 x2 x3 r4 h
    ) else (
      if x7 = x3 then (
        f_X8_softest_175 r0 r1 x2 x3 r4 h
      ) else (
        (f_X8_softStep h r0 r1 x7).bind fun q33 =>
        (f_X7_add h r4 (q33.toInt64)).bind fun q34 =>
        lt (x8 + (1 : Int32)) fun v35 =>
        k139 q34 x5 q33 v35
      )
    )
def f_X8_softest_121 (r0 : Nat) (r1 : Nat) (x2 : Int32) (x3 : Int32) (r4 : Nat) : Hp → Int32 → Option (Int32 × Hp) := fun h x5 =>
  (f_X7_start h r4).bind fun q29 =>
  (f_X7_add q29 r4 (x2.toInt64)).bind fun q30 =>
  f_X8_softest_139 r0 r1 x2 x3 r4 FU q30 x5 x2 (0 : Int32)
def f_X8_softest_94 (r0 : Nat) (r1 : Nat) (x2 : Int32) (x3 : Int32) (r4 : Nat) (n : Nat) : Hp → Int32 → Int32 → Int32 → Option (Int32 × Hp) := match n with
  | 0 => fun _ _ _ _ => none
  | n + 1 => fun h x5 x6 x7 =>
    lt (f_X8_softest_94 r0 r1 x2 x3 r4 n) fun k94 =>
    if x5 ≤ x7 then (
      f_X8_softest_121 r0 r1 x2 x3 r4 h x5
    ) else (
      if x6 = 0 then (
        f_X8_softest_121 r0 r1 x2 x3 r4 h x5
      ) else (
        (f_X8_improve h r0 r1 x5).bind fun q27 =>
        lt (x7 + (1 : Int32)) fun v28 =>
        k94 q27.2 x5 q27.1 v28
      )
    )
def f_X8_softest_36 (r0 : Nat) (r1 : Nat) (x2 : Int32) (x3 : Int32) (r4 : Nat) (n : Nat) : Hp → Int32 → Int32 → Option (Int32 × Hp) := match n with
  | 0 => fun _ _ _ => none
  | n + 1 => fun h x5 x6 =>
    lt (f_X8_softest_36 r0 r1 x2 x3 r4 n) fun k36 =>
    if x5 ≤ x6 then (
      gd (nz (hpR h r0 4)) <|
      gd (nz (hpR h r0 3)) <|
      gd (inb x3 (hpT h (hpR h r0 3)).2) <|
      gd (inb x3 (hpT h (hpR h r0 4)).2) <|
      lt (upI h (hpR h r0 4) (ix x3) (hpI h (hpR h r0 3) (ix x3))) fun h14 =>
      f_X8_softest_94 r0 r1 x2 x3 r4 FU h14 x5 (1 : Int32) (0 : Int32)
    ) else (
      gd (nz (hpR h r0 3)) <|
      (f_X0_strengthOver h r1 x6).bind fun q17 =>
      gd (inb x6 (hpT h (hpR h r0 3)).2) <|
      lt (upI h (hpR h r0 3) (ix x6) ((q17 * (64 : Int32)) + (1 : Int32))) fun h19 =>
      gd (nz (hpR h19 r0 4)) <|
      gd (inb x6 (hpT h19 (hpR h19 r0 4)).2) <|
      lt (upI h19 (hpR h19 r0 4) (ix x6) (268435456 : Int32)) fun h23 =>
      lt (x6 + (1 : Int32)) fun v24 =>
      k36 h23 x5 v24
    )
def f_X8_softest (h : Hp) (r0 : Nat) (r1 : Nat) (x2 : Int32) (x3 : Int32) (r4 : Nat) : Option (Int32 × Hp) :=
  if x2 < 0 then (
    some ((-1 : Int32), h)
  ) else (
    if (36 : Int32) ≤ x2 then (
      some ((-1 : Int32), h)
    ) else (
      if x3 < 0 then (
        some ((-1 : Int32), h)
      ) else (
        if x3 < (36 : Int32) then (
          (f_X0_cells h r1).bind fun q5 =>
          lt (mn32 q5 (36 : Int32)) fun v6 =>
          f_X8_softest_36 r0 r1 x2 x3 r4 FU h v6 (0 : Int32)
        ) else (
          some ((-1 : Int32), h)
        )
      )
    )
  )

def f_X9_init (h : Hp) (r0 : Nat) : Option Hp :=
  lt (hpN h + 1) fun a1 =>
  lt (hpNew h (1, 6)) fun h2 =>
  (f_X6_init h2 a1).bind fun q3 =>
  lt (upR q3 r0 0 a1) fun h4 =>
  lt (hpN h4 + 1) fun a5 =>
  lt (hpNew h4 (1, 7)) fun h6 =>
  (f_X7_init h6 a5).bind fun q7 =>
  lt (upR q7 r0 1 a5) fun h8 =>
  lt (hpN h8 + 1) fun a9 =>
  lt (hpNew h8 (1, 0)) fun h10 =>
  (f_X0_init h10 a9).bind fun q11 =>
  lt (upR q11 r0 2 a9) fun h12 =>
  lt (hpN h12 + 1) fun a13 =>
  lt (hpNew h12 (1, 0)) fun h14 =>
  (f_X0_init h14 a13).bind fun q15 =>
  lt (upR q15 r0 3 a13) fun h16 =>
  lt (hpN h16 + 1) fun a17 =>
  lt (hpNew h16 (1, 0)) fun h18 =>
  (f_X0_init h18 a17).bind fun q19 =>
  lt (upR q19 r0 4 a17) fun h20 =>
  lt (hpN h20 + 1) fun a21 =>
  lt (hpNew h20 (1, 3)) fun h22 =>
  (f_X3_init h22 a21).bind fun q23 =>
  lt (upR q23 r0 5 a21) fun h24 =>
  lt (hpN h24 + 1) fun a25 =>
  lt (hpNew h24 (5, ix (3 : Int32))) fun h26 =>
  lt (upR h26 r0 6 a25) fun h27 =>
  lt (hpN h27 + 1) fun a28 =>
  lt (hpNew h27 (1, 4)) fun h29 =>
  (f_X4_init h29 a28).bind fun q30 =>
  lt (upR q30 r0 8 a28) fun h31 =>
  lt (hpN h31 + 1) fun a32 =>
  lt (hpNew h31 (1, 4)) fun h33 =>
  (f_X4_init h33 a32).bind fun q34 =>
  lt (upR q34 r0 9 a32) fun h35 =>
  lt (hpN h35 + 1) fun a36 =>
  lt (hpNew h35 (1, 5)) fun h37 =>
  (f_X5_init h37 a36).bind fun q38 =>
  lt (upR q38 r0 10 a36) fun h39 =>
  lt (hpN h39 + 1) fun a40 =>
  lt (hpNew h39 (1, 2)) fun h41 =>
  (f_X2_init_10 h41 a40).bind fun q42 =>
  lt (upR q42 r0 11 a40) fun h43 =>
  lt (hpN h43 + 1) fun a44 =>
  lt (hpNew h43 (1, 2)) fun h45 =>
  (f_X2_init_12 h45 a44).bind fun q46 =>
  lt (upR q46 r0 12 a44) fun h47 =>
  lt (hpN h47 + 1) fun a48 =>
  lt (hpNew h47 (1, 8)) fun h49 =>
  (f_X8_init h49 a48).bind fun q50 =>
  lt (upR q50 r0 13 a48) fun h51 =>
  lt (hpN h51 + 1) fun a52 =>
  lt (hpNew h51 (2, ix (496 : Int32))) fun h53 =>
  lt (upR h53 r0 14 a52) fun h54 =>
  lt (hpN h54 + 1) fun a55 =>
  lt (hpNew h54 (2, ix (41 : Int32))) fun h56 =>
  lt (upR h56 r0 15 a55) fun h57 =>
  gd (nz (hpR h57 r0 6)) <|
  lt (hpN h57 + 1) fun a60 =>
  lt (hpNew h57 (1, 0)) fun h61 =>
  (f_X0_init h61 a60).bind fun q62 =>
  gd (inb (0 : Int32) (hpT q62 (hpR h57 r0 6)).2) <|
  lt (upR q62 (hpR h57 r0 6) (ix (0 : Int32)) a60) fun h64 =>
  gd (nz (hpR h64 r0 6)) <|
  lt (hpN h64 + 1) fun a67 =>
  lt (hpNew h64 (1, 0)) fun h68 =>
  (f_X0_init h68 a67).bind fun q69 =>
  gd (inb (1 : Int32) (hpT q69 (hpR h64 r0 6)).2) <|
  lt (upR q69 (hpR h64 r0 6) (ix (1 : Int32)) a67) fun h71 =>
  gd (nz (hpR h71 r0 6)) <|
  lt (hpN h71 + 1) fun a74 =>
  lt (hpNew h71 (1, 0)) fun h75 =>
  (f_X0_init h75 a74).bind fun q76 =>
  gd (inb (2 : Int32) (hpT q76 (hpR h71 r0 6)).2) <|
  lt (upR q76 (hpR h71 r0 6) (ix (2 : Int32)) a74) fun h78 =>
  gd (nz (hpR h78 r0 8)) <|
  (f_X4_putNone h78 (hpR h78 r0 8)).bind fun q81 =>
  gd (nz (hpR q81 r0 9)) <|
  (f_X4_putNone q81 (hpR q81 r0 9)).bind fun q84 =>
  some q84

def f_X9_sign_19 (r0 : Nat) (x1 : Int32) (n : Nat) : Hp → Int32 → Option (Int32 × Hp) := match n with
  | 0 => fun _ _ => none
  | n + 1 => fun h x2 =>
    lt (f_X9_sign_19 r0 x1 n) fun k19 =>
    if x2 < 0 then (
      gd (nz (hpR h r0 0)) <|
      some ((hpI h (hpR h r0 0) 1), h)
    ) else (
      gd (nz (hpR h r0 0)) <|
      lt (ush32 x1 x2) fun v9 =>
      (f_X6_add h (hpR h r0 0) (v9 &&& (255 : Int32))).bind fun q10 =>
      lt (x2 + (-8 : Int32)) fun v11 =>
      k19 q10 v11
    )
def f_X9_sign (h : Hp) (r0 : Nat) (x1 : Int32) : Option (Int32 × Hp) :=
  gd (nz (hpR h r0 0)) <|
  if ((hpI h (hpR h r0 0) 1) + (4 : Int32)) ≤ (80 : Int32) then (
    f_X9_sign_19 r0 x1 FU h (24 : Int32)
  ) else (
    some ((-1 : Int32), h)
  )

def f_X9_end (h : Hp) (r0 : Nat) (x1 : Int32) : Option (Int32 × Hp) :=
  if x1 < 0 then (
    some ((0 : Int32), h)
  ) else (
    gd (nz (hpR h r0 0)) <|
    if x1 ≤ (hpI h (hpR h r0 0) 1) then (
      lt (upI h (hpR h r0 0) 1 x1) fun h6 =>
      some ((1 : Int32), h6)
    ) else (
      some ((0 : Int32), h)
    )
  )

def f_X9_forgetStates (h : Hp) (r0 : Nat) : Option Hp :=
  gd (nz (hpR h r0 5)) <|
  (f_X3_wipe h (hpR h r0 5)).bind fun q3 =>
  lt (upI q3 r0 7 (0 : Int32)) fun h4 =>
  some h4

def f_X9_fieldTold_34 (r0 : Nat) : Hp → Int32 → Option (Int32 × Hp) := fun h x1 =>
  some (((-1 : Int32) - x1), h)
def f_X9_fieldTold_2 (r0 : Nat) (n : Nat) : Hp → Int32 → Option (Int32 × Hp) := match n with
  | 0 => fun _ _ => none
  | n + 1 => fun h x1 =>
    lt (f_X9_fieldTold_2 r0 n) fun k2 =>
    if (2 : Int32) ≤ x1 then (
      gd (nz (hpR h r0 0)) <|
      if (hpI h (hpR h r0 0) 1) ≤ (2 : Int32) then (
        gd (nz (hpR h r0 2)) <|
        (f_X6_digit h (hpR h r0 0) (0 : Int32) (hpI h (hpR h r0 0) 1)).bind fun q9 =>
        (f_X6_digit h (hpR h r0 0) (1 : Int32) (hpI h (hpR h r0 0) 1)).bind fun q12 =>
        (f_X0_layOut h (hpR h r0 2) q9 q12).bind fun q13 =>
        (f_X9_forgetStates q13 r0).bind fun q14 =>
        gd (nz (hpR q14 r0 11)) <|
        (f_X2_wipe q14 (hpR q14 r0 11)).bind fun q17 =>
        gd (nz (hpR q17.2 r0 2)) <|
        (f_X0_cells q17.2 (hpR q17.2 r0 2)).bind fun q20 =>
        some (q20, q17.2)
      ) else (
        some ((-3 : Int32), h)
      )
    ) else (
      gd (nz (hpR h r0 0)) <|
      (f_X6_digit h (hpR h r0 0) x1 (hpI h (hpR h r0 0) 1)).bind fun q24 =>
      if q24 < (3 : Int32) then (
        f_X9_fieldTold_34 r0 h x1
      ) else (
        if q24 ≤ (6 : Int32) then (
          lt (x1 + (1 : Int32)) fun v27 =>
          k2 h v27
        ) else (
          f_X9_fieldTold_34 r0 h x1
        )
      )
    )
def f_X9_fieldTold (h : Hp) (r0 : Nat) : Option (Int32 × Hp) :=
  f_X9_fieldTold_2 r0 FU h (0 : Int32)

def f_X9_field (h : Hp) (r0 : Nat) : Option (Int32 × Hp) :=
  (f_X9_fieldTold h r0).bind fun q1 =>
  gd (nz (hpR q1.2 r0 0)) <|
  lt (upI q1.2 (hpR q1.2 r0 0) 1 (0 : Int32)) fun h4 =>
  some (q1.1, h4)

def f_X9_campsTold_102 (r0 : Nat) (k40 : Hp → Int32 → Int32 → Int32 → Option (Int32 × Hp)) : Hp → Int32 → Int32 → Int32 → Option (Int32 × Hp) := fun h x1 x2 x3 =>
  lt (x2 + (1 : Int32)) fun v25 =>
  lt (x3 + (1 : Int32)) fun v26 =>
  k40 h x1 v25 v26
def f_X9_campsTold_111 (r0 : Nat) : Hp → Int32 → Int32 → Option (Int32 × Hp) := fun h x1 x2 =>
  if x2 = x1 then (
    some (((-1 : Int32) - x1), h)
  ) else (
    gd (nz (hpR h r0 0)) <|
    if (hpI h (hpR h r0 0) 1) ≤ (55 : Int32) then (
      gd (nz (hpR h r0 4)) <|
      gd (nz (hpR h r0 2)) <|
      lt ((hpI h (hpR h r0 4) 2) - (hpI h (hpR h r0 2) 2)) fun v35 =>
      (f_X0_copy h (hpR h r0 2) (hpR h r0 4)).bind fun q38 =>
      (f_X9_forgetStates q38 r0).bind fun q39 =>
      some (v35, q39)
    ) else (
      some ((-56 : Int32), h)
    )
  )
def f_X9_campsTold_40 (r0 : Nat) (n : Nat) : Hp → Int32 → Int32 → Int32 → Option (Int32 × Hp) := match n with
  | 0 => fun _ _ _ _ => none
  | n + 1 => fun h x1 x2 x3 =>
    lt (f_X9_campsTold_40 r0 n) fun k40 =>
    if (8 : Int32) ≤ x3 then (
      f_X9_campsTold_111 r0 h x1 x2
    ) else (
      if x1 ≤ x2 then (
        f_X9_campsTold_111 r0 h x1 x2
      ) else (
        gd (nz (hpR h r0 4)) <|
        gd (nz (hpR h r0 0)) <|
        (f_X0_readLine h (hpR h r0 4) (hpR h r0 0) x2 x1).bind fun q17 =>
        if q17.1 = (-1 : Int32) then (
          lt (x2 + (6 : Int32)) fun v19 =>
          if x1 ≤ v19 then (
            f_X9_campsTold_102 r0 k40 q17.2 x1 v19 x3
          ) else (
            gd (nz (hpR q17.2 r0 0)) <|
            (f_X6_get q17.2 (hpR q17.2 r0 0) v19).bind fun q23 =>
            if q23 = (59 : Int32) then (
              f_X9_campsTold_102 r0 k40 q17.2 x1 v19 x3
            ) else (
              some (((-1 : Int32) - v19), q17.2)
            )
          )
        ) else (
          some (((-1 : Int32) - q17.1), q17.2)
        )
      )
    )
def f_X9_campsTold (h : Hp) (r0 : Nat) : Option (Int32 × Hp) :=
  gd (nz (hpR h r0 0)) <|
  if (hpI h (hpR h r0 0) 1) = 0 then (
    some ((0 : Int32), h)
  ) else (
    lt (mn32 (hpI h (hpR h r0 0) 1) (55 : Int32)) fun v5 =>
    gd (nz (hpR h r0 4)) <|
    gd (nz (hpR h r0 2)) <|
    (f_X0_copy h (hpR h r0 4) (hpR h r0 2)).bind fun q10 =>
    f_X9_campsTold_40 r0 FU q10 v5 (0 : Int32) (0 : Int32)
  )

def f_X9_camps (h : Hp) (r0 : Nat) : Option (Int32 × Hp) :=
  (f_X9_campsTold h r0).bind fun q1 =>
  gd (nz (hpR q1.2 r0 0)) <|
  lt (upI q1.2 (hpR q1.2 r0 0) 1 (0 : Int32)) fun h4 =>
  some (q1.1, h4)

def f_X9_rule (h : Hp) (r0 : Nat) : Option (Int32 × Hp) :=
  gd (nz (hpR h r0 10)) <|
  gd (nz (hpR h r0 0)) <|
  gd (nz (hpR h r0 9)) <|
  (f_X5_read h (hpR h r0 10) (hpR h r0 0) (hpR h r0 9)).bind fun q7 =>
  gd (nz (hpR q7.2 r0 0)) <|
  lt (upI q7.2 (hpR q7.2 r0 0) 1 (0 : Int32)) fun h10 =>
  if q7.1 = (-1 : Int32) then (
    gd (nz (hpR h10 r0 8)) <|
    gd (nz (hpR h10 r0 9)) <|
    (f_X4_copy h10 (hpR h10 r0 8) (hpR h10 r0 9)).bind fun q16 =>
    some ((0 : Int32), q16)
  ) else (
    some (((-1 : Int32) - q7.1), h10)
  )

def f_X9_entry (h : Hp) (x0 : Int32) (x1 : Int32) : Option Int32 :=
  if x0 = 0 then (
    some (x1.toInt8.toInt32)
  ) else (
    if x0 = (1 : Int32) then (
      some (x1.toInt16.toInt32)
    ) else (
      some x1
    )
  )

def f_X9_sheet_91 (r0 : Nat) (x1 : Int32) (x2 : Int32) (x3 : Int32) (x4 : Int32) : Hp → Option (Int32 × Hp) := fun h =>
  gd (nz (hpR h r0 2)) <|
  (f_X0_weaken h (hpR h r0 2) x2).bind fun q23 =>
  gd (nz (hpR q23 r0 2)) <|
  (f_X0_strengthOfAll q23 (hpR q23 r0 2)).bind fun q26 =>
  some (q26, q23)
def f_X9_sheet_43 (r0 : Nat) (x1 : Int32) (x2 : Int32) (x3 : Int32) (x4 : Int32) (n : Nat) : Hp → Int32 → Option (Int32 × Hp) := match n with
  | 0 => fun _ _ => none
  | n + 1 => fun h x5 =>
    lt (f_X9_sheet_43 r0 x1 x2 x3 x4 n) fun k43 =>
    if x2 ≤ x5 then (
      f_X9_sheet_91 r0 x1 x2 x3 x4 h
    ) else (
      gd (nz (hpR h r0 2)) <|
      if (hpI h (hpR h r0 2) 2) ≤ x5 then (
        f_X9_sheet_91 r0 x1 x2 x3 x4 h
      ) else (
        gd (nz (hpR h (hpR h r0 2) 9)) <|
        (f_X9_entry h x1 (x3 + (x5 * x4))).bind fun q16 =>
        (f_X9_digitOf h q16).bind fun q17 =>
        gd (inb x5 (hpT h (hpR h (hpR h r0 2) 9)).2) <|
        lt (upI h (hpR h (hpR h r0 2) 9) (ix x5) q17) fun h19 =>
        lt (x5 + (1 : Int32)) fun v20 =>
        k43 h19 v20
      )
    )
def f_X9_sheet (h : Hp) (r0 : Nat) (x1 : Int32) (x2 : Int32) (x3 : Int32) (x4 : Int32) : Option (Int32 × Hp) :=
  if x1 < 0 then (
    some ((-1 : Int32), h)
  ) else (
    if (3 : Int32) < x1 then (
      some ((-1 : Int32), h)
    ) else (
      if x2 ≤ (8 : Int32) then (
        if x1 = (3 : Int32) then (
          gd (nz (hpR h r0 2)) <|
          (f_X0_weaken h (hpR h r0 2) (0 : Int32)).bind fun q8 =>
          some ((-3 : Int32), q8)
        ) else (
          if 0 ≤ x2 then (
            f_X9_sheet_43 r0 x1 x2 x3 x4 FU h (0 : Int32)
          ) else (
            some ((-2 : Int32), h)
          )
        )
      ) else (
        some ((-1 : Int32), h)
      )
    )
  )

def f_X9_years (h : Hp) (r0 : Nat) (x1 : Int32) : Option (Int32 × Hp) :=
  if x1 < 0 then (
    some ((-1 : Int32), h)
  ) else (
    if x1 ≤ (60 : Int32) then (
      gd (nz (hpR h r0 3)) <|
      gd (nz (hpR h r0 2)) <|
      (f_X0_copy h (hpR h r0 3) (hpR h r0 2)).bind fun q7 =>
      gd (nz (hpR q7 r0 2)) <|
      gd (nz (hpR q7 r0 8)) <|
      (f_X0_goByTimes q7 (hpR q7 r0 2) (hpR q7 r0 8) x1).bind fun q12 =>
      gd (nz (hpR q12.2 r0 5)) <|
      gd (nz (hpR q12.2 r0 3)) <|
      (f_X3_push q12.2 (hpR q12.2 r0 5) (hpR q12.2 r0 3)).bind fun q17 =>
      gd (nz (hpR q17 r0 1)) <|
      (f_X7_start q17 (hpR q17 r0 1)).bind fun q20 =>
      gd (nz (hpR q20 r0 1)) <|
      (f_X7_add q20 (hpR q20 r0 1) (q12.1.toInt64)).bind fun q23 =>
      gd (nz (hpR q23 r0 1)) <|
      gd (nz (hpR q23 r0 2)) <|
      (f_X0_strengthOfAll q23 (hpR q23 r0 2)).bind fun q28 =>
      (f_X7_add q23 (hpR q23 r0 1) (q28.toInt64)).bind fun q29 =>
      gd (nz (hpR q29 r0 2)) <|
      (f_X0_onCount q29 (hpR q29 r0 2)).bind fun q32 =>
      some (q32, q29)
    ) else (
      some ((-1 : Int32), h)
    )
  )

def f_X9_noted (h : Hp) (r0 : Nat) (x1 : Int32) : Option (Int32 × Hp) :=
  if x1 < 0 then (
    some (x1, h)
  ) else (
    gd (nz (hpR h r0 5)) <|
    gd (nz (hpR h r0 3)) <|
    (f_X3_push h (hpR h r0 5) (hpR h r0 3)).bind fun q6 =>
    some (x1, q6)
  )

def f_X9_pitch (h : Hp) (r0 : Nat) (x1 : Int32) (x2 : Int32) (x3 : Int32) (x4 : Int32) (x5 : Int32) : Option (Int32 × Hp) :=
  gd (nz (hpR h r0 3)) <|
  gd (nz (hpR h r0 2)) <|
  (f_X0_copy h (hpR h r0 3) (hpR h r0 2)).bind fun q5 =>
  gd (nz (hpR q5 r0 2)) <|
  (f_X0_pitchOn q5 (hpR q5 r0 2) x1 x2 x3 x4 x5).bind fun q8 =>
  (f_X9_noted q8.2 r0 q8.1).bind fun q9 =>
  some (q9.1, q9.2)

def f_X9_treads (h : Hp) (r0 : Nat) (x1 : Int32) (x2 : Int32) : Option (Int32 × Hp) :=
  gd (nz (hpR h r0 3)) <|
  gd (nz (hpR h r0 2)) <|
  (f_X0_copy h (hpR h r0 3) (hpR h r0 2)).bind fun q5 =>
  gd (nz (hpR q5 r0 2)) <|
  (f_X0_treadOn q5 (hpR q5 r0 2) x1 x2).bind fun q8 =>
  (f_X9_noted q8.2 r0 q8.1).bind fun q9 =>
  some (q9.1, q9.2)

def f_X9_sings (h : Hp) (r0 : Nat) (x1 : Int32) (x2 : Int32) : Option (Int32 × Hp) :=
  gd (nz (hpR h r0 3)) <|
  gd (nz (hpR h r0 2)) <|
  (f_X0_copy h (hpR h r0 3) (hpR h r0 2)).bind fun q5 =>
  gd (nz (hpR q5 r0 2)) <|
  (f_X0_singTo q5 (hpR q5 r0 2) x1 x2).bind fun q8 =>
  (f_X9_noted q8.2 r0 q8.1).bind fun q9 =>
  some (q9.1, q9.2)

def f_X9_moves (h : Hp) (r0 : Nat) (x1 : Int32) (x2 : Int32) : Option (Int32 × Hp) :=
  gd (nz (hpR h r0 3)) <|
  gd (nz (hpR h r0 2)) <|
  (f_X0_copy h (hpR h r0 3) (hpR h r0 2)).bind fun q5 =>
  gd (nz (hpR q5 r0 2)) <|
  (f_X0_move q5 (hpR q5 r0 2) x1 x2).bind fun q8 =>
  (f_X9_noted q8.2 r0 q8.1).bind fun q9 =>
  some (q9.1, q9.2)

def f_X9_digitsBehind (h : Hp) (x0 : Int32) : Option Int32 :=
  if x0 = (109 : Int32) then (
    some (2 : Int32)
  ) else
  if x0 = (110 : Int32) then (
    some (1 : Int32)
  ) else
  if x0 = (111 : Int32) then (
    some (0 : Int32)
  ) else
  if x0 = (112 : Int32) then (
    some (6 : Int32)
  ) else
  if x0 = (113 : Int32) then (
    some (0 : Int32)
  ) else
  if x0 = (114 : Int32) then (
    some (0 : Int32)
  ) else
  if x0 = (115 : Int32) then (
    some (2 : Int32)
  ) else
  if x0 = (116 : Int32) then (
    some (2 : Int32)
  ) else
  some (0 : Int32)

def f_X9_badInStory_109 (h : Hp) (r0 : Nat) (k20 : Int32 → Int32 → Int32 → Int32 → Option Int32) : Int32 → Int32 → Int32 → Int32 → Option Int32 := fun x1 x2 x3 x4 =>
  lt (x4 + (1 : Int32)) fun v21 =>
  k20 x1 x2 x3 v21
def f_X9_badInStory_100 (h : Hp) (r0 : Nat) (k20 : Int32 → Int32 → Int32 → Int32 → Option Int32) : Int32 → Int32 → Int32 → Int32 → Int32 → Int32 → Option Int32 := fun s0 s1 x1 x2 x3 x4 =>
  if s1 ≤ s0 then (
    lt (x2 + (-1 : Int32)) fun v24 =>
    f_X9_badInStory_109 h r0 k20 x1 v24 x3 x4
  ) else (
    some x4
  )
def f_X9_badInStory_86 (h : Hp) (r0 : Nat) (k20 : Int32 → Int32 → Int32 → Int32 → Option Int32) : Int32 → Int32 → Int32 → Int32 → Int32 → Int32 → Option Int32 := fun s0 x1 x2 x3 x4 x5 =>
  f_X9_badInStory_100 h r0 k20 x5 (if s0 = 0 then (0 : Int32) else (1 : Int32)) x1 x2 x3 x4
def f_X9_badInStory_85 (h : Hp) (r0 : Nat) (k20 : Int32 → Int32 → Int32 → Int32 → Option Int32) : Int32 → Int32 → Int32 → Int32 → Int32 → Option Int32 := fun x1 x2 x3 x4 x5 =>
  f_X9_badInStory_86 h r0 k20 (0 : Int32) x1 x2 x3 x4 x5
def f_X9_badInStory_81 (h : Hp) (r0 : Nat) (k20 : Int32 → Int32 → Int32 → Int32 → Option Int32) : Int32 → Int32 → Int32 → Int32 → Int32 → Option Int32 := fun x1 x2 x3 x4 x5 =>
  f_X9_badInStory_86 h r0 k20 (1 : Int32) x1 x2 x3 x4 x5
def f_X9_badInStory_131 (h : Hp) (r0 : Nat) : Int32 → Option Int32 := fun x1 =>
  some x1
def f_X9_badInStory_20 (h : Hp) (r0 : Nat) (n : Nat) : Int32 → Int32 → Int32 → Int32 → Option Int32 := match n with
  | 0 => fun _ _ _ _ => none
  | n + 1 => fun x1 x2 x3 x4 =>
    lt (f_X9_badInStory_20 h r0 n) fun k20 =>
    if x1 ≤ x4 then (
      if 0 < x2 then (
        f_X9_badInStory_131 h r0 x1
      ) else (
        gd (nz (hpR h r0 0)) <|
        if (hpI h (hpR h r0 0) 1) ≤ (60 : Int32) then (
          some (-1 : Int32)
        ) else (
          f_X9_badInStory_131 h r0 x1
        )
      )
    ) else (
      if x2 = 0 then (
        gd (nz (hpR h r0 0)) <|
        (f_X6_get h (hpR h r0 0) x4).bind fun q18 =>
        (f_X9_digitsBehind h q18).bind fun q19 =>
        if q19 = 0 then (
          some x4
        ) else (
          f_X9_badInStory_109 h r0 k20 x1 q19 q18 x4
        )
      ) else (
        gd (nz (hpR h r0 0)) <|
        (f_X6_digit h (hpR h r0 0) x4 x1).bind fun q12 =>
        if x2 = (1 : Int32) then (
          if x3 = (116 : Int32) then (
            f_X9_badInStory_81 h r0 k20 x1 x2 x3 x4 q12
          ) else (
            if x3 = (115 : Int32) then (
              f_X9_badInStory_81 h r0 k20 x1 x2 x3 x4 q12
            ) else (
              f_X9_badInStory_85 h r0 k20 x1 x2 x3 x4 q12
            )
          )
        ) else (
          f_X9_badInStory_85 h r0 k20 x1 x2 x3 x4 q12
        )
      )
    )
def f_X9_badInStory (h : Hp) (r0 : Nat) : Option Int32 :=
  gd (nz (hpR h r0 0)) <|
  lt (mn32 (hpI h (hpR h r0 0) 1) (60 : Int32)) fun v3 =>
  f_X9_badInStory_20 h r0 FU v3 (0 : Int32) (0 : Int32) (0 : Int32)

def f_X9_storyDigit (h : Hp) (r0 : Nat) (x1 : Int32) : Option Int32 :=
  gd (nz (hpR h r0 0)) <|
  (f_X6_digit h (hpR h r0 0) x1 (hpI h (hpR h r0 0) 1)).bind fun q4 =>
  some q4

def f_X9_actDone (h : Hp) (r0 : Nat) (x1 : Int32) : Option (Int32 × Hp) :=
  (f_X9_storyDigit h r0 (x1 + (1 : Int32))).bind fun q1 =>
  gd (nz (hpR h r0 0)) <|
  (f_X6_get h (hpR h r0 0) x1).bind fun q4 =>
  if q4 = (110 : Int32) then (
    gd (nz (hpR h r0 2)) <|
    gd (nz (hpR h r0 8)) <|
    (f_X0_goByTimes h (hpR h r0 2) (hpR h r0 8) q1).bind fun q9 =>
    some (q9.1, q9.2)
  ) else
  if q4 = (111 : Int32) then (
    gd (nz (hpR h r0 2)) <|
    (f_X9_storyDigit h r0 (x1 + (2 : Int32))).bind fun q12 =>
    (f_X0_move h (hpR h r0 2) q1 q12).bind fun q13 =>
    some (q13.1, q13.2)
  ) else
  if q4 = (112 : Int32) then (
    gd (nz (hpR h r0 2)) <|
    (f_X9_storyDigit h r0 (x1 + (2 : Int32))).bind fun q17 =>
    (f_X0_cellAt h (hpR h r0 2) q1 q17).bind fun q18 =>
    (f_X9_storyDigit h r0 (x1 + (3 : Int32))).bind fun q19 =>
    (f_X9_storyDigit h r0 (x1 + (4 : Int32))).bind fun q20 =>
    (f_X9_storyDigit h r0 (x1 + (5 : Int32))).bind fun q21 =>
    (f_X9_storyDigit h r0 (x1 + (6 : Int32))).bind fun q22 =>
    (f_X0_pitchOn h (hpR h r0 2) q18 q19 q20 q21 q22).bind fun q23 =>
    some (q23.1, q23.2)
  ) else
  if q4 = (113 : Int32) then (
    gd (nz (hpR h r0 2)) <|
    (f_X9_storyDigit h r0 (x1 + (2 : Int32))).bind fun q26 =>
    (f_X0_move h (hpR h r0 2) q1 q26).bind fun q27 =>
    some (q27.1, q27.2)
  ) else
  if q4 = (114 : Int32) then (
    gd (nz (hpR h r0 2)) <|
    (f_X9_storyDigit h r0 (x1 + (2 : Int32))).bind fun q30 =>
    (f_X0_move h (hpR h r0 2) q1 q30).bind fun q31 =>
    some (q31.1, q31.2)
  ) else
  if q4 = (115 : Int32) then (
    gd (nz (hpR h r0 2)) <|
    (f_X9_storyDigit h r0 (x1 + (2 : Int32))).bind fun q34 =>
    (f_X0_singTo h (hpR h r0 2) q1 q34).bind fun q35 =>
    some (q35.1, q35.2)
  ) else
  if q4 = (116 : Int32) then (
    gd (nz (hpR h r0 2)) <|
    (f_X9_storyDigit h r0 (x1 + (2 : Int32))).bind fun q38 =>
    (f_X0_treadOn h (hpR h r0 2) q1 q38).bind fun q39 =>
    some (q39.1, q39.2)
  ) else
  gd (nz (hpR h r0 2)) <|
  (f_X9_storyDigit h r0 (x1 + (2 : Int32))).bind fun q42 =>
  (f_X0_move h (hpR h r0 2) q1 q42).bind fun q43 =>
  some (q43.1, q43.2)

def f_X9_story_83 (r0 : Nat) (k43 : Hp → Int32 → Int32 → Int32 → Int32 → Option (Int32 × Hp)) : Hp → Int32 → Int32 → Int32 → Int32 → Option (Int32 × Hp) := fun h x2 x3 x4 x5 =>
  gd (nz (hpR h r0 0)) <|
  (f_X6_get h (hpR h r0 0) x4).bind fun q21 =>
  (f_X9_digitsBehind h q21).bind fun q22 =>
  lt (x4 + ((1 : Int32) + q22)) fun v23 =>
  lt (x5 + (1 : Int32)) fun v24 =>
  k43 h x2 x3 v23 v24
def f_X9_story_131 (r0 : Nat) : Hp → Int32 → Int32 → Option (Int32 × Hp) := fun h x2 x3 =>
  gd (nz (hpR h r0 1)) <|
  (f_X7_start h (hpR h r0 1)).bind fun q36 =>
  gd (nz (hpR q36 r0 1)) <|
  (f_X7_add q36 (hpR q36 r0 1) (x3.toInt64)).bind fun q39 =>
  gd (nz (hpR q39 r0 1)) <|
  gd (nz (hpR q39 r0 2)) <|
  (f_X7_add q39 (hpR q39 r0 1) ((hpI q39 (hpR q39 r0 2) 3).toInt64)).bind fun q44 =>
  some (x2, q44)
def f_X9_story_108 (r0 : Nat) : Hp → Int32 → Int32 → Option (Int32 × Hp) := fun h x2 x3 =>
  gd (nz (hpR h r0 0)) <|
  lt (upI h (hpR h r0 0) 1 (0 : Int32)) fun h27 =>
  if x2 ≤ 0 then (
    f_X9_story_131 r0 h27 x2 x3
  ) else (
    gd (nz (hpR h27 r0 5)) <|
    gd (nz (hpR h27 r0 3)) <|
    (f_X3_push h27 (hpR h27 r0 5) (hpR h27 r0 3)).bind fun q33 =>
    f_X9_story_131 r0 q33 x2 x3
  )
def f_X9_story_43 (r0 : Nat) (n : Nat) : Hp → Int32 → Int32 → Int32 → Int32 → Option (Int32 × Hp) := match n with
  | 0 => fun _ _ _ _ _ => none
  | n + 1 => fun h x2 x3 x4 x5 =>
    lt (f_X9_story_43 r0 n) fun k43 =>
    if (60 : Int32) ≤ x5 then (
      f_X9_story_108 r0 h x2 x3
    ) else (
      gd (nz (hpR h r0 0)) <|
      if (hpI h (hpR h r0 0) 1) ≤ x4 then (
        f_X9_story_108 r0 h x2 x3
      ) else (
        if x3 = 0 then (
          (f_X9_actDone h r0 x4).bind fun q16 =>
          if 0 ≤ q16.1 then (
            lt (x2 + (1 : Int32)) fun v18 =>
            f_X9_story_83 r0 k43 q16.2 v18 x3 x4 x5
          ) else (
            f_X9_story_83 r0 k43 q16.2 x2 (1 : Int32) x4 x5
          )
        ) else (
          f_X9_story_108 r0 h x2 x3
        )
      )
    )
def f_X9_story (h : Hp) (r0 : Nat) : Option (Int32 × Hp) :=
  (f_X9_badInStory h r0).bind fun q1 =>
  if q1 = (-1 : Int32) then (
    gd (nz (hpR h r0 3)) <|
    gd (nz (hpR h r0 2)) <|
    (f_X0_copy h (hpR h r0 3) (hpR h r0 2)).bind fun q7 =>
    f_X9_story_43 r0 FU q7 (0 : Int32) (0 : Int32) (0 : Int32) (0 : Int32)
  ) else (
    gd (nz (hpR h r0 0)) <|
    lt (upI h (hpR h r0 0) 1 (0 : Int32)) fun h10 =>
    some (((-1 : Int32) - q1), h10)
  )

def f_X9_undo (h : Hp) (r0 : Nat) : Option (Int32 × Hp) :=
  gd (nz (hpR h r0 5)) <|
  if (hpI h (hpR h r0 5) 2) = 0 then (
    some ((-1 : Int32), h)
  ) else (
    gd (nz (hpR h r0 2)) <|
    (f_X3_pop h (hpR h r0 5) (hpR h r0 2)).bind fun q7 =>
    gd (nz (hpR q7 r0 5)) <|
    some ((hpI q7 (hpR q7 r0 5) 2), q7)
  )

def f_J13_bitCount_95d88 (h : Hp) (y0 : Int64) : Option Int32 :=
  lt (ush64 y0 (1 : Int32)) fun v1 =>
  lt (y0 - (v1 &&& (6148914691236517205 : Int64))) fun v2 =>
  lt (ush64 v2 (2 : Int32)) fun v3 =>
  lt ((v2 &&& (3689348814741910323 : Int64)) + (v3 &&& (3689348814741910323 : Int64))) fun v4 =>
  lt (ush64 v4 (4 : Int32)) fun v5 =>
  lt ((v4 + v5) &&& (1085102592571150095 : Int64)) fun v6 =>
  lt (ush64 v6 (8 : Int32)) fun v7 =>
  lt (v6 + v7) fun v8 =>
  lt (ush64 v8 (16 : Int32)) fun v9 =>
  lt (v8 + v9) fun v10 =>
  lt (ush64 v10 (32 : Int32)) fun v11 =>
  lt (v10 + v11) fun v12 =>
  some ((v12.toInt32) &&& (127 : Int32))

def f_X9_slept_41 (r0 : Nat) (k6 : Hp → Int32 → Int32 → Int32 → Option (Int64 × Hp)) : Hp → Int32 → Int32 → Int32 → Option (Int64 × Hp) := fun h x1 x2 x3 =>
  lt (x3 + (1 : Int32)) fun v24 =>
  k6 h x1 x2 v24
def f_X9_slept_6 (r0 : Nat) (n : Nat) : Hp → Int32 → Int32 → Int32 → Option (Int64 × Hp) := match n with
  | 0 => fun _ _ _ _ => none
  | n + 1 => fun h x1 x2 x3 =>
    lt (f_X9_slept_6 r0 n) fun k6 =>
    gd (nz (hpR h r0 2)) <|
    (f_X0_cells h (hpR h r0 2)).bind fun q3 =>
    if q3 ≤ x3 then (
      (f_X0_sleptCells h (hpR h r0 2)).bind fun q6 =>
      gd (nz (hpR h r0 1)) <|
      (f_X7_start h (hpR h r0 1)).bind fun q9 =>
      gd (nz (hpR q9 r0 1)) <|
      (f_J13_bitCount_95d88 q9 q6).bind fun q12 =>
      (f_X7_add q9 (hpR q9 r0 1) (q12.toInt64)).bind fun q13 =>
      gd (nz (hpR q13 r0 1)) <|
      (f_X7_add q13 (hpR q13 r0 1) (x1.toInt64)).bind fun q16 =>
      gd (nz (hpR q16 r0 1)) <|
      (f_X7_add q16 (hpR q16 r0 1) (x2.toInt64)).bind fun q19 =>
      some (q6, q19)
    ) else (
      (f_X0_onOver h (hpR h r0 2) x3).bind fun q21 =>
      (f_J6_bitCount_0f7a4 h q21).bind fun q22 =>
      f_X9_slept_41 r0 k6 h (if q22 ≤ x1 then x1 else q22) (if q22 ≤ x1 then x2 else x3) x3
    )
def f_X9_slept (h : Hp) (r0 : Nat) : Option (Int64 × Hp) :=
  f_X9_slept_6 r0 FU h (0 : Int32) (-1 : Int32) (0 : Int32)

def f_X9_crosses_33 (r0 : Nat) (k4 : Hp → Int32 → Int32 → Option (Int32 × Hp)) : Hp → Int32 → Int32 → Option (Int32 × Hp) := fun h x1 x2 =>
  lt (x2 + (1 : Int32)) fun v16 =>
  k4 h x1 v16
def f_X9_crosses_126 (r0 : Nat) (k59 : Hp → Int32 → Int32 → Option (Int32 × Hp)) (k75 : Hp → Int32 → Int32 → Int32 → Option (Int32 × Hp)) : Hp → Int32 → Int32 → Int32 → Option (Int32 × Hp) := fun h x2 x3 x4 =>
  lt (x4 + (1 : Int32)) fun v36 =>
  k75 h x2 x3 v36
def f_X9_crosses_123 (r0 : Nat) (k59 : Hp → Int32 → Int32 → Option (Int32 × Hp)) (k75 : Hp → Int32 → Int32 → Int32 → Option (Int32 × Hp)) : Hp → Int32 → Int32 → Int32 → Option (Int32 × Hp) := fun h x2 x3 x4 =>
  lt (x2 + (1 : Int32)) fun v35 =>
  f_X9_crosses_126 r0 k59 k75 h v35 x3 x4
def f_X9_crosses_75 (r0 : Nat) (k59 : Hp → Int32 → Int32 → Option (Int32 × Hp)) (n : Nat) : Hp → Int32 → Int32 → Int32 → Option (Int32 × Hp) := match n with
  | 0 => fun _ _ _ _ => none
  | n + 1 => fun h x2 x3 x4 =>
    lt (f_X9_crosses_75 r0 k59 n) fun k75 =>
    gd (nz (hpR h r0 2)) <|
    if (hpI h (hpR h r0 2) 2) ≤ x4 then (
      lt (x3 + (1 : Int32)) fun v24 =>
      k59 h x2 v24
    ) else (
      (f_X0_cross h (hpR h r0 2) x3 x4).bind fun q26 =>
      if q26 = 0 then (
        f_X9_crosses_126 r0 k59 k75 h x2 x3 x4
      ) else (
        if x2 = 0 then (
          gd (nz (hpR h r0 1)) <|
          (f_X7_add h (hpR h r0 1) (x3.toInt64)).bind fun q31 =>
          gd (nz (hpR q31 r0 1)) <|
          (f_X7_add q31 (hpR q31 r0 1) (x4.toInt64)).bind fun q34 =>
          f_X9_crosses_123 r0 k59 k75 q34 x2 x3 x4
        ) else (
          f_X9_crosses_123 r0 k59 k75 h x2 x3 x4
        )
      )
    )
def f_X9_crosses_59 (r0 : Nat) (n : Nat) : Hp → Int32 → Int32 → Option (Int32 × Hp) := match n with
  | 0 => fun _ _ _ => none
  | n + 1 => fun h x2 x3 =>
    lt (f_X9_crosses_59 r0 n) fun k59 =>
    gd (nz (hpR h r0 2)) <|
    if (hpI h (hpR h r0 2) 2) ≤ x3 then (
      some (x2, h)
    ) else (
      lt (x3 + (1 : Int32)) fun v20 =>
      f_X9_crosses_75 r0 k59 FU h x2 x3 v20
    )
def f_X9_crosses_4 (r0 : Nat) (n : Nat) : Hp → Int32 → Int32 → Option (Int32 × Hp) := match n with
  | 0 => fun _ _ _ => none
  | n + 1 => fun h x1 x2 =>
    lt (f_X9_crosses_4 r0 n) fun k4 =>
    gd (nz (hpR h r0 2)) <|
    (f_X0_cells h (hpR h r0 2)).bind fun q3 =>
    if q3 ≤ x2 then (
      gd (nz (hpR h r0 1)) <|
      (f_X7_start h (hpR h r0 1)).bind fun q7 =>
      gd (nz (hpR q7 r0 1)) <|
      (f_X7_add q7 (hpR q7 r0 1) (x1.toInt64)).bind fun q10 =>
      f_X9_crosses_59 r0 FU q10 (0 : Int32) (0 : Int32)
    ) else (
      (f_X0_onOver h (hpR h r0 2) x2).bind fun q12 =>
      (f_J6_bitCount_0f7a4 h q12).bind fun q13 =>
      if q13 ≤ (1 : Int32) then (
        f_X9_crosses_33 r0 k4 h x1 x2
      ) else (
        lt (x1 + (1 : Int32)) fun v15 =>
        f_X9_crosses_33 r0 k4 h v15 x2
      )
    )
def f_X9_crosses (h : Hp) (r0 : Nat) : Option (Int32 × Hp) :=
  f_X9_crosses_4 r0 FU h (0 : Int32) (0 : Int32)

def f_X9_heap_74 (r0 : Nat) (x1 : Int32) (k41 : Hp → Int32 → Int64 → Int32 → Option (Int32 × Hp)) : Hp → Int32 → Int64 → Int32 → Option (Int32 × Hp) := fun h x2 y3 x5 =>
  lt (x5 + (1 : Int32)) fun v28 =>
  k41 h x2 y3 v28
def f_X9_heap_41 (r0 : Nat) (x1 : Int32) (n : Nat) : Hp → Int32 → Int64 → Int32 → Option (Int32 × Hp) := match n with
  | 0 => fun _ _ _ _ => none
  | n + 1 => fun h x2 y3 x5 =>
    lt (f_X9_heap_41 r0 x1 n) fun k41 =>
    gd (nz (hpR h r0 2)) <|
    if (hpI h (hpR h r0 2) 2) ≤ x5 then (
      gd (nz (hpR h r0 1)) <|
      (f_X7_start h (hpR h r0 1)).bind fun q15 =>
      gd (nz (hpR q15 r0 1)) <|
      (f_J6_bitCount_0f7a4 q15 x2).bind fun q18 =>
      (f_X7_add q15 (hpR q15 r0 1) (q18.toInt64)).bind fun q19 =>
      gd (nz (hpR q19 r0 1)) <|
      (f_X7_add q19 (hpR q19 r0 1) y3).bind fun q22 =>
      some (x2, q22)
    ) else (
      (f_X9_isIn h x2 x5).bind fun q23 =>
      if q23 = 0 then (
        f_X9_heap_74 r0 x1 k41 h x2 y3 x5
      ) else (
        (f_X0_cellsOf h (hpR h r0 2) x5).bind fun q26 =>
        lt (y3 ||| q26) fun v27 =>
        f_X9_heap_74 r0 x1 k41 h x2 v27 x5
      )
    )
def f_X9_heap (h : Hp) (r0 : Nat) (x1 : Int32) : Option (Int32 × Hp) :=
  gd (nz (hpR h r0 2)) <|
  (f_X0_has h (hpR h r0 2) x1).bind fun q3 =>
  if q3 = 0 then (
    some ((-1 : Int32), h)
  ) else (
    (f_X0_isOn h (hpR h r0 2) x1).bind fun q6 =>
    if q6 = 0 then (
      some ((-2 : Int32), h)
    ) else (
      (f_X0_hangTogether h (hpR h r0 2) x1).bind fun q9 =>
      f_X9_heap_41 r0 x1 FU h q9 (0 : Int64) (0 : Int32)
    )
  )

def f_X9_gone_26 (r0 : Nat) (x1 : Int32) (n : Nat) : Hp → Int32 → Option (Int32 × Hp) := match n with
  | 0 => fun _ _ => none
  | n + 1 => fun h x2 =>
    lt (f_X9_gone_26 r0 x1 n) fun k26 =>
    if (100 : Int32) ≤ x2 then (
      some ((-2 : Int32), h)
    ) else (
      gd (nz (hpR h r0 4)) <|
      (f_X0_isOn h (hpR h r0 4) x1).bind fun q12 =>
      if q12 = 0 then (
        gd (nz (hpR h r0 1)) <|
        (f_X7_start h (hpR h r0 1)).bind fun q21 =>
        gd (nz (hpR q21 r0 1)) <|
        gd (nz (hpR q21 r0 4)) <|
        (f_X0_firstCell q21 (hpR q21 r0 4) x1).bind fun q26 =>
        (f_X7_add q21 (hpR q21 r0 1) (q26.toInt64)).bind fun q27 =>
        some (x2, q27)
      ) else (
        gd (nz (hpR h r0 8)) <|
        (f_X0_goBy h (hpR h r0 4) (hpR h r0 8)).bind fun q17 =>
        lt (x2 + (1 : Int32)) fun v18 =>
        k26 q17.2 v18
      )
    )
def f_X9_gone (h : Hp) (r0 : Nat) (x1 : Int32) : Option (Int32 × Hp) :=
  gd (nz (hpR h r0 2)) <|
  (f_X0_has h (hpR h r0 2) x1).bind fun q3 =>
  if q3 = 0 then (
    some ((-1 : Int32), h)
  ) else (
    gd (nz (hpR h r0 4)) <|
    (f_X0_copy h (hpR h r0 4) (hpR h r0 2)).bind fun q8 =>
    f_X9_gone_26 r0 x1 FU q8 (0 : Int32)
  )

def f_X9_lies (h : Hp) (r0 : Nat) (x1 : Int32) (x2 : Int32) : Option (Int32 × Hp) :=
  gd (nz (hpR h r0 2)) <|
  (f_X0_has h (hpR h r0 2) x1).bind fun q3 =>
  if q3 = 0 then (
    some ((-1 : Int32), h)
  ) else (
    if x2 < 0 then (
      some ((-1 : Int32), h)
    ) else (
      if x2 < (100 : Int32) then (
        gd (nz (hpR h r0 4)) <|
        (f_X0_copy h (hpR h r0 4) (hpR h r0 2)).bind fun q10 =>
        gd (nz (hpR q10 r0 4)) <|
        gd (nz (hpR q10 r0 8)) <|
        (f_X0_goByTimes q10 (hpR q10 r0 4) (hpR q10 r0 8) x2).bind fun q15 =>
        gd (nz (hpR q15.2 r0 1)) <|
        (f_X7_start q15.2 (hpR q15.2 r0 1)).bind fun q18 =>
        gd (nz (hpR q18 r0 1)) <|
        gd (nz (hpR q18 r0 4)) <|
        gd (nz (hpR q18 (hpR q18 r0 4) 9)) <|
        gd (inb x1 (hpT q18 (hpR q18 (hpR q18 r0 4) 9)).2) <|
        (f_X7_add q18 (hpR q18 r0 1) ((hpI q18 (hpR q18 (hpR q18 r0 4) 9) (ix x1)).toInt64)).bind fun q26 =>
        gd (nz (hpR q26 r0 1)) <|
        gd (nz (hpR q26 r0 4)) <|
        (f_X0_onBits q26 (hpR q26 r0 4)).bind fun q31 =>
        (f_X7_add q26 (hpR q26 r0 1) (q31.toInt64)).bind fun q32 =>
        gd (nz (hpR q32 r0 4)) <|
        (f_X0_firstCell q32 (hpR q32 r0 4) x1).bind fun q35 =>
        some (q35, q32)
      ) else (
        some ((-1 : Int32), h)
      )
    )
  )

def f_X9_clears_65 (r0 : Nat) (x1 : Int32) (k32 : Hp → Int32 → Int32 → Int32 → Option (Int32 × Hp)) : Hp → Int32 → Int32 → Int32 → Option (Int32 × Hp) := fun h x2 x3 x4 =>
  gd (nz (hpR h r0 4)) <|
  gd (nz (hpR h r0 8)) <|
  (f_X0_goBy h (hpR h r0 4) (hpR h r0 8)).bind fun q27 =>
  lt (x4 + (1 : Int32)) fun v28 =>
  k32 q27.2 x2 x3 v28
def f_X9_clears_32 (r0 : Nat) (x1 : Int32) (n : Nat) : Hp → Int32 → Int32 → Int32 → Option (Int32 × Hp) := match n with
  | 0 => fun _ _ _ _ => none
  | n + 1 => fun h x2 x3 x4 =>
    lt (f_X9_clears_32 r0 x1 n) fun k32 =>
    if (100 : Int32) ≤ x4 then (
      if x2 = (-2 : Int32) then (
        some (x2, h)
      ) else (
        gd (nz (hpR h r0 1)) <|
        (f_X7_start h (hpR h r0 1)).bind fun q13 =>
        gd (nz (hpR q13 r0 1)) <|
        (f_X7_add q13 (hpR q13 r0 1) (x3.toInt64)).bind fun q16 =>
        some (x2, q16)
      )
    ) else (
      gd (nz (hpR h r0 4)) <|
      (f_X0_onOver h (hpR h r0 4) x1).bind fun q19 =>
      if q19 = 0 then (
        f_X9_clears_65 r0 x1 k32 h (if x2 = (-2 : Int32) then x4 else x2) x3 x4
      ) else (
        lt (x3 + (1 : Int32)) fun v22 =>
        f_X9_clears_65 r0 x1 k32 h x2 v22 x4
      )
    )
def f_X9_clears (h : Hp) (r0 : Nat) (x1 : Int32) : Option (Int32 × Hp) :=
  gd (nz (hpR h r0 2)) <|
  (f_X0_hasCell h (hpR h r0 2) x1).bind fun q3 =>
  if q3 = 0 then (
    some ((-1 : Int32), h)
  ) else (
    gd (nz (hpR h r0 4)) <|
    (f_X0_copy h (hpR h r0 4) (hpR h r0 2)).bind fun q8 =>
    f_X9_clears_32 r0 x1 FU q8 (-2 : Int32) (0 : Int32) (0 : Int32)
  )

def f_X9_room_63 (r0 : Nat) (x1 : Int32) (x2 : Int32) (k34 : Hp → Int32 → Int32 → Int32 → Option (Int32 × Hp)) : Hp → Int32 → Int32 → Int32 → Option (Int32 × Hp) := fun h x3 x4 x5 =>
  lt (x5 + (1 : Int32)) fun v21 =>
  k34 h x3 x4 v21
def f_X9_room_34 (r0 : Nat) (x1 : Int32) (x2 : Int32) (n : Nat) : Hp → Int32 → Int32 → Int32 → Option (Int32 × Hp) := match n with
  | 0 => fun _ _ _ _ => none
  | n + 1 => fun h x3 x4 x5 =>
    lt (f_X9_room_34 r0 x1 x2 n) fun k34 =>
    gd (nz (hpR h r0 2)) <|
    (f_X0_cells h (hpR h r0 2)).bind fun q9 =>
    if q9 ≤ x5 then (
      gd (nz (hpR h r0 1)) <|
      (f_X7_start h (hpR h r0 1)).bind fun q13 =>
      gd (nz (hpR q13 r0 1)) <|
      (f_X7_add q13 (hpR q13 r0 1) (x4.toInt64)).bind fun q16 =>
      some (x3, q16)
    ) else (
      (f_X0_isRoom h (hpR h r0 2) x5 x1 x2).bind fun q18 =>
      if q18 = 0 then (
        f_X9_room_63 r0 x1 x2 k34 h x3 x4 x5
      ) else (
        lt (x4 + (1 : Int32)) fun v20 =>
        f_X9_room_63 r0 x1 x2 k34 h x3 v20 x5
      )
    )
def f_X9_room (h : Hp) (r0 : Nat) (x1 : Int32) (x2 : Int32) : Option (Int32 × Hp) :=
  (f_X9_areSides h x1 x2).bind fun q1 =>
  if q1 = 0 then (
    some ((-1 : Int32), h)
  ) else (
    gd (nz (hpR h r0 2)) <|
    (f_X0_firstRoom h (hpR h r0 2) x1 x2).bind fun q5 =>
    if q5 = (-1 : Int32) then (
      some ((-2 : Int32), h)
    ) else (
      f_X9_room_34 r0 x1 x2 FU h q5 (0 : Int32) q5
    )
  )

def f_X9_when_23 (r0 : Nat) (x1 : Int32) (x2 : Int32) (n : Nat) : Hp → Int32 → Option (Int32 × Hp) := match n with
  | 0 => fun _ _ => none
  | n + 1 => fun h x3 =>
    lt (f_X9_when_23 r0 x1 x2 n) fun k23 =>
    if (100 : Int32) ≤ x3 then (
      some ((-2 : Int32), h)
    ) else (
      gd (nz (hpR h r0 4)) <|
      (f_X0_firstRoom h (hpR h r0 4) x1 x2).bind fun q11 =>
      if q11 = (-1 : Int32) then (
        gd (nz (hpR h r0 8)) <|
        (f_X0_goBy h (hpR h r0 4) (hpR h r0 8)).bind fun q16 =>
        lt (x3 + (1 : Int32)) fun v17 =>
        k23 q16.2 v17
      ) else (
        gd (nz (hpR h r0 1)) <|
        (f_X7_start h (hpR h r0 1)).bind fun q20 =>
        gd (nz (hpR q20 r0 1)) <|
        (f_X7_add q20 (hpR q20 r0 1) (q11.toInt64)).bind fun q23 =>
        some (x3, q23)
      )
    )
def f_X9_when (h : Hp) (r0 : Nat) (x1 : Int32) (x2 : Int32) : Option (Int32 × Hp) :=
  (f_X9_areSides h x1 x2).bind fun q1 =>
  if q1 = 0 then (
    some ((-1 : Int32), h)
  ) else (
    gd (nz (hpR h r0 4)) <|
    gd (nz (hpR h r0 2)) <|
    (f_X0_copy h (hpR h r0 4) (hpR h r0 2)).bind fun q7 =>
    f_X9_when_23 r0 x1 x2 FU q7 (0 : Int32)
  )

def f_X9_least_74 (r0 : Nat) (x1 : Int32) (x2 : Int32) (k21 : Hp → Int32 → Int32 → Int32 → Option (Int32 × Hp)) : Hp → Int32 → Int32 → Int32 → Option (Int32 × Hp) := fun h x3 x4 x5 =>
  lt (x5 + (1 : Int32)) fun v26 =>
  k21 h x3 x4 v26
def f_X9_least_21 (r0 : Nat) (x1 : Int32) (x2 : Int32) (n : Nat) : Hp → Int32 → Int32 → Int32 → Option (Int32 × Hp) := match n with
  | 0 => fun _ _ _ _ => none
  | n + 1 => fun h x3 x4 x5 =>
    lt (f_X9_least_21 r0 x1 x2 n) fun k21 =>
    gd (nz (hpR h r0 2)) <|
    (f_X0_cells h (hpR h r0 2)).bind fun q5 =>
    if q5 ≤ x5 then (
      if x3 = (-2 : Int32) then (
        some (x3, h)
      ) else (
        gd (nz (hpR h r0 1)) <|
        (f_X7_start h (hpR h r0 1)).bind fun q10 =>
        gd (nz (hpR q10 r0 1)) <|
        (f_X7_add q10 (hpR q10 r0 1) (x4.toInt64)).bind fun q13 =>
        gd (nz (hpR q13 r0 1)) <|
        gd (nz (hpR q13 r0 2)) <|
        (f_X0_onUnder q13 (hpR q13 r0 2) x3 x1 x2).bind fun q18 =>
        (f_X7_add q13 (hpR q13 r0 1) (q18.toInt64)).bind fun q19 =>
        some (x3, q19)
      )
    ) else (
      (f_X0_holds h (hpR h r0 2) x5 x1 x2).bind fun q21 =>
      if q21 = 0 then (
        f_X9_least_74 r0 x1 x2 k21 h x3 x4 x5
      ) else (
        (f_X0_strengthUnder h (hpR h r0 2) x5 x1 x2).bind fun q24 =>
        f_X9_least_74 r0 x1 x2 k21 h (if x4 ≤ q24 then x3 else x5) (if x4 ≤ q24 then x4 else q24) x5
      )
    )
def f_X9_least (h : Hp) (r0 : Nat) (x1 : Int32) (x2 : Int32) : Option (Int32 × Hp) :=
  (f_X9_areSides h x1 x2).bind fun q1 =>
  if q1 = 0 then (
    some ((-1 : Int32), h)
  ) else (
    f_X9_least_21 r0 x1 x2 FU h (-2 : Int32) (2147483647 : Int32) (0 : Int32)
  )

def f_X9_largest_112 (r0 : Nat) (k11 : Hp → Int32 → Int32 → Option (Int32 × Hp)) (k24 : Hp → Int32 → Int32 → Int32 → Option (Int32 × Hp)) (k38 : Hp → Int32 → Int32 → Int32 → Int32 → Option (Int32 × Hp)) : Hp → Int32 → Int32 → Int32 → Int32 → Option (Int32 × Hp) := fun h x1 x2 x3 x4 =>
  lt (x4 + (1 : Int32)) fun v33 =>
  k38 h x1 x2 x3 v33
def f_X9_largest_38 (r0 : Nat) (k11 : Hp → Int32 → Int32 → Option (Int32 × Hp)) (k24 : Hp → Int32 → Int32 → Int32 → Option (Int32 × Hp)) (n : Nat) : Hp → Int32 → Int32 → Int32 → Int32 → Option (Int32 × Hp) := match n with
  | 0 => fun _ _ _ _ _ => none
  | n + 1 => fun h x1 x2 x3 x4 =>
    lt (f_X9_largest_38 r0 k11 k24 n) fun k38 =>
    gd (nz (hpR h r0 2)) <|
    if (hpI h (hpR h r0 2) 1) < x4 then (
      lt (x3 + (1 : Int32)) fun v15 =>
      k24 h x1 x2 v15
    ) else (
      if (x3 * x4) ≤ x1 then (
        f_X9_largest_112 r0 k11 k24 k38 h x1 x2 x3 x4
      ) else (
        (f_X0_isRoom h (hpR h r0 2) x2 x3 x4).bind fun q18 =>
        if q18 = 0 then (
          f_X9_largest_112 r0 k11 k24 k38 h x1 x2 x3 x4
        ) else (
          lt (x3 * x4) fun v20 =>
          gd (nz (hpR h r0 1)) <|
          (f_X7_start h (hpR h r0 1)).bind fun q23 =>
          gd (nz (hpR q23 r0 1)) <|
          (f_X7_add q23 (hpR q23 r0 1) (x2.toInt64)).bind fun q26 =>
          gd (nz (hpR q26 r0 1)) <|
          (f_X7_add q26 (hpR q26 r0 1) (x3.toInt64)).bind fun q29 =>
          gd (nz (hpR q29 r0 1)) <|
          (f_X7_add q29 (hpR q29 r0 1) (x4.toInt64)).bind fun q32 =>
          f_X9_largest_112 r0 k11 k24 k38 q32 v20 x2 x3 x4
        )
      )
    )
def f_X9_largest_24 (r0 : Nat) (k11 : Hp → Int32 → Int32 → Option (Int32 × Hp)) (n : Nat) : Hp → Int32 → Int32 → Int32 → Option (Int32 × Hp) := match n with
  | 0 => fun _ _ _ _ => none
  | n + 1 => fun h x1 x2 x3 =>
    lt (f_X9_largest_24 r0 k11 n) fun k24 =>
    gd (nz (hpR h r0 2)) <|
    if (hpI h (hpR h r0 2) 0) < x3 then (
      lt (x2 + (1 : Int32)) fun v11 =>
      k11 h x1 v11
    ) else (
      f_X9_largest_38 r0 k11 k24 FU h x1 x2 x3 (1 : Int32)
    )
def f_X9_largest_11 (r0 : Nat) (n : Nat) : Hp → Int32 → Int32 → Option (Int32 × Hp) := match n with
  | 0 => fun _ _ _ => none
  | n + 1 => fun h x1 x2 =>
    lt (f_X9_largest_11 r0 n) fun k11 =>
    gd (nz (hpR h r0 2)) <|
    (f_X0_cells h (hpR h r0 2)).bind fun q6 =>
    if q6 ≤ x2 then (
      some (x1, h)
    ) else (
      f_X9_largest_24 r0 k11 FU h x1 x2 (1 : Int32)
    )
def f_X9_largest (h : Hp) (r0 : Nat) : Option (Int32 × Hp) :=
  gd (nz (hpR h r0 1)) <|
  (f_X7_start h (hpR h r0 1)).bind fun q3 =>
  f_X9_largest_11 r0 FU q3 (0 : Int32) (0 : Int32)

def f_X9_makes_92 (r0 : Nat) (x1 : Int32) (x2 : Int32) (k20 : Hp → Int32 → Int32 → Int32 → Option (Int32 × Hp)) : Hp → Int32 → Int32 → Int32 → Option (Int32 × Hp) := fun h x3 x4 x5 =>
  lt (x5 + (1 : Int32)) fun v23 =>
  k20 h x3 x4 v23
def f_X9_makes_85 (r0 : Nat) (x1 : Int32) (x2 : Int32) (k20 : Hp → Int32 → Int32 → Int32 → Option (Int32 × Hp)) : Hp → Int32 → Int32 → Int32 → Option (Int32 × Hp) := fun h x5 x6 x7 =>
  f_X9_makes_92 r0 x1 x2 k20 h x7 x6 x5
def f_X9_makes_20 (r0 : Nat) (x1 : Int32) (x2 : Int32) (n : Nat) : Hp → Int32 → Int32 → Int32 → Option (Int32 × Hp) := match n with
  | 0 => fun _ _ _ _ => none
  | n + 1 => fun h x3 x4 x5 =>
    lt (f_X9_makes_20 r0 x1 x2 n) fun k20 =>
    gd (nz (hpR h r0 2)) <|
    (f_X0_cells h (hpR h r0 2)).bind fun q5 =>
    if q5 ≤ x5 then (
      if x3 ≤ (8 : Int32) then (
        gd (nz (hpR h r0 1)) <|
        (f_X7_start h (hpR h r0 1)).bind fun q10 =>
        gd (nz (hpR q10 r0 1)) <|
        (f_X7_add q10 (hpR q10 r0 1) (x4.toInt64)).bind fun q13 =>
        some (x3, q13)
      ) else (
        some ((-2 : Int32), h)
      )
    ) else (
      (f_X0_holds h (hpR h r0 2) x5 x1 x2).bind fun q15 =>
      if q15 = 0 then (
        f_X9_makes_92 r0 x1 x2 k20 h x3 x4 x5
      ) else (
        (f_X0_onUnder h (hpR h r0 2) x5 x1 x2).bind fun q18 =>
        (f_J6_bitCount_0f7a4 h q18).bind fun q19 =>
        if q19 < x3 then (
          f_X9_makes_85 r0 x1 x2 k20 h x5 q18 q19
        ) else (
          if q19 = x3 then (
            if x4 ≤ q18 then (
              f_X9_makes_92 r0 x1 x2 k20 h x3 x4 x5
            ) else (
              f_X9_makes_85 r0 x1 x2 k20 h x5 q18 q19
            )
          ) else (
            f_X9_makes_92 r0 x1 x2 k20 h x3 x4 x5
          )
        )
      )
    )
def f_X9_makes (h : Hp) (r0 : Nat) (x1 : Int32) (x2 : Int32) : Option (Int32 × Hp) :=
  (f_X9_areSides h x1 x2).bind fun q1 =>
  if q1 = 0 then (
    some ((-1 : Int32), h)
  ) else (
    f_X9_makes_20 r0 x1 x2 FU h (2147483647 : Int32) (0 : Int32) (0 : Int32)
  )

def f_X9_meets (h : Hp) (r0 : Nat) (x1 : Int32) (x2 : Int32) (x3 : Int32) : Option (Int32 × Hp) :=
  gd (nz (hpR h r0 2)) <|
  (f_X0_hasCell h (hpR h r0 2) x1).bind fun q3 =>
  if q3 = 0 then (
    some ((-1 : Int32), h)
  ) else (
    (f_X0_hasCell h (hpR h r0 2) x2).bind fun q6 =>
    if q6 = 0 then (
      some ((-1 : Int32), h)
    ) else (
      if x3 < 0 then (
        some ((-1 : Int32), h)
      ) else (
        lt (shl32 (1 : Int32) (hpI h (hpR h r0 2) 2)) fun v10 =>
        if x3 < v10 then (
          (f_X0_onBits h (hpR h r0 2)).bind fun q13 =>
          if (x3 &&& (q13 ^^^ (-1 : Int32))) = 0 then (
            gd (nz (hpR h r0 13)) <|
            gd (nz (hpR h r0 1)) <|
            (f_X8_shortest h (hpR h r0 13) (hpR h r0 2) x1 x2 x3 (-1 : Int64) (hpR h r0 1)).bind fun q20 =>
            some (q20.1, q20.2)
          ) else (
            some ((-2 : Int32), h)
          )
        ) else (
          some ((-1 : Int32), h)
        )
      )
    )
  )

def f_X9_quiet (h : Hp) (r0 : Nat) (x1 : Int32) (x2 : Int32) : Option (Int32 × Hp) :=
  gd (nz (hpR h r0 2)) <|
  (f_X0_hasCell h (hpR h r0 2) x1).bind fun q3 =>
  if q3 = 0 then (
    some ((-1 : Int32), h)
  ) else (
    (f_X0_hasCell h (hpR h r0 2) x2).bind fun q6 =>
    if q6 = 0 then (
      some ((-1 : Int32), h)
    ) else (
      (f_X0_sleptCells h (hpR h r0 2)).bind fun q9 =>
      lt (shl64 (1 : Int64) x1) fun v10 =>
      lt (shl64 (1 : Int64) x2) fun v11 =>
      lt (((q9 ^^^ (-1 : Int64)) ||| v10) ||| v11) fun v12 =>
      gd (nz (hpR h r0 13)) <|
      gd (nz (hpR h r0 1)) <|
      (f_X8_shortest h (hpR h r0 13) (hpR h r0 2) x1 x2 (0 : Int32) v12 (hpR h r0 1)).bind fun q18 =>
      some (q18.1, q18.2)
    )
  )

def f_X9_soft (h : Hp) (r0 : Nat) (x1 : Int32) (x2 : Int32) : Option (Int32 × Hp) :=
  gd (nz (hpR h r0 2)) <|
  (f_X0_hasCell h (hpR h r0 2) x1).bind fun q3 =>
  if q3 = 0 then (
    some ((-1 : Int32), h)
  ) else (
    (f_X0_hasCell h (hpR h r0 2) x2).bind fun q6 =>
    if q6 = 0 then (
      some ((-1 : Int32), h)
    ) else (
      gd (nz (hpR h r0 13)) <|
      gd (nz (hpR h r0 1)) <|
      (f_X8_softest h (hpR h r0 13) (hpR h r0 2) x1 x2 (hpR h r0 1)).bind fun q13 =>
      some (q13.1, q13.2)
    )
  )

def f_X9_seen (h : Hp) (r0 : Nat) (x1 : Int32) : Option (Int32 × Hp) :=
  if x1 < 0 then (
    some ((-1 : Int32), h)
  ) else (
    gd (nz (hpR h r0 2)) <|
    if x1 < (hpI h (hpR h r0 2) 0) then (
      (f_X0_seenFrom h (hpR h r0 2) x1).bind fun q6 =>
      gd (nz (hpR h r0 1)) <|
      (f_X7_start h (hpR h r0 1)).bind fun q9 =>
      gd (nz (hpR q9 r0 1)) <|
      (f_J6_bitCount_0f7a4 q9 q6).bind fun q12 =>
      (f_X7_add q9 (hpR q9 r0 1) (q12.toInt64)).bind fun q13 =>
      some (q6, q13)
    ) else (
      some ((-1 : Int32), h)
    )
  )

def f_X9_seats_64 (r0 : Nat) (k35 : Hp → Int32 → Int32 → Int32 → Option (Int32 × Hp)) : Hp → Int32 → Int32 → Int32 → Option (Int32 × Hp) := fun h x1 x2 x3 =>
  lt (x3 + (-1 : Int32)) fun v31 =>
  k35 h x1 x2 v31
def f_X9_seats_35 (r0 : Nat) (n : Nat) : Hp → Int32 → Int32 → Int32 → Option (Int32 × Hp) := match n with
  | 0 => fun _ _ _ _ => none
  | n + 1 => fun h x1 x2 x3 =>
    lt (f_X9_seats_35 r0 n) fun k35 =>
    if x3 < 0 then (
      gd (nz (hpR h r0 1)) <|
      (f_X7_start h (hpR h r0 1)).bind fun q13 =>
      gd (nz (hpR q13 r0 1)) <|
      (f_X7_add q13 (hpR q13 r0 1) (x2.toInt64)).bind fun q16 =>
      gd (nz (hpR q16 r0 1)) <|
      gd (nz (hpR q16 r0 2)) <|
      (f_X0_onBits q16 (hpR q16 r0 2)).bind fun q21 =>
      (f_X7_add q16 (hpR q16 r0 1) ((q21 &&& (x1 ^^^ (-1 : Int32))).toInt64)).bind fun q22 =>
      (f_J6_bitCount_0f7a4 q22 x2).bind fun q23 =>
      some (q23, q22)
    ) else (
      (f_J6_bitCount_0f7a4 h x3).bind fun q24 =>
      (f_J6_bitCount_0f7a4 h x2).bind fun q25 =>
      if q25 < q24 then (
        f_X9_seats_64 r0 k35 h x1 x2 x3
      ) else (
        gd (nz (hpR h r0 2)) <|
        (f_X0_seenFromRows h (hpR h r0 2) x3).bind fun q29 =>
        f_X9_seats_64 r0 k35 h x1 (if q29 = x1 then x3 else x2) x3
      )
    )
def f_X9_seats (h : Hp) (r0 : Nat) : Option (Int32 × Hp) :=
  gd (nz (hpR h r0 2)) <|
  lt (shl32 (1 : Int32) (hpI h (hpR h r0 2) 0)) fun v4 =>
  (f_X0_seenFromRows h (hpR h r0 2) (v4 - (1 : Int32))).bind fun q5 =>
  lt (shl32 (1 : Int32) (hpI h (hpR h r0 2) 0)) fun v7 =>
  lt (v7 - (1 : Int32)) fun v8 =>
  lt (v8 - (1 : Int32)) fun v9 =>
  f_X9_seats_35 r0 FU h q5 v8 v9

def f_X9_marked (h : Hp) (r0 : Nat) (x1 : Int32) (x2 : Int32) (x3 : Int32) : Option (Int32 × Hp) :=
  gd (nz (hpR h r0 2)) <|
  (f_X0_has h (hpR h r0 2) x1).bind fun q3 =>
  if q3 = 0 then (
    some ((-1 : Int32), h)
  ) else (
    if x2 < 0 then (
      some ((-1 : Int32), h)
    ) else (
      if (31 : Int32) ≤ x2 then (
        some ((-1 : Int32), h)
      ) else (
        if x3 < 0 then (
          some ((-1 : Int32), h)
        ) else (
          if (1 : Int32) < x3 then (
            some ((-1 : Int32), h)
          ) else (
            gd (nz (hpR h r0 11)) <|
            (f_X2_isFull h (hpR h r0 11)).bind fun q11 =>
            if q11 = 0 then (
              (f_X2_add h (hpR h r0 11) x1 x2 x3).bind fun q14 =>
              gd (nz (hpR q14 r0 11)) <|
              some ((hpI q14 (hpR q14 r0 11) 3), q14)
            ) else (
              some ((-1 : Int32), h)
            )
          )
        )
      )
    )
  )

def f_X9_wiped (h : Hp) (r0 : Nat) : Option (Int32 × Hp) :=
  gd (nz (hpR h r0 11)) <|
  (f_X2_wipe h (hpR h r0 11)).bind fun q3 =>
  some (q3.1, q3.2)

def f_X9_isAsMarked_64 (h : Hp) (r0 : Nat) (x1 : Int32) (k2 : Int32 → Option Int32) : Int32 → Int32 → Int32 → Option Int32 := fun s0 s1 x2 =>
  if s0 = s1 then (
    lt (x2 + (1 : Int32)) fun v23 =>
    k2 v23
  ) else (
    some (0 : Int32)
  )
def f_X9_isAsMarked_2 (h : Hp) (r0 : Nat) (x1 : Int32) (n : Nat) : Int32 → Option Int32 := match n with
  | 0 => fun _ => none
  | n + 1 => fun x2 =>
    lt (f_X9_isAsMarked_2 h r0 x1 n) fun k2 =>
    gd (nz (hpR h r0 11)) <|
    if (hpI h (hpR h r0 11) 3) ≤ x2 then (
      some (1 : Int32)
    ) else (
      gd (nz (hpR h r0 14)) <|
      gd (nz (hpR h (hpR h r0 11) 1)) <|
      gd (inb x2 (hpT h (hpR h (hpR h r0 11) 1)).2) <|
      gd (inb ((x1 * (31 : Int32)) + (hpI h (hpR h (hpR h r0 11) 1) (ix x2))) (hpT h (hpR h r0 14)).2) <|
      lt (hpI h (hpR h r0 14) (ix ((x1 * (31 : Int32)) + (hpI h (hpR h (hpR h r0 11) 1) (ix x2))))) fun v11 =>
      gd (nz (hpR h (hpR h r0 11) 0)) <|
      gd (inb x2 (hpT h (hpR h (hpR h r0 11) 0)).2) <|
      (f_X9_isIn h v11 (hpI h (hpR h (hpR h r0 11) 0) (ix x2))).bind fun q16 =>
      gd (nz (hpR h (hpR h r0 11) 2)) <|
      gd (inb x2 (hpT h (hpR h (hpR h r0 11) 2)).2) <|
      f_X9_isAsMarked_64 h r0 x1 k2 q16 (if (hpI h (hpR h (hpR h r0 11) 2) (ix x2)) = (1 : Int32) then (1 : Int32) else (0 : Int32)) x2
    )
def f_X9_isAsMarked (h : Hp) (r0 : Nat) (x1 : Int32) : Option Int32 :=
  f_X9_isAsMarked_2 h r0 x1 FU (0 : Int32)

def f_X9_fittingLaws_92 (r0 : Nat) (k4 : Hp → Int32 → Int32 → Option (Int32 × Hp)) : Hp → Int32 → Int32 → Option (Int32 × Hp) := fun h x1 x2 =>
  lt (x2 + (1 : Int32)) fun v29 =>
  k4 h x1 v29
def f_X9_fittingLaws_36 (r0 : Nat) (k4 : Hp → Int32 → Int32 → Option (Int32 × Hp)) (n : Nat) : Hp → Int32 → Int32 → Int32 → Option (Int32 × Hp) := match n with
  | 0 => fun _ _ _ _ => none
  | n + 1 => fun h x1 x2 x3 =>
    lt (f_X9_fittingLaws_36 r0 k4 n) fun k36 =>
    if (31 : Int32) ≤ x3 then (
      (f_X9_isAsMarked h r0 x2).bind fun q12 =>
      if q12 = 0 then (
        f_X9_fittingLaws_92 r0 k4 h x1 x2
      ) else (
        lt (shl32 (1 : Int32) x2) fun v14 =>
        lt (x1 ||| v14) fun v15 =>
        f_X9_fittingLaws_92 r0 k4 h v15 x2
      )
    ) else (
      gd (nz (hpR h r0 14)) <|
      gd (nz (hpR h r0 4)) <|
      (f_X0_onBits h (hpR h r0 4)).bind fun q20 =>
      gd (inb ((x2 * (31 : Int32)) + x3) (hpT h (hpR h r0 14)).2) <|
      lt (upI h (hpR h r0 14) (ix ((x2 * (31 : Int32)) + x3)) q20) fun h22 =>
      gd (nz (hpR h22 r0 4)) <|
      gd (nz (hpR h22 r0 9)) <|
      (f_X0_goBy h22 (hpR h22 r0 4) (hpR h22 r0 9)).bind fun q27 =>
      lt (x3 + (1 : Int32)) fun v28 =>
      k36 q27.2 x1 x2 v28
    )
def f_X9_fittingLaws_4 (r0 : Nat) (n : Nat) : Hp → Int32 → Int32 → Option (Int32 × Hp) := match n with
  | 0 => fun _ _ _ => none
  | n + 1 => fun h x1 x2 =>
    lt (f_X9_fittingLaws_4 r0 n) fun k4 =>
    if (16 : Int32) ≤ x2 then (
      some (x1, h)
    ) else (
      gd (nz (hpR h r0 9)) <|
      lt (rm32 x2 (4 : Int32)) fun v4 =>
      (f_X4_putLaw h (hpR h r0 9) (x2 / (4 : Int32)) v4).bind fun q5 =>
      gd (nz (hpR q5 r0 4)) <|
      gd (nz (hpR q5 r0 2)) <|
      (f_X0_copy q5 (hpR q5 r0 4) (hpR q5 r0 2)).bind fun q10 =>
      f_X9_fittingLaws_36 r0 k4 FU q10 x1 x2 (0 : Int32)
    )
def f_X9_fittingLaws (h : Hp) (r0 : Nat) : Option (Int32 × Hp) :=
  f_X9_fittingLaws_4 r0 FU h (0 : Int32) (0 : Int32)

def f_X9_firstIn_2 (h : Hp) (x0 : Int32) (n : Nat) : Int32 → Option Int32 := match n with
  | 0 => fun _ => none
  | n + 1 => fun x1 =>
    lt (f_X9_firstIn_2 h x0 n) fun k2 =>
    if (16 : Int32) ≤ x1 then (
      some (-1 : Int32)
    ) else (
      (f_X9_isIn h x0 x1).bind fun q2 =>
      if q2 = 0 then (
        lt (x1 + (1 : Int32)) fun v4 =>
        k2 v4
      ) else (
        some x1
      )
    )
def f_X9_firstIn (h : Hp) (x0 : Int32) : Option Int32 :=
  f_X9_firstIn_2 h x0 FU (0 : Int32)

def f_X9_laws_43 (r0 : Nat) : Hp → Int32 → Option (Int32 × Hp) := fun h x1 =>
  (f_J6_bitCount_0f7a4 h x1).bind fun q14 =>
  some (q14, h)
def f_X9_laws (h : Hp) (r0 : Nat) : Option (Int32 × Hp) :=
  (f_X9_fittingLaws h r0).bind fun q1 =>
  gd (nz (hpR q1.2 r0 1)) <|
  (f_X7_start q1.2 (hpR q1.2 r0 1)).bind fun q4 =>
  if q1.1 = 0 then (
    f_X9_laws_43 r0 q4 q1.1
  ) else (
    (f_X9_firstIn q4 q1.1).bind fun q6 =>
    gd (nz (hpR q4 r0 1)) <|
    (f_X7_add q4 (hpR q4 r0 1) ((q6 / (4 : Int32)).toInt64)).bind fun q9 =>
    gd (nz (hpR q9 r0 1)) <|
    lt (rm32 q6 (4 : Int32)) fun v12 =>
    (f_X7_add q9 (hpR q9 r0 1) (v12.toInt64)).bind fun q13 =>
    f_X9_laws_43 r0 q13 q1.1
  )

def f_X9_lawsLeft_44 (h : Hp) (r0 : Nat) (x1 : Int32) (x2 : Int32) (x3 : Int32) (k6 : Int32 → Int32 → Option Int32) : Int32 → Int32 → Option Int32 := fun x4 x5 =>
  lt (x5 + (1 : Int32)) fun v12 =>
  k6 x4 v12
def f_X9_lawsLeft_6 (h : Hp) (r0 : Nat) (x1 : Int32) (x2 : Int32) (x3 : Int32) (n : Nat) : Int32 → Int32 → Option Int32 := match n with
  | 0 => fun _ _ => none
  | n + 1 => fun x4 x5 =>
    lt (f_X9_lawsLeft_6 h r0 x1 x2 x3 n) fun k6 =>
    if (16 : Int32) ≤ x5 then (
      (f_J6_bitCount_0f7a4 h x1).bind fun q2 =>
      lt (mx32 x4 (q2 - x4)) fun v3 =>
      some v3
    ) else (
      (f_X9_isIn h x1 x5).bind fun q4 =>
      if q4 = 0 then (
        f_X9_lawsLeft_44 h r0 x1 x2 x3 k6 x4 x5
      ) else (
        gd (nz (hpR h r0 14)) <|
        gd (inb ((x5 * (31 : Int32)) + x3) (hpT h (hpR h r0 14)).2) <|
        (f_X9_isIn h (hpI h (hpR h r0 14) (ix ((x5 * (31 : Int32)) + x3))) x2).bind fun q9 =>
        if q9 = 0 then (
          f_X9_lawsLeft_44 h r0 x1 x2 x3 k6 x4 x5
        ) else (
          lt (x4 + (1 : Int32)) fun v11 =>
          f_X9_lawsLeft_44 h r0 x1 x2 x3 k6 v11 x5
        )
      )
    )
def f_X9_lawsLeft (h : Hp) (r0 : Nat) (x1 : Int32) (x2 : Int32) (x3 : Int32) : Option Int32 :=
  f_X9_lawsLeft_6 h r0 x1 x2 x3 FU (0 : Int32) (0 : Int32)

def f_X9_watch_81 (r0 : Nat) (k30 : Hp → Int32 → Int32 → Int32 → Int32 → Option (Int32 × Hp)) (k45 : Hp → Int32 → Int32 → Int32 → Int32 → Int32 → Option (Int32 × Hp)) : Hp → Int32 → Int32 → Int32 → Int32 → Int32 → Option (Int32 × Hp) := fun h x1 x2 x3 x4 x5 =>
  lt (x5 + (1 : Int32)) fun v20 =>
  k45 h x1 x2 x3 x4 v20
def f_X9_watch_45 (r0 : Nat) (k30 : Hp → Int32 → Int32 → Int32 → Int32 → Option (Int32 × Hp)) (n : Nat) : Hp → Int32 → Int32 → Int32 → Int32 → Int32 → Option (Int32 × Hp) := match n with
  | 0 => fun _ _ _ _ _ _ => none
  | n + 1 => fun h x1 x2 x3 x4 x5 =>
    lt (f_X9_watch_45 r0 k30 n) fun k45 =>
    if (31 : Int32) ≤ x5 then (
      lt (x4 + (1 : Int32)) fun v16 =>
      k30 h x1 x2 x3 v16
    ) else (
      (f_X9_lawsLeft h r0 x1 x4 x5).bind fun q17 =>
      if x3 ≤ q17 then (
        f_X9_watch_81 r0 k30 k45 h x1 x2 x3 x4 x5
      ) else (
        lt (((31 : Int32) * x4) + x5) fun v19 =>
        f_X9_watch_81 r0 k30 k45 h x1 v19 q17 x4 x5
      )
    )
def f_X9_watch_30 (r0 : Nat) (n : Nat) : Hp → Int32 → Int32 → Int32 → Int32 → Option (Int32 × Hp) := match n with
  | 0 => fun _ _ _ _ _ => none
  | n + 1 => fun h x1 x2 x3 x4 =>
    lt (f_X9_watch_30 r0 n) fun k30 =>
    gd (nz (hpR h r0 2)) <|
    if (hpI h (hpR h r0 2) 2) ≤ x4 then (
      gd (nz (hpR h r0 1)) <|
      (f_X7_start h (hpR h r0 1)).bind fun q11 =>
      gd (nz (hpR q11 r0 1)) <|
      (f_X7_add q11 (hpR q11 r0 1) (x3.toInt64)).bind fun q14 =>
      some (x2, q14)
    ) else (
      f_X9_watch_45 r0 k30 FU h x1 x2 x3 x4 (0 : Int32)
    )
def f_X9_watch (h : Hp) (r0 : Nat) : Option (Int32 × Hp) :=
  (f_X9_fittingLaws h r0).bind fun q1 =>
  if q1.1 = 0 then (
    some ((-2 : Int32), q1.2)
  ) else (
    gd (nz (hpR q1.2 r0 2)) <|
    if (hpI q1.2 (hpR q1.2 r0 2) 2) = 0 then (
      some ((-2 : Int32), q1.2)
    ) else (
      f_X9_watch_30 r0 FU q1.2 q1.1 (0 : Int32) (17 : Int32) (0 : Int32)
    )
  )

def f_X9_mostHeard (h : Hp) (x0 : Int32) : Option Int32 :=
  if x0 = (0 : Int32) then (
    some (9 : Int32)
  ) else
  if x0 = (1 : Int32) then (
    some (5 : Int32)
  ) else
  if x0 = (2 : Int32) then (
    some (5 : Int32)
  ) else
  if x0 = (3 : Int32) then (
    some (99 : Int32)
  ) else
  if x0 = (4 : Int32) then (
    some (7 : Int32)
  ) else
  some (-1 : Int32)

def f_X9_heard (h : Hp) (r0 : Nat) (x1 : Int32) (x2 : Int32) : Option (Int32 × Hp) :=
  if x2 < 0 then (
    some ((-1 : Int32), h)
  ) else (
    (f_X9_mostHeard h x1).bind fun q2 =>
    if q2 < x2 then (
      some ((-1 : Int32), h)
    ) else (
      gd (nz (hpR h r0 12)) <|
      (f_X2_isFull h (hpR h r0 12)).bind fun q6 =>
      if q6 = 0 then (
        (f_X2_add h (hpR h r0 12) x1 x2 (0 : Int32)).bind fun q9 =>
        gd (nz (hpR q9 r0 12)) <|
        some ((hpI q9 (hpR q9 r0 12) 3), q9)
      ) else (
        some ((-1 : Int32), h)
      )
    )
  )

def f_X9_forget (h : Hp) (r0 : Nat) : Option (Int32 × Hp) :=
  gd (nz (hpR h r0 12)) <|
  (f_X2_wipe h (hpR h r0 12)).bind fun q3 =>
  some (q3.1, q3.2)

