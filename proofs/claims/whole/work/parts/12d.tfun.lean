def f_X9_camp_21 (r0 : Nat) (x1 : Int32) (x2 : Int32) : Hp → Option (Option Int32 × Hp) := fun h =>
  some (none, h)
def f_X9_camp (h : Hp) (r0 : Nat) (x1 : Int32) (x2 : Int32) : Option (Option Int32 × Hp) :=
  gd (nz (hpR h r0 2)) <|
  (f_X0_has h (hpR h r0 2) x1).bind fun q3 =>
  if q3 = 0 then (
    f_X9_camp_21 r0 x1 x2 h
  ) else (
    if x2 < 0 then (
      f_X9_camp_21 r0 x1 x2 h
    ) else (
      if x2 ≤ (7 : Int32) then (
        if x2 = (0 : Int32) then (
          (f_X0_firstCell h (hpR h r0 2) x1).bind fun q8 =>
          some (some q8, h)
        ) else
        if x2 = (1 : Int32) then (
          gd (nz (hpR h (hpR h r0 2) 7)) <|
          gd (inb x1 (hpT h (hpR h (hpR h r0 2) 7)).2) <|
          some (some (hpI h (hpR h (hpR h r0 2) 7) (ix x1)), h)
        ) else
        if x2 = (2 : Int32) then (
          gd (nz (hpR h (hpR h r0 2) 8)) <|
          gd (inb x1 (hpT h (hpR h (hpR h r0 2) 8)).2) <|
          some (some (hpI h (hpR h (hpR h r0 2) 8) (ix x1)), h)
        ) else
        if x2 = (3 : Int32) then (
          gd (nz (hpR h (hpR h r0 2) 9)) <|
          gd (inb x1 (hpT h (hpR h (hpR h r0 2) 9)).2) <|
          some (some (hpI h (hpR h (hpR h r0 2) 9) (ix x1)), h)
        ) else
        if x2 = (4 : Int32) then (
          gd (nz (hpR h (hpR h r0 2) 10)) <|
          gd (inb x1 (hpT h (hpR h (hpR h r0 2) 10)).2) <|
          some (some (hpI h (hpR h (hpR h r0 2) 10) (ix x1)), h)
        ) else
        if x2 = (5 : Int32) then (
          gd (nz (hpR h (hpR h r0 2) 11)) <|
          gd (inb x1 (hpT h (hpR h (hpR h r0 2) 11)).2) <|
          some (some (hpI h (hpR h (hpR h r0 2) 11) (ix x1)), h)
        ) else
        if x2 = (6 : Int32) then (
          gd (nz (hpR h r0 8)) <|
          (f_X4_losses h (hpR h r0 8) (hpR h r0 2)).bind fun q32 =>
          gd (inb x1 (hpT q32.2 q32.1).2) <|
          some (some (hpI q32.2 q32.1 (ix x1)), q32.2)
        ) else
        (f_X0_crossedBy h (hpR h r0 2) x1).bind fun q35 =>
        some (some q35, h)
      ) else (
        f_X9_camp_21 r0 x1 x2 h
      )
    )
  )

def f_X9_cell_20 (r0 : Nat) (x1 : Int32) (x2 : Int32) : Hp → Option (Option Int32 × Hp) := fun h =>
  some (none, h)
def f_X9_cell (h : Hp) (r0 : Nat) (x1 : Int32) (x2 : Int32) : Option (Option Int32 × Hp) :=
  gd (nz (hpR h r0 2)) <|
  (f_X0_hasCell h (hpR h r0 2) x1).bind fun q3 =>
  if q3 = 0 then (
    f_X9_cell_20 r0 x1 x2 h
  ) else (
    if x2 < 0 then (
      f_X9_cell_20 r0 x1 x2 h
    ) else (
      if x2 ≤ (2 : Int32) then (
        if x2 = 0 then (
          (f_X0_onOver h (hpR h r0 2) x1).bind fun q14 =>
          some (some q14, h)
        ) else (
          if x2 = (1 : Int32) then (
            (f_X0_strengthOver h (hpR h r0 2) x1).bind fun q12 =>
            some (some q12, h)
          ) else (
            (f_X0_strongestOver h (hpR h r0 2) x1).bind fun q10 =>
            some (some q10, h)
          )
        )
      ) else (
        f_X9_cell_20 r0 x1 x2 h
      )
    )
  )

def f_X9_row_15 (r0 : Nat) (x1 : Int32) : Hp → Option (Option Int64 × Hp) := fun h =>
  some (none, h)
def f_X9_row (h : Hp) (r0 : Nat) (x1 : Int32) : Option (Option Int64 × Hp) :=
  if x1 < 0 then (
    f_X9_row_15 r0 x1 h
  ) else (
    gd (nz (hpR h r0 1)) <|
    if x1 < (hpI h (hpR h r0 1) 1) then (
      gd (nz (hpR h (hpR h r0 1) 0)) <|
      gd (inb x1 (hpT h (hpR h (hpR h r0 1) 0)).2) <|
      some (some (hpL h (hpR h (hpR h r0 1) 0) (ix x1)), h)
    ) else (
      f_X9_row_15 r0 x1 h
    )
  )
