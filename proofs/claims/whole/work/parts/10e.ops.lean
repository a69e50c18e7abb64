/-! rules: the seven signs, alike on both sides -/
theorem jw0 (x y : Int32) : jnd 60 x y = wrk 0 x y := by
  by_cases q : y ≤ x
  · simp [jnd, wrk, f_X4_joined, f_X10_worked, f_X10_worked_50, f_X10_flag, q]
  · simp [jnd, wrk, f_X4_joined, f_X10_worked, f_X10_worked_50, f_X10_flag, q]
theorem jw1 (x y : Int32) : jnd 62 x y = wrk 1 x y := by
  by_cases q : x ≤ y
  · simp [jnd, wrk, f_X4_joined, f_X10_worked, f_X10_worked_64, f_X10_flag, q]
  · simp [jnd, wrk, f_X4_joined, f_X10_worked, f_X10_worked_64, f_X10_flag, q]
theorem jw2 (x y : Int32) : jnd 61 x y = wrk 2 x y := by
  by_cases q : x = y
  · simp [jnd, wrk, f_X4_joined, f_X10_worked, f_X10_worked_78, f_X10_flag, q]
  · simp [jnd, wrk, f_X4_joined, f_X10_worked, f_X10_worked_78, f_X10_flag, q]
theorem jw3 (x y : Int32) : jnd 43 x y = wrk 3 x y := by simp [jnd, wrk, f_X4_joined, f_X10_worked]
theorem jw4 (x y : Int32) : jnd 45 x y = wrk 4 x y := by simp [jnd, wrk, f_X4_joined, f_X10_worked]
theorem jw5 (x y : Int32) : jnd 42 x y = wrk 5 x y := by simp [jnd, wrk, f_X4_joined, f_X10_worked]
theorem jw6 (x y : Int32) : jnd 47 x y = wrk 6 x y := by
  by_cases q : y = 0
  · simp [jnd, wrk, f_X4_joined, f_X10_worked, q]
  · simp [jnd, wrk, f_X4_joined, f_X10_worked, q]
