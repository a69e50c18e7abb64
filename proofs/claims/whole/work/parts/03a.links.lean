theorem gtq {w : Cond} (h : w ∈ lw_tbl) (hg : goodWord w = true) : w ∈ gt := List.mem_filter.mpr ⟨h, hg⟩
theorem lq_1 {w : Cond} (h : w ∈ tables_1_1) : w ∈ lw_tbl := List.mem_append_right _ (List.mem_append_left _ h)
theorem lq_2 {w : Cond} (h : w ∈ tables_1_2) : w ∈ lw_tbl := List.mem_append_right _ (List.mem_append_right _ (List.mem_append_left _ h))
theorem lq_3 {w : Cond} (h : w ∈ tables_1_3) : w ∈ lw_tbl := List.mem_append_right _ (List.mem_append_right _ (List.mem_append_right _ (List.mem_append_left _ h)))
theorem lq_4 {w : Cond} (h : w ∈ tables_1_4) : w ∈ lw_tbl := List.mem_append_right _ (List.mem_append_right _ (List.mem_append_right _ (List.mem_append_right _ (List.mem_append_left _ h))))
theorem lq_5 {w : Cond} (h : w ∈ tables_1_5) : w ∈ lw_tbl := List.mem_append_right _ (List.mem_append_right _ (List.mem_append_right _ (List.mem_append_right _ (List.mem_append_right _ (List.mem_append_left _ h)))))
theorem lq_6 {w : Cond} (h : w ∈ tables_1_6) : w ∈ lw_tbl := List.mem_append_right _ (List.mem_append_right _ (List.mem_append_right _ (List.mem_append_right _ (List.mem_append_right _ (List.mem_append_right _ (List.mem_append_left _ h))))))
theorem lq_7 {w : Cond} (h : w ∈ tables_1_7) : w ∈ lw_tbl := List.mem_append_right _ (List.mem_append_right _ (List.mem_append_right _ (List.mem_append_right _ (List.mem_append_right _ (List.mem_append_right _ (List.mem_append_right _ (List.mem_append_left _ h)))))))
theorem lq_8 {w : Cond} (h : w ∈ tables_1_8) : w ∈ lw_tbl := List.mem_append_right _ (List.mem_append_right _ (List.mem_append_right _ (List.mem_append_right _ (List.mem_append_right _ (List.mem_append_right _ (List.mem_append_right _ (List.mem_append_right _ (h))))))))
theorem lq_0 {w : Cond} (h : w ∈ k2_sels lw_privs) : w ∈ lw_tbl := List.mem_append_left _ h
theorem uws {C : String} {T : u_T} {N : Nat} (h : ∀ k, k < N → u_lay C T k ∈ gt) : ∀ w ∈ u_ws C T N, w ∈ gt := fun w hw => by
  obtain ⟨k, hk, rfl⟩ := List.mem_map.mp hw
  exact h k (List.mem_range.mp hk)
theorem inw_0 : ∀ w ∈ u_ws RX0 TX0 12, w ∈ gt := uws (fun k hk => match k, hk with
  | 0, _ => gtq (lq_1 (List.mem_of_getElem? (i := 101) rfl)) rfl
  | 1, _ => gtq (lq_1 (List.mem_of_getElem? (i := 103) rfl)) rfl
  | 2, _ => gtq (lq_1 (List.mem_of_getElem? (i := 105) rfl)) rfl
  | 3, _ => gtq (lq_1 (List.mem_of_getElem? (i := 107) rfl)) rfl
  | 4, _ => gtq (lq_1 (List.mem_of_getElem? (i := 109) rfl)) rfl
  | 5, _ => gtq (lq_1 (List.mem_of_getElem? (i := 111) rfl)) rfl
  | 6, _ => gtq (lq_1 (List.mem_of_getElem? (i := 113) rfl)) rfl
  | 7, _ => gtq (lq_1 (List.mem_of_getElem? (i := 115) rfl)) rfl
  | 8, _ => gtq (lq_1 (List.mem_of_getElem? (i := 117) rfl)) rfl
  | 9, _ => gtq (lq_1 (List.mem_of_getElem? (i := 119) rfl)) rfl
  | 10, _ => gtq (lq_1 (List.mem_of_getElem? (i := 121) rfl)) rfl
  | 11, _ => gtq (lq_1 (List.mem_of_getElem? (i := 123) rfl)) rfl
  | n + 12, hn => absurd hn (by omega))
theorem inw_1 : ∀ w ∈ u_ws RX1 TX1 1, w ∈ gt := uws (fun k hk => match k, hk with
  | 0, _ => gtq (lq_4 (List.mem_of_getElem? (i := 237) rfl)) rfl
  | n + 1, hn => absurd hn (by omega))
theorem inw_2 : ∀ w ∈ u_ws RX2 TX2 4, w ∈ gt := uws (fun k hk => match k, hk with
  | 0, _ => gtq (lq_1 (List.mem_of_getElem? (i := 204) rfl)) rfl
  | 1, _ => gtq (lq_1 (List.mem_of_getElem? (i := 206) rfl)) rfl
  | 2, _ => gtq (lq_1 (List.mem_of_getElem? (i := 208) rfl)) rfl
  | 3, _ => gtq (lq_1 (List.mem_of_getElem? (i := 210) rfl)) rfl
  | n + 4, hn => absurd hn (by omega))
theorem inw_3 : ∀ w ∈ u_ws RX3 TX3 3, w ∈ gt := uws (fun k hk => match k, hk with
  | 0, _ => gtq (lq_1 (List.mem_of_getElem? (i := 139) rfl)) rfl
  | 1, _ => gtq (lq_1 (List.mem_of_getElem? (i := 141) rfl)) rfl
  | 2, _ => gtq (lq_1 (List.mem_of_getElem? (i := 143) rfl)) rfl
  | n + 3, hn => absurd hn (by omega))
theorem inw_4 : ∀ w ∈ u_ws RX4 TX4 6, w ∈ gt := uws (fun k hk => match k, hk with
  | 0, _ => gtq (lq_1 (List.mem_of_getElem? (i := 158) rfl)) rfl
  | 1, _ => gtq (lq_1 (List.mem_of_getElem? (i := 160) rfl)) rfl
  | 2, _ => gtq (lq_1 (List.mem_of_getElem? (i := 162) rfl)) rfl
  | 3, _ => gtq (lq_1 (List.mem_of_getElem? (i := 164) rfl)) rfl
  | 4, _ => gtq (lq_1 (List.mem_of_getElem? (i := 166) rfl)) rfl
  | 5, _ => gtq (lq_1 (List.mem_of_getElem? (i := 168) rfl)) rfl
  | n + 6, hn => absurd hn (by omega))
theorem inw_5 : ∀ w ∈ u_ws RX5 TX5 4, w ∈ gt := uws (fun k hk => match k, hk with
  | 0, _ => gtq (lq_1 (List.mem_of_getElem? (i := 181) rfl)) rfl
  | 1, _ => gtq (lq_1 (List.mem_of_getElem? (i := 183) rfl)) rfl
  | 2, _ => gtq (lq_1 (List.mem_of_getElem? (i := 185) rfl)) rfl
  | 3, _ => gtq (lq_1 (List.mem_of_getElem? (i := 187) rfl)) rfl
  | n + 4, hn => absurd hn (by omega))
theorem inw_6 : ∀ w ∈ u_ws RX6 TX6 2, w ∈ gt := uws (fun k hk => match k, hk with
  | 0, _ => gtq (lq_1 (List.mem_of_getElem? (i := 43) rfl)) rfl
  | 1, _ => gtq (lq_1 (List.mem_of_getElem? (i := 45) rfl)) rfl
  | n + 2, hn => absurd hn (by omega))
theorem inw_7 : ∀ w ∈ u_ws RX7 TX7 2, w ∈ gt := uws (fun k hk => match k, hk with
  | 0, _ => gtq (lq_1 (List.mem_of_getElem? (i := 60) rfl)) rfl
  | 1, _ => gtq (lq_1 (List.mem_of_getElem? (i := 62) rfl)) rfl
  | n + 2, hn => absurd hn (by omega))
theorem inw_8 : ∀ w ∈ u_ws RX8 TX8 5, w ∈ gt := uws (fun k hk => match k, hk with
  | 0, _ => gtq (lq_1 (List.mem_of_getElem? (i := 224) rfl)) rfl
  | 1, _ => gtq (lq_1 (List.mem_of_getElem? (i := 226) rfl)) rfl
  | 2, _ => gtq (lq_1 (List.mem_of_getElem? (i := 228) rfl)) rfl
  | 3, _ => gtq (lq_1 (List.mem_of_getElem? (i := 230) rfl)) rfl
  | 4, _ => gtq (lq_1 (List.mem_of_getElem? (i := 232) rfl)) rfl
  | n + 5, hn => absurd hn (by omega))
theorem inw_9 : ∀ w ∈ u_ws RX9 TX9 16, w ∈ gt := uws (fun k hk => match k, hk with
  | 0, _ => gtq (lq_2 (List.mem_of_getElem? (i := 27) rfl)) rfl
  | 1, _ => gtq (lq_2 (List.mem_of_getElem? (i := 29) rfl)) rfl
  | 2, _ => gtq (lq_2 (List.mem_of_getElem? (i := 31) rfl)) rfl
  | 3, _ => gtq (lq_2 (List.mem_of_getElem? (i := 33) rfl)) rfl
  | 4, _ => gtq (lq_2 (List.mem_of_getElem? (i := 35) rfl)) rfl
  | 5, _ => gtq (lq_2 (List.mem_of_getElem? (i := 37) rfl)) rfl
  | 6, _ => gtq (lq_2 (List.mem_of_getElem? (i := 39) rfl)) rfl
  | 7, _ => gtq (lq_2 (List.mem_of_getElem? (i := 41) rfl)) rfl
  | 8, _ => gtq (lq_2 (List.mem_of_getElem? (i := 43) rfl)) rfl
  | 9, _ => gtq (lq_2 (List.mem_of_getElem? (i := 45) rfl)) rfl
  | 10, _ => gtq (lq_2 (List.mem_of_getElem? (i := 47) rfl)) rfl
  | 11, _ => gtq (lq_2 (List.mem_of_getElem? (i := 49) rfl)) rfl
  | 12, _ => gtq (lq_2 (List.mem_of_getElem? (i := 51) rfl)) rfl
  | 13, _ => gtq (lq_2 (List.mem_of_getElem? (i := 53) rfl)) rfl
  | 14, _ => gtq (lq_2 (List.mem_of_getElem? (i := 55) rfl)) rfl
  | 15, _ => gtq (lq_2 (List.mem_of_getElem? (i := 57) rfl)) rfl
  | n + 16, hn => absurd hn (by omega))
theorem inw_10 : ∀ w ∈ u_ws RX10 TX10 46, w ∈ gt := uws (fun k hk => match k, hk with
  | 0, _ => gtq (lq_5 (List.mem_of_getElem? (i := 161) rfl)) rfl
  | 1, _ => gtq (lq_5 (List.mem_of_getElem? (i := 163) rfl)) rfl
  | 2, _ => gtq (lq_5 (List.mem_of_getElem? (i := 165) rfl)) rfl
  | 3, _ => gtq (lq_5 (List.mem_of_getElem? (i := 167) rfl)) rfl
  | 4, _ => gtq (lq_5 (List.mem_of_getElem? (i := 169) rfl)) rfl
  | 5, _ => gtq (lq_5 (List.mem_of_getElem? (i := 171) rfl)) rfl
  | 6, _ => gtq (lq_5 (List.mem_of_getElem? (i := 173) rfl)) rfl
  | 7, _ => gtq (lq_5 (List.mem_of_getElem? (i := 175) rfl)) rfl
  | 8, _ => gtq (lq_5 (List.mem_of_getElem? (i := 177) rfl)) rfl
  | 9, _ => gtq (lq_5 (List.mem_of_getElem? (i := 179) rfl)) rfl
  | 10, _ => gtq (lq_5 (List.mem_of_getElem? (i := 181) rfl)) rfl
  | 11, _ => gtq (lq_5 (List.mem_of_getElem? (i := 183) rfl)) rfl
  | 12, _ => gtq (lq_5 (List.mem_of_getElem? (i := 185) rfl)) rfl
  | 13, _ => gtq (lq_5 (List.mem_of_getElem? (i := 187) rfl)) rfl
  | 14, _ => gtq (lq_5 (List.mem_of_getElem? (i := 189) rfl)) rfl
  | 15, _ => gtq (lq_5 (List.mem_of_getElem? (i := 191) rfl)) rfl
  | 16, _ => gtq (lq_5 (List.mem_of_getElem? (i := 193) rfl)) rfl
  | 17, _ => gtq (lq_5 (List.mem_of_getElem? (i := 195) rfl)) rfl
  | 18, _ => gtq (lq_5 (List.mem_of_getElem? (i := 197) rfl)) rfl
  | 19, _ => gtq (lq_5 (List.mem_of_getElem? (i := 199) rfl)) rfl
  | 20, _ => gtq (lq_5 (List.mem_of_getElem? (i := 201) rfl)) rfl
  | 21, _ => gtq (lq_5 (List.mem_of_getElem? (i := 203) rfl)) rfl
  | 22, _ => gtq (lq_5 (List.mem_of_getElem? (i := 205) rfl)) rfl
  | 23, _ => gtq (lq_5 (List.mem_of_getElem? (i := 207) rfl)) rfl
  | 24, _ => gtq (lq_5 (List.mem_of_getElem? (i := 209) rfl)) rfl
  | 25, _ => gtq (lq_5 (List.mem_of_getElem? (i := 211) rfl)) rfl
  | 26, _ => gtq (lq_5 (List.mem_of_getElem? (i := 213) rfl)) rfl
  | 27, _ => gtq (lq_5 (List.mem_of_getElem? (i := 215) rfl)) rfl
  | 28, _ => gtq (lq_5 (List.mem_of_getElem? (i := 217) rfl)) rfl
  | 29, _ => gtq (lq_5 (List.mem_of_getElem? (i := 219) rfl)) rfl
  | 30, _ => gtq (lq_5 (List.mem_of_getElem? (i := 221) rfl)) rfl
  | 31, _ => gtq (lq_5 (List.mem_of_getElem? (i := 223) rfl)) rfl
  | 32, _ => gtq (lq_5 (List.mem_of_getElem? (i := 225) rfl)) rfl
  | 33, _ => gtq (lq_5 (List.mem_of_getElem? (i := 227) rfl)) rfl
  | 34, _ => gtq (lq_5 (List.mem_of_getElem? (i := 229) rfl)) rfl
  | 35, _ => gtq (lq_5 (List.mem_of_getElem? (i := 231) rfl)) rfl
  | 36, _ => gtq (lq_5 (List.mem_of_getElem? (i := 233) rfl)) rfl
  | 37, _ => gtq (lq_5 (List.mem_of_getElem? (i := 235) rfl)) rfl
  | 38, _ => gtq (lq_5 (List.mem_of_getElem? (i := 237) rfl)) rfl
  | 39, _ => gtq (lq_5 (List.mem_of_getElem? (i := 239) rfl)) rfl
  | 40, _ => gtq (lq_6 (List.mem_of_getElem? (i := 1) rfl)) rfl
  | 41, _ => gtq (lq_6 (List.mem_of_getElem? (i := 3) rfl)) rfl
  | 42, _ => gtq (lq_6 (List.mem_of_getElem? (i := 5) rfl)) rfl
  | 43, _ => gtq (lq_6 (List.mem_of_getElem? (i := 7) rfl)) rfl
  | 44, _ => gtq (lq_6 (List.mem_of_getElem? (i := 9) rfl)) rfl
  | 45, _ => gtq (lq_6 (List.mem_of_getElem? (i := 11) rfl)) rfl
  | n + 46, hn => absurd hn (by omega))
theorem lk_arr_boolean : Cond.arrayClass .boolean ∈ gt := gtq (lq_6 (List.mem_of_getElem? (i := 14) rfl)) rfl
theorem lk_arr_int : Cond.arrayClass .int ∈ gt := gtq (lq_1 (List.mem_of_getElem? (i := 48) rfl)) rfl
theorem lk_arr_long : Cond.arrayClass .long ∈ gt := gtq (lq_1 (List.mem_of_getElem? (i := 65) rfl)) rfl
theorem lk_X3_9 : Cond.classLink RX3 9 RX0 ∈ gt := gtq (lq_1 (List.mem_of_getElem? (i := 132) rfl)) rfl
theorem lk_X9_23 : Cond.classLink RX9 23 RX0 ∈ gt := gtq (lq_1 (List.mem_of_getElem? (i := 66) rfl)) rfl
theorem lk_Mmax_c : Cond.code Lib.Math.max.name Lib.Math.max.code 2 (some .int) ∈ gt := gtq (lq_2 (List.mem_of_getElem? (i := 203) rfl)) rfl
theorem lk_Mmin_c : Cond.code Lib.Math.min.name Lib.Math.min.code 2 (some .int) ∈ gt := gtq (lq_2 (List.mem_of_getElem? (i := 118) rfl)) rfl
theorem lk_X1_13 : Cond.constant RX1 13 (1103515245) ∈ gt := gtq (lq_5 (List.mem_of_getElem? (i := 4) rfl)) rfl
theorem lk_X8_80 : Cond.constant RX8 80 (268435456) ∈ gt := gtq (lq_4 (List.mem_of_getElem? (i := 83) rfl)) rfl
theorem lk_X9_315 : Cond.constant RX9 315 (2147483647) ∈ gt := gtq (lq_4 (List.mem_of_getElem? (i := 18) rfl)) rfl
theorem lk_X10_392 : Cond.constant RX10 392 (1000000) ∈ gt := gtq (lq_7 (List.mem_of_getElem? (i := 147) rfl)) rfl
theorem lk_X10_451 : Cond.constant RX10 451 (1103515245) ∈ gt := gtq (lq_8 (List.mem_of_getElem? (i := 45) rfl)) rfl
theorem lk_J6_264 : Cond.constant RJ6 264 (65536) ∈ gt := gtq (lq_7 (List.mem_of_getElem? (i := 106) rfl)) rfl
theorem lk_J6_265 : Cond.constant RJ6 265 (1431655765) ∈ gt := gtq (lq_3 (List.mem_of_getElem? (i := 10) rfl)) rfl
theorem lk_J6_266 : Cond.constant RJ6 266 (858993459) ∈ gt := gtq (lq_3 (List.mem_of_getElem? (i := 11) rfl)) rfl
theorem lk_J6_267 : Cond.constant RJ6 267 (252645135) ∈ gt := gtq (lq_3 (List.mem_of_getElem? (i := 12) rfl)) rfl
theorem lk_X9_332 : Cond.constantLong RX9 332 (-1) ∈ gt := gtq (lq_4 (List.mem_of_getElem? (i := 37) rfl)) rfl
theorem lk_X10_167 : Cond.constantLong RX10 167 (48) ∈ gt := gtq (lq_6 (List.mem_of_getElem? (i := 93) rfl)) rfl
theorem lk_X10_169 : Cond.constantLong RX10 169 (57) ∈ gt := gtq (lq_6 (List.mem_of_getElem? (i := 94) rfl)) rfl
theorem lk_X10_281 : Cond.constantLong RX10 281 (7) ∈ gt := gtq (lq_6 (List.mem_of_getElem? (i := 168) rfl)) rfl
theorem lk_X10_292 : Cond.constantLong RX10 292 (2) ∈ gt := gtq (lq_6 (List.mem_of_getElem? (i := 217) rfl)) rfl
theorem lk_X10_303 : Cond.constantLong RX10 303 (3) ∈ gt := gtq (lq_7 (List.mem_of_getElem? (i := 0) rfl)) rfl
theorem lk_X10_322 : Cond.constantLong RX10 322 (9) ∈ gt := gtq (lq_7 (List.mem_of_getElem? (i := 44) rfl)) rfl
theorem lk_X10_331 : Cond.constantLong RX10 331 (60) ∈ gt := gtq (lq_7 (List.mem_of_getElem? (i := 12) rfl)) rfl
theorem lk_X10_382 : Cond.constantLong RX10 382 (99) ∈ gt := gtq (lq_7 (List.mem_of_getElem? (i := 123) rfl)) rfl
theorem lk_X10_415 : Cond.constantLong RX10 415 (30) ∈ gt := gtq (lq_7 (List.mem_of_getElem? (i := 206) rfl)) rfl
theorem lk_X10_420 : Cond.constantLong RX10 420 (4) ∈ gt := gtq (lq_7 (List.mem_of_getElem? (i := 227) rfl)) rfl
theorem lk_X10_428 : Cond.constantLong RX10 428 (8) ∈ gt := gtq (lq_8 (List.mem_of_getElem? (i := 4) rfl)) rfl
theorem lk_X10_430 : Cond.constantLong RX10 430 (10) ∈ gt := gtq (lq_8 (List.mem_of_getElem? (i := 5) rfl)) rfl
theorem lk_X10_432 : Cond.constantLong RX10 432 (40) ∈ gt := gtq (lq_8 (List.mem_of_getElem? (i := 13) rfl)) rfl
theorem lk_X10_443 : Cond.constantLong RX10 443 (20) ∈ gt := gtq (lq_8 (List.mem_of_getElem? (i := 30) rfl)) rfl
theorem lk_J13_314 : Cond.constantLong RJ13 314 (6148914691236517205) ∈ gt := gtq (lq_3 (List.mem_of_getElem? (i := 185) rfl)) rfl
theorem lk_J13_316 : Cond.constantLong RJ13 316 (3689348814741910323) ∈ gt := gtq (lq_3 (List.mem_of_getElem? (i := 186) rfl)) rfl
theorem lk_J13_318 : Cond.constantLong RJ13 318 (1085102592571150095) ∈ gt := gtq (lq_3 (List.mem_of_getElem? (i := 187) rfl)) rfl
theorem fl_X0_15 : FL RX0 15 0 1 := ⟨RX0, TX0, rfl, by decide, gtq (lq_1 (List.mem_of_getElem? (i := 74) rfl)) rfl, inw_0⟩
theorem fl_X0_18 : FL RX0 18 0 5 := ⟨RX0, TX0, rfl, by decide, gtq (lq_1 (List.mem_of_getElem? (i := 83) rfl)) rfl, inw_0⟩
theorem fl_X0_22 : FL RX0 22 0 6 := ⟨RX0, TX0, rfl, by decide, gtq (lq_1 (List.mem_of_getElem? (i := 85) rfl)) rfl, inw_0⟩
theorem fl_X0_25 : FL RX0 25 0 7 := ⟨RX0, TX0, rfl, by decide, gtq (lq_1 (List.mem_of_getElem? (i := 87) rfl)) rfl, inw_0⟩
theorem fl_X0_28 : FL RX0 28 0 8 := ⟨RX0, TX0, rfl, by decide, gtq (lq_1 (List.mem_of_getElem? (i := 90) rfl)) rfl, inw_0⟩
theorem fl_X0_31 : FL RX0 31 0 9 := ⟨RX0, TX0, rfl, by decide, gtq (lq_1 (List.mem_of_getElem? (i := 93) rfl)) rfl, inw_0⟩
theorem fl_X0_34 : FL RX0 34 0 10 := ⟨RX0, TX0, rfl, by decide, gtq (lq_1 (List.mem_of_getElem? (i := 96) rfl)) rfl, inw_0⟩
theorem fl_X0_37 : FL RX0 37 0 11 := ⟨RX0, TX0, rfl, by decide, gtq (lq_1 (List.mem_of_getElem? (i := 98) rfl)) rfl, inw_0⟩
theorem fl_X0_40 : FL RX0 40 0 2 := ⟨RX0, TX0, rfl, by decide, gtq (lq_1 (List.mem_of_getElem? (i := 76) rfl)) rfl, inw_0⟩
theorem fl_X0_43 : FL RX0 43 0 3 := ⟨RX0, TX0, rfl, by decide, gtq (lq_1 (List.mem_of_getElem? (i := 78) rfl)) rfl, inw_0⟩
theorem fl_X0_46 : FL RX0 46 0 4 := ⟨RX0, TX0, rfl, by decide, gtq (lq_1 (List.mem_of_getElem? (i := 81) rfl)) rfl, inw_0⟩
theorem fl_X0_9 : FL RX0 9 0 0 := ⟨RX0, TX0, rfl, by decide, gtq (lq_1 (List.mem_of_getElem? (i := 72) rfl)) rfl, inw_0⟩
theorem fl_X1_7 : FL RX1 7 1 0 := ⟨RX1, TX1, rfl, by decide, gtq (lq_4 (List.mem_of_getElem? (i := 236) rfl)) rfl, inw_1⟩
theorem fl_X2_13 : FL RX2 13 2 1 := ⟨RX2, TX2, rfl, by decide, gtq (lq_1 (List.mem_of_getElem? (i := 198) rfl)) rfl, inw_2⟩
theorem fl_X2_16 : FL RX2 16 2 2 := ⟨RX2, TX2, rfl, by decide, gtq (lq_1 (List.mem_of_getElem? (i := 200) rfl)) rfl, inw_2⟩
theorem fl_X2_19 : FL RX2 19 2 3 := ⟨RX2, TX2, rfl, by decide, gtq (lq_1 (List.mem_of_getElem? (i := 202) rfl)) rfl, inw_2⟩
theorem fl_X2_7 : FL RX2 7 2 0 := ⟨RX2, TX2, rfl, by decide, gtq (lq_1 (List.mem_of_getElem? (i := 196) rfl)) rfl, inw_2⟩
theorem fl_X3_11 : FL RX3 11 3 0 := ⟨RX3, TX3, rfl, by decide, gtq (lq_1 (List.mem_of_getElem? (i := 135) rfl)) rfl, inw_3⟩
theorem fl_X3_16 : FL RX3 16 3 1 := ⟨RX3, TX3, rfl, by decide, gtq (lq_1 (List.mem_of_getElem? (i := 136) rfl)) rfl, inw_3⟩
theorem fl_X3_20 : FL RX3 20 3 2 := ⟨RX3, TX3, rfl, by decide, gtq (lq_1 (List.mem_of_getElem? (i := 137) rfl)) rfl, inw_3⟩
theorem fl_X4_102 : FL RX4 102 0 5 := ⟨RX0, TX0, rfl, by decide, gtq (lq_1 (List.mem_of_getElem? (i := 84) rfl)) rfl, inw_0⟩
theorem fl_X4_105 : FL RX4 105 0 3 := ⟨RX0, TX0, rfl, by decide, gtq (lq_1 (List.mem_of_getElem? (i := 79) rfl)) rfl, inw_0⟩
theorem fl_X4_15 : FL RX4 15 4 1 := ⟨RX4, TX4, rfl, by decide, gtq (lq_1 (List.mem_of_getElem? (i := 153) rfl)) rfl, inw_4⟩
theorem fl_X4_18 : FL RX4 18 4 2 := ⟨RX4, TX4, rfl, by decide, gtq (lq_1 (List.mem_of_getElem? (i := 154) rfl)) rfl, inw_4⟩
theorem fl_X4_21 : FL RX4 21 4 3 := ⟨RX4, TX4, rfl, by decide, gtq (lq_1 (List.mem_of_getElem? (i := 155) rfl)) rfl, inw_4⟩
theorem fl_X4_56 : FL RX4 56 4 5 := ⟨RX4, TX4, rfl, by decide, gtq (lq_1 (List.mem_of_getElem? (i := 157) rfl)) rfl, inw_4⟩
theorem fl_X4_63 : FL RX4 63 4 4 := ⟨RX4, TX4, rfl, by decide, gtq (lq_1 (List.mem_of_getElem? (i := 156) rfl)) rfl, inw_4⟩
theorem fl_X4_87 : FL RX4 87 0 9 := ⟨RX0, TX0, rfl, by decide, gtq (lq_1 (List.mem_of_getElem? (i := 95) rfl)) rfl, inw_0⟩
theorem fl_X4_9 : FL RX4 9 4 0 := ⟨RX4, TX4, rfl, by decide, gtq (lq_1 (List.mem_of_getElem? (i := 152) rfl)) rfl, inw_4⟩
theorem fl_X4_90 : FL RX4 90 0 11 := ⟨RX0, TX0, rfl, by decide, gtq (lq_1 (List.mem_of_getElem? (i := 99) rfl)) rfl, inw_0⟩
theorem fl_X4_93 : FL RX4 93 0 7 := ⟨RX0, TX0, rfl, by decide, gtq (lq_1 (List.mem_of_getElem? (i := 89) rfl)) rfl, inw_0⟩
theorem fl_X4_96 : FL RX4 96 0 8 := ⟨RX0, TX0, rfl, by decide, gtq (lq_1 (List.mem_of_getElem? (i := 92) rfl)) rfl, inw_0⟩
theorem fl_X4_99 : FL RX4 99 0 6 := ⟨RX0, TX0, rfl, by decide, gtq (lq_1 (List.mem_of_getElem? (i := 86) rfl)) rfl, inw_0⟩
theorem fl_X5_15 : FL RX5 15 5 1 := ⟨RX5, TX5, rfl, by decide, gtq (lq_1 (List.mem_of_getElem? (i := 178) rfl)) rfl, inw_5⟩
theorem fl_X5_19 : FL RX5 19 5 2 := ⟨RX5, TX5, rfl, by decide, gtq (lq_1 (List.mem_of_getElem? (i := 179) rfl)) rfl, inw_5⟩
theorem fl_X5_23 : FL RX5 23 6 1 := ⟨RX6, TX6, rfl, by decide, gtq (lq_1 (List.mem_of_getElem? (i := 42) rfl)) rfl, inw_6⟩
theorem fl_X5_34 : FL RX5 34 5 3 := ⟨RX5, TX5, rfl, by decide, gtq (lq_1 (List.mem_of_getElem? (i := 180) rfl)) rfl, inw_5⟩
theorem fl_X5_9 : FL RX5 9 5 0 := ⟨RX5, TX5, rfl, by decide, gtq (lq_1 (List.mem_of_getElem? (i := 177) rfl)) rfl, inw_5⟩
theorem fl_X6_15 : FL RX6 15 6 1 := ⟨RX6, TX6, rfl, by decide, gtq (lq_1 (List.mem_of_getElem? (i := 40) rfl)) rfl, inw_6⟩
theorem fl_X6_9 : FL RX6 9 6 0 := ⟨RX6, TX6, rfl, by decide, gtq (lq_1 (List.mem_of_getElem? (i := 39) rfl)) rfl, inw_6⟩
theorem fl_X7_13 : FL RX7 13 7 1 := ⟨RX7, TX7, rfl, by decide, gtq (lq_1 (List.mem_of_getElem? (i := 57) rfl)) rfl, inw_7⟩
theorem fl_X7_7 : FL RX7 7 7 0 := ⟨RX7, TX7, rfl, by decide, gtq (lq_1 (List.mem_of_getElem? (i := 55) rfl)) rfl, inw_7⟩
theorem fl_X8_11 : FL RX8 11 8 0 := ⟨RX8, TX8, rfl, by decide, gtq (lq_1 (List.mem_of_getElem? (i := 219) rfl)) rfl, inw_8⟩
theorem fl_X8_15 : FL RX8 15 8 1 := ⟨RX8, TX8, rfl, by decide, gtq (lq_1 (List.mem_of_getElem? (i := 220) rfl)) rfl, inw_8⟩
theorem fl_X8_19 : FL RX8 19 8 2 := ⟨RX8, TX8, rfl, by decide, gtq (lq_1 (List.mem_of_getElem? (i := 221) rfl)) rfl, inw_8⟩
theorem fl_X8_22 : FL RX8 22 8 3 := ⟨RX8, TX8, rfl, by decide, gtq (lq_1 (List.mem_of_getElem? (i := 222) rfl)) rfl, inw_8⟩
theorem fl_X8_25 : FL RX8 25 8 4 := ⟨RX8, TX8, rfl, by decide, gtq (lq_1 (List.mem_of_getElem? (i := 223) rfl)) rfl, inw_8⟩
theorem fl_X8_68 : FL RX8 68 7 1 := ⟨RX7, TX7, rfl, by decide, gtq (lq_1 (List.mem_of_getElem? (i := 58) rfl)) rfl, inw_7⟩
theorem fl_X9_10 : FL RX9 10 9 0 := ⟨RX9, TX9, rfl, by decide, gtq (lq_2 (List.mem_of_getElem? (i := 11) rfl)) rfl, inw_9⟩
theorem fl_X9_123 : FL RX9 123 9 7 := ⟨RX9, TX9, rfl, by decide, gtq (lq_2 (List.mem_of_getElem? (i := 18) rfl)) rfl, inw_9⟩
theorem fl_X9_146 : FL RX9 146 0 2 := ⟨RX0, TX0, rfl, by decide, gtq (lq_1 (List.mem_of_getElem? (i := 77) rfl)) rfl, inw_0⟩
theorem fl_X9_164 : FL RX9 164 0 7 := ⟨RX0, TX0, rfl, by decide, gtq (lq_1 (List.mem_of_getElem? (i := 88) rfl)) rfl, inw_0⟩
theorem fl_X9_167 : FL RX9 167 0 8 := ⟨RX0, TX0, rfl, by decide, gtq (lq_1 (List.mem_of_getElem? (i := 91) rfl)) rfl, inw_0⟩
theorem fl_X9_170 : FL RX9 170 0 9 := ⟨RX0, TX0, rfl, by decide, gtq (lq_1 (List.mem_of_getElem? (i := 94) rfl)) rfl, inw_0⟩
theorem fl_X9_173 : FL RX9 173 0 10 := ⟨RX0, TX0, rfl, by decide, gtq (lq_1 (List.mem_of_getElem? (i := 97) rfl)) rfl, inw_0⟩
theorem fl_X9_176 : FL RX9 176 0 11 := ⟨RX0, TX0, rfl, by decide, gtq (lq_1 (List.mem_of_getElem? (i := 100) rfl)) rfl, inw_0⟩
theorem fl_X9_19 : FL RX9 19 9 1 := ⟨RX9, TX9, rfl, by decide, gtq (lq_2 (List.mem_of_getElem? (i := 12) rfl)) rfl, inw_9⟩
theorem fl_X9_254 : FL RX9 254 0 3 := ⟨RX0, TX0, rfl, by decide, gtq (lq_1 (List.mem_of_getElem? (i := 80) rfl)) rfl, inw_0⟩
theorem fl_X9_26 : FL RX9 26 9 2 := ⟨RX9, TX9, rfl, by decide, gtq (lq_2 (List.mem_of_getElem? (i := 13) rfl)) rfl, inw_9⟩
theorem fl_X9_263 : FL RX9 263 3 2 := ⟨RX3, TX3, rfl, by decide, gtq (lq_1 (List.mem_of_getElem? (i := 138) rfl)) rfl, inw_3⟩
theorem fl_X9_30 : FL RX9 30 9 3 := ⟨RX9, TX9, rfl, by decide, gtq (lq_2 (List.mem_of_getElem? (i := 14) rfl)) rfl, inw_9⟩
theorem fl_X9_326 : FL RX9 326 0 0 := ⟨RX0, TX0, rfl, by decide, gtq (lq_1 (List.mem_of_getElem? (i := 73) rfl)) rfl, inw_0⟩
theorem fl_X9_329 : FL RX9 329 0 1 := ⟨RX0, TX0, rfl, by decide, gtq (lq_1 (List.mem_of_getElem? (i := 75) rfl)) rfl, inw_0⟩
theorem fl_X9_33 : FL RX9 33 9 4 := ⟨RX9, TX9, rfl, by decide, gtq (lq_2 (List.mem_of_getElem? (i := 15) rfl)) rfl, inw_9⟩
theorem fl_X9_355 : FL RX9 355 2 3 := ⟨RX2, TX2, rfl, by decide, gtq (lq_1 (List.mem_of_getElem? (i := 203) rfl)) rfl, inw_2⟩
theorem fl_X9_371 : FL RX9 371 2 1 := ⟨RX2, TX2, rfl, by decide, gtq (lq_1 (List.mem_of_getElem? (i := 199) rfl)) rfl, inw_2⟩
theorem fl_X9_374 : FL RX9 374 2 0 := ⟨RX2, TX2, rfl, by decide, gtq (lq_1 (List.mem_of_getElem? (i := 197) rfl)) rfl, inw_2⟩
theorem fl_X9_377 : FL RX9 377 2 2 := ⟨RX2, TX2, rfl, by decide, gtq (lq_1 (List.mem_of_getElem? (i := 201) rfl)) rfl, inw_2⟩
theorem fl_X9_39 : FL RX9 39 9 5 := ⟨RX9, TX9, rfl, by decide, gtq (lq_2 (List.mem_of_getElem? (i := 16) rfl)) rfl, inw_9⟩
theorem fl_X9_43 : FL RX9 43 9 6 := ⟨RX9, TX9, rfl, by decide, gtq (lq_2 (List.mem_of_getElem? (i := 17) rfl)) rfl, inw_9⟩
theorem fl_X9_431 : FL RX9 431 0 4 := ⟨RX0, TX0, rfl, by decide, gtq (lq_1 (List.mem_of_getElem? (i := 82) rfl)) rfl, inw_0⟩
theorem fl_X9_434 : FL RX9 434 7 1 := ⟨RX7, TX7, rfl, by decide, gtq (lq_1 (List.mem_of_getElem? (i := 59) rfl)) rfl, inw_7⟩
theorem fl_X9_435 : FL RX9 435 7 0 := ⟨RX7, TX7, rfl, by decide, gtq (lq_1 (List.mem_of_getElem? (i := 56) rfl)) rfl, inw_7⟩
theorem fl_X9_50 : FL RX9 50 9 8 := ⟨RX9, TX9, rfl, by decide, gtq (lq_2 (List.mem_of_getElem? (i := 19) rfl)) rfl, inw_9⟩
theorem fl_X9_54 : FL RX9 54 9 9 := ⟨RX9, TX9, rfl, by decide, gtq (lq_2 (List.mem_of_getElem? (i := 20) rfl)) rfl, inw_9⟩
theorem fl_X9_60 : FL RX9 60 9 10 := ⟨RX9, TX9, rfl, by decide, gtq (lq_2 (List.mem_of_getElem? (i := 21) rfl)) rfl, inw_9⟩
theorem fl_X9_69 : FL RX9 69 9 11 := ⟨RX9, TX9, rfl, by decide, gtq (lq_2 (List.mem_of_getElem? (i := 22) rfl)) rfl, inw_9⟩
theorem fl_X9_73 : FL RX9 73 9 12 := ⟨RX9, TX9, rfl, by decide, gtq (lq_2 (List.mem_of_getElem? (i := 23) rfl)) rfl, inw_9⟩
theorem fl_X9_79 : FL RX9 79 9 13 := ⟨RX9, TX9, rfl, by decide, gtq (lq_2 (List.mem_of_getElem? (i := 24) rfl)) rfl, inw_9⟩
theorem fl_X9_83 : FL RX9 83 9 14 := ⟨RX9, TX9, rfl, by decide, gtq (lq_2 (List.mem_of_getElem? (i := 25) rfl)) rfl, inw_9⟩
theorem fl_X9_87 : FL RX9 87 9 15 := ⟨RX9, TX9, rfl, by decide, gtq (lq_2 (List.mem_of_getElem? (i := 26) rfl)) rfl, inw_9⟩
theorem fl_X9_93 : FL RX9 93 6 1 := ⟨RX6, TX6, rfl, by decide, gtq (lq_1 (List.mem_of_getElem? (i := 41) rfl)) rfl, inw_6⟩
theorem fl_X10_100 : FL RX10 100 10 45 := ⟨RX10, TX10, rfl, by decide, gtq (lq_5 (List.mem_of_getElem? (i := 160) rfl)) rfl, inw_10⟩
theorem fl_X10_103 : FL RX10 103 10 0 := ⟨RX10, TX10, rfl, by decide, gtq (lq_5 (List.mem_of_getElem? (i := 115) rfl)) rfl, inw_10⟩
theorem fl_X10_110 : FL RX10 110 10 1 := ⟨RX10, TX10, rfl, by decide, gtq (lq_5 (List.mem_of_getElem? (i := 116) rfl)) rfl, inw_10⟩
theorem fl_X10_13 : FL RX10 13 10 3 := ⟨RX10, TX10, rfl, by decide, gtq (lq_5 (List.mem_of_getElem? (i := 118) rfl)) rfl, inw_10⟩
theorem fl_X10_145 : FL RX10 145 10 9 := ⟨RX10, TX10, rfl, by decide, gtq (lq_5 (List.mem_of_getElem? (i := 124) rfl)) rfl, inw_10⟩
theorem fl_X10_148 : FL RX10 148 10 10 := ⟨RX10, TX10, rfl, by decide, gtq (lq_5 (List.mem_of_getElem? (i := 125) rfl)) rfl, inw_10⟩
theorem fl_X10_151 : FL RX10 151 10 12 := ⟨RX10, TX10, rfl, by decide, gtq (lq_5 (List.mem_of_getElem? (i := 127) rfl)) rfl, inw_10⟩
theorem fl_X10_160 : FL RX10 160 10 11 := ⟨RX10, TX10, rfl, by decide, gtq (lq_5 (List.mem_of_getElem? (i := 126) rfl)) rfl, inw_10⟩
theorem fl_X10_17 : FL RX10 17 10 4 := ⟨RX10, TX10, rfl, by decide, gtq (lq_5 (List.mem_of_getElem? (i := 119) rfl)) rfl, inw_10⟩
theorem fl_X10_191 : FL RX10 191 10 22 := ⟨RX10, TX10, rfl, by decide, gtq (lq_5 (List.mem_of_getElem? (i := 137) rfl)) rfl, inw_10⟩
theorem fl_X10_194 : FL RX10 194 10 5 := ⟨RX10, TX10, rfl, by decide, gtq (lq_5 (List.mem_of_getElem? (i := 120) rfl)) rfl, inw_10⟩
theorem fl_X10_197 : FL RX10 197 10 31 := ⟨RX10, TX10, rfl, by decide, gtq (lq_5 (List.mem_of_getElem? (i := 146) rfl)) rfl, inw_10⟩
theorem fl_X10_20 : FL RX10 20 10 6 := ⟨RX10, TX10, rfl, by decide, gtq (lq_5 (List.mem_of_getElem? (i := 121) rfl)) rfl, inw_10⟩
theorem fl_X10_200 : FL RX10 200 10 14 := ⟨RX10, TX10, rfl, by decide, gtq (lq_5 (List.mem_of_getElem? (i := 129) rfl)) rfl, inw_10⟩
theorem fl_X10_218 : FL RX10 218 10 18 := ⟨RX10, TX10, rfl, by decide, gtq (lq_5 (List.mem_of_getElem? (i := 133) rfl)) rfl, inw_10⟩
theorem fl_X10_24 : FL RX10 24 10 7 := ⟨RX10, TX10, rfl, by decide, gtq (lq_5 (List.mem_of_getElem? (i := 122) rfl)) rfl, inw_10⟩
theorem fl_X10_246 : FL RX10 246 10 17 := ⟨RX10, TX10, rfl, by decide, gtq (lq_5 (List.mem_of_getElem? (i := 132) rfl)) rfl, inw_10⟩
theorem fl_X10_27 : FL RX10 27 10 8 := ⟨RX10, TX10, rfl, by decide, gtq (lq_5 (List.mem_of_getElem? (i := 123) rfl)) rfl, inw_10⟩
theorem fl_X10_30 : FL RX10 30 10 13 := ⟨RX10, TX10, rfl, by decide, gtq (lq_5 (List.mem_of_getElem? (i := 128) rfl)) rfl, inw_10⟩
theorem fl_X10_315 : FL RX10 315 10 25 := ⟨RX10, TX10, rfl, by decide, gtq (lq_5 (List.mem_of_getElem? (i := 140) rfl)) rfl, inw_10⟩
theorem fl_X10_33 : FL RX10 33 10 15 := ⟨RX10, TX10, rfl, by decide, gtq (lq_5 (List.mem_of_getElem? (i := 130) rfl)) rfl, inw_10⟩
theorem fl_X10_36 : FL RX10 36 10 16 := ⟨RX10, TX10, rfl, by decide, gtq (lq_5 (List.mem_of_getElem? (i := 131) rfl)) rfl, inw_10⟩
theorem fl_X10_360 : FL RX10 360 10 28 := ⟨RX10, TX10, rfl, by decide, gtq (lq_5 (List.mem_of_getElem? (i := 143) rfl)) rfl, inw_10⟩
theorem fl_X10_39 : FL RX10 39 10 19 := ⟨RX10, TX10, rfl, by decide, gtq (lq_5 (List.mem_of_getElem? (i := 134) rfl)) rfl, inw_10⟩
theorem fl_X10_42 : FL RX10 42 10 20 := ⟨RX10, TX10, rfl, by decide, gtq (lq_5 (List.mem_of_getElem? (i := 135) rfl)) rfl, inw_10⟩
theorem fl_X10_422 : FL RX10 422 10 36 := ⟨RX10, TX10, rfl, by decide, gtq (lq_5 (List.mem_of_getElem? (i := 151) rfl)) rfl, inw_10⟩
theorem fl_X10_448 : FL RX10 448 10 42 := ⟨RX10, TX10, rfl, by decide, gtq (lq_5 (List.mem_of_getElem? (i := 157) rfl)) rfl, inw_10⟩
theorem fl_X10_45 : FL RX10 45 10 21 := ⟨RX10, TX10, rfl, by decide, gtq (lq_5 (List.mem_of_getElem? (i := 136) rfl)) rfl, inw_10⟩
theorem fl_X10_48 : FL RX10 48 10 23 := ⟨RX10, TX10, rfl, by decide, gtq (lq_5 (List.mem_of_getElem? (i := 138) rfl)) rfl, inw_10⟩
theorem fl_X10_51 : FL RX10 51 10 24 := ⟨RX10, TX10, rfl, by decide, gtq (lq_5 (List.mem_of_getElem? (i := 139) rfl)) rfl, inw_10⟩
theorem fl_X10_54 : FL RX10 54 10 26 := ⟨RX10, TX10, rfl, by decide, gtq (lq_5 (List.mem_of_getElem? (i := 141) rfl)) rfl, inw_10⟩
theorem fl_X10_57 : FL RX10 57 10 27 := ⟨RX10, TX10, rfl, by decide, gtq (lq_5 (List.mem_of_getElem? (i := 142) rfl)) rfl, inw_10⟩
theorem fl_X10_60 : FL RX10 60 10 29 := ⟨RX10, TX10, rfl, by decide, gtq (lq_5 (List.mem_of_getElem? (i := 144) rfl)) rfl, inw_10⟩
theorem fl_X10_63 : FL RX10 63 10 30 := ⟨RX10, TX10, rfl, by decide, gtq (lq_5 (List.mem_of_getElem? (i := 145) rfl)) rfl, inw_10⟩
theorem fl_X10_66 : FL RX10 66 10 32 := ⟨RX10, TX10, rfl, by decide, gtq (lq_5 (List.mem_of_getElem? (i := 147) rfl)) rfl, inw_10⟩
theorem fl_X10_69 : FL RX10 69 10 33 := ⟨RX10, TX10, rfl, by decide, gtq (lq_5 (List.mem_of_getElem? (i := 148) rfl)) rfl, inw_10⟩
theorem fl_X10_72 : FL RX10 72 10 34 := ⟨RX10, TX10, rfl, by decide, gtq (lq_5 (List.mem_of_getElem? (i := 149) rfl)) rfl, inw_10⟩
theorem fl_X10_75 : FL RX10 75 10 35 := ⟨RX10, TX10, rfl, by decide, gtq (lq_5 (List.mem_of_getElem? (i := 150) rfl)) rfl, inw_10⟩
theorem fl_X10_78 : FL RX10 78 10 37 := ⟨RX10, TX10, rfl, by decide, gtq (lq_5 (List.mem_of_getElem? (i := 152) rfl)) rfl, inw_10⟩
theorem fl_X10_81 : FL RX10 81 10 38 := ⟨RX10, TX10, rfl, by decide, gtq (lq_5 (List.mem_of_getElem? (i := 153) rfl)) rfl, inw_10⟩
theorem fl_X10_84 : FL RX10 84 10 39 := ⟨RX10, TX10, rfl, by decide, gtq (lq_5 (List.mem_of_getElem? (i := 154) rfl)) rfl, inw_10⟩
theorem fl_X10_87 : FL RX10 87 10 40 := ⟨RX10, TX10, rfl, by decide, gtq (lq_5 (List.mem_of_getElem? (i := 155) rfl)) rfl, inw_10⟩
theorem fl_X10_9 : FL RX10 9 10 2 := ⟨RX10, TX10, rfl, by decide, gtq (lq_5 (List.mem_of_getElem? (i := 117) rfl)) rfl, inw_10⟩
theorem fl_X10_91 : FL RX10 91 10 41 := ⟨RX10, TX10, rfl, by decide, gtq (lq_5 (List.mem_of_getElem? (i := 156) rfl)) rfl, inw_10⟩
theorem fl_X10_94 : FL RX10 94 10 43 := ⟨RX10, TX10, rfl, by decide, gtq (lq_5 (List.mem_of_getElem? (i := 158) rfl)) rfl, inw_10⟩
theorem fl_X10_97 : FL RX10 97 10 44 := ⟨RX10, TX10, rfl, by decide, gtq (lq_5 (List.mem_of_getElem? (i := 159) rfl)) rfl, inw_10⟩
theorem fp_X0_0_0 : FP 0 0 false RX0 := ⟨RX0, TX0, tyX0, .int, rfl, tyX0_ok, nmX0, rfl, by decide +kernel, (fun _ => rfl), (fun q => absurd rfl q), (fun q => by cases q)⟩
theorem fp_X0_0_1 : FP 0 1 false RX0 := ⟨RX0, TX0, tyX0, .int, rfl, tyX0_ok, nmX0, rfl, by decide +kernel, (fun _ => rfl), (fun q => absurd rfl q), (fun q => by cases q)⟩
theorem fp_X0_0_10 : FP 0 10 true RX0 := ⟨RX0, TX0, tyX0, .array .int, rfl, tyX0_ok, nmX0, rfl, by decide +kernel, (fun q => absurd q (by decide)), (fun _ => Or.inr ⟨_, rfl⟩), (fun _ => rfl)⟩
theorem fp_X0_0_11 : FP 0 11 true RX0 := ⟨RX0, TX0, tyX0, .array .int, rfl, tyX0_ok, nmX0, rfl, by decide +kernel, (fun q => absurd q (by decide)), (fun _ => Or.inr ⟨_, rfl⟩), (fun _ => rfl)⟩
theorem fp_X0_0_2 : FP 0 2 false RX0 := ⟨RX0, TX0, tyX0, .int, rfl, tyX0_ok, nmX0, rfl, by decide +kernel, (fun _ => rfl), (fun q => absurd rfl q), (fun q => by cases q)⟩
theorem fp_X0_0_3 : FP 0 3 false RX0 := ⟨RX0, TX0, tyX0, .int, rfl, tyX0_ok, nmX0, rfl, by decide +kernel, (fun _ => rfl), (fun q => absurd rfl q), (fun q => by cases q)⟩
theorem fp_X0_0_4 : FP 0 4 false RX0 := ⟨RX0, TX0, tyX0, .int, rfl, tyX0_ok, nmX0, rfl, by decide +kernel, (fun _ => rfl), (fun q => absurd rfl q), (fun q => by cases q)⟩
theorem fp_X0_0_5 : FP 0 5 true RX0 := ⟨RX0, TX0, tyX0, .array .int, rfl, tyX0_ok, nmX0, rfl, by decide +kernel, (fun q => absurd q (by decide)), (fun _ => Or.inr ⟨_, rfl⟩), (fun _ => rfl)⟩
theorem fp_X0_0_6 : FP 0 6 true RX0 := ⟨RX0, TX0, tyX0, .array .int, rfl, tyX0_ok, nmX0, rfl, by decide +kernel, (fun q => absurd q (by decide)), (fun _ => Or.inr ⟨_, rfl⟩), (fun _ => rfl)⟩
theorem fp_X0_0_7 : FP 0 7 true RX0 := ⟨RX0, TX0, tyX0, .array .int, rfl, tyX0_ok, nmX0, rfl, by decide +kernel, (fun q => absurd q (by decide)), (fun _ => Or.inr ⟨_, rfl⟩), (fun _ => rfl)⟩
theorem fp_X0_0_8 : FP 0 8 true RX0 := ⟨RX0, TX0, tyX0, .array .int, rfl, tyX0_ok, nmX0, rfl, by decide +kernel, (fun q => absurd q (by decide)), (fun _ => Or.inr ⟨_, rfl⟩), (fun _ => rfl)⟩
theorem fp_X0_0_9 : FP 0 9 true RX0 := ⟨RX0, TX0, tyX0, .array .int, rfl, tyX0_ok, nmX0, rfl, by decide +kernel, (fun q => absurd q (by decide)), (fun _ => Or.inr ⟨_, rfl⟩), (fun _ => rfl)⟩
theorem fp_X1_1_0 : FP 1 0 false RX1 := ⟨RX1, TX1, tyX1, .int, rfl, tyX1_ok, nmX1, rfl, by decide +kernel, (fun _ => rfl), (fun q => absurd rfl q), (fun q => by cases q)⟩
theorem fp_X2_2_0 : FP 2 0 true RX2 := ⟨RX2, TX2, tyX2, .array .int, rfl, tyX2_ok, nmX2, rfl, by decide +kernel, (fun q => absurd q (by decide)), (fun _ => Or.inr ⟨_, rfl⟩), (fun _ => rfl)⟩
theorem fp_X2_2_1 : FP 2 1 true RX2 := ⟨RX2, TX2, tyX2, .array .int, rfl, tyX2_ok, nmX2, rfl, by decide +kernel, (fun q => absurd q (by decide)), (fun _ => Or.inr ⟨_, rfl⟩), (fun _ => rfl)⟩
theorem fp_X2_2_2 : FP 2 2 true RX2 := ⟨RX2, TX2, tyX2, .array .int, rfl, tyX2_ok, nmX2, rfl, by decide +kernel, (fun q => absurd q (by decide)), (fun _ => Or.inr ⟨_, rfl⟩), (fun _ => rfl)⟩
theorem fp_X2_2_3 : FP 2 3 false RX2 := ⟨RX2, TX2, tyX2, .int, rfl, tyX2_ok, nmX2, rfl, by decide +kernel, (fun _ => rfl), (fun q => absurd rfl q), (fun q => by cases q)⟩
theorem fp_X3_3_0 : FP 3 0 true RX3 := ⟨RX3, TX3, tyX3, .array (.object "FieldKeepsCamps$Camps"), rfl, tyX3_ok, nmX3, rfl, by decide +kernel, (fun q => absurd q (by decide)), (fun _ => Or.inr ⟨_, rfl⟩), (fun _ => rfl)⟩
theorem fp_X3_3_1 : FP 3 1 false RX3 := ⟨RX3, TX3, tyX3, .int, rfl, tyX3_ok, nmX3, rfl, by decide +kernel, (fun _ => rfl), (fun q => absurd rfl q), (fun q => by cases q)⟩
theorem fp_X3_3_2 : FP 3 2 false RX3 := ⟨RX3, TX3, tyX3, .int, rfl, tyX3_ok, nmX3, rfl, by decide +kernel, (fun _ => rfl), (fun q => absurd rfl q), (fun q => by cases q)⟩
theorem fp_X4_4_0 : FP 4 0 true RX4 := ⟨RX4, TX4, tyX4, .array .int, rfl, tyX4_ok, nmX4, rfl, by decide +kernel, (fun q => absurd q (by decide)), (fun _ => Or.inr ⟨_, rfl⟩), (fun _ => rfl)⟩
theorem fp_X4_4_1 : FP 4 1 true RX4 := ⟨RX4, TX4, tyX4, .array .int, rfl, tyX4_ok, nmX4, rfl, by decide +kernel, (fun q => absurd q (by decide)), (fun _ => Or.inr ⟨_, rfl⟩), (fun _ => rfl)⟩
theorem fp_X4_4_2 : FP 4 2 true RX4 := ⟨RX4, TX4, tyX4, .array .int, rfl, tyX4_ok, nmX4, rfl, by decide +kernel, (fun q => absurd q (by decide)), (fun _ => Or.inr ⟨_, rfl⟩), (fun _ => rfl)⟩
theorem fp_X4_4_3 : FP 4 3 false RX4 := ⟨RX4, TX4, tyX4, .int, rfl, tyX4_ok, nmX4, rfl, by decide +kernel, (fun _ => rfl), (fun q => absurd rfl q), (fun q => by cases q)⟩
theorem fp_X4_4_4 : FP 4 4 false RX4 := ⟨RX4, TX4, tyX4, .int, rfl, tyX4_ok, nmX4, rfl, by decide +kernel, (fun _ => rfl), (fun q => absurd rfl q), (fun q => by cases q)⟩
theorem fp_X4_4_5 : FP 4 5 false RX4 := ⟨RX4, TX4, tyX4, .int, rfl, tyX4_ok, nmX4, rfl, by decide +kernel, (fun _ => rfl), (fun q => absurd rfl q), (fun q => by cases q)⟩
theorem fp_X5_5_0 : FP 5 0 false RX5 := ⟨RX5, TX5, tyX5, .object "FieldKeepsCamps$Signs", rfl, tyX5_ok, nmX5, rfl, by decide +kernel, (fun q => absurd q (by decide)), (fun _ => Or.inl ⟨_, rfl⟩), (fun q => by cases q)⟩
theorem fp_X5_5_1 : FP 5 1 false RX5 := ⟨RX5, TX5, tyX5, .object "FieldKeepsCamps$Rule", rfl, tyX5_ok, nmX5, rfl, by decide +kernel, (fun q => absurd q (by decide)), (fun _ => Or.inl ⟨_, rfl⟩), (fun q => by cases q)⟩
theorem fp_X5_5_2 : FP 5 2 false RX5 := ⟨RX5, TX5, tyX5, .int, rfl, tyX5_ok, nmX5, rfl, by decide +kernel, (fun _ => rfl), (fun q => absurd rfl q), (fun q => by cases q)⟩
theorem fp_X5_5_3 : FP 5 3 false RX5 := ⟨RX5, TX5, tyX5, .int, rfl, tyX5_ok, nmX5, rfl, by decide +kernel, (fun _ => rfl), (fun q => absurd rfl q), (fun q => by cases q)⟩
theorem fp_X6_6_0 : FP 6 0 true RX6 := ⟨RX6, TX6, tyX6, .array .int, rfl, tyX6_ok, nmX6, rfl, by decide +kernel, (fun q => absurd q (by decide)), (fun _ => Or.inr ⟨_, rfl⟩), (fun _ => rfl)⟩
theorem fp_X6_6_1 : FP 6 1 false RX6 := ⟨RX6, TX6, tyX6, .int, rfl, tyX6_ok, nmX6, rfl, by decide +kernel, (fun _ => rfl), (fun q => absurd rfl q), (fun q => by cases q)⟩
theorem fp_X7_7_0 : FP 7 0 true RX7 := ⟨RX7, TX7, tyX7, .array .long, rfl, tyX7_ok, nmX7, rfl, by decide +kernel, (fun q => absurd q (by decide)), (fun _ => Or.inr ⟨_, rfl⟩), (fun _ => rfl)⟩
theorem fp_X7_7_1 : FP 7 1 false RX7 := ⟨RX7, TX7, tyX7, .int, rfl, tyX7_ok, nmX7, rfl, by decide +kernel, (fun _ => rfl), (fun q => absurd rfl q), (fun q => by cases q)⟩
theorem fp_X8_8_0 : FP 8 0 true RX8 := ⟨RX8, TX8, tyX8, .array .int, rfl, tyX8_ok, nmX8, rfl, by decide +kernel, (fun q => absurd q (by decide)), (fun _ => Or.inr ⟨_, rfl⟩), (fun _ => rfl)⟩
theorem fp_X8_8_1 : FP 8 1 true RX8 := ⟨RX8, TX8, tyX8, .array .long, rfl, tyX8_ok, nmX8, rfl, by decide +kernel, (fun q => absurd q (by decide)), (fun _ => Or.inr ⟨_, rfl⟩), (fun _ => rfl)⟩
theorem fp_X8_8_2 : FP 8 2 true RX8 := ⟨RX8, TX8, tyX8, .array .int, rfl, tyX8_ok, nmX8, rfl, by decide +kernel, (fun q => absurd q (by decide)), (fun _ => Or.inr ⟨_, rfl⟩), (fun _ => rfl)⟩
theorem fp_X8_8_3 : FP 8 3 true RX8 := ⟨RX8, TX8, tyX8, .array .int, rfl, tyX8_ok, nmX8, rfl, by decide +kernel, (fun q => absurd q (by decide)), (fun _ => Or.inr ⟨_, rfl⟩), (fun _ => rfl)⟩
theorem fp_X8_8_4 : FP 8 4 true RX8 := ⟨RX8, TX8, tyX8, .array .int, rfl, tyX8_ok, nmX8, rfl, by decide +kernel, (fun q => absurd q (by decide)), (fun _ => Or.inr ⟨_, rfl⟩), (fun _ => rfl)⟩
theorem fp_X9_6_1 : FP 6 1 false RX9 := ⟨RX6, TX6, tyX6, .int, rfl, tyX6_ok, nmX6, rfl, by decide +kernel, (fun _ => rfl), (fun q => absurd rfl q), (fun q => by cases q)⟩
theorem fp_X9_9_0 : FP 9 0 true RX9 := ⟨RX9, TX9, tyX9, .object "FieldKeepsCamps$Signs", rfl, tyX9_ok, nmX9, rfl, by decide +kernel, (fun q => absurd q (by decide)), (fun _ => Or.inl ⟨_, rfl⟩), (fun _ => rfl)⟩
theorem fp_X9_9_1 : FP 9 1 true RX9 := ⟨RX9, TX9, tyX9, .object "FieldKeepsCamps$Told", rfl, tyX9_ok, nmX9, rfl, by decide +kernel, (fun q => absurd q (by decide)), (fun _ => Or.inl ⟨_, rfl⟩), (fun _ => rfl)⟩
theorem fp_X9_9_10 : FP 9 10 true RX9 := ⟨RX9, TX9, tyX9, .object "FieldKeepsCamps$RuleReader", rfl, tyX9_ok, nmX9, rfl, by decide +kernel, (fun q => absurd q (by decide)), (fun _ => Or.inl ⟨_, rfl⟩), (fun _ => rfl)⟩
theorem fp_X9_9_11 : FP 9 11 true RX9 := ⟨RX9, TX9, tyX9, .object "FieldKeepsCamps$Notes", rfl, tyX9_ok, nmX9, rfl, by decide +kernel, (fun q => absurd q (by decide)), (fun _ => Or.inl ⟨_, rfl⟩), (fun _ => rfl)⟩
theorem fp_X9_9_12 : FP 9 12 true RX9 := ⟨RX9, TX9, tyX9, .object "FieldKeepsCamps$Notes", rfl, tyX9_ok, nmX9, rfl, by decide +kernel, (fun q => absurd q (by decide)), (fun _ => Or.inl ⟨_, rfl⟩), (fun _ => rfl)⟩
theorem fp_X9_9_13 : FP 9 13 true RX9 := ⟨RX9, TX9, tyX9, .object "FieldKeepsCamps$Ways", rfl, tyX9_ok, nmX9, rfl, by decide +kernel, (fun q => absurd q (by decide)), (fun _ => Or.inl ⟨_, rfl⟩), (fun _ => rfl)⟩
theorem fp_X9_9_14 : FP 9 14 true RX9 := ⟨RX9, TX9, tyX9, .array .int, rfl, tyX9_ok, nmX9, rfl, by decide +kernel, (fun q => absurd q (by decide)), (fun _ => Or.inr ⟨_, rfl⟩), (fun _ => rfl)⟩
theorem fp_X9_9_15 : FP 9 15 true RX9 := ⟨RX9, TX9, tyX9, .array .int, rfl, tyX9_ok, nmX9, rfl, by decide +kernel, (fun q => absurd q (by decide)), (fun _ => Or.inr ⟨_, rfl⟩), (fun _ => rfl)⟩
theorem fp_X9_9_2 : FP 9 2 true RX9 := ⟨RX9, TX9, tyX9, .object "FieldKeepsCamps$Camps", rfl, tyX9_ok, nmX9, rfl, by decide +kernel, (fun q => absurd q (by decide)), (fun _ => Or.inl ⟨_, rfl⟩), (fun _ => rfl)⟩
theorem fp_X9_9_3 : FP 9 3 true RX9 := ⟨RX9, TX9, tyX9, .object "FieldKeepsCamps$Camps", rfl, tyX9_ok, nmX9, rfl, by decide +kernel, (fun q => absurd q (by decide)), (fun _ => Or.inl ⟨_, rfl⟩), (fun _ => rfl)⟩
theorem fp_X9_9_4 : FP 9 4 true RX9 := ⟨RX9, TX9, tyX9, .object "FieldKeepsCamps$Camps", rfl, tyX9_ok, nmX9, rfl, by decide +kernel, (fun q => absurd q (by decide)), (fun _ => Or.inl ⟨_, rfl⟩), (fun _ => rfl)⟩
theorem fp_X9_9_5 : FP 9 5 true RX9 := ⟨RX9, TX9, tyX9, .object "FieldKeepsCamps$Past", rfl, tyX9_ok, nmX9, rfl, by decide +kernel, (fun q => absurd q (by decide)), (fun _ => Or.inl ⟨_, rfl⟩), (fun _ => rfl)⟩
theorem fp_X9_9_6 : FP 9 6 true RX9 := ⟨RX9, TX9, tyX9, .array (.object "FieldKeepsCamps$Camps"), rfl, tyX9_ok, nmX9, rfl, by decide +kernel, (fun q => absurd q (by decide)), (fun _ => Or.inr ⟨_, rfl⟩), (fun _ => rfl)⟩
theorem fp_X9_9_7 : FP 9 7 false RX9 := ⟨RX9, TX9, tyX9, .int, rfl, tyX9_ok, nmX9, rfl, by decide +kernel, (fun _ => rfl), (fun q => absurd rfl q), (fun q => by cases q)⟩
theorem fp_X9_9_8 : FP 9 8 true RX9 := ⟨RX9, TX9, tyX9, .object "FieldKeepsCamps$Rule", rfl, tyX9_ok, nmX9, rfl, by decide +kernel, (fun q => absurd q (by decide)), (fun _ => Or.inl ⟨_, rfl⟩), (fun _ => rfl)⟩
theorem fp_X9_9_9 : FP 9 9 true RX9 := ⟨RX9, TX9, tyX9, .object "FieldKeepsCamps$Rule", rfl, tyX9_ok, nmX9, rfl, by decide +kernel, (fun q => absurd q (by decide)), (fun _ => Or.inl ⟨_, rfl⟩), (fun _ => rfl)⟩
theorem fp_X10_10_0 : FP 10 0 false RX10 := ⟨RX10, TX10, tyX10, .int, rfl, tyX10_ok, nmX10, rfl, by decide +kernel, (fun _ => rfl), (fun q => absurd rfl q), (fun q => by cases q)⟩
theorem fp_X10_10_1 : FP 10 1 false RX10 := ⟨RX10, TX10, tyX10, .int, rfl, tyX10_ok, nmX10, rfl, by decide +kernel, (fun _ => rfl), (fun q => absurd rfl q), (fun q => by cases q)⟩
theorem fp_X10_10_10 : FP 10 10 false RX10 := ⟨RX10, TX10, tyX10, .int, rfl, tyX10_ok, nmX10, rfl, by decide +kernel, (fun _ => rfl), (fun q => absurd rfl q), (fun q => by cases q)⟩
theorem fp_X10_10_11 : FP 10 11 false RX10 := ⟨RX10, TX10, tyX10, .int, rfl, tyX10_ok, nmX10, rfl, by decide +kernel, (fun _ => rfl), (fun q => absurd rfl q), (fun q => by cases q)⟩
theorem fp_X10_10_12 : FP 10 12 false RX10 := ⟨RX10, TX10, tyX10, .int, rfl, tyX10_ok, nmX10, rfl, by decide +kernel, (fun _ => rfl), (fun q => absurd rfl q), (fun q => by cases q)⟩
theorem fp_X10_10_13 : FP 10 13 true RX10 := ⟨RX10, TX10, tyX10, .array .int, rfl, tyX10_ok, nmX10, rfl, by decide +kernel, (fun q => absurd q (by decide)), (fun _ => Or.inr ⟨_, rfl⟩), (fun _ => rfl)⟩
theorem fp_X10_10_14 : FP 10 14 false RX10 := ⟨RX10, TX10, tyX10, .int, rfl, tyX10_ok, nmX10, rfl, by decide +kernel, (fun _ => rfl), (fun q => absurd rfl q), (fun q => by cases q)⟩
theorem fp_X10_10_15 : FP 10 15 true RX10 := ⟨RX10, TX10, tyX10, .array .int, rfl, tyX10_ok, nmX10, rfl, by decide +kernel, (fun q => absurd q (by decide)), (fun _ => Or.inr ⟨_, rfl⟩), (fun _ => rfl)⟩
theorem fp_X10_10_16 : FP 10 16 true RX10 := ⟨RX10, TX10, tyX10, .array .int, rfl, tyX10_ok, nmX10, rfl, by decide +kernel, (fun q => absurd q (by decide)), (fun _ => Or.inr ⟨_, rfl⟩), (fun _ => rfl)⟩
theorem fp_X10_10_17 : FP 10 17 false RX10 := ⟨RX10, TX10, tyX10, .int, rfl, tyX10_ok, nmX10, rfl, by decide +kernel, (fun _ => rfl), (fun q => absurd rfl q), (fun q => by cases q)⟩
theorem fp_X10_10_18 : FP 10 18 false RX10 := ⟨RX10, TX10, tyX10, .int, rfl, tyX10_ok, nmX10, rfl, by decide +kernel, (fun _ => rfl), (fun q => absurd rfl q), (fun q => by cases q)⟩
theorem fp_X10_10_19 : FP 10 19 true RX10 := ⟨RX10, TX10, tyX10, .array .int, rfl, tyX10_ok, nmX10, rfl, by decide +kernel, (fun q => absurd q (by decide)), (fun _ => Or.inr ⟨_, rfl⟩), (fun _ => rfl)⟩
theorem fp_X10_10_2 : FP 10 2 true RX10 := ⟨RX10, TX10, tyX10, .array .long, rfl, tyX10_ok, nmX10, rfl, by decide +kernel, (fun q => absurd q (by decide)), (fun _ => Or.inr ⟨_, rfl⟩), (fun _ => rfl)⟩
theorem fp_X10_10_20 : FP 10 20 true RX10 := ⟨RX10, TX10, tyX10, .array .int, rfl, tyX10_ok, nmX10, rfl, by decide +kernel, (fun q => absurd q (by decide)), (fun _ => Or.inr ⟨_, rfl⟩), (fun _ => rfl)⟩
theorem fp_X10_10_21 : FP 10 21 false RX10 := ⟨RX10, TX10, tyX10, .int, rfl, tyX10_ok, nmX10, rfl, by decide +kernel, (fun _ => rfl), (fun q => absurd rfl q), (fun q => by cases q)⟩
theorem fp_X10_10_22 : FP 10 22 false RX10 := ⟨RX10, TX10, tyX10, .int, rfl, tyX10_ok, nmX10, rfl, by decide +kernel, (fun _ => rfl), (fun q => absurd rfl q), (fun q => by cases q)⟩
theorem fp_X10_10_23 : FP 10 23 true RX10 := ⟨RX10, TX10, tyX10, .array .int, rfl, tyX10_ok, nmX10, rfl, by decide +kernel, (fun q => absurd q (by decide)), (fun _ => Or.inr ⟨_, rfl⟩), (fun _ => rfl)⟩
theorem fp_X10_10_24 : FP 10 24 true RX10 := ⟨RX10, TX10, tyX10, .array .int, rfl, tyX10_ok, nmX10, rfl, by decide +kernel, (fun q => absurd q (by decide)), (fun _ => Or.inr ⟨_, rfl⟩), (fun _ => rfl)⟩
theorem fp_X10_10_25 : FP 10 25 false RX10 := ⟨RX10, TX10, tyX10, .int, rfl, tyX10_ok, nmX10, rfl, by decide +kernel, (fun _ => rfl), (fun q => absurd rfl q), (fun q => by cases q)⟩
theorem fp_X10_10_26 : FP 10 26 true RX10 := ⟨RX10, TX10, tyX10, .array .int, rfl, tyX10_ok, nmX10, rfl, by decide +kernel, (fun q => absurd q (by decide)), (fun _ => Or.inr ⟨_, rfl⟩), (fun _ => rfl)⟩
theorem fp_X10_10_27 : FP 10 27 true RX10 := ⟨RX10, TX10, tyX10, .array .int, rfl, tyX10_ok, nmX10, rfl, by decide +kernel, (fun q => absurd q (by decide)), (fun _ => Or.inr ⟨_, rfl⟩), (fun _ => rfl)⟩
theorem fp_X10_10_28 : FP 10 28 false RX10 := ⟨RX10, TX10, tyX10, .int, rfl, tyX10_ok, nmX10, rfl, by decide +kernel, (fun _ => rfl), (fun q => absurd rfl q), (fun q => by cases q)⟩
theorem fp_X10_10_29 : FP 10 29 true RX10 := ⟨RX10, TX10, tyX10, .array .int, rfl, tyX10_ok, nmX10, rfl, by decide +kernel, (fun q => absurd q (by decide)), (fun _ => Or.inr ⟨_, rfl⟩), (fun _ => rfl)⟩
theorem fp_X10_10_3 : FP 10 3 false RX10 := ⟨RX10, TX10, tyX10, .int, rfl, tyX10_ok, nmX10, rfl, by decide +kernel, (fun _ => rfl), (fun q => absurd rfl q), (fun q => by cases q)⟩
theorem fp_X10_10_30 : FP 10 30 true RX10 := ⟨RX10, TX10, tyX10, .array .int, rfl, tyX10_ok, nmX10, rfl, by decide +kernel, (fun q => absurd q (by decide)), (fun _ => Or.inr ⟨_, rfl⟩), (fun _ => rfl)⟩
theorem fp_X10_10_31 : FP 10 31 false RX10 := ⟨RX10, TX10, tyX10, .int, rfl, tyX10_ok, nmX10, rfl, by decide +kernel, (fun _ => rfl), (fun q => absurd rfl q), (fun q => by cases q)⟩
theorem fp_X10_10_32 : FP 10 32 true RX10 := ⟨RX10, TX10, tyX10, .array .int, rfl, tyX10_ok, nmX10, rfl, by decide +kernel, (fun q => absurd q (by decide)), (fun _ => Or.inr ⟨_, rfl⟩), (fun _ => rfl)⟩
theorem fp_X10_10_33 : FP 10 33 true RX10 := ⟨RX10, TX10, tyX10, .array .int, rfl, tyX10_ok, nmX10, rfl, by decide +kernel, (fun q => absurd q (by decide)), (fun _ => Or.inr ⟨_, rfl⟩), (fun _ => rfl)⟩
theorem fp_X10_10_34 : FP 10 34 true RX10 := ⟨RX10, TX10, tyX10, .array .int, rfl, tyX10_ok, nmX10, rfl, by decide +kernel, (fun q => absurd q (by decide)), (fun _ => Or.inr ⟨_, rfl⟩), (fun _ => rfl)⟩
theorem fp_X10_10_35 : FP 10 35 true RX10 := ⟨RX10, TX10, tyX10, .array .int, rfl, tyX10_ok, nmX10, rfl, by decide +kernel, (fun q => absurd q (by decide)), (fun _ => Or.inr ⟨_, rfl⟩), (fun _ => rfl)⟩
theorem fp_X10_10_36 : FP 10 36 false RX10 := ⟨RX10, TX10, tyX10, .int, rfl, tyX10_ok, nmX10, rfl, by decide +kernel, (fun _ => rfl), (fun q => absurd rfl q), (fun q => by cases q)⟩
theorem fp_X10_10_37 : FP 10 37 true RX10 := ⟨RX10, TX10, tyX10, .array .int, rfl, tyX10_ok, nmX10, rfl, by decide +kernel, (fun q => absurd q (by decide)), (fun _ => Or.inr ⟨_, rfl⟩), (fun _ => rfl)⟩
theorem fp_X10_10_38 : FP 10 38 true RX10 := ⟨RX10, TX10, tyX10, .array .int, rfl, tyX10_ok, nmX10, rfl, by decide +kernel, (fun q => absurd q (by decide)), (fun _ => Or.inr ⟨_, rfl⟩), (fun _ => rfl)⟩
theorem fp_X10_10_39 : FP 10 39 true RX10 := ⟨RX10, TX10, tyX10, .array .int, rfl, tyX10_ok, nmX10, rfl, by decide +kernel, (fun q => absurd q (by decide)), (fun _ => Or.inr ⟨_, rfl⟩), (fun _ => rfl)⟩
theorem fp_X10_10_4 : FP 10 4 false RX10 := ⟨RX10, TX10, tyX10, .int, rfl, tyX10_ok, nmX10, rfl, by decide +kernel, (fun _ => rfl), (fun q => absurd rfl q), (fun q => by cases q)⟩
theorem fp_X10_10_40 : FP 10 40 true RX10 := ⟨RX10, TX10, tyX10, .array .boolean, rfl, tyX10_ok, nmX10, rfl, by decide +kernel, (fun q => absurd q (by decide)), (fun _ => Or.inr ⟨_, rfl⟩), (fun _ => rfl)⟩
theorem fp_X10_10_41 : FP 10 41 true RX10 := ⟨RX10, TX10, tyX10, .array .int, rfl, tyX10_ok, nmX10, rfl, by decide +kernel, (fun q => absurd q (by decide)), (fun _ => Or.inr ⟨_, rfl⟩), (fun _ => rfl)⟩
theorem fp_X10_10_42 : FP 10 42 false RX10 := ⟨RX10, TX10, tyX10, .int, rfl, tyX10_ok, nmX10, rfl, by decide +kernel, (fun _ => rfl), (fun q => absurd rfl q), (fun q => by cases q)⟩
theorem fp_X10_10_43 : FP 10 43 true RX10 := ⟨RX10, TX10, tyX10, .array .boolean, rfl, tyX10_ok, nmX10, rfl, by decide +kernel, (fun q => absurd q (by decide)), (fun _ => Or.inr ⟨_, rfl⟩), (fun _ => rfl)⟩
theorem fp_X10_10_44 : FP 10 44 true RX10 := ⟨RX10, TX10, tyX10, .array .int, rfl, tyX10_ok, nmX10, rfl, by decide +kernel, (fun q => absurd q (by decide)), (fun _ => Or.inr ⟨_, rfl⟩), (fun _ => rfl)⟩
theorem fp_X10_10_45 : FP 10 45 true RX10 := ⟨RX10, TX10, tyX10, .array .int, rfl, tyX10_ok, nmX10, rfl, by decide +kernel, (fun q => absurd q (by decide)), (fun _ => Or.inr ⟨_, rfl⟩), (fun _ => rfl)⟩
theorem fp_X10_10_5 : FP 10 5 false RX10 := ⟨RX10, TX10, tyX10, .int, rfl, tyX10_ok, nmX10, rfl, by decide +kernel, (fun _ => rfl), (fun q => absurd rfl q), (fun q => by cases q)⟩
theorem fp_X10_10_6 : FP 10 6 true RX10 := ⟨RX10, TX10, tyX10, .array .int, rfl, tyX10_ok, nmX10, rfl, by decide +kernel, (fun q => absurd q (by decide)), (fun _ => Or.inr ⟨_, rfl⟩), (fun _ => rfl)⟩
theorem fp_X10_10_7 : FP 10 7 true RX10 := ⟨RX10, TX10, tyX10, .array .int, rfl, tyX10_ok, nmX10, rfl, by decide +kernel, (fun q => absurd q (by decide)), (fun _ => Or.inr ⟨_, rfl⟩), (fun _ => rfl)⟩
theorem fp_X10_10_8 : FP 10 8 true RX10 := ⟨RX10, TX10, tyX10, .array .int, rfl, tyX10_ok, nmX10, rfl, by decide +kernel, (fun q => absurd q (by decide)), (fun _ => Or.inr ⟨_, rfl⟩), (fun _ => rfl)⟩
theorem fp_X10_10_9 : FP 10 9 false RX10 := ⟨RX10, TX10, tyX10, .int, rfl, tyX10_ok, nmX10, rfl, by decide +kernel, (fun _ => rfl), (fun q => absurd rfl q), (fun q => by cases q)⟩
theorem lk_Math : Cond.initialized "java/lang/Math" ∈ gt := gtq (lq_1 (List.mem_of_getElem? (i := 11) rfl)) rfl
theorem lk_System : Cond.initialized "java/lang/System" ∈ gt := gtq (lq_1 (List.mem_of_getElem? (i := 12) rfl)) rfl
theorem cl_X9_38 : CI RX9 38 yX3_init := ⟨gtq (lq_1 (List.mem_of_getElem? (i := 128) rfl)) rfl, gtq (lq_1 (List.mem_of_getElem? (i := 129) rfl)) rfl, rfl⟩
theorem cl_X9_423 : CI RX9 423 yX1_init := ⟨gtq (lq_4 (List.mem_of_getElem? (i := 232) rfl)) rfl, gtq (lq_4 (List.mem_of_getElem? (i := 233) rfl)) rfl, rfl⟩
theorem cl_X9_66 : CI RX9 66 yX2_init := ⟨gtq (lq_1 (List.mem_of_getElem? (i := 192) rfl)) rfl, gtq (lq_1 (List.mem_of_getElem? (i := 193) rfl)) rfl, rfl⟩
theorem cl_X0_93 : CS RX0 93 yJ6_bitCount_0f7a4 := ⟨gtq (lq_3 (List.mem_of_getElem? (i := 62) rfl)) rfl, gtq (lq_3 (List.mem_of_getElem? (i := 8) rfl)) rfl⟩
theorem cl_X4_51 : CS RX4 51 yJ6_bitCount_0f7a4 := ⟨gtq (lq_3 (List.mem_of_getElem? (i := 7) rfl)) rfl, gtq (lq_3 (List.mem_of_getElem? (i := 8) rfl)) rfl⟩
theorem cl_X4_73 : CS RX4 73 yX4_isOperator := ⟨gtq (lq_3 (List.mem_of_getElem? (i := 25) rfl)) rfl, gtq (lq_3 (List.mem_of_getElem? (i := 26) rfl)) rfl⟩
theorem cl_X4_76 : CS RX4 76 yX4_joined := ⟨gtq (lq_3 (List.mem_of_getElem? (i := 28) rfl)) rfl, gtq (lq_3 (List.mem_of_getElem? (i := 29) rfl)) rfl⟩
theorem cl_X5_64 : CS RX5 64 yX4_isComparison := ⟨gtq (lq_2 (List.mem_of_getElem? (i := 185) rfl)) rfl, gtq (lq_2 (List.mem_of_getElem? (i := 186) rfl)) rfl⟩
theorem cl_X5_82 : CS RX5 82 yX5_isLetter := ⟨gtq (lq_2 (List.mem_of_getElem? (i := 177) rfl)) rfl, gtq (lq_2 (List.mem_of_getElem? (i := 178) rfl)) rfl⟩
theorem cl_X8_28 : CS RX8 28 yJ7_fill_d0a16 := ⟨gtq (lq_4 (List.mem_of_getElem? (i := 42) rfl)) rfl, gtq (lq_4 (List.mem_of_getElem? (i := 43) rfl)) rfl⟩
theorem cl_X9_201 : CS RX9 201 yX9_entry := ⟨gtq (lq_2 (List.mem_of_getElem? (i := 204) rfl)) rfl, gtq (lq_2 (List.mem_of_getElem? (i := 205) rfl)) rfl⟩
theorem cl_X9_204 : CS RX9 204 yX9_digitOf := ⟨gtq (lq_2 (List.mem_of_getElem? (i := 207) rfl)) rfl, gtq (lq_2 (List.mem_of_getElem? (i := 208) rfl)) rfl⟩
theorem cl_X9_251 : CS RX9 251 yX9_digitsBehind := ⟨gtq (lq_3 (List.mem_of_getElem? (i := 148) rfl)) rfl, gtq (lq_3 (List.mem_of_getElem? (i := 149) rfl)) rfl⟩
theorem cl_X9_267 : CS RX9 267 yJ6_bitCount_0f7a4 := ⟨gtq (lq_3 (List.mem_of_getElem? (i := 176) rfl)) rfl, gtq (lq_3 (List.mem_of_getElem? (i := 8) rfl)) rfl⟩
theorem cl_X9_276 : CS RX9 276 yJ13_bitCount_95d88 := ⟨gtq (lq_3 (List.mem_of_getElem? (i := 182) rfl)) rfl, gtq (lq_3 (List.mem_of_getElem? (i := 183) rfl)) rfl⟩
theorem cl_X9_291 : CS RX9 291 yX9_isIn := ⟨gtq (lq_3 (List.mem_of_getElem? (i := 207) rfl)) rfl, gtq (lq_3 (List.mem_of_getElem? (i := 204) rfl)) rfl⟩
theorem cl_X9_305 : CS RX9 305 yX9_areSides := ⟨gtq (lq_4 (List.mem_of_getElem? (i := 0) rfl)) rfl, gtq (lq_3 (List.mem_of_getElem? (i := 77) rfl)) rfl⟩
theorem cl_X9_359 : CS RX9 359 yX9_firstIn := ⟨gtq (lq_4 (List.mem_of_getElem? (i := 146) rfl)) rfl, gtq (lq_4 (List.mem_of_getElem? (i := 147) rfl)) rfl⟩
theorem cl_X9_380 : CS RX9 380 yX9_mostHeard := ⟨gtq (lq_4 (List.mem_of_getElem? (i := 161) rfl)) rfl, gtq (lq_4 (List.mem_of_getElem? (i := 162) rfl)) rfl⟩
theorem cl_X9_395 : CS RX9 395 yX9_choices := ⟨gtq (lq_4 (List.mem_of_getElem? (i := 187) rfl)) rfl, gtq (lq_4 (List.mem_of_getElem? (i := 188) rfl)) rfl⟩
theorem cl_X9_399 : CS RX9 399 yX9_power := ⟨gtq (lq_4 (List.mem_of_getElem? (i := 190) rfl)) rfl, gtq (lq_4 (List.mem_of_getElem? (i := 191) rfl)) rfl⟩
theorem cl_X9_402 : CS RX9 402 yX9_commonDivisor := ⟨gtq (lq_4 (List.mem_of_getElem? (i := 193) rfl)) rfl, gtq (lq_4 (List.mem_of_getElem? (i := 194) rfl)) rfl⟩
theorem cl_X9_409 : CS RX9 409 yX9_firstNotIn := ⟨gtq (lq_4 (List.mem_of_getElem? (i := 204) rfl)) rfl, gtq (lq_4 (List.mem_of_getElem? (i := 205) rfl)) rfl⟩
theorem cl_X9_415 : CS RX9 415 yX9_isBestBeside := ⟨gtq (lq_4 (List.mem_of_getElem? (i := 220) rfl)) rfl, gtq (lq_4 (List.mem_of_getElem? (i := 221) rfl)) rfl⟩
theorem cl_X9_418 : CS RX9 418 yX9_gain := ⟨gtq (lq_4 (List.mem_of_getElem? (i := 223) rfl)) rfl, gtq (lq_4 (List.mem_of_getElem? (i := 224) rfl)) rfl⟩
theorem cl_X10_106 : CS RX10 106 yX10_common := ⟨gtq (lq_8 (List.mem_of_getElem? (i := 6) rfl)) rfl, gtq (lq_8 (List.mem_of_getElem? (i := 7) rfl)) rfl⟩
theorem cl_X10_117 : CS RX10 117 yX10_in := ⟨gtq (lq_6 (List.mem_of_getElem? (i := 27) rfl)) rfl, gtq (lq_6 (List.mem_of_getElem? (i := 28) rfl)) rfl⟩
theorem cl_X10_129 : CS RX10 129 yX10_isOn := ⟨gtq (lq_6 (List.mem_of_getElem? (i := 177) rfl)) rfl, gtq (lq_6 (List.mem_of_getElem? (i := 178) rfl)) rfl⟩
theorem cl_X10_137 : CS RX10 137 yX10_has := ⟨gtq (lq_6 (List.mem_of_getElem? (i := 233) rfl)) rfl, gtq (lq_6 (List.mem_of_getElem? (i := 234) rfl)) rfl⟩
theorem cl_X10_163 : CS RX10 163 yX10_flag := ⟨gtq (lq_6 (List.mem_of_getElem? (i := 55) rfl)) rfl, gtq (lq_6 (List.mem_of_getElem? (i := 56) rfl)) rfl⟩
theorem cl_X10_214 : CS RX10 214 yX10_comes := ⟨gtq (lq_6 (List.mem_of_getElem? (i := 66) rfl)) rfl, gtq (lq_6 (List.mem_of_getElem? (i := 67) rfl)) rfl⟩
theorem cl_X10_256 : CS RX10 256 yX10_worked := ⟨gtq (lq_6 (List.mem_of_getElem? (i := 205) rfl)) rfl, gtq (lq_6 (List.mem_of_getElem? (i := 206) rfl)) rfl⟩
theorem cl_X10_264 : CS RX10 264 yJ6_bitCount_0f7a4 := ⟨gtq (lq_6 (List.mem_of_getElem? (i := 200) rfl)) rfl, gtq (lq_3 (List.mem_of_getElem? (i := 8) rfl)) rfl⟩
theorem cl_X10_300 : CS RX10 300 yX10_strongest := ⟨gtq (lq_6 (List.mem_of_getElem? (i := 230) rfl)) rfl, gtq (lq_6 (List.mem_of_getElem? (i := 231) rfl)) rfl⟩
theorem cl_X10_305 : CS RX10 305 yX10_sumOf := ⟨gtq (lq_7 (List.mem_of_getElem? (i := 1) rfl)) rfl, gtq (lq_7 (List.mem_of_getElem? (i := 2) rfl)) rfl⟩
theorem cl_X10_311 : CS RX10 311 yX10_on := ⟨gtq (lq_7 (List.mem_of_getElem? (i := 25) rfl)) rfl, gtq (lq_7 (List.mem_of_getElem? (i := 26) rfl)) rfl⟩
theorem cl_X10_371 : CS RX10 371 yJ13_bitCount_95d88 := ⟨gtq (lq_7 (List.mem_of_getElem? (i := 98) rfl)) rfl, gtq (lq_3 (List.mem_of_getElem? (i := 183) rfl)) rfl⟩
theorem cl_X10_376 : CS RX10 376 yJ6_numberOfTrailingZeros_0f7a4 := ⟨gtq (lq_7 (List.mem_of_getElem? (i := 103) rfl)) rfl, gtq (lq_7 (List.mem_of_getElem? (i := 104) rfl)) rfl⟩
theorem cl_X10_384 : CS RX10 384 yX10_isSize := ⟨gtq (lq_7 (List.mem_of_getElem? (i := 132) rfl)) rfl, gtq (lq_7 (List.mem_of_getElem? (i := 133) rfl)) rfl⟩
theorem cl_X10_393 : CS RX10 393 yX10_isFewer := ⟨gtq (lq_7 (List.mem_of_getElem? (i := 156) rfl)) rfl, gtq (lq_7 (List.mem_of_getElem? (i := 157) rfl)) rfl⟩
theorem cl_X10_396 : CS RX10 396 yX10_state := ⟨gtq (lq_7 (List.mem_of_getElem? (i := 167) rfl)) rfl, gtq (lq_7 (List.mem_of_getElem? (i := 168) rfl)) rfl⟩
theorem cl_X10_440 : CS RX10 440 yX10_gets := ⟨gtq (lq_8 (List.mem_of_getElem? (i := 34) rfl)) rfl, gtq (lq_8 (List.mem_of_getElem? (i := 35) rfl)) rfl⟩
theorem cl_X10_445 : CS RX10 445 yX10_isRest := ⟨gtq (lq_8 (List.mem_of_getElem? (i := 31) rfl)) rfl, gtq (lq_8 (List.mem_of_getElem? (i := 32) rfl)) rfl⟩
theorem cl_X0_102 : CV RX0 102 yX0_strengthUnder := ⟨gtq (lq_4 (List.mem_of_getElem? (i := 82) rfl)) rfl, gtq (lq_4 (List.mem_of_getElem? (i := 21) rfl)) rfl, gtq (lq_4 (List.mem_of_getElem? (i := 22) rfl)) rfl⟩
theorem cl_X0_105 : CV RX0 105 yX0_onOver := ⟨gtq (lq_3 (List.mem_of_getElem? (i := 181) rfl)) rfl, gtq (lq_3 (List.mem_of_getElem? (i := 173) rfl)) rfl, gtq (lq_3 (List.mem_of_getElem? (i := 174) rfl)) rfl⟩
theorem cl_X0_108 : CV RX0 108 yX0_isOn := ⟨gtq (lq_3 (List.mem_of_getElem? (i := 115) rfl)) rfl, gtq (lq_2 (List.mem_of_getElem? (i := 232) rfl)) rfl, gtq (lq_2 (List.mem_of_getElem? (i := 233) rfl)) rfl⟩
theorem cl_X0_111 : CV RX0 111 yX0_isHidden := ⟨gtq (lq_4 (List.mem_of_getElem? (i := 100) rfl)) rfl, gtq (lq_4 (List.mem_of_getElem? (i := 101) rfl)) rfl, gtq (lq_4 (List.mem_of_getElem? (i := 102) rfl)) rfl⟩
theorem cl_X0_114 : CV RX0 114 yX0_seenFrom := ⟨gtq (lq_4 (List.mem_of_getElem? (i := 112) rfl)) rfl, gtq (lq_4 (List.mem_of_getElem? (i := 97) rfl)) rfl, gtq (lq_4 (List.mem_of_getElem? (i := 98) rfl)) rfl⟩
theorem cl_X0_117 : CV RX0 117 yX0_hasCell := ⟨gtq (lq_3 (List.mem_of_getElem? (i := 71) rfl)) rfl, gtq (lq_3 (List.mem_of_getElem? (i := 72) rfl)) rfl, gtq (lq_3 (List.mem_of_getElem? (i := 73) rfl)) rfl⟩
theorem cl_X0_128 : CV RX0 128 yX0_common := ⟨gtq (lq_3 (List.mem_of_getElem? (i := 99) rfl)) rfl, gtq (lq_3 (List.mem_of_getElem? (i := 100) rfl)) rfl, gtq (lq_3 (List.mem_of_getElem? (i := 101) rfl)) rfl⟩
theorem cl_X0_132 : CV RX0 132 yX0_commonCells := ⟨gtq (lq_3 (List.mem_of_getElem? (i := 95) rfl)) rfl, gtq (lq_3 (List.mem_of_getElem? (i := 96) rfl)) rfl, gtq (lq_3 (List.mem_of_getElem? (i := 97) rfl)) rfl⟩
theorem cl_X0_135 : CV RX0 135 yX0_holds := ⟨gtq (lq_3 (List.mem_of_getElem? (i := 79) rfl)) rfl, gtq (lq_3 (List.mem_of_getElem? (i := 80) rfl)) rfl, gtq (lq_3 (List.mem_of_getElem? (i := 81) rfl)) rfl⟩
theorem cl_X0_139 : CV RX0 139 yX0_isRoom := ⟨gtq (lq_4 (List.mem_of_getElem? (i := 5) rfl)) rfl, gtq (lq_4 (List.mem_of_getElem? (i := 6) rfl)) rfl, gtq (lq_4 (List.mem_of_getElem? (i := 7) rfl)) rfl⟩
theorem cl_X0_142 : CV RX0 142 yX4_losses := ⟨gtq (lq_2 (List.mem_of_getElem? (i := 227) rfl)) rfl, gtq (lq_2 (List.mem_of_getElem? (i := 228) rfl)) rfl, gtq (lq_2 (List.mem_of_getElem? (i := 229) rfl)) rfl⟩
theorem cl_X0_148 : CV RX0 148 yX0_slide := ⟨gtq (lq_3 (List.mem_of_getElem? (i := 37) rfl)) rfl, gtq (lq_3 (List.mem_of_getElem? (i := 38) rfl)) rfl, gtq (lq_3 (List.mem_of_getElem? (i := 39) rfl)) rfl⟩
theorem cl_X0_152 : CV RX0 152 yX0_goBy := ⟨gtq (lq_2 (List.mem_of_getElem? (i := 223) rfl)) rfl, gtq (lq_2 (List.mem_of_getElem? (i := 224) rfl)) rfl, gtq (lq_2 (List.mem_of_getElem? (i := 225) rfl)) rfl⟩
theorem cl_X0_159 : CV RX0 159 yX0_firstCell := ⟨gtq (lq_3 (List.mem_of_getElem? (i := 136) rfl)) rfl, gtq (lq_3 (List.mem_of_getElem? (i := 137) rfl)) rfl, gtq (lq_3 (List.mem_of_getElem? (i := 138) rfl)) rfl⟩
theorem cl_X0_162 : CV RX0 162 yX6_digit := ⟨gtq (lq_2 (List.mem_of_getElem? (i := 130) rfl)) rfl, gtq (lq_2 (List.mem_of_getElem? (i := 81) rfl)) rfl, gtq (lq_2 (List.mem_of_getElem? (i := 82) rfl)) rfl⟩
theorem cl_X0_167 : CV RX0 167 yX0_takeDigit := ⟨gtq (lq_2 (List.mem_of_getElem? (i := 131) rfl)) rfl, gtq (lq_2 (List.mem_of_getElem? (i := 132) rfl)) rfl, gtq (lq_2 (List.mem_of_getElem? (i := 133) rfl)) rfl⟩
theorem cl_X0_55 : CV RX0 55 yX0_cells := ⟨gtq (lq_3 (List.mem_of_getElem? (i := 75) rfl)) rfl, gtq (lq_2 (List.mem_of_getElem? (i := 105) rfl)) rfl, gtq (lq_2 (List.mem_of_getElem? (i := 106) rfl)) rfl⟩
theorem cl_X0_59 : CV RX0 59 yX0_rowOf := ⟨gtq (lq_3 (List.mem_of_getElem? (i := 83) rfl)) rfl, gtq (lq_3 (List.mem_of_getElem? (i := 84) rfl)) rfl, gtq (lq_3 (List.mem_of_getElem? (i := 85) rfl)) rfl⟩
theorem cl_X0_63 : CV RX0 63 yX0_columnOf := ⟨gtq (lq_3 (List.mem_of_getElem? (i := 87) rfl)) rfl, gtq (lq_3 (List.mem_of_getElem? (i := 88) rfl)) rfl, gtq (lq_3 (List.mem_of_getElem? (i := 89) rfl)) rfl⟩
theorem cl_X0_66 : CV RX0 66 yX0_cellAt := ⟨gtq (lq_3 (List.mem_of_getElem? (i := 132) rfl)) rfl, gtq (lq_3 (List.mem_of_getElem? (i := 133) rfl)) rfl, gtq (lq_3 (List.mem_of_getElem? (i := 134) rfl)) rfl⟩
theorem cl_X0_70 : CV RX0 70 yX0_has := ⟨gtq (lq_2 (List.mem_of_getElem? (i := 235) rfl)) rfl, gtq (lq_2 (List.mem_of_getElem? (i := 236) rfl)) rfl, gtq (lq_2 (List.mem_of_getElem? (i := 237) rfl)) rfl⟩
theorem cl_X0_74 : CV RX0 74 yX0_isOverRow := ⟨gtq (lq_3 (List.mem_of_getElem? (i := 212) rfl)) rfl, gtq (lq_3 (List.mem_of_getElem? (i := 213) rfl)) rfl, gtq (lq_3 (List.mem_of_getElem? (i := 214) rfl)) rfl⟩
theorem cl_X0_78 : CV RX0 78 yX0_isOverColumn := ⟨gtq (lq_3 (List.mem_of_getElem? (i := 216) rfl)) rfl, gtq (lq_3 (List.mem_of_getElem? (i := 217) rfl)) rfl, gtq (lq_3 (List.mem_of_getElem? (i := 218) rfl)) rfl⟩
theorem cl_X0_81 : CV RX0 81 yX0_cross := ⟨gtq (lq_3 (List.mem_of_getElem? (i := 3) rfl)) rfl, gtq (lq_3 (List.mem_of_getElem? (i := 4) rfl)) rfl, gtq (lq_3 (List.mem_of_getElem? (i := 5) rfl)) rfl⟩
theorem cl_X0_87 : CV RX0 87 yX0_crossedBy := ⟨gtq (lq_3 (List.mem_of_getElem? (i := 206) rfl)) rfl, gtq (lq_3 (List.mem_of_getElem? (i := 0) rfl)) rfl, gtq (lq_3 (List.mem_of_getElem? (i := 1) rfl)) rfl⟩
theorem cl_X0_90 : CV RX0 90 yX0_onBits := ⟨gtq (lq_3 (List.mem_of_getElem? (i := 58) rfl)) rfl, gtq (lq_3 (List.mem_of_getElem? (i := 59) rfl)) rfl, gtq (lq_3 (List.mem_of_getElem? (i := 60) rfl)) rfl⟩
theorem cl_X0_98 : CV RX0 98 yX0_onUnder := ⟨gtq (lq_3 (List.mem_of_getElem? (i := 91) rfl)) rfl, gtq (lq_3 (List.mem_of_getElem? (i := 92) rfl)) rfl, gtq (lq_3 (List.mem_of_getElem? (i := 93) rfl)) rfl⟩
theorem cl_X2_23 : CV RX2 23 yX2_isFull := ⟨gtq (lq_4 (List.mem_of_getElem? (i := 125) rfl)) rfl, gtq (lq_4 (List.mem_of_getElem? (i := 118) rfl)) rfl, gtq (lq_4 (List.mem_of_getElem? (i := 119) rfl)) rfl⟩
theorem cl_X3_23 : CV RX3 23 yX0_copy := ⟨gtq (lq_3 (List.mem_of_getElem? (i := 45) rfl)) rfl, gtq (lq_2 (List.mem_of_getElem? (i := 120) rfl)) rfl, gtq (lq_2 (List.mem_of_getElem? (i := 121) rfl)) rfl⟩
theorem cl_X4_25 : CV RX4 25 yX4_addNumber := ⟨gtq (lq_2 (List.mem_of_getElem? (i := 3) rfl)) rfl, gtq (lq_2 (List.mem_of_getElem? (i := 4) rfl)) rfl, gtq (lq_2 (List.mem_of_getElem? (i := 5) rfl)) rfl⟩
theorem cl_X4_35 : CV RX4 35 yX4_start := ⟨gtq (lq_1 (List.mem_of_getElem? (i := 239) rfl)) rfl, gtq (lq_2 (List.mem_of_getElem? (i := 0) rfl)) rfl, gtq (lq_2 (List.mem_of_getElem? (i := 1) rfl)) rfl⟩
theorem cl_X4_38 : CV RX4 38 yX4_addSign := ⟨gtq (lq_2 (List.mem_of_getElem? (i := 7) rfl)) rfl, gtq (lq_2 (List.mem_of_getElem? (i := 8) rfl)) rfl, gtq (lq_2 (List.mem_of_getElem? (i := 9) rfl)) rfl⟩
theorem cl_X4_41 : CV RX4 41 yX0_isOn := ⟨gtq (lq_2 (List.mem_of_getElem? (i := 231) rfl)) rfl, gtq (lq_2 (List.mem_of_getElem? (i := 232) rfl)) rfl, gtq (lq_2 (List.mem_of_getElem? (i := 233) rfl)) rfl⟩
theorem cl_X4_47 : CV RX4 47 yX0_crossedBy := ⟨gtq (lq_2 (List.mem_of_getElem? (i := 239) rfl)) rfl, gtq (lq_3 (List.mem_of_getElem? (i := 0) rfl)) rfl, gtq (lq_3 (List.mem_of_getElem? (i := 1) rfl)) rfl⟩
theorem cl_X4_59 : CV RX4 59 yX4_loss := ⟨gtq (lq_3 (List.mem_of_getElem? (i := 13) rfl)) rfl, gtq (lq_3 (List.mem_of_getElem? (i := 15) rfl)) rfl, gtq (lq_0 (List.mem_of_getElem? (i := 11) rfl)) rfl⟩
theorem cl_X4_66 : CV RX4 66 yX4_push := ⟨gtq (lq_3 (List.mem_of_getElem? (i := 17) rfl)) rfl, gtq (lq_3 (List.mem_of_getElem? (i := 19) rfl)) rfl, gtq (lq_0 (List.mem_of_getElem? (i := 12) rfl)) rfl⟩
theorem cl_X4_69 : CV RX4 69 yX4_pop := ⟨gtq (lq_3 (List.mem_of_getElem? (i := 21) rfl)) rfl, gtq (lq_3 (List.mem_of_getElem? (i := 23) rfl)) rfl, gtq (lq_0 (List.mem_of_getElem? (i := 13) rfl)) rfl⟩
theorem cl_X4_80 : CV RX4 80 yX4_meaning := ⟨gtq (lq_3 (List.mem_of_getElem? (i := 31) rfl)) rfl, gtq (lq_3 (List.mem_of_getElem? (i := 33) rfl)) rfl, gtq (lq_0 (List.mem_of_getElem? (i := 14) rfl)) rfl⟩
theorem cl_X5_37 : CV RX5 37 yX4_putNone := ⟨gtq (lq_2 (List.mem_of_getElem? (i := 145) rfl)) rfl, gtq (lq_1 (List.mem_of_getElem? (i := 236) rfl)) rfl, gtq (lq_1 (List.mem_of_getElem? (i := 237) rfl)) rfl⟩
theorem cl_X5_42 : CV RX5 42 yX4_start := ⟨gtq (lq_2 (List.mem_of_getElem? (i := 146) rfl)) rfl, gtq (lq_2 (List.mem_of_getElem? (i := 0) rfl)) rfl, gtq (lq_2 (List.mem_of_getElem? (i := 1) rfl)) rfl⟩
theorem cl_X5_45 : CV RX5 45 yX5_expression := ⟨gtq (lq_2 (List.mem_of_getElem? (i := 147) rfl)) rfl, gtq (lq_2 (List.mem_of_getElem? (i := 149) rfl)) rfl, gtq (lq_0 (List.mem_of_getElem? (i := 3) rfl)) rfl⟩
theorem cl_X5_49 : CV RX5 49 yX6_get := ⟨gtq (lq_2 (List.mem_of_getElem? (i := 167) rfl)) rfl, gtq (lq_2 (List.mem_of_getElem? (i := 85) rfl)) rfl, gtq (lq_2 (List.mem_of_getElem? (i := 86) rfl)) rfl⟩
theorem cl_X5_53 : CV RX5 53 yX4_addSign := ⟨gtq (lq_2 (List.mem_of_getElem? (i := 184) rfl)) rfl, gtq (lq_2 (List.mem_of_getElem? (i := 8) rfl)) rfl, gtq (lq_2 (List.mem_of_getElem? (i := 9) rfl)) rfl⟩
theorem cl_X5_57 : CV RX5 57 yX5_sum := ⟨gtq (lq_2 (List.mem_of_getElem? (i := 151) rfl)) rfl, gtq (lq_2 (List.mem_of_getElem? (i := 153) rfl)) rfl, gtq (lq_0 (List.mem_of_getElem? (i := 4) rfl)) rfl⟩
theorem cl_X5_60 : CV RX5 60 yX5_next := ⟨gtq (lq_2 (List.mem_of_getElem? (i := 163) rfl)) rfl, gtq (lq_2 (List.mem_of_getElem? (i := 165) rfl)) rfl, gtq (lq_0 (List.mem_of_getElem? (i := 7) rfl)) rfl⟩
theorem cl_X5_67 : CV RX5 67 yX5_write := ⟨gtq (lq_2 (List.mem_of_getElem? (i := 180) rfl)) rfl, gtq (lq_2 (List.mem_of_getElem? (i := 182) rfl)) rfl, gtq (lq_0 (List.mem_of_getElem? (i := 10) rfl)) rfl⟩
theorem cl_X5_70 : CV RX5 70 yX5_product := ⟨gtq (lq_2 (List.mem_of_getElem? (i := 155) rfl)) rfl, gtq (lq_2 (List.mem_of_getElem? (i := 157) rfl)) rfl, gtq (lq_0 (List.mem_of_getElem? (i := 5) rfl)) rfl⟩
theorem cl_X5_73 : CV RX5 73 yX5_signedThing := ⟨gtq (lq_2 (List.mem_of_getElem? (i := 159) rfl)) rfl, gtq (lq_2 (List.mem_of_getElem? (i := 161) rfl)) rfl, gtq (lq_0 (List.mem_of_getElem? (i := 6) rfl)) rfl⟩
theorem cl_X5_76 : CV RX5 76 yX5_thing := ⟨gtq (lq_2 (List.mem_of_getElem? (i := 168) rfl)) rfl, gtq (lq_2 (List.mem_of_getElem? (i := 170) rfl)) rfl, gtq (lq_0 (List.mem_of_getElem? (i := 8) rfl)) rfl⟩
theorem cl_X5_79 : CV RX5 79 yX5_number := ⟨gtq (lq_2 (List.mem_of_getElem? (i := 172) rfl)) rfl, gtq (lq_2 (List.mem_of_getElem? (i := 174) rfl)) rfl, gtq (lq_0 (List.mem_of_getElem? (i := 9) rfl)) rfl⟩
theorem cl_X5_85 : CV RX5 85 yX4_addNumber := ⟨gtq (lq_2 (List.mem_of_getElem? (i := 176) rfl)) rfl, gtq (lq_2 (List.mem_of_getElem? (i := 4) rfl)) rfl, gtq (lq_2 (List.mem_of_getElem? (i := 5) rfl)) rfl⟩
theorem cl_X6_19 : CV RX6 19 yX6_get := ⟨gtq (lq_2 (List.mem_of_getElem? (i := 84) rfl)) rfl, gtq (lq_2 (List.mem_of_getElem? (i := 85) rfl)) rfl, gtq (lq_2 (List.mem_of_getElem? (i := 86) rfl)) rfl⟩
theorem cl_X8_34 : CV RX8 34 yX0_cells := ⟨gtq (lq_4 (List.mem_of_getElem? (i := 45) rfl)) rfl, gtq (lq_2 (List.mem_of_getElem? (i := 105) rfl)) rfl, gtq (lq_2 (List.mem_of_getElem? (i := 106) rfl)) rfl⟩
theorem cl_X8_40 : CV RX8 40 yX0_onOver := ⟨gtq (lq_4 (List.mem_of_getElem? (i := 46) rfl)) rfl, gtq (lq_3 (List.mem_of_getElem? (i := 173) rfl)) rfl, gtq (lq_3 (List.mem_of_getElem? (i := 174) rfl)) rfl⟩
theorem cl_X8_44 : CV RX8 44 yX8_reach := ⟨gtq (lq_4 (List.mem_of_getElem? (i := 47) rfl)) rfl, gtq (lq_4 (List.mem_of_getElem? (i := 49) rfl)) rfl, gtq (lq_0 (List.mem_of_getElem? (i := 19) rfl)) rfl⟩
theorem cl_X8_48 : CV RX8 48 yX8_tellWay := ⟨gtq (lq_4 (List.mem_of_getElem? (i := 51) rfl)) rfl, gtq (lq_4 (List.mem_of_getElem? (i := 53) rfl)) rfl, gtq (lq_0 (List.mem_of_getElem? (i := 20) rfl)) rfl⟩
theorem cl_X8_52 : CV RX8 52 yX0_beside := ⟨gtq (lq_4 (List.mem_of_getElem? (i := 61) rfl)) rfl, gtq (lq_4 (List.mem_of_getElem? (i := 62) rfl)) rfl, gtq (lq_4 (List.mem_of_getElem? (i := 63) rfl)) rfl⟩
theorem cl_X8_56 : CV RX8 56 yX7_start := ⟨gtq (lq_4 (List.mem_of_getElem? (i := 55) rfl)) rfl, gtq (lq_3 (List.mem_of_getElem? (i := 47) rfl)) rfl, gtq (lq_3 (List.mem_of_getElem? (i := 48) rfl)) rfl⟩
theorem cl_X8_61 : CV RX8 61 yX7_add := ⟨gtq (lq_4 (List.mem_of_getElem? (i := 56) rfl)) rfl, gtq (lq_3 (List.mem_of_getElem? (i := 51) rfl)) rfl, gtq (lq_3 (List.mem_of_getElem? (i := 52) rfl)) rfl⟩
theorem cl_X8_65 : CV RX8 65 yX7_turnRound := ⟨gtq (lq_4 (List.mem_of_getElem? (i := 57) rfl)) rfl, gtq (lq_4 (List.mem_of_getElem? (i := 58) rfl)) rfl, gtq (lq_4 (List.mem_of_getElem? (i := 59) rfl)) rfl⟩
theorem cl_X8_77 : CV RX8 77 yX0_strengthOver := ⟨gtq (lq_4 (List.mem_of_getElem? (i := 78) rfl)) rfl, gtq (lq_4 (List.mem_of_getElem? (i := 79) rfl)) rfl, gtq (lq_4 (List.mem_of_getElem? (i := 80) rfl)) rfl⟩
theorem cl_X8_81 : CV RX8 81 yX8_improve := ⟨gtq (lq_4 (List.mem_of_getElem? (i := 84) rfl)) rfl, gtq (lq_4 (List.mem_of_getElem? (i := 86) rfl)) rfl, gtq (lq_0 (List.mem_of_getElem? (i := 21) rfl)) rfl⟩
theorem cl_X8_85 : CV RX8 85 yX8_softStep := ⟨gtq (lq_4 (List.mem_of_getElem? (i := 88) rfl)) rfl, gtq (lq_4 (List.mem_of_getElem? (i := 90) rfl)) rfl, gtq (lq_0 (List.mem_of_getElem? (i := 22) rfl)) rfl⟩
theorem cl_X9_100 : CV RX9 100 yX9_fieldTold := ⟨gtq (lq_2 (List.mem_of_getElem? (i := 76) rfl)) rfl, gtq (lq_2 (List.mem_of_getElem? (i := 78) rfl)) rfl, gtq (lq_0 (List.mem_of_getElem? (i := 0) rfl)) rfl⟩
theorem cl_X9_104 : CV RX9 104 yX6_digit := ⟨gtq (lq_2 (List.mem_of_getElem? (i := 80) rfl)) rfl, gtq (lq_2 (List.mem_of_getElem? (i := 81) rfl)) rfl, gtq (lq_2 (List.mem_of_getElem? (i := 82) rfl)) rfl⟩
theorem cl_X9_108 : CV RX9 108 yX0_layOut := ⟨gtq (lq_2 (List.mem_of_getElem? (i := 88) rfl)) rfl, gtq (lq_2 (List.mem_of_getElem? (i := 89) rfl)) rfl, gtq (lq_2 (List.mem_of_getElem? (i := 90) rfl)) rfl⟩
theorem cl_X9_112 : CV RX9 112 yX9_forgetStates := ⟨gtq (lq_2 (List.mem_of_getElem? (i := 92) rfl)) rfl, gtq (lq_2 (List.mem_of_getElem? (i := 94) rfl)) rfl, gtq (lq_0 (List.mem_of_getElem? (i := 1) rfl)) rfl⟩
theorem cl_X9_115 : CV RX9 115 yX2_wipe := ⟨gtq (lq_2 (List.mem_of_getElem? (i := 100) rfl)) rfl, gtq (lq_2 (List.mem_of_getElem? (i := 101) rfl)) rfl, gtq (lq_2 (List.mem_of_getElem? (i := 102) rfl)) rfl⟩
theorem cl_X9_118 : CV RX9 118 yX0_cells := ⟨gtq (lq_2 (List.mem_of_getElem? (i := 104) rfl)) rfl, gtq (lq_2 (List.mem_of_getElem? (i := 105) rfl)) rfl, gtq (lq_2 (List.mem_of_getElem? (i := 106) rfl)) rfl⟩
theorem cl_X9_121 : CV RX9 121 yX3_wipe := ⟨gtq (lq_2 (List.mem_of_getElem? (i := 96) rfl)) rfl, gtq (lq_2 (List.mem_of_getElem? (i := 97) rfl)) rfl, gtq (lq_2 (List.mem_of_getElem? (i := 98) rfl)) rfl⟩
theorem cl_X9_126 : CV RX9 126 yX9_campsTold := ⟨gtq (lq_2 (List.mem_of_getElem? (i := 112) rfl)) rfl, gtq (lq_2 (List.mem_of_getElem? (i := 114) rfl)) rfl, gtq (lq_0 (List.mem_of_getElem? (i := 2) rfl)) rfl⟩
theorem cl_X9_134 : CV RX9 134 yX0_copy := ⟨gtq (lq_2 (List.mem_of_getElem? (i := 119) rfl)) rfl, gtq (lq_2 (List.mem_of_getElem? (i := 120) rfl)) rfl, gtq (lq_2 (List.mem_of_getElem? (i := 121) rfl)) rfl⟩
theorem cl_X9_138 : CV RX9 138 yX0_readLine := ⟨gtq (lq_2 (List.mem_of_getElem? (i := 126) rfl)) rfl, gtq (lq_2 (List.mem_of_getElem? (i := 127) rfl)) rfl, gtq (lq_2 (List.mem_of_getElem? (i := 128) rfl)) rfl⟩
theorem cl_X9_142 : CV RX9 142 yX6_get := ⟨gtq (lq_2 (List.mem_of_getElem? (i := 135) rfl)) rfl, gtq (lq_2 (List.mem_of_getElem? (i := 85) rfl)) rfl, gtq (lq_2 (List.mem_of_getElem? (i := 86) rfl)) rfl⟩
theorem cl_X9_147 : CV RX9 147 yX5_read := ⟨gtq (lq_2 (List.mem_of_getElem? (i := 140) rfl)) rfl, gtq (lq_2 (List.mem_of_getElem? (i := 141) rfl)) rfl, gtq (lq_2 (List.mem_of_getElem? (i := 142) rfl)) rfl⟩
theorem cl_X9_151 : CV RX9 151 yX4_copy := ⟨gtq (lq_2 (List.mem_of_getElem? (i := 188) rfl)) rfl, gtq (lq_2 (List.mem_of_getElem? (i := 189) rfl)) rfl, gtq (lq_2 (List.mem_of_getElem? (i := 190) rfl)) rfl⟩
theorem cl_X9_154 : CV RX9 154 yX0_has := ⟨gtq (lq_3 (List.mem_of_getElem? (i := 197) rfl)) rfl, gtq (lq_2 (List.mem_of_getElem? (i := 236) rfl)) rfl, gtq (lq_2 (List.mem_of_getElem? (i := 237) rfl)) rfl⟩
theorem cl_X9_161 : CV RX9 161 yX0_firstCell := ⟨gtq (lq_3 (List.mem_of_getElem? (i := 224) rfl)) rfl, gtq (lq_3 (List.mem_of_getElem? (i := 137) rfl)) rfl, gtq (lq_3 (List.mem_of_getElem? (i := 138) rfl)) rfl⟩
theorem cl_X9_179 : CV RX9 179 yX4_losses := ⟨gtq (lq_4 (List.mem_of_getElem? (i := 215) rfl)) rfl, gtq (lq_2 (List.mem_of_getElem? (i := 228) rfl)) rfl, gtq (lq_2 (List.mem_of_getElem? (i := 229) rfl)) rfl⟩
theorem cl_X9_183 : CV RX9 183 yX0_crossedBy := ⟨gtq (lq_4 (List.mem_of_getElem? (i := 182) rfl)) rfl, gtq (lq_3 (List.mem_of_getElem? (i := 0) rfl)) rfl, gtq (lq_3 (List.mem_of_getElem? (i := 1) rfl)) rfl⟩
theorem cl_X9_186 : CV RX9 186 yX0_hasCell := ⟨gtq (lq_3 (List.mem_of_getElem? (i := 235) rfl)) rfl, gtq (lq_3 (List.mem_of_getElem? (i := 72) rfl)) rfl, gtq (lq_3 (List.mem_of_getElem? (i := 73) rfl)) rfl⟩
theorem cl_X9_189 : CV RX9 189 yX0_onOver := ⟨gtq (lq_3 (List.mem_of_getElem? (i := 172) rfl)) rfl, gtq (lq_3 (List.mem_of_getElem? (i := 173) rfl)) rfl, gtq (lq_3 (List.mem_of_getElem? (i := 174) rfl)) rfl⟩
theorem cl_X9_192 : CV RX9 192 yX0_strengthOver := ⟨gtq (lq_5 (List.mem_of_getElem? (i := 97) rfl)) rfl, gtq (lq_4 (List.mem_of_getElem? (i := 79) rfl)) rfl, gtq (lq_4 (List.mem_of_getElem? (i := 80) rfl)) rfl⟩
theorem cl_X9_195 : CV RX9 195 yX0_strongestOver := ⟨gtq (lq_5 (List.mem_of_getElem? (i := 98) rfl)) rfl, gtq (lq_5 (List.mem_of_getElem? (i := 99) rfl)) rfl, gtq (lq_5 (List.mem_of_getElem? (i := 100) rfl)) rfl⟩
theorem cl_X9_198 : CV RX9 198 yX0_weaken := ⟨gtq (lq_2 (List.mem_of_getElem? (i := 197) rfl)) rfl, gtq (lq_2 (List.mem_of_getElem? (i := 198) rfl)) rfl, gtq (lq_2 (List.mem_of_getElem? (i := 199) rfl)) rfl⟩
theorem cl_X9_207 : CV RX9 207 yX0_strengthOfAll := ⟨gtq (lq_2 (List.mem_of_getElem? (i := 211) rfl)) rfl, gtq (lq_2 (List.mem_of_getElem? (i := 212) rfl)) rfl, gtq (lq_2 (List.mem_of_getElem? (i := 213) rfl)) rfl⟩
theorem cl_X9_213 : CV RX9 213 yX0_goByTimes := ⟨gtq (lq_2 (List.mem_of_getElem? (i := 219) rfl)) rfl, gtq (lq_2 (List.mem_of_getElem? (i := 220) rfl)) rfl, gtq (lq_2 (List.mem_of_getElem? (i := 221) rfl)) rfl⟩
theorem cl_X9_217 : CV RX9 217 yX3_push := ⟨gtq (lq_3 (List.mem_of_getElem? (i := 41) rfl)) rfl, gtq (lq_3 (List.mem_of_getElem? (i := 42) rfl)) rfl, gtq (lq_3 (List.mem_of_getElem? (i := 43) rfl)) rfl⟩
theorem cl_X9_220 : CV RX9 220 yX7_start := ⟨gtq (lq_3 (List.mem_of_getElem? (i := 46) rfl)) rfl, gtq (lq_3 (List.mem_of_getElem? (i := 47) rfl)) rfl, gtq (lq_3 (List.mem_of_getElem? (i := 48) rfl)) rfl⟩
theorem cl_X9_223 : CV RX9 223 yX7_add := ⟨gtq (lq_3 (List.mem_of_getElem? (i := 50) rfl)) rfl, gtq (lq_3 (List.mem_of_getElem? (i := 51) rfl)) rfl, gtq (lq_3 (List.mem_of_getElem? (i := 52) rfl)) rfl⟩
theorem cl_X9_226 : CV RX9 226 yX0_onCount := ⟨gtq (lq_3 (List.mem_of_getElem? (i := 54) rfl)) rfl, gtq (lq_3 (List.mem_of_getElem? (i := 55) rfl)) rfl, gtq (lq_3 (List.mem_of_getElem? (i := 56) rfl)) rfl⟩
theorem cl_X9_229 : CV RX9 229 yX0_pitchOn := ⟨gtq (lq_3 (List.mem_of_getElem? (i := 67) rfl)) rfl, gtq (lq_3 (List.mem_of_getElem? (i := 68) rfl)) rfl, gtq (lq_3 (List.mem_of_getElem? (i := 69) rfl)) rfl⟩
theorem cl_X9_233 : CV RX9 233 yX9_noted := ⟨gtq (lq_3 (List.mem_of_getElem? (i := 103) rfl)) rfl, gtq (lq_3 (List.mem_of_getElem? (i := 105) rfl)) rfl, gtq (lq_0 (List.mem_of_getElem? (i := 15) rfl)) rfl⟩
theorem cl_X9_236 : CV RX9 236 yX0_treadOn := ⟨gtq (lq_3 (List.mem_of_getElem? (i := 111) rfl)) rfl, gtq (lq_3 (List.mem_of_getElem? (i := 112) rfl)) rfl, gtq (lq_3 (List.mem_of_getElem? (i := 113) rfl)) rfl⟩
theorem cl_X9_239 : CV RX9 239 yX0_singTo := ⟨gtq (lq_3 (List.mem_of_getElem? (i := 120) rfl)) rfl, gtq (lq_3 (List.mem_of_getElem? (i := 121) rfl)) rfl, gtq (lq_3 (List.mem_of_getElem? (i := 122) rfl)) rfl⟩
theorem cl_X9_242 : CV RX9 242 yX0_move := ⟨gtq (lq_3 (List.mem_of_getElem? (i := 128) rfl)) rfl, gtq (lq_3 (List.mem_of_getElem? (i := 129) rfl)) rfl, gtq (lq_3 (List.mem_of_getElem? (i := 130) rfl)) rfl⟩
theorem cl_X9_245 : CV RX9 245 yX9_badInStory := ⟨gtq (lq_3 (List.mem_of_getElem? (i := 144) rfl)) rfl, gtq (lq_3 (List.mem_of_getElem? (i := 146) rfl)) rfl, gtq (lq_0 (List.mem_of_getElem? (i := 16) rfl)) rfl⟩
theorem cl_X9_248 : CV RX9 248 yX9_actDone := ⟨gtq (lq_3 (List.mem_of_getElem? (i := 151) rfl)) rfl, gtq (lq_3 (List.mem_of_getElem? (i := 153) rfl)) rfl, gtq (lq_0 (List.mem_of_getElem? (i := 17) rfl)) rfl⟩
theorem cl_X9_257 : CV RX9 257 yX9_storyDigit := ⟨gtq (lq_3 (List.mem_of_getElem? (i := 155) rfl)) rfl, gtq (lq_3 (List.mem_of_getElem? (i := 157) rfl)) rfl, gtq (lq_0 (List.mem_of_getElem? (i := 18) rfl)) rfl⟩
theorem cl_X9_260 : CV RX9 260 yX0_cellAt := ⟨gtq (lq_3 (List.mem_of_getElem? (i := 159) rfl)) rfl, gtq (lq_3 (List.mem_of_getElem? (i := 133) rfl)) rfl, gtq (lq_3 (List.mem_of_getElem? (i := 134) rfl)) rfl⟩
theorem cl_X9_264 : CV RX9 264 yX3_pop := ⟨gtq (lq_3 (List.mem_of_getElem? (i := 164) rfl)) rfl, gtq (lq_3 (List.mem_of_getElem? (i := 165) rfl)) rfl, gtq (lq_3 (List.mem_of_getElem? (i := 166) rfl)) rfl⟩
theorem cl_X9_272 : CV RX9 272 yX0_sleptCells := ⟨gtq (lq_3 (List.mem_of_getElem? (i := 177) rfl)) rfl, gtq (lq_3 (List.mem_of_getElem? (i := 178) rfl)) rfl, gtq (lq_3 (List.mem_of_getElem? (i := 179) rfl)) rfl⟩
theorem cl_X9_281 : CV RX9 281 yX0_cross := ⟨gtq (lq_3 (List.mem_of_getElem? (i := 192) rfl)) rfl, gtq (lq_3 (List.mem_of_getElem? (i := 4) rfl)) rfl, gtq (lq_3 (List.mem_of_getElem? (i := 5) rfl)) rfl⟩
theorem cl_X9_285 : CV RX9 285 yX0_isOn := ⟨gtq (lq_3 (List.mem_of_getElem? (i := 198) rfl)) rfl, gtq (lq_2 (List.mem_of_getElem? (i := 232) rfl)) rfl, gtq (lq_2 (List.mem_of_getElem? (i := 233) rfl)) rfl⟩
theorem cl_X9_288 : CV RX9 288 yX0_hangTogether := ⟨gtq (lq_3 (List.mem_of_getElem? (i := 199) rfl)) rfl, gtq (lq_3 (List.mem_of_getElem? (i := 200) rfl)) rfl, gtq (lq_3 (List.mem_of_getElem? (i := 201) rfl)) rfl⟩
theorem cl_X9_294 : CV RX9 294 yX0_cellsOf := ⟨gtq (lq_3 (List.mem_of_getElem? (i := 208) rfl)) rfl, gtq (lq_3 (List.mem_of_getElem? (i := 209) rfl)) rfl, gtq (lq_3 (List.mem_of_getElem? (i := 210) rfl)) rfl⟩
theorem cl_X9_298 : CV RX9 298 yX0_goBy := ⟨gtq (lq_3 (List.mem_of_getElem? (i := 225) rfl)) rfl, gtq (lq_2 (List.mem_of_getElem? (i := 224) rfl)) rfl, gtq (lq_2 (List.mem_of_getElem? (i := 225) rfl)) rfl⟩
theorem cl_X9_302 : CV RX9 302 yX0_onBits := ⟨gtq (lq_3 (List.mem_of_getElem? (i := 230) rfl)) rfl, gtq (lq_3 (List.mem_of_getElem? (i := 59) rfl)) rfl, gtq (lq_3 (List.mem_of_getElem? (i := 60) rfl)) rfl⟩
theorem cl_X9_308 : CV RX9 308 yX0_firstRoom := ⟨gtq (lq_4 (List.mem_of_getElem? (i := 1) rfl)) rfl, gtq (lq_4 (List.mem_of_getElem? (i := 2) rfl)) rfl, gtq (lq_4 (List.mem_of_getElem? (i := 3) rfl)) rfl⟩
theorem cl_X9_311 : CV RX9 311 yX0_isRoom := ⟨gtq (lq_4 (List.mem_of_getElem? (i := 9) rfl)) rfl, gtq (lq_4 (List.mem_of_getElem? (i := 6) rfl)) rfl, gtq (lq_4 (List.mem_of_getElem? (i := 7) rfl)) rfl⟩
theorem cl_X9_316 : CV RX9 316 yX0_holds := ⟨gtq (lq_4 (List.mem_of_getElem? (i := 19) rfl)) rfl, gtq (lq_3 (List.mem_of_getElem? (i := 80) rfl)) rfl, gtq (lq_3 (List.mem_of_getElem? (i := 81) rfl)) rfl⟩
theorem cl_X9_319 : CV RX9 319 yX0_strengthUnder := ⟨gtq (lq_4 (List.mem_of_getElem? (i := 20) rfl)) rfl, gtq (lq_4 (List.mem_of_getElem? (i := 21) rfl)) rfl, gtq (lq_4 (List.mem_of_getElem? (i := 22) rfl)) rfl⟩
theorem cl_X9_323 : CV RX9 323 yX0_onUnder := ⟨gtq (lq_4 (List.mem_of_getElem? (i := 24) rfl)) rfl, gtq (lq_3 (List.mem_of_getElem? (i := 92) rfl)) rfl, gtq (lq_3 (List.mem_of_getElem? (i := 93) rfl)) rfl⟩
theorem cl_X9_334 : CV RX9 334 yX8_shortest := ⟨gtq (lq_4 (List.mem_of_getElem? (i := 38) rfl)) rfl, gtq (lq_4 (List.mem_of_getElem? (i := 39) rfl)) rfl, gtq (lq_4 (List.mem_of_getElem? (i := 40) rfl)) rfl⟩
theorem cl_X9_338 : CV RX9 338 yX8_softest := ⟨gtq (lq_4 (List.mem_of_getElem? (i := 73) rfl)) rfl, gtq (lq_4 (List.mem_of_getElem? (i := 74) rfl)) rfl, gtq (lq_4 (List.mem_of_getElem? (i := 75) rfl)) rfl⟩
theorem cl_X9_342 : CV RX9 342 yX0_seenFrom := ⟨gtq (lq_4 (List.mem_of_getElem? (i := 96) rfl)) rfl, gtq (lq_4 (List.mem_of_getElem? (i := 97) rfl)) rfl, gtq (lq_4 (List.mem_of_getElem? (i := 98) rfl)) rfl⟩
theorem cl_X9_345 : CV RX9 345 yX0_seenFromRows := ⟨gtq (lq_4 (List.mem_of_getElem? (i := 108) rfl)) rfl, gtq (lq_4 (List.mem_of_getElem? (i := 109) rfl)) rfl, gtq (lq_4 (List.mem_of_getElem? (i := 110) rfl)) rfl⟩
theorem cl_X9_348 : CV RX9 348 yX2_isFull := ⟨gtq (lq_4 (List.mem_of_getElem? (i := 117) rfl)) rfl, gtq (lq_4 (List.mem_of_getElem? (i := 118) rfl)) rfl, gtq (lq_4 (List.mem_of_getElem? (i := 119) rfl)) rfl⟩
theorem cl_X9_352 : CV RX9 352 yX2_add := ⟨gtq (lq_4 (List.mem_of_getElem? (i := 121) rfl)) rfl, gtq (lq_4 (List.mem_of_getElem? (i := 122) rfl)) rfl, gtq (lq_4 (List.mem_of_getElem? (i := 123) rfl)) rfl⟩
theorem cl_X9_356 : CV RX9 356 yX9_fittingLaws := ⟨gtq (lq_4 (List.mem_of_getElem? (i := 134) rfl)) rfl, gtq (lq_4 (List.mem_of_getElem? (i := 136) rfl)) rfl, gtq (lq_0 (List.mem_of_getElem? (i := 23) rfl)) rfl⟩
theorem cl_X9_362 : CV RX9 362 yX9_lawsLeft := ⟨gtq (lq_4 (List.mem_of_getElem? (i := 153) rfl)) rfl, gtq (lq_4 (List.mem_of_getElem? (i := 155) rfl)) rfl, gtq (lq_0 (List.mem_of_getElem? (i := 25) rfl)) rfl⟩
theorem cl_X9_365 : CV RX9 365 yX4_putLaw := ⟨gtq (lq_4 (List.mem_of_getElem? (i := 138) rfl)) rfl, gtq (lq_4 (List.mem_of_getElem? (i := 139) rfl)) rfl, gtq (lq_4 (List.mem_of_getElem? (i := 140) rfl)) rfl⟩
theorem cl_X9_368 : CV RX9 368 yX9_isAsMarked := ⟨gtq (lq_4 (List.mem_of_getElem? (i := 142) rfl)) rfl, gtq (lq_4 (List.mem_of_getElem? (i := 144) rfl)) rfl, gtq (lq_0 (List.mem_of_getElem? (i := 24) rfl)) rfl⟩
theorem cl_X9_383 : CV RX9 383 yX9_fitsNight := ⟨gtq (lq_4 (List.mem_of_getElem? (i := 172) rfl)) rfl, gtq (lq_4 (List.mem_of_getElem? (i := 174) rfl)) rfl, gtq (lq_0 (List.mem_of_getElem? (i := 26) rfl)) rfl⟩
theorem cl_X9_386 : CV RX9 386 yX9_fitsSound := ⟨gtq (lq_4 (List.mem_of_getElem? (i := 176) rfl)) rfl, gtq (lq_4 (List.mem_of_getElem? (i := 178) rfl)) rfl, gtq (lq_0 (List.mem_of_getElem? (i := 27) rfl)) rfl⟩
theorem cl_X9_389 : CV RX9 389 yX0_isOverRow := ⟨gtq (lq_4 (List.mem_of_getElem? (i := 180) rfl)) rfl, gtq (lq_3 (List.mem_of_getElem? (i := 213) rfl)) rfl, gtq (lq_3 (List.mem_of_getElem? (i := 214) rfl)) rfl⟩
theorem cl_X9_392 : CV RX9 392 yX0_isOverColumn := ⟨gtq (lq_4 (List.mem_of_getElem? (i := 181) rfl)) rfl, gtq (lq_3 (List.mem_of_getElem? (i := 217) rfl)) rfl, gtq (lq_3 (List.mem_of_getElem? (i := 218) rfl)) rfl⟩
theorem cl_X9_406 : CV RX9 406 yX9_countNimbers := ⟨gtq (lq_4 (List.mem_of_getElem? (i := 200) rfl)) rfl, gtq (lq_4 (List.mem_of_getElem? (i := 202) rfl)) rfl, gtq (lq_0 (List.mem_of_getElem? (i := 28) rfl)) rfl⟩
theorem cl_X9_412 : CV RX9 412 yX9_onInNineYears := ⟨gtq (lq_4 (List.mem_of_getElem? (i := 211) rfl)) rfl, gtq (lq_4 (List.mem_of_getElem? (i := 213) rfl)) rfl, gtq (lq_0 (List.mem_of_getElem? (i := 29) rfl)) rfl⟩
theorem cl_X9_424 : CV RX9 424 yX1_of := ⟨gtq (lq_5 (List.mem_of_getElem? (i := 0) rfl)) rfl, gtq (lq_5 (List.mem_of_getElem? (i := 1) rfl)) rfl, gtq (lq_5 (List.mem_of_getElem? (i := 2) rfl)) rfl⟩
theorem cl_X9_427 : CV RX9 427 yX9_pitchDrawn := ⟨gtq (lq_5 (List.mem_of_getElem? (i := 5) rfl)) rfl, gtq (lq_5 (List.mem_of_getElem? (i := 7) rfl)) rfl, gtq (lq_0 (List.mem_of_getElem? (i := 30) rfl)) rfl⟩
theorem cl_X9_90 : CV RX9 90 yX4_putNone := ⟨gtq (lq_1 (List.mem_of_getElem? (i := 235) rfl)) rfl, gtq (lq_1 (List.mem_of_getElem? (i := 236) rfl)) rfl, gtq (lq_1 (List.mem_of_getElem? (i := 237) rfl)) rfl⟩
theorem cl_X9_97 : CV RX9 97 yX6_add := ⟨gtq (lq_2 (List.mem_of_getElem? (i := 64) rfl)) rfl, gtq (lq_2 (List.mem_of_getElem? (i := 65) rfl)) rfl, gtq (lq_2 (List.mem_of_getElem? (i := 66) rfl)) rfl⟩
theorem cl_X10_113 : CV RX10 113 yX10_cells := ⟨gtq (lq_6 (List.mem_of_getElem? (i := 43) rfl)) rfl, gtq (lq_6 (List.mem_of_getElem? (i := 45) rfl)) rfl, gtq (lq_0 (List.mem_of_getElem? (i := 34) rfl)) rfl⟩
theorem cl_X10_121 : CV RX10 121 yX10_isOver := ⟨gtq (lq_6 (List.mem_of_getElem? (i := 196) rfl)) rfl, gtq (lq_6 (List.mem_of_getElem? (i := 198) rfl)) rfl, gtq (lq_0 (List.mem_of_getElem? (i := 53) rfl)) rfl⟩
theorem cl_X10_125 : CV RX10 125 yX10_area := ⟨gtq (lq_6 (List.mem_of_getElem? (i := 192) rfl)) rfl, gtq (lq_6 (List.mem_of_getElem? (i := 194) rfl)) rfl, gtq (lq_0 (List.mem_of_getElem? (i := 52) rfl)) rfl⟩
theorem cl_X10_133 : CV RX10 133 yX10_isLyingOver := ⟨gtq (lq_6 (List.mem_of_getElem? (i := 222) rfl)) rfl, gtq (lq_6 (List.mem_of_getElem? (i := 224) rfl)) rfl, gtq (lq_0 (List.mem_of_getElem? (i := 57) rfl)) rfl⟩
theorem cl_X10_141 : CV RX10 141 yX10_areaOf := ⟨gtq (lq_6 (List.mem_of_getElem? (i := 188) rfl)) rfl, gtq (lq_6 (List.mem_of_getElem? (i := 190) rfl)) rfl, gtq (lq_0 (List.mem_of_getElem? (i := 51) rfl)) rfl⟩
theorem cl_X10_180 : CV RX10 180 yX10_isDigit := ⟨gtq (lq_6 (List.mem_of_getElem? (i := 89) rfl)) rfl, gtq (lq_6 (List.mem_of_getElem? (i := 91) rfl)) rfl, gtq (lq_0 (List.mem_of_getElem? (i := 42) rfl)) rfl⟩
theorem cl_X10_184 : CV RX10 184 yX10_begins := ⟨gtq (lq_6 (List.mem_of_getElem? (i := 34) rfl)) rfl, gtq (lq_6 (List.mem_of_getElem? (i := 36) rfl)) rfl, gtq (lq_0 (List.mem_of_getElem? (i := 32) rfl)) rfl⟩
theorem cl_X10_188 : CV RX10 188 yX10_digitIn := ⟨gtq (lq_6 (List.mem_of_getElem? (i := 39) rfl)) rfl, gtq (lq_6 (List.mem_of_getElem? (i := 41) rfl)) rfl, gtq (lq_0 (List.mem_of_getElem? (i := 33) rfl)) rfl⟩
theorem cl_X10_203 : CV RX10 203 yX10_readsCamp := ⟨gtq (lq_6 (List.mem_of_getElem? (i := 51) rfl)) rfl, gtq (lq_6 (List.mem_of_getElem? (i := 53) rfl)) rfl, gtq (lq_0 (List.mem_of_getElem? (i := 35) rfl)) rfl⟩
theorem cl_X10_206 : CV RX10 206 yX10_takes := ⟨gtq (lq_6 (List.mem_of_getElem? (i := 58) rfl)) rfl, gtq (lq_6 (List.mem_of_getElem? (i := 60) rfl)) rfl, gtq (lq_0 (List.mem_of_getElem? (i := 36) rfl)) rfl⟩
theorem cl_X10_210 : CV RX10 210 yX10_faultOf := ⟨gtq (lq_6 (List.mem_of_getElem? (i := 62) rfl)) rfl, gtq (lq_6 (List.mem_of_getElem? (i := 64) rfl)) rfl, gtq (lq_0 (List.mem_of_getElem? (i := 37) rfl)) rfl⟩
theorem cl_X10_221 : CV RX10 221 yX10_readsThing := ⟨gtq (lq_6 (List.mem_of_getElem? (i := 81) rfl)) rfl, gtq (lq_6 (List.mem_of_getElem? (i := 83) rfl)) rfl, gtq (lq_0 (List.mem_of_getElem? (i := 40) rfl)) rfl⟩
theorem cl_X10_224 : CV RX10 224 yX10_codes := ⟨gtq (lq_6 (List.mem_of_getElem? (i := 85) rfl)) rfl, gtq (lq_6 (List.mem_of_getElem? (i := 87) rfl)) rfl, gtq (lq_0 (List.mem_of_getElem? (i := 41) rfl)) rfl⟩
theorem cl_X10_228 : CV RX10 228 yX10_number := ⟨gtq (lq_6 (List.mem_of_getElem? (i := 95) rfl)) rfl, gtq (lq_6 (List.mem_of_getElem? (i := 97) rfl)) rfl, gtq (lq_0 (List.mem_of_getElem? (i := 43) rfl)) rfl⟩
theorem cl_X10_233 : CV RX10 233 yX10_takesOf := ⟨gtq (lq_6 (List.mem_of_getElem? (i := 100) rfl)) rfl, gtq (lq_6 (List.mem_of_getElem? (i := 102) rfl)) rfl, gtq (lq_0 (List.mem_of_getElem? (i := 44) rfl)) rfl⟩
theorem cl_X10_237 : CV RX10 237 yX10_readsRank := ⟨gtq (lq_6 (List.mem_of_getElem? (i := 77) rfl)) rfl, gtq (lq_6 (List.mem_of_getElem? (i := 79) rfl)) rfl, gtq (lq_0 (List.mem_of_getElem? (i := 39) rfl)) rfl⟩
theorem cl_X10_249 : CV RX10 249 yX10_readsRule := ⟨gtq (lq_6 (List.mem_of_getElem? (i := 73) rfl)) rfl, gtq (lq_6 (List.mem_of_getElem? (i := 75) rfl)) rfl, gtq (lq_0 (List.mem_of_getElem? (i := 38) rfl)) rfl⟩
theorem cl_X10_252 : CV RX10 252 yX10_laysCode := ⟨gtq (lq_6 (List.mem_of_getElem? (i := 155) rfl)) rfl, gtq (lq_6 (List.mem_of_getElem? (i := 157) rfl)) rfl, gtq (lq_0 (List.mem_of_getElem? (i := 45) rfl)) rfl⟩
theorem cl_X10_260 : CV RX10 260 yX10_crossing := ⟨gtq (lq_6 (List.mem_of_getElem? (i := 184) rfl)) rfl, gtq (lq_6 (List.mem_of_getElem? (i := 186) rfl)) rfl, gtq (lq_0 (List.mem_of_getElem? (i := 50) rfl)) rfl⟩
theorem cl_X10_269 : CV RX10 269 yX10_ruled := ⟨gtq (lq_6 (List.mem_of_getElem? (i := 201) rfl)) rfl, gtq (lq_6 (List.mem_of_getElem? (i := 203) rfl)) rfl, gtq (lq_0 (List.mem_of_getElem? (i := 54) rfl)) rfl⟩
theorem cl_X10_275 : CV RX10 275 yX10_loss := ⟨gtq (lq_6 (List.mem_of_getElem? (i := 180) rfl)) rfl, gtq (lq_6 (List.mem_of_getElem? (i := 182) rfl)) rfl, gtq (lq_0 (List.mem_of_getElem? (i := 49) rfl)) rfl⟩
theorem cl_X10_278 : CV RX10 278 yX10_isCamp := ⟨gtq (lq_6 (List.mem_of_getElem? (i := 164) rfl)) rfl, gtq (lq_6 (List.mem_of_getElem? (i := 166) rfl)) rfl, gtq (lq_0 (List.mem_of_getElem? (i := 46) rfl)) rfl⟩
theorem cl_X10_283 : CV RX10 283 yX10_refuse := ⟨gtq (lq_6 (List.mem_of_getElem? (i := 169) rfl)) rfl, gtq (lq_6 (List.mem_of_getElem? (i := 171) rfl)) rfl, gtq (lq_0 (List.mem_of_getElem? (i := 47) rfl)) rfl⟩
theorem cl_X10_286 : CV RX10 286 yX10_lossOn := ⟨gtq (lq_6 (List.mem_of_getElem? (i := 173) rfl)) rfl, gtq (lq_6 (List.mem_of_getElem? (i := 175) rfl)) rfl, gtq (lq_0 (List.mem_of_getElem? (i := 48) rfl)) rfl⟩
theorem cl_X10_289 : CV RX10 289 yX10_isCell := ⟨gtq (lq_6 (List.mem_of_getElem? (i := 213) rfl)) rfl, gtq (lq_6 (List.mem_of_getElem? (i := 215) rfl)) rfl, gtq (lq_0 (List.mem_of_getElem? (i := 55) rfl)) rfl⟩
theorem cl_X10_294 : CV RX10 294 yX10_campsOver := ⟨gtq (lq_6 (List.mem_of_getElem? (i := 218) rfl)) rfl, gtq (lq_6 (List.mem_of_getElem? (i := 220) rfl)) rfl, gtq (lq_0 (List.mem_of_getElem? (i := 56) rfl)) rfl⟩
theorem cl_X10_297 : CV RX10 297 yX10_strengthOn := ⟨gtq (lq_6 (List.mem_of_getElem? (i := 226) rfl)) rfl, gtq (lq_6 (List.mem_of_getElem? (i := 228) rfl)) rfl, gtq (lq_0 (List.mem_of_getElem? (i := 58) rfl)) rfl⟩
theorem cl_X10_308 : CV RX10 308 yX10_adds := ⟨gtq (lq_7 (List.mem_of_getElem? (i := 32) rfl)) rfl, gtq (lq_7 (List.mem_of_getElem? (i := 34) rfl)) rfl, gtq (lq_0 (List.mem_of_getElem? (i := 63) rfl)) rfl⟩
theorem cl_X10_318 : CV RX10 318 yX10_yearGoes := ⟨gtq (lq_7 (List.mem_of_getElem? (i := 21) rfl)) rfl, gtq (lq_7 (List.mem_of_getElem? (i := 23) rfl)) rfl, gtq (lq_0 (List.mem_of_getElem? (i := 61) rfl)) rfl⟩
theorem cl_X10_324 : CV RX10 324 yX10_isIn := ⟨gtq (lq_7 (List.mem_of_getElem? (i := 45) rfl)) rfl, gtq (lq_7 (List.mem_of_getElem? (i := 47) rfl)) rfl, gtq (lq_0 (List.mem_of_getElem? (i := 65) rfl)) rfl⟩
theorem cl_X10_328 : CV RX10 328 yX10_sleptBy := ⟨gtq (lq_7 (List.mem_of_getElem? (i := 49) rfl)) rfl, gtq (lq_7 (List.mem_of_getElem? (i := 51) rfl)) rfl, gtq (lq_0 (List.mem_of_getElem? (i := 66) rfl)) rfl⟩
theorem cl_X10_333 : CV RX10 333 yX10_putsBy := ⟨gtq (lq_7 (List.mem_of_getElem? (i := 13) rfl)) rfl, gtq (lq_7 (List.mem_of_getElem? (i := 15) rfl)) rfl, gtq (lq_0 (List.mem_of_getElem? (i := 59) rfl)) rfl⟩
theorem cl_X10_336 : CV RX10 336 yX10_goesOn := ⟨gtq (lq_7 (List.mem_of_getElem? (i := 17) rfl)) rfl, gtq (lq_7 (List.mem_of_getElem? (i := 19) rfl)) rfl, gtq (lq_0 (List.mem_of_getElem? (i := 60) rfl)) rfl⟩
theorem cl_X10_339 : CV RX10 339 yX10_enters := ⟨gtq (lq_7 (List.mem_of_getElem? (i := 28) rfl)) rfl, gtq (lq_7 (List.mem_of_getElem? (i := 30) rfl)) rfl, gtq (lq_0 (List.mem_of_getElem? (i := 62) rfl)) rfl⟩
theorem cl_X10_343 : CV RX10 343 yX10_pitches := ⟨gtq (lq_7 (List.mem_of_getElem? (i := 40) rfl)) rfl, gtq (lq_7 (List.mem_of_getElem? (i := 42) rfl)) rfl, gtq (lq_0 (List.mem_of_getElem? (i := 64) rfl)) rfl⟩
theorem cl_X10_347 : CV RX10 347 yX10_counted := ⟨gtq (lq_7 (List.mem_of_getElem? (i := 53) rfl)) rfl, gtq (lq_7 (List.mem_of_getElem? (i := 55) rfl)) rfl, gtq (lq_0 (List.mem_of_getElem? (i := 67) rfl)) rfl⟩
theorem cl_X10_350 : CV RX10 350 yX10_treadsOn := ⟨gtq (lq_7 (List.mem_of_getElem? (i := 61) rfl)) rfl, gtq (lq_7 (List.mem_of_getElem? (i := 63) rfl)) rfl, gtq (lq_0 (List.mem_of_getElem? (i := 68) rfl)) rfl⟩
theorem cl_X10_353 : CV RX10 353 yX10_singsTo := ⟨gtq (lq_7 (List.mem_of_getElem? (i := 69) rfl)) rfl, gtq (lq_7 (List.mem_of_getElem? (i := 71) rfl)) rfl, gtq (lq_0 (List.mem_of_getElem? (i := 69) rfl)) rfl⟩
theorem cl_X10_356 : CV RX10 356 yX10_movesOne := ⟨gtq (lq_7 (List.mem_of_getElem? (i := 77) rfl)) rfl, gtq (lq_7 (List.mem_of_getElem? (i := 79) rfl)) rfl, gtq (lq_0 (List.mem_of_getElem? (i := 70) rfl)) rfl⟩
theorem cl_X10_365 : CV RX10 365 yX10_readsAct := ⟨gtq (lq_7 (List.mem_of_getElem? (i := 85) rfl)) rfl, gtq (lq_7 (List.mem_of_getElem? (i := 87) rfl)) rfl, gtq (lq_0 (List.mem_of_getElem? (i := 71) rfl)) rfl⟩
theorem cl_X10_368 : CV RX10 368 yX10_does := ⟨gtq (lq_7 (List.mem_of_getElem? (i := 90) rfl)) rfl, gtq (lq_7 (List.mem_of_getElem? (i := 92) rfl)) rfl, gtq (lq_0 (List.mem_of_getElem? (i := 72) rfl)) rfl⟩
theorem cl_X10_379 : CV RX10 379 yX10_copies := ⟨gtq (lq_7 (List.mem_of_getElem? (i := 115) rfl)) rfl, gtq (lq_7 (List.mem_of_getElem? (i := 117) rfl)) rfl, gtq (lq_0 (List.mem_of_getElem? (i := 73) rfl)) rfl⟩
theorem cl_X10_388 : CV RX10 388 yX10_roomOf := ⟨gtq (lq_7 (List.mem_of_getElem? (i := 135) rfl)) rfl, gtq (lq_7 (List.mem_of_getElem? (i := 137) rfl)) rfl, gtq (lq_0 (List.mem_of_getElem? (i := 74) rfl)) rfl⟩
theorem cl_X10_399 : CV RX10 399 yX10_beside := ⟨gtq (lq_7 (List.mem_of_getElem? (i := 170) rfl)) rfl, gtq (lq_7 (List.mem_of_getElem? (i := 172) rfl)) rfl, gtq (lq_0 (List.mem_of_getElem? (i := 76) rfl)) rfl⟩
theorem cl_X10_402 : CV RX10 402 yX10_laysYet := ⟨gtq (lq_7 (List.mem_of_getElem? (i := 163) rfl)) rfl, gtq (lq_7 (List.mem_of_getElem? (i := 165) rfl)) rfl, gtq (lq_0 (List.mem_of_getElem? (i := 75) rfl)) rfl⟩
theorem cl_X10_406 : CV RX10 406 yX10_tellsWay := ⟨gtq (lq_7 (List.mem_of_getElem? (i := 174) rfl)) rfl, gtq (lq_7 (List.mem_of_getElem? (i := 176) rfl)) rfl, gtq (lq_0 (List.mem_of_getElem? (i := 77) rfl)) rfl⟩
theorem cl_X10_409 : CV RX10 409 yX10_seenFrom := ⟨gtq (lq_7 (List.mem_of_getElem? (i := 190) rfl)) rfl, gtq (lq_7 (List.mem_of_getElem? (i := 192) rfl)) rfl, gtq (lq_0 (List.mem_of_getElem? (i := 78) rfl)) rfl⟩
theorem cl_X10_412 : CV RX10 412 yX10_seenBy := ⟨gtq (lq_7 (List.mem_of_getElem? (i := 198) rfl)) rfl, gtq (lq_7 (List.mem_of_getElem? (i := 200) rfl)) rfl, gtq (lq_0 (List.mem_of_getElem? (i := 79) rfl)) rfl⟩
theorem cl_X10_417 : CV RX10 417 yX10_isLaw := ⟨gtq (lq_7 (List.mem_of_getElem? (i := 215) rfl)) rfl, gtq (lq_7 (List.mem_of_getElem? (i := 217) rfl)) rfl, gtq (lq_0 (List.mem_of_getElem? (i := 80) rfl)) rfl⟩
theorem cl_X10_425 : CV RX10 425 yX10_isSo := ⟨gtq (lq_7 (List.mem_of_getElem? (i := 236) rfl)) rfl, gtq (lq_7 (List.mem_of_getElem? (i := 238) rfl)) rfl, gtq (lq_0 (List.mem_of_getElem? (i := 81) rfl)) rfl⟩
theorem cl_X10_434 : CV RX10 434 yX10_worthOf := ⟨gtq (lq_8 (List.mem_of_getElem? (i := 14) rfl)) rfl, gtq (lq_8 (List.mem_of_getElem? (i := 16) rfl)) rfl, gtq (lq_0 (List.mem_of_getElem? (i := 82) rfl)) rfl⟩
theorem cl_X10_437 : CV RX10 437 yX10_onIn := ⟨gtq (lq_8 (List.mem_of_getElem? (i := 22) rfl)) rfl, gtq (lq_8 (List.mem_of_getElem? (i := 24) rfl)) rfl, gtq (lq_0 (List.mem_of_getElem? (i := 83) rfl)) rfl⟩
theorem cl_X10_452 : CV RX10 452 yX10_draws := ⟨gtq (lq_8 (List.mem_of_getElem? (i := 41) rfl)) rfl, gtq (lq_8 (List.mem_of_getElem? (i := 43) rfl)) rfl, gtq (lq_0 (List.mem_of_getElem? (i := 84) rfl)) rfl⟩
theorem lk_X0_120 : Cond.methodLink RX0 120 yJ9_min_7cf53 ∈ gt := gtq (lq_3 (List.mem_of_getElem? (i := 36) rfl)) rfl
theorem lk_X0_125 : Cond.methodLink RX0 125 yJ9_max_7cf53 ∈ gt := gtq (lq_2 (List.mem_of_getElem? (i := 201) rfl)) rfl
theorem lk_X0_3 : Cond.methodLink RX0 3 Lib.objectInit ∈ gt := gtq (lq_1 (List.mem_of_getElem? (i := 71) rfl)) rfl
theorem lk_oi_i : Cond.instanceMethod Lib.objectInit ∈ gt := gtq (lq_1 (List.mem_of_getElem? (i := 31) rfl)) rfl
theorem lk_oi_c : Cond.code Lib.objectInit ⟨#[0xb1]⟩ 1 none ∈ gt := gtq (lq_1 (List.mem_of_getElem? (i := 32) rfl)) rfl
theorem lk_X0_49 : Cond.methodLink RX0 49 arraycopyName ∈ gt := gtq (lq_2 (List.mem_of_getElem? (i := 123) rfl)) rfl
theorem lk_X1_1 : Cond.methodLink RX1 1 Lib.objectInit ∈ gt := gtq (lq_4 (List.mem_of_getElem? (i := 235) rfl)) rfl
theorem lk_X2_1 : Cond.methodLink RX2 1 Lib.objectInit ∈ gt := gtq (lq_1 (List.mem_of_getElem? (i := 195) rfl)) rfl
theorem lk_X3_1 : Cond.methodLink RX3 1 Lib.objectInit ∈ gt := gtq (lq_1 (List.mem_of_getElem? (i := 131) rfl)) rfl
theorem lk_X4_29 : Cond.methodLink RX4 29 arraycopyName ∈ gt := gtq (lq_2 (List.mem_of_getElem? (i := 192) rfl)) rfl
theorem lk_X4_3 : Cond.methodLink RX4 3 Lib.objectInit ∈ gt := gtq (lq_1 (List.mem_of_getElem? (i := 151) rfl)) rfl
theorem lk_X5_28 : Cond.methodLink RX5 28 yJ9_min_7cf53 ∈ gt := gtq (lq_2 (List.mem_of_getElem? (i := 144) rfl)) rfl
theorem lk_X5_3 : Cond.methodLink RX5 3 Lib.objectInit ∈ gt := gtq (lq_1 (List.mem_of_getElem? (i := 176) rfl)) rfl
theorem lk_X6_3 : Cond.methodLink RX6 3 Lib.objectInit ∈ gt := gtq (lq_1 (List.mem_of_getElem? (i := 38) rfl)) rfl
theorem lk_X7_1 : Cond.methodLink RX7 1 Lib.objectInit ∈ gt := gtq (lq_1 (List.mem_of_getElem? (i := 54) rfl)) rfl
theorem lk_X8_3 : Cond.methodLink RX8 3 Lib.objectInit ∈ gt := gtq (lq_1 (List.mem_of_getElem? (i := 218) rfl)) rfl
theorem lk_X8_72 : Cond.methodLink RX8 72 yJ9_min_7cf53 ∈ gt := gtq (lq_4 (List.mem_of_getElem? (i := 77) rfl)) rfl
theorem lk_X9_1 : Cond.methodLink RX9 1 Lib.objectInit ∈ gt := gtq (lq_1 (List.mem_of_getElem? (i := 30) rfl)) rfl
theorem lk_X9_129 : Cond.methodLink RX9 129 yJ9_min_7cf53 ∈ gt := gtq (lq_2 (List.mem_of_getElem? (i := 116) rfl)) rfl
theorem lk_X9_210 : Cond.methodLink RX9 210 yJ9_max_7cf53 ∈ gt := gtq (lq_2 (List.mem_of_getElem? (i := 210) rfl)) rfl
theorem lk_X10_154 : Cond.methodLink RX10 154 yJ9_min_7cf53 ∈ gt := gtq (lq_6 (List.mem_of_getElem? (i := 38) rfl)) rfl
theorem lk_X10_272 : Cond.methodLink RX10 272 yJ9_max_7cf53 ∈ gt := gtq (lq_6 (List.mem_of_getElem? (i := 208) rfl)) rfl
theorem lk_X10_3 : Cond.methodLink RX10 3 Lib.objectInit ∈ gt := gtq (lq_5 (List.mem_of_getElem? (i := 114) rfl)) rfl
theorem mk_X0_init : MK yX0_init cX0_init 1 (none) 0 := ⟨gtq (lq_1 (List.mem_of_getElem? (i := 70) rfl)) rfl, gtq (lq_1 (List.mem_of_getElem? (i := 4) rfl)) rfl, by decide +kernel, by decide +kernel, by decide +kernel⟩
theorem mk_X0_beside : MK yX0_beside cX0_beside 5 (some .int) 2 := ⟨gtq (lq_4 (List.mem_of_getElem? (i := 64) rfl)) rfl, gtq (lq_1 (List.mem_of_getElem? (i := 4) rfl)) rfl, by decide +kernel, by decide +kernel, by decide +kernel⟩
theorem mk_X0_cellAt : MK yX0_cellAt cX0_cellAt 4 (some .int) 2 := ⟨gtq (lq_3 (List.mem_of_getElem? (i := 135) rfl)) rfl, gtq (lq_1 (List.mem_of_getElem? (i := 4) rfl)) rfl, by decide +kernel, by decide +kernel, by decide +kernel⟩
theorem mk_X0_cells : MK yX0_cells cX0_cells 1 (some .int) 0 := ⟨gtq (lq_2 (List.mem_of_getElem? (i := 107) rfl)) rfl, gtq (lq_1 (List.mem_of_getElem? (i := 4) rfl)) rfl, by decide +kernel, by decide +kernel, by decide +kernel⟩
theorem mk_X0_cellsOf : MK yX0_cellsOf cX0_cellsOf 5 (some .long) 1 := ⟨gtq (lq_3 (List.mem_of_getElem? (i := 211) rfl)) rfl, gtq (lq_1 (List.mem_of_getElem? (i := 4) rfl)) rfl, by decide +kernel, by decide +kernel, by decide +kernel⟩
theorem mk_X0_columnOf : MK yX0_columnOf cX0_columnOf 2 (some .int) 1 := ⟨gtq (lq_3 (List.mem_of_getElem? (i := 90) rfl)) rfl, gtq (lq_1 (List.mem_of_getElem? (i := 4) rfl)) rfl, by decide +kernel, by decide +kernel, by decide +kernel⟩
theorem mk_X0_common : MK yX0_common cX0_common 5 (some .int) 4 := ⟨gtq (lq_3 (List.mem_of_getElem? (i := 102) rfl)) rfl, gtq (lq_1 (List.mem_of_getElem? (i := 4) rfl)) rfl, by decide +kernel, by decide +kernel, by decide +kernel⟩
theorem mk_X0_commonCells : MK yX0_commonCells cX0_commonCells 5 (some .int) 4 := ⟨gtq (lq_3 (List.mem_of_getElem? (i := 98) rfl)) rfl, gtq (lq_1 (List.mem_of_getElem? (i := 4) rfl)) rfl, by decide +kernel, by decide +kernel, by decide +kernel⟩
theorem mk_X0_copy : MK yX0_copy cX0_copy 2 (none) 1 := ⟨gtq (lq_2 (List.mem_of_getElem? (i := 122) rfl)) rfl, gtq (lq_1 (List.mem_of_getElem? (i := 4) rfl)) rfl, by decide +kernel, by decide +kernel, by decide +kernel⟩
theorem mk_X0_cross : MK yX0_cross cX0_cross 3 (some .boolean) 2 := ⟨gtq (lq_3 (List.mem_of_getElem? (i := 6) rfl)) rfl, gtq (lq_1 (List.mem_of_getElem? (i := 4) rfl)) rfl, by decide +kernel, by decide +kernel, by decide +kernel⟩
theorem mk_X0_crossedBy : MK yX0_crossedBy cX0_crossedBy 4 (some .int) 1 := ⟨gtq (lq_3 (List.mem_of_getElem? (i := 2) rfl)) rfl, gtq (lq_1 (List.mem_of_getElem? (i := 4) rfl)) rfl, by decide +kernel, by decide +kernel, by decide +kernel⟩
theorem mk_X0_firstCell : MK yX0_firstCell cX0_firstCell 2 (some .int) 1 := ⟨gtq (lq_3 (List.mem_of_getElem? (i := 139) rfl)) rfl, gtq (lq_1 (List.mem_of_getElem? (i := 4) rfl)) rfl, by decide +kernel, by decide +kernel, by decide +kernel⟩
theorem mk_X0_firstRoom : MK yX0_firstRoom cX0_firstRoom 4 (some .int) 2 := ⟨gtq (lq_4 (List.mem_of_getElem? (i := 4) rfl)) rfl, gtq (lq_1 (List.mem_of_getElem? (i := 4) rfl)) rfl, by decide +kernel, by decide +kernel, by decide +kernel⟩
theorem mk_X0_goBy : MK yX0_goBy cX0_goBy 5 (some .int) 1 := ⟨gtq (lq_2 (List.mem_of_getElem? (i := 226) rfl)) rfl, gtq (lq_1 (List.mem_of_getElem? (i := 4) rfl)) rfl, by decide +kernel, by decide +kernel, by decide +kernel⟩
theorem mk_X0_goByTimes : MK yX0_goByTimes cX0_goByTimes 5 (some .int) 2 := ⟨gtq (lq_2 (List.mem_of_getElem? (i := 222) rfl)) rfl, gtq (lq_1 (List.mem_of_getElem? (i := 4) rfl)) rfl, by decide +kernel, by decide +kernel, by decide +kernel⟩
theorem mk_X0_hangTogether : MK yX0_hangTogether cX0_hangTogether 5 (some .int) 1 := ⟨gtq (lq_3 (List.mem_of_getElem? (i := 202) rfl)) rfl, gtq (lq_1 (List.mem_of_getElem? (i := 4) rfl)) rfl, by decide +kernel, by decide +kernel, by decide +kernel⟩
theorem mk_X0_has : MK yX0_has cX0_has 2 (some .boolean) 1 := ⟨gtq (lq_2 (List.mem_of_getElem? (i := 238) rfl)) rfl, gtq (lq_1 (List.mem_of_getElem? (i := 4) rfl)) rfl, by decide +kernel, by decide +kernel, by decide +kernel⟩
theorem mk_X0_hasCell : MK yX0_hasCell cX0_hasCell 2 (some .boolean) 1 := ⟨gtq (lq_3 (List.mem_of_getElem? (i := 74) rfl)) rfl, gtq (lq_1 (List.mem_of_getElem? (i := 4) rfl)) rfl, by decide +kernel, by decide +kernel, by decide +kernel⟩
theorem mk_X0_holds : MK yX0_holds cX0_holds 4 (some .boolean) 3 := ⟨gtq (lq_3 (List.mem_of_getElem? (i := 82) rfl)) rfl, gtq (lq_1 (List.mem_of_getElem? (i := 4) rfl)) rfl, by decide +kernel, by decide +kernel, by decide +kernel⟩
theorem mk_X0_isHidden : MK yX0_isHidden cX0_isHidden 4 (some .boolean) 2 := ⟨gtq (lq_4 (List.mem_of_getElem? (i := 103) rfl)) rfl, gtq (lq_1 (List.mem_of_getElem? (i := 4) rfl)) rfl, by decide +kernel, by decide +kernel, by decide +kernel⟩
theorem mk_X0_isOn : MK yX0_isOn cX0_isOn 2 (some .boolean) 1 := ⟨gtq (lq_2 (List.mem_of_getElem? (i := 234) rfl)) rfl, gtq (lq_1 (List.mem_of_getElem? (i := 4) rfl)) rfl, by decide +kernel, by decide +kernel, by decide +kernel⟩
theorem mk_X0_isOverColumn : MK yX0_isOverColumn cX0_isOverColumn 3 (some .boolean) 2 := ⟨gtq (lq_3 (List.mem_of_getElem? (i := 219) rfl)) rfl, gtq (lq_1 (List.mem_of_getElem? (i := 4) rfl)) rfl, by decide +kernel, by decide +kernel, by decide +kernel⟩
theorem mk_X0_isOverRow : MK yX0_isOverRow cX0_isOverRow 3 (some .boolean) 2 := ⟨gtq (lq_3 (List.mem_of_getElem? (i := 215) rfl)) rfl, gtq (lq_1 (List.mem_of_getElem? (i := 4) rfl)) rfl, by decide +kernel, by decide +kernel, by decide +kernel⟩
theorem mk_X0_isRoom : MK yX0_isRoom cX0_isRoom 4 (some .boolean) 3 := ⟨gtq (lq_4 (List.mem_of_getElem? (i := 8) rfl)) rfl, gtq (lq_1 (List.mem_of_getElem? (i := 4) rfl)) rfl, by decide +kernel, by decide +kernel, by decide +kernel⟩
theorem mk_X0_layOut : MK yX0_layOut cX0_layOut 3 (none) 2 := ⟨gtq (lq_2 (List.mem_of_getElem? (i := 91) rfl)) rfl, gtq (lq_1 (List.mem_of_getElem? (i := 4) rfl)) rfl, by decide +kernel, by decide +kernel, by decide +kernel⟩
theorem mk_X0_move : MK yX0_move cX0_move 5 (some .int) 2 := ⟨gtq (lq_3 (List.mem_of_getElem? (i := 131) rfl)) rfl, gtq (lq_1 (List.mem_of_getElem? (i := 4) rfl)) rfl, by decide +kernel, by decide +kernel, by decide +kernel⟩
theorem mk_X0_onBits : MK yX0_onBits cX0_onBits 3 (some .int) 0 := ⟨gtq (lq_3 (List.mem_of_getElem? (i := 61) rfl)) rfl, gtq (lq_1 (List.mem_of_getElem? (i := 4) rfl)) rfl, by decide +kernel, by decide +kernel, by decide +kernel⟩
theorem mk_X0_onCount : MK yX0_onCount cX0_onCount 1 (some .int) 0 := ⟨gtq (lq_3 (List.mem_of_getElem? (i := 57) rfl)) rfl, gtq (lq_1 (List.mem_of_getElem? (i := 4) rfl)) rfl, by decide +kernel, by decide +kernel, by decide +kernel⟩
theorem mk_X0_onOver : MK yX0_onOver cX0_onOver 2 (some .int) 1 := ⟨gtq (lq_3 (List.mem_of_getElem? (i := 175) rfl)) rfl, gtq (lq_1 (List.mem_of_getElem? (i := 4) rfl)) rfl, by decide +kernel, by decide +kernel, by decide +kernel⟩
theorem mk_X0_onUnder : MK yX0_onUnder cX0_onUnder 6 (some .int) 3 := ⟨gtq (lq_3 (List.mem_of_getElem? (i := 94) rfl)) rfl, gtq (lq_1 (List.mem_of_getElem? (i := 4) rfl)) rfl, by decide +kernel, by decide +kernel, by decide +kernel⟩
theorem mk_X0_pitchOn : MK yX0_pitchOn cX0_pitchOn 6 (some .int) 5 := ⟨gtq (lq_3 (List.mem_of_getElem? (i := 70) rfl)) rfl, gtq (lq_1 (List.mem_of_getElem? (i := 4) rfl)) rfl, by decide +kernel, by decide +kernel, by decide +kernel⟩
theorem mk_X0_readLine : MK yX0_readLine cX0_readLine 6 (some .int) 3 := ⟨gtq (lq_2 (List.mem_of_getElem? (i := 129) rfl)) rfl, gtq (lq_1 (List.mem_of_getElem? (i := 4) rfl)) rfl, by decide +kernel, by decide +kernel, by decide +kernel⟩
theorem mk_X0_rowOf : MK yX0_rowOf cX0_rowOf 2 (some .int) 1 := ⟨gtq (lq_3 (List.mem_of_getElem? (i := 86) rfl)) rfl, gtq (lq_1 (List.mem_of_getElem? (i := 4) rfl)) rfl, by decide +kernel, by decide +kernel, by decide +kernel⟩
theorem mk_X0_seenFrom : MK yX0_seenFrom cX0_seenFrom 4 (some .int) 1 := ⟨gtq (lq_4 (List.mem_of_getElem? (i := 99) rfl)) rfl, gtq (lq_1 (List.mem_of_getElem? (i := 4) rfl)) rfl, by decide +kernel, by decide +kernel, by decide +kernel⟩
theorem mk_X0_seenFromRows : MK yX0_seenFromRows cX0_seenFromRows 4 (some .int) 1 := ⟨gtq (lq_4 (List.mem_of_getElem? (i := 111) rfl)) rfl, gtq (lq_1 (List.mem_of_getElem? (i := 4) rfl)) rfl, by decide +kernel, by decide +kernel, by decide +kernel⟩
theorem mk_X0_singTo : MK yX0_singTo cX0_singTo 3 (some .int) 2 := ⟨gtq (lq_3 (List.mem_of_getElem? (i := 123) rfl)) rfl, gtq (lq_1 (List.mem_of_getElem? (i := 4) rfl)) rfl, by decide +kernel, by decide +kernel, by decide +kernel⟩
theorem mk_X0_sleptCells : MK yX0_sleptCells cX0_sleptCells 4 (some .long) 0 := ⟨gtq (lq_3 (List.mem_of_getElem? (i := 180) rfl)) rfl, gtq (lq_1 (List.mem_of_getElem? (i := 4) rfl)) rfl, by decide +kernel, by decide +kernel, by decide +kernel⟩
theorem mk_X0_slide : MK yX0_slide cX0_slide 3 (none) 1 := ⟨gtq (lq_3 (List.mem_of_getElem? (i := 40) rfl)) rfl, gtq (lq_1 (List.mem_of_getElem? (i := 4) rfl)) rfl, by decide +kernel, by decide +kernel, by decide +kernel⟩
theorem mk_X0_strengthOfAll : MK yX0_strengthOfAll cX0_strengthOfAll 3 (some .int) 0 := ⟨gtq (lq_2 (List.mem_of_getElem? (i := 214) rfl)) rfl, gtq (lq_1 (List.mem_of_getElem? (i := 4) rfl)) rfl, by decide +kernel, by decide +kernel, by decide +kernel⟩
theorem mk_X0_strengthOver : MK yX0_strengthOver cX0_strengthOver 2 (some .int) 1 := ⟨gtq (lq_4 (List.mem_of_getElem? (i := 81) rfl)) rfl, gtq (lq_1 (List.mem_of_getElem? (i := 4) rfl)) rfl, by decide +kernel, by decide +kernel, by decide +kernel⟩
theorem mk_X0_strengthUnder : MK yX0_strengthUnder cX0_strengthUnder 6 (some .int) 3 := ⟨gtq (lq_4 (List.mem_of_getElem? (i := 23) rfl)) rfl, gtq (lq_1 (List.mem_of_getElem? (i := 4) rfl)) rfl, by decide +kernel, by decide +kernel, by decide +kernel⟩
theorem mk_X0_strongestOver : MK yX0_strongestOver cX0_strongestOver 5 (some .int) 1 := ⟨gtq (lq_5 (List.mem_of_getElem? (i := 101) rfl)) rfl, gtq (lq_1 (List.mem_of_getElem? (i := 4) rfl)) rfl, by decide +kernel, by decide +kernel, by decide +kernel⟩
theorem mk_X0_takeDigit : MK yX0_takeDigit cX0_takeDigit 3 (some .boolean) 2 := ⟨gtq (lq_2 (List.mem_of_getElem? (i := 134) rfl)) rfl, gtq (lq_1 (List.mem_of_getElem? (i := 4) rfl)) rfl, by decide +kernel, by decide +kernel, by decide +kernel⟩
theorem mk_X0_treadOn : MK yX0_treadOn cX0_treadOn 3 (some .int) 2 := ⟨gtq (lq_3 (List.mem_of_getElem? (i := 114) rfl)) rfl, gtq (lq_1 (List.mem_of_getElem? (i := 4) rfl)) rfl, by decide +kernel, by decide +kernel, by decide +kernel⟩
theorem mk_X0_weaken : MK yX0_weaken cX0_weaken 3 (none) 1 := ⟨gtq (lq_2 (List.mem_of_getElem? (i := 200) rfl)) rfl, gtq (lq_1 (List.mem_of_getElem? (i := 4) rfl)) rfl, by decide +kernel, by decide +kernel, by decide +kernel⟩
theorem mk_X1_init : MK yX1_init cX1_init 2 (none) 1 := ⟨gtq (lq_4 (List.mem_of_getElem? (i := 234) rfl)) rfl, gtq (lq_1 (List.mem_of_getElem? (i := 24) rfl)) rfl, by decide +kernel, by decide +kernel, by decide +kernel⟩
theorem mk_X1_of : MK yX1_of cX1_of 2 (some .int) 1 := ⟨gtq (lq_5 (List.mem_of_getElem? (i := 3) rfl)) rfl, gtq (lq_1 (List.mem_of_getElem? (i := 24) rfl)) rfl, by decide +kernel, by decide +kernel, by decide +kernel⟩
theorem mk_X2_init : MK yX2_init cX2_init 2 (none) 1 := ⟨gtq (lq_1 (List.mem_of_getElem? (i := 194) rfl)) rfl, gtq (lq_1 (List.mem_of_getElem? (i := 8) rfl)) rfl, by decide +kernel, by decide +kernel, by decide +kernel⟩
theorem mk_X2_add : MK yX2_add cX2_add 4 (none) 3 := ⟨gtq (lq_4 (List.mem_of_getElem? (i := 124) rfl)) rfl, gtq (lq_1 (List.mem_of_getElem? (i := 8) rfl)) rfl, by decide +kernel, by decide +kernel, by decide +kernel⟩
theorem mk_X2_isFull : MK yX2_isFull cX2_isFull 1 (some .boolean) 0 := ⟨gtq (lq_4 (List.mem_of_getElem? (i := 120) rfl)) rfl, gtq (lq_1 (List.mem_of_getElem? (i := 8) rfl)) rfl, by decide +kernel, by decide +kernel, by decide +kernel⟩
theorem mk_X2_wipe : MK yX2_wipe cX2_wipe 2 (some .int) 0 := ⟨gtq (lq_2 (List.mem_of_getElem? (i := 103) rfl)) rfl, gtq (lq_1 (List.mem_of_getElem? (i := 8) rfl)) rfl, by decide +kernel, by decide +kernel, by decide +kernel⟩
theorem mk_X3_init : MK yX3_init cX3_init 2 (none) 0 := ⟨gtq (lq_1 (List.mem_of_getElem? (i := 130) rfl)) rfl, gtq (lq_1 (List.mem_of_getElem? (i := 5) rfl)) rfl, by decide +kernel, by decide +kernel, by decide +kernel⟩
theorem mk_X3_pop : MK yX3_pop cX3_pop 2 (none) 1 := ⟨gtq (lq_3 (List.mem_of_getElem? (i := 167) rfl)) rfl, gtq (lq_1 (List.mem_of_getElem? (i := 5) rfl)) rfl, by decide +kernel, by decide +kernel, by decide +kernel⟩
theorem mk_X3_push : MK yX3_push cX3_push 2 (none) 1 := ⟨gtq (lq_3 (List.mem_of_getElem? (i := 44) rfl)) rfl, gtq (lq_1 (List.mem_of_getElem? (i := 5) rfl)) rfl, by decide +kernel, by decide +kernel, by decide +kernel⟩
theorem mk_X3_wipe : MK yX3_wipe cX3_wipe 1 (none) 0 := ⟨gtq (lq_2 (List.mem_of_getElem? (i := 99) rfl)) rfl, gtq (lq_1 (List.mem_of_getElem? (i := 5) rfl)) rfl, by decide +kernel, by decide +kernel, by decide +kernel⟩
theorem mk_X4_init : MK yX4_init cX4_init 1 (none) 0 := ⟨gtq (lq_1 (List.mem_of_getElem? (i := 150) rfl)) rfl, gtq (lq_1 (List.mem_of_getElem? (i := 6) rfl)) rfl, by decide +kernel, by decide +kernel, by decide +kernel⟩
theorem mk_X4_addNumber : MK yX4_addNumber cX4_addNumber 2 (none) 1 := ⟨gtq (lq_2 (List.mem_of_getElem? (i := 6) rfl)) rfl, gtq (lq_1 (List.mem_of_getElem? (i := 6) rfl)) rfl, by decide +kernel, by decide +kernel, by decide +kernel⟩
theorem mk_X4_addSign : MK yX4_addSign cX4_addSign 2 (none) 1 := ⟨gtq (lq_2 (List.mem_of_getElem? (i := 10) rfl)) rfl, gtq (lq_1 (List.mem_of_getElem? (i := 6) rfl)) rfl, by decide +kernel, by decide +kernel, by decide +kernel⟩
theorem mk_X4_copy : MK yX4_copy cX4_copy 2 (none) 1 := ⟨gtq (lq_2 (List.mem_of_getElem? (i := 191) rfl)) rfl, gtq (lq_1 (List.mem_of_getElem? (i := 6) rfl)) rfl, by decide +kernel, by decide +kernel, by decide +kernel⟩
theorem mk_X4_isComparison : MK yX4_isComparison cX4_isComparison 1 (some .boolean) 1 := ⟨gtq (lq_2 (List.mem_of_getElem? (i := 187) rfl)) rfl, gtq (lq_1 (List.mem_of_getElem? (i := 6) rfl)) rfl, by decide +kernel, by decide +kernel, by decide +kernel⟩
theorem mk_X4_isOperator : MK yX4_isOperator cX4_isOperator 1 (some .boolean) 1 := ⟨gtq (lq_3 (List.mem_of_getElem? (i := 27) rfl)) rfl, gtq (lq_1 (List.mem_of_getElem? (i := 6) rfl)) rfl, by decide +kernel, by decide +kernel, by decide +kernel⟩
theorem mk_X4_joined : MK yX4_joined cX4_joined 3 (some .int) 3 := ⟨gtq (lq_3 (List.mem_of_getElem? (i := 30) rfl)) rfl, gtq (lq_1 (List.mem_of_getElem? (i := 6) rfl)) rfl, by decide +kernel, by decide +kernel, by decide +kernel⟩
theorem mk_X4_loss : MK yX4_loss cX4_loss 7 (some .int) 2 := ⟨gtq (lq_3 (List.mem_of_getElem? (i := 16) rfl)) rfl, gtq (lq_1 (List.mem_of_getElem? (i := 6) rfl)) rfl, by decide +kernel, by decide +kernel, by decide +kernel⟩
theorem mk_X4_losses : MK yX4_losses cX4_losses 3 (some (.array .int)) 1 := ⟨gtq (lq_2 (List.mem_of_getElem? (i := 230) rfl)) rfl, gtq (lq_1 (List.mem_of_getElem? (i := 6) rfl)) rfl, by decide +kernel, by decide +kernel, by decide +kernel⟩
theorem mk_X4_meaning : MK yX4_meaning cX4_meaning 4 (some .int) 3 := ⟨gtq (lq_3 (List.mem_of_getElem? (i := 34) rfl)) rfl, gtq (lq_1 (List.mem_of_getElem? (i := 6) rfl)) rfl, by decide +kernel, by decide +kernel, by decide +kernel⟩
theorem mk_X4_pop : MK yX4_pop cX4_pop 1 (some .int) 0 := ⟨gtq (lq_3 (List.mem_of_getElem? (i := 24) rfl)) rfl, gtq (lq_1 (List.mem_of_getElem? (i := 6) rfl)) rfl, by decide +kernel, by decide +kernel, by decide +kernel⟩
theorem mk_X4_push : MK yX4_push cX4_push 2 (none) 1 := ⟨gtq (lq_3 (List.mem_of_getElem? (i := 20) rfl)) rfl, gtq (lq_1 (List.mem_of_getElem? (i := 6) rfl)) rfl, by decide +kernel, by decide +kernel, by decide +kernel⟩
theorem mk_X4_putLaw : MK yX4_putLaw cX4_putLaw 3 (none) 2 := ⟨gtq (lq_4 (List.mem_of_getElem? (i := 141) rfl)) rfl, gtq (lq_1 (List.mem_of_getElem? (i := 6) rfl)) rfl, by decide +kernel, by decide +kernel, by decide +kernel⟩
theorem mk_X4_putNone : MK yX4_putNone cX4_putNone 1 (none) 0 := ⟨gtq (lq_1 (List.mem_of_getElem? (i := 238) rfl)) rfl, gtq (lq_1 (List.mem_of_getElem? (i := 6) rfl)) rfl, by decide +kernel, by decide +kernel, by decide +kernel⟩
theorem mk_X4_start : MK yX4_start cX4_start 1 (none) 0 := ⟨gtq (lq_2 (List.mem_of_getElem? (i := 2) rfl)) rfl, gtq (lq_1 (List.mem_of_getElem? (i := 6) rfl)) rfl, by decide +kernel, by decide +kernel, by decide +kernel⟩
theorem mk_X5_init : MK yX5_init cX5_init 1 (none) 0 := ⟨gtq (lq_1 (List.mem_of_getElem? (i := 175) rfl)) rfl, gtq (lq_1 (List.mem_of_getElem? (i := 7) rfl)) rfl, by decide +kernel, by decide +kernel, by decide +kernel⟩
theorem mk_X5_expression : MK yX5_expression cX5_expression 3 (some .boolean) 1 := ⟨gtq (lq_2 (List.mem_of_getElem? (i := 150) rfl)) rfl, gtq (lq_1 (List.mem_of_getElem? (i := 7) rfl)) rfl, by decide +kernel, by decide +kernel, by decide +kernel⟩
theorem mk_X5_isLetter : MK yX5_isLetter cX5_isLetter 1 (some .boolean) 1 := ⟨gtq (lq_2 (List.mem_of_getElem? (i := 179) rfl)) rfl, gtq (lq_1 (List.mem_of_getElem? (i := 7) rfl)) rfl, by decide +kernel, by decide +kernel, by decide +kernel⟩
theorem mk_X5_next : MK yX5_next cX5_next 1 (some .int) 0 := ⟨gtq (lq_2 (List.mem_of_getElem? (i := 166) rfl)) rfl, gtq (lq_1 (List.mem_of_getElem? (i := 7) rfl)) rfl, by decide +kernel, by decide +kernel, by decide +kernel⟩
theorem mk_X5_number : MK yX5_number cX5_number 3 (none) 0 := ⟨gtq (lq_2 (List.mem_of_getElem? (i := 175) rfl)) rfl, gtq (lq_1 (List.mem_of_getElem? (i := 7) rfl)) rfl, by decide +kernel, by decide +kernel, by decide +kernel⟩
theorem mk_X5_product : MK yX5_product cX5_product 4 (some .boolean) 1 := ⟨gtq (lq_2 (List.mem_of_getElem? (i := 158) rfl)) rfl, gtq (lq_1 (List.mem_of_getElem? (i := 7) rfl)) rfl, by decide +kernel, by decide +kernel, by decide +kernel⟩
theorem mk_X5_read : MK yX5_read cX5_read 4 (some .int) 2 := ⟨gtq (lq_2 (List.mem_of_getElem? (i := 143) rfl)) rfl, gtq (lq_1 (List.mem_of_getElem? (i := 7) rfl)) rfl, by decide +kernel, by decide +kernel, by decide +kernel⟩
theorem mk_X5_signedThing : MK yX5_signedThing cX5_signedThing 4 (some .boolean) 1 := ⟨gtq (lq_2 (List.mem_of_getElem? (i := 162) rfl)) rfl, gtq (lq_1 (List.mem_of_getElem? (i := 7) rfl)) rfl, by decide +kernel, by decide +kernel, by decide +kernel⟩
theorem mk_X5_sum : MK yX5_sum cX5_sum 4 (some .boolean) 1 := ⟨gtq (lq_2 (List.mem_of_getElem? (i := 154) rfl)) rfl, gtq (lq_1 (List.mem_of_getElem? (i := 7) rfl)) rfl, by decide +kernel, by decide +kernel, by decide +kernel⟩
theorem mk_X5_thing : MK yX5_thing cX5_thing 3 (some .boolean) 1 := ⟨gtq (lq_2 (List.mem_of_getElem? (i := 171) rfl)) rfl, gtq (lq_1 (List.mem_of_getElem? (i := 7) rfl)) rfl, by decide +kernel, by decide +kernel, by decide +kernel⟩
theorem mk_X5_write : MK yX5_write cX5_write 2 (none) 1 := ⟨gtq (lq_2 (List.mem_of_getElem? (i := 183) rfl)) rfl, gtq (lq_1 (List.mem_of_getElem? (i := 7) rfl)) rfl, by decide +kernel, by decide +kernel, by decide +kernel⟩
theorem mk_X6_init : MK yX6_init cX6_init 1 (none) 0 := ⟨gtq (lq_1 (List.mem_of_getElem? (i := 37) rfl)) rfl, gtq (lq_1 (List.mem_of_getElem? (i := 2) rfl)) rfl, by decide +kernel, by decide +kernel, by decide +kernel⟩
theorem mk_X6_add : MK yX6_add cX6_add 2 (none) 1 := ⟨gtq (lq_2 (List.mem_of_getElem? (i := 67) rfl)) rfl, gtq (lq_1 (List.mem_of_getElem? (i := 2) rfl)) rfl, by decide +kernel, by decide +kernel, by decide +kernel⟩
theorem mk_X6_digit : MK yX6_digit cX6_digit 4 (some .int) 2 := ⟨gtq (lq_2 (List.mem_of_getElem? (i := 83) rfl)) rfl, gtq (lq_1 (List.mem_of_getElem? (i := 2) rfl)) rfl, by decide +kernel, by decide +kernel, by decide +kernel⟩
theorem mk_X6_get : MK yX6_get cX6_get 2 (some .int) 1 := ⟨gtq (lq_2 (List.mem_of_getElem? (i := 87) rfl)) rfl, gtq (lq_1 (List.mem_of_getElem? (i := 2) rfl)) rfl, by decide +kernel, by decide +kernel, by decide +kernel⟩
theorem mk_X7_init : MK yX7_init cX7_init 1 (none) 0 := ⟨gtq (lq_1 (List.mem_of_getElem? (i := 53) rfl)) rfl, gtq (lq_1 (List.mem_of_getElem? (i := 3) rfl)) rfl, by decide +kernel, by decide +kernel, by decide +kernel⟩
theorem mk_X7_add : MK yX7_add cX7_add 3 (none) 1 := ⟨gtq (lq_3 (List.mem_of_getElem? (i := 53) rfl)) rfl, gtq (lq_1 (List.mem_of_getElem? (i := 3) rfl)) rfl, by decide +kernel, by decide +kernel, by decide +kernel⟩
theorem mk_X7_start : MK yX7_start cX7_start 1 (none) 0 := ⟨gtq (lq_3 (List.mem_of_getElem? (i := 49) rfl)) rfl, gtq (lq_1 (List.mem_of_getElem? (i := 3) rfl)) rfl, by decide +kernel, by decide +kernel, by decide +kernel⟩
theorem mk_X7_turnRound : MK yX7_turnRound cX7_turnRound 4 (none) 0 := ⟨gtq (lq_4 (List.mem_of_getElem? (i := 60) rfl)) rfl, gtq (lq_1 (List.mem_of_getElem? (i := 3) rfl)) rfl, by decide +kernel, by decide +kernel, by decide +kernel⟩
theorem mk_X8_init : MK yX8_init cX8_init 1 (none) 0 := ⟨gtq (lq_1 (List.mem_of_getElem? (i := 217) rfl)) rfl, gtq (lq_1 (List.mem_of_getElem? (i := 9) rfl)) rfl, by decide +kernel, by decide +kernel, by decide +kernel⟩
theorem mk_X8_improve : MK yX8_improve cX8_improve 7 (some .boolean) 2 := ⟨gtq (lq_4 (List.mem_of_getElem? (i := 87) rfl)) rfl, gtq (lq_1 (List.mem_of_getElem? (i := 9) rfl)) rfl, by decide +kernel, by decide +kernel, by decide +kernel⟩
theorem mk_X8_reach : MK yX8_reach cX8_reach 6 (some .int) 4 := ⟨gtq (lq_4 (List.mem_of_getElem? (i := 50) rfl)) rfl, gtq (lq_1 (List.mem_of_getElem? (i := 9) rfl)) rfl, by decide +kernel, by decide +kernel, by decide +kernel⟩
theorem mk_X8_shortest : MK yX8_shortest cX8_shortest 15 (some .int) 6 := ⟨gtq (lq_4 (List.mem_of_getElem? (i := 41) rfl)) rfl, gtq (lq_1 (List.mem_of_getElem? (i := 9) rfl)) rfl, by decide +kernel, by decide +kernel, by decide +kernel⟩
theorem mk_X8_softStep : MK yX8_softStep cX8_softStep 5 (some .int) 2 := ⟨gtq (lq_4 (List.mem_of_getElem? (i := 91) rfl)) rfl, gtq (lq_1 (List.mem_of_getElem? (i := 9) rfl)) rfl, by decide +kernel, by decide +kernel, by decide +kernel⟩
theorem mk_X8_softest : MK yX8_softest cX8_softest 9 (some .int) 4 := ⟨gtq (lq_4 (List.mem_of_getElem? (i := 76) rfl)) rfl, gtq (lq_1 (List.mem_of_getElem? (i := 9) rfl)) rfl, by decide +kernel, by decide +kernel, by decide +kernel⟩
theorem mk_X8_tellWay : MK yX8_tellWay cX8_tellWay 5 (some .int) 2 := ⟨gtq (lq_4 (List.mem_of_getElem? (i := 54) rfl)) rfl, gtq (lq_1 (List.mem_of_getElem? (i := 9) rfl)) rfl, by decide +kernel, by decide +kernel, by decide +kernel⟩
theorem mk_X9_actDone : MK yX9_actDone cX9_actDone 3 (some .int) 1 := ⟨gtq (lq_3 (List.mem_of_getElem? (i := 154) rfl)) rfl, gtq (lq_1 (List.mem_of_getElem? (i := 1) rfl)) rfl, by decide +kernel, by decide +kernel, by decide +kernel⟩
theorem mk_X9_areSides : MK yX9_areSides cX9_areSides 2 (some .boolean) 2 := ⟨gtq (lq_3 (List.mem_of_getElem? (i := 78) rfl)) rfl, gtq (lq_1 (List.mem_of_getElem? (i := 1) rfl)) rfl, by decide +kernel, by decide +kernel, by decide +kernel⟩
theorem mk_X9_badInStory : MK yX9_badInStory cX9_badInStory 7 (some .int) 0 := ⟨gtq (lq_3 (List.mem_of_getElem? (i := 147) rfl)) rfl, gtq (lq_1 (List.mem_of_getElem? (i := 1) rfl)) rfl, by decide +kernel, by decide +kernel, by decide +kernel⟩
theorem mk_X9_campsTold : MK yX9_campsTold cX9_campsTold 5 (some .int) 0 := ⟨gtq (lq_2 (List.mem_of_getElem? (i := 115) rfl)) rfl, gtq (lq_1 (List.mem_of_getElem? (i := 1) rfl)) rfl, by decide +kernel, by decide +kernel, by decide +kernel⟩
theorem mk_X9_choices : MK yX9_choices cX9_choices 5 (some .long) 2 := ⟨gtq (lq_4 (List.mem_of_getElem? (i := 189) rfl)) rfl, gtq (lq_1 (List.mem_of_getElem? (i := 1) rfl)) rfl, by decide +kernel, by decide +kernel, by decide +kernel⟩
theorem mk_X9_commonDivisor : MK yX9_commonDivisor cX9_commonDivisor 7 (some .long) 2 := ⟨gtq (lq_4 (List.mem_of_getElem? (i := 195) rfl)) rfl, gtq (lq_1 (List.mem_of_getElem? (i := 1) rfl)) rfl, by decide +kernel, by decide +kernel, by decide +kernel⟩
theorem mk_X9_countNimbers : MK yX9_countNimbers cX9_countNimbers 7 (none) 1 := ⟨gtq (lq_4 (List.mem_of_getElem? (i := 203) rfl)) rfl, gtq (lq_1 (List.mem_of_getElem? (i := 1) rfl)) rfl, by decide +kernel, by decide +kernel, by decide +kernel⟩
theorem mk_X9_digitOf : MK yX9_digitOf cX9_digitOf 1 (some .int) 1 := ⟨gtq (lq_2 (List.mem_of_getElem? (i := 209) rfl)) rfl, gtq (lq_1 (List.mem_of_getElem? (i := 1) rfl)) rfl, by decide +kernel, by decide +kernel, by decide +kernel⟩
theorem mk_X9_digitsBehind : MK yX9_digitsBehind cX9_digitsBehind 1 (some .int) 1 := ⟨gtq (lq_3 (List.mem_of_getElem? (i := 150) rfl)) rfl, gtq (lq_1 (List.mem_of_getElem? (i := 1) rfl)) rfl, by decide +kernel, by decide +kernel, by decide +kernel⟩
theorem mk_X9_entry : MK yX9_entry cX9_entry 2 (some .int) 2 := ⟨gtq (lq_2 (List.mem_of_getElem? (i := 206) rfl)) rfl, gtq (lq_1 (List.mem_of_getElem? (i := 1) rfl)) rfl, by decide +kernel, by decide +kernel, by decide +kernel⟩
theorem mk_X9_fieldTold : MK yX9_fieldTold cX9_fieldTold 3 (some .int) 0 := ⟨gtq (lq_2 (List.mem_of_getElem? (i := 79) rfl)) rfl, gtq (lq_1 (List.mem_of_getElem? (i := 1) rfl)) rfl, by decide +kernel, by decide +kernel, by decide +kernel⟩
theorem mk_X9_firstIn : MK yX9_firstIn cX9_firstIn 2 (some .int) 1 := ⟨gtq (lq_4 (List.mem_of_getElem? (i := 148) rfl)) rfl, gtq (lq_1 (List.mem_of_getElem? (i := 1) rfl)) rfl, by decide +kernel, by decide +kernel, by decide +kernel⟩
theorem mk_X9_firstNotIn : MK yX9_firstNotIn cX9_firstNotIn 3 (some .int) 1 := ⟨gtq (lq_4 (List.mem_of_getElem? (i := 206) rfl)) rfl, gtq (lq_1 (List.mem_of_getElem? (i := 1) rfl)) rfl, by decide +kernel, by decide +kernel, by decide +kernel⟩
theorem mk_X9_fitsNight : MK yX9_fitsNight cX9_fitsNight 3 (some .boolean) 1 := ⟨gtq (lq_4 (List.mem_of_getElem? (i := 175) rfl)) rfl, gtq (lq_1 (List.mem_of_getElem? (i := 1) rfl)) rfl, by decide +kernel, by decide +kernel, by decide +kernel⟩
theorem mk_X9_fitsSound : MK yX9_fitsSound cX9_fitsSound 4 (some .boolean) 3 := ⟨gtq (lq_4 (List.mem_of_getElem? (i := 179) rfl)) rfl, gtq (lq_1 (List.mem_of_getElem? (i := 1) rfl)) rfl, by decide +kernel, by decide +kernel, by decide +kernel⟩
theorem mk_X9_fittingLaws : MK yX9_fittingLaws cX9_fittingLaws 4 (some .int) 0 := ⟨gtq (lq_4 (List.mem_of_getElem? (i := 137) rfl)) rfl, gtq (lq_1 (List.mem_of_getElem? (i := 1) rfl)) rfl, by decide +kernel, by decide +kernel, by decide +kernel⟩
theorem mk_X9_forgetStates : MK yX9_forgetStates cX9_forgetStates 1 (none) 0 := ⟨gtq (lq_2 (List.mem_of_getElem? (i := 95) rfl)) rfl, gtq (lq_1 (List.mem_of_getElem? (i := 1) rfl)) rfl, by decide +kernel, by decide +kernel, by decide +kernel⟩
theorem mk_X9_gain : MK yX9_gain cX9_gain 4 (some .int) 3 := ⟨gtq (lq_4 (List.mem_of_getElem? (i := 225) rfl)) rfl, gtq (lq_1 (List.mem_of_getElem? (i := 1) rfl)) rfl, by decide +kernel, by decide +kernel, by decide +kernel⟩
theorem mk_X9_isAsMarked : MK yX9_isAsMarked cX9_isAsMarked 4 (some .boolean) 1 := ⟨gtq (lq_4 (List.mem_of_getElem? (i := 145) rfl)) rfl, gtq (lq_1 (List.mem_of_getElem? (i := 1) rfl)) rfl, by decide +kernel, by decide +kernel, by decide +kernel⟩
theorem mk_X9_isBestBeside : MK yX9_isBestBeside cX9_isBestBeside 4 (some .boolean) 3 := ⟨gtq (lq_4 (List.mem_of_getElem? (i := 222) rfl)) rfl, gtq (lq_1 (List.mem_of_getElem? (i := 1) rfl)) rfl, by decide +kernel, by decide +kernel, by decide +kernel⟩
theorem mk_X9_isIn : MK yX9_isIn cX9_isIn 2 (some .boolean) 2 := ⟨gtq (lq_3 (List.mem_of_getElem? (i := 205) rfl)) rfl, gtq (lq_1 (List.mem_of_getElem? (i := 1) rfl)) rfl, by decide +kernel, by decide +kernel, by decide +kernel⟩
theorem mk_X9_lawsLeft : MK yX9_lawsLeft cX9_lawsLeft 6 (some .int) 3 := ⟨gtq (lq_4 (List.mem_of_getElem? (i := 156) rfl)) rfl, gtq (lq_1 (List.mem_of_getElem? (i := 1) rfl)) rfl, by decide +kernel, by decide +kernel, by decide +kernel⟩
theorem mk_X9_mostHeard : MK yX9_mostHeard cX9_mostHeard 1 (some .int) 1 := ⟨gtq (lq_4 (List.mem_of_getElem? (i := 163) rfl)) rfl, gtq (lq_1 (List.mem_of_getElem? (i := 1) rfl)) rfl, by decide +kernel, by decide +kernel, by decide +kernel⟩
theorem mk_X9_noted : MK yX9_noted cX9_noted 2 (some .int) 1 := ⟨gtq (lq_3 (List.mem_of_getElem? (i := 106) rfl)) rfl, gtq (lq_1 (List.mem_of_getElem? (i := 1) rfl)) rfl, by decide +kernel, by decide +kernel, by decide +kernel⟩
theorem mk_X9_onInNineYears : MK yX9_onInNineYears cX9_onInNineYears 2 (some .int) 1 := ⟨gtq (lq_4 (List.mem_of_getElem? (i := 214) rfl)) rfl, gtq (lq_1 (List.mem_of_getElem? (i := 1) rfl)) rfl, by decide +kernel, by decide +kernel, by decide +kernel⟩
theorem mk_X9_pitchDrawn : MK yX9_pitchDrawn cX9_pitchDrawn 5 (none) 1 := ⟨gtq (lq_5 (List.mem_of_getElem? (i := 8) rfl)) rfl, gtq (lq_1 (List.mem_of_getElem? (i := 1) rfl)) rfl, by decide +kernel, by decide +kernel, by decide +kernel⟩
theorem mk_X9_power : MK yX9_power cX9_power 5 (some .long) 2 := ⟨gtq (lq_4 (List.mem_of_getElem? (i := 192) rfl)) rfl, gtq (lq_1 (List.mem_of_getElem? (i := 1) rfl)) rfl, by decide +kernel, by decide +kernel, by decide +kernel⟩
theorem mk_X9_storyDigit : MK yX9_storyDigit cX9_storyDigit 2 (some .int) 1 := ⟨gtq (lq_3 (List.mem_of_getElem? (i := 158) rfl)) rfl, gtq (lq_1 (List.mem_of_getElem? (i := 1) rfl)) rfl, by decide +kernel, by decide +kernel, by decide +kernel⟩
theorem mk_X10_adds : MK yX10_adds cX10_adds 3 (some .int) 1 := ⟨gtq (lq_7 (List.mem_of_getElem? (i := 35) rfl)) rfl, gtq (lq_1 (List.mem_of_getElem? (i := 10) rfl)) rfl, by decide +kernel, by decide +kernel, by decide +kernel⟩
theorem mk_X10_area : MK yX10_area cX10_area 7 (some .long) 3 := ⟨gtq (lq_6 (List.mem_of_getElem? (i := 195) rfl)) rfl, gtq (lq_1 (List.mem_of_getElem? (i := 10) rfl)) rfl, by decide +kernel, by decide +kernel, by decide +kernel⟩
theorem mk_X10_areaOf : MK yX10_areaOf cX10_areaOf 3 (some .long) 2 := ⟨gtq (lq_6 (List.mem_of_getElem? (i := 191) rfl)) rfl, gtq (lq_1 (List.mem_of_getElem? (i := 10) rfl)) rfl, by decide +kernel, by decide +kernel, by decide +kernel⟩
theorem mk_X10_begins : MK yX10_begins cX10_begins 3 (some .int) 1 := ⟨gtq (lq_6 (List.mem_of_getElem? (i := 37) rfl)) rfl, gtq (lq_1 (List.mem_of_getElem? (i := 10) rfl)) rfl, by decide +kernel, by decide +kernel, by decide +kernel⟩
theorem mk_X10_beside : MK yX10_beside cX10_beside 5 (some .int) 2 := ⟨gtq (lq_7 (List.mem_of_getElem? (i := 173) rfl)) rfl, gtq (lq_1 (List.mem_of_getElem? (i := 10) rfl)) rfl, by decide +kernel, by decide +kernel, by decide +kernel⟩
theorem mk_X10_campsOver : MK yX10_campsOver cX10_campsOver 5 (some .int) 2 := ⟨gtq (lq_6 (List.mem_of_getElem? (i := 221) rfl)) rfl, gtq (lq_1 (List.mem_of_getElem? (i := 10) rfl)) rfl, by decide +kernel, by decide +kernel, by decide +kernel⟩
theorem mk_X10_cells : MK yX10_cells cX10_cells 1 (some .int) 0 := ⟨gtq (lq_6 (List.mem_of_getElem? (i := 46) rfl)) rfl, gtq (lq_1 (List.mem_of_getElem? (i := 10) rfl)) rfl, by decide +kernel, by decide +kernel, by decide +kernel⟩
theorem mk_X10_codes : MK yX10_codes cX10_codes 2 (none) 1 := ⟨gtq (lq_6 (List.mem_of_getElem? (i := 88) rfl)) rfl, gtq (lq_1 (List.mem_of_getElem? (i := 10) rfl)) rfl, by decide +kernel, by decide +kernel, by decide +kernel⟩
theorem mk_X10_comes : MK yX10_comes cX10_comes 7 (none) 6 := ⟨gtq (lq_6 (List.mem_of_getElem? (i := 68) rfl)) rfl, gtq (lq_1 (List.mem_of_getElem? (i := 10) rfl)) rfl, by decide +kernel, by decide +kernel, by decide +kernel⟩
theorem mk_X10_common : MK yX10_common cX10_common 4 (some .long) 2 := ⟨gtq (lq_8 (List.mem_of_getElem? (i := 8) rfl)) rfl, gtq (lq_1 (List.mem_of_getElem? (i := 10) rfl)) rfl, by decide +kernel, by decide +kernel, by decide +kernel⟩
theorem mk_X10_copies : MK yX10_copies cX10_copies 2 (none) 0 := ⟨gtq (lq_7 (List.mem_of_getElem? (i := 118) rfl)) rfl, gtq (lq_1 (List.mem_of_getElem? (i := 10) rfl)) rfl, by decide +kernel, by decide +kernel, by decide +kernel⟩
theorem mk_X10_counted : MK yX10_counted cX10_counted 2 (some .int) 1 := ⟨gtq (lq_7 (List.mem_of_getElem? (i := 56) rfl)) rfl, gtq (lq_1 (List.mem_of_getElem? (i := 10) rfl)) rfl, by decide +kernel, by decide +kernel, by decide +kernel⟩
theorem mk_X10_crossing : MK yX10_crossing cX10_crossing 6 (some .int) 2 := ⟨gtq (lq_6 (List.mem_of_getElem? (i := 187) rfl)) rfl, gtq (lq_1 (List.mem_of_getElem? (i := 10) rfl)) rfl, by decide +kernel, by decide +kernel, by decide +kernel⟩
theorem mk_X10_digitIn : MK yX10_digitIn cX10_digitIn 3 (some .int) 2 := ⟨gtq (lq_6 (List.mem_of_getElem? (i := 42) rfl)) rfl, gtq (lq_1 (List.mem_of_getElem? (i := 10) rfl)) rfl, by decide +kernel, by decide +kernel, by decide +kernel⟩
theorem mk_X10_does : MK yX10_does cX10_does 5 (some .boolean) 1 := ⟨gtq (lq_7 (List.mem_of_getElem? (i := 93) rfl)) rfl, gtq (lq_1 (List.mem_of_getElem? (i := 10) rfl)) rfl, by decide +kernel, by decide +kernel, by decide +kernel⟩
theorem mk_X10_draws : MK yX10_draws cX10_draws 2 (some .int) 1 := ⟨gtq (lq_8 (List.mem_of_getElem? (i := 44) rfl)) rfl, gtq (lq_1 (List.mem_of_getElem? (i := 10) rfl)) rfl, by decide +kernel, by decide +kernel, by decide +kernel⟩
theorem mk_X10_enters : MK yX10_enters cX10_enters 3 (none) 1 := ⟨gtq (lq_7 (List.mem_of_getElem? (i := 31) rfl)) rfl, gtq (lq_1 (List.mem_of_getElem? (i := 10) rfl)) rfl, by decide +kernel, by decide +kernel, by decide +kernel⟩
theorem mk_X10_faultOf : MK yX10_faultOf cX10_faultOf 5 (some .int) 3 := ⟨gtq (lq_6 (List.mem_of_getElem? (i := 65) rfl)) rfl, gtq (lq_1 (List.mem_of_getElem? (i := 10) rfl)) rfl, by decide +kernel, by decide +kernel, by decide +kernel⟩
theorem mk_X10_flag : MK yX10_flag cX10_flag 1 (some .int) 1 := ⟨gtq (lq_6 (List.mem_of_getElem? (i := 57) rfl)) rfl, gtq (lq_1 (List.mem_of_getElem? (i := 10) rfl)) rfl, by decide +kernel, by decide +kernel, by decide +kernel⟩
theorem mk_X10_gets : MK yX10_gets cX10_gets 3 (some .int) 3 := ⟨gtq (lq_8 (List.mem_of_getElem? (i := 36) rfl)) rfl, gtq (lq_1 (List.mem_of_getElem? (i := 10) rfl)) rfl, by decide +kernel, by decide +kernel, by decide +kernel⟩
theorem mk_X10_goesOn : MK yX10_goesOn cX10_goesOn 4 (none) 2 := ⟨gtq (lq_7 (List.mem_of_getElem? (i := 20) rfl)) rfl, gtq (lq_1 (List.mem_of_getElem? (i := 10) rfl)) rfl, by decide +kernel, by decide +kernel, by decide +kernel⟩
theorem mk_X10_has : MK yX10_has cX10_has 3 (some .boolean) 2 := ⟨gtq (lq_6 (List.mem_of_getElem? (i := 235) rfl)) rfl, gtq (lq_1 (List.mem_of_getElem? (i := 10) rfl)) rfl, by decide +kernel, by decide +kernel, by decide +kernel⟩
theorem mk_X10_in : MK yX10_in cX10_in 6 (some .boolean) 3 := ⟨gtq (lq_6 (List.mem_of_getElem? (i := 29) rfl)) rfl, gtq (lq_1 (List.mem_of_getElem? (i := 10) rfl)) rfl, by decide +kernel, by decide +kernel, by decide +kernel⟩
theorem mk_X10_isCamp : MK yX10_isCamp cX10_isCamp 2 (some .boolean) 1 := ⟨gtq (lq_6 (List.mem_of_getElem? (i := 167) rfl)) rfl, gtq (lq_1 (List.mem_of_getElem? (i := 10) rfl)) rfl, by decide +kernel, by decide +kernel, by decide +kernel⟩
theorem mk_X10_isCell : MK yX10_isCell cX10_isCell 2 (some .boolean) 1 := ⟨gtq (lq_6 (List.mem_of_getElem? (i := 216) rfl)) rfl, gtq (lq_1 (List.mem_of_getElem? (i := 10) rfl)) rfl, by decide +kernel, by decide +kernel, by decide +kernel⟩
theorem mk_X10_isDigit : MK yX10_isDigit cX10_isDigit 1 (some .boolean) 0 := ⟨gtq (lq_6 (List.mem_of_getElem? (i := 92) rfl)) rfl, gtq (lq_1 (List.mem_of_getElem? (i := 10) rfl)) rfl, by decide +kernel, by decide +kernel, by decide +kernel⟩
theorem mk_X10_isFewer : MK yX10_isFewer cX10_isFewer 2 (some .boolean) 2 := ⟨gtq (lq_7 (List.mem_of_getElem? (i := 158) rfl)) rfl, gtq (lq_1 (List.mem_of_getElem? (i := 10) rfl)) rfl, by decide +kernel, by decide +kernel, by decide +kernel⟩
theorem mk_X10_isIn : MK yX10_isIn cX10_isIn 4 (some .boolean) 3 := ⟨gtq (lq_7 (List.mem_of_getElem? (i := 48) rfl)) rfl, gtq (lq_1 (List.mem_of_getElem? (i := 10) rfl)) rfl, by decide +kernel, by decide +kernel, by decide +kernel⟩
theorem mk_X10_isLaw : MK yX10_isLaw cX10_isLaw 4 (some .boolean) 1 := ⟨gtq (lq_7 (List.mem_of_getElem? (i := 218) rfl)) rfl, gtq (lq_1 (List.mem_of_getElem? (i := 10) rfl)) rfl, by decide +kernel, by decide +kernel, by decide +kernel⟩
theorem mk_X10_isLyingOver : MK yX10_isLyingOver cX10_isLyingOver 4 (some .boolean) 3 := ⟨gtq (lq_6 (List.mem_of_getElem? (i := 225) rfl)) rfl, gtq (lq_1 (List.mem_of_getElem? (i := 10) rfl)) rfl, by decide +kernel, by decide +kernel, by decide +kernel⟩
theorem mk_X10_isOn : MK yX10_isOn cX10_isOn 2 (some .boolean) 2 := ⟨gtq (lq_6 (List.mem_of_getElem? (i := 179) rfl)) rfl, gtq (lq_1 (List.mem_of_getElem? (i := 10) rfl)) rfl, by decide +kernel, by decide +kernel, by decide +kernel⟩
theorem mk_X10_isOver : MK yX10_isOver cX10_isOver 7 (some .boolean) 4 := ⟨gtq (lq_6 (List.mem_of_getElem? (i := 199) rfl)) rfl, gtq (lq_1 (List.mem_of_getElem? (i := 10) rfl)) rfl, by decide +kernel, by decide +kernel, by decide +kernel⟩
theorem mk_X10_isRest : MK yX10_isRest cX10_isRest 5 (some .boolean) 3 := ⟨gtq (lq_8 (List.mem_of_getElem? (i := 33) rfl)) rfl, gtq (lq_1 (List.mem_of_getElem? (i := 10) rfl)) rfl, by decide +kernel, by decide +kernel, by decide +kernel⟩
theorem mk_X10_isSize : MK yX10_isSize cX10_isSize 2 (some .boolean) 2 := ⟨gtq (lq_7 (List.mem_of_getElem? (i := 134) rfl)) rfl, gtq (lq_1 (List.mem_of_getElem? (i := 10) rfl)) rfl, by decide +kernel, by decide +kernel, by decide +kernel⟩
theorem mk_X10_isSo : MK yX10_isSo cX10_isSo 4 (some .boolean) 3 := ⟨gtq (lq_7 (List.mem_of_getElem? (i := 239) rfl)) rfl, gtq (lq_1 (List.mem_of_getElem? (i := 10) rfl)) rfl, by decide +kernel, by decide +kernel, by decide +kernel⟩
theorem mk_X10_laysCode : MK yX10_laysCode cX10_laysCode 4 (none) 2 := ⟨gtq (lq_6 (List.mem_of_getElem? (i := 158) rfl)) rfl, gtq (lq_1 (List.mem_of_getElem? (i := 10) rfl)) rfl, by decide +kernel, by decide +kernel, by decide +kernel⟩
theorem mk_X10_laysYet : MK yX10_laysYet cX10_laysYet 9 (none) 2 := ⟨gtq (lq_7 (List.mem_of_getElem? (i := 166) rfl)) rfl, gtq (lq_1 (List.mem_of_getElem? (i := 10) rfl)) rfl, by decide +kernel, by decide +kernel, by decide +kernel⟩
theorem mk_X10_loss : MK yX10_loss cX10_loss 4 (some .int) 2 := ⟨gtq (lq_6 (List.mem_of_getElem? (i := 183) rfl)) rfl, gtq (lq_1 (List.mem_of_getElem? (i := 10) rfl)) rfl, by decide +kernel, by decide +kernel, by decide +kernel⟩
theorem mk_X10_lossOn : MK yX10_lossOn cX10_lossOn 2 (some .int) 1 := ⟨gtq (lq_6 (List.mem_of_getElem? (i := 176) rfl)) rfl, gtq (lq_1 (List.mem_of_getElem? (i := 10) rfl)) rfl, by decide +kernel, by decide +kernel, by decide +kernel⟩
theorem mk_X10_movesOne : MK yX10_movesOne cX10_movesOne 6 (some .int) 3 := ⟨gtq (lq_7 (List.mem_of_getElem? (i := 80) rfl)) rfl, gtq (lq_1 (List.mem_of_getElem? (i := 10) rfl)) rfl, by decide +kernel, by decide +kernel, by decide +kernel⟩
theorem mk_X10_number : MK yX10_number cX10_number 4 (some .int) 1 := ⟨gtq (lq_6 (List.mem_of_getElem? (i := 98) rfl)) rfl, gtq (lq_1 (List.mem_of_getElem? (i := 10) rfl)) rfl, by decide +kernel, by decide +kernel, by decide +kernel⟩
theorem mk_X10_on : MK yX10_on cX10_on 3 (some .int) 1 := ⟨gtq (lq_7 (List.mem_of_getElem? (i := 27) rfl)) rfl, gtq (lq_1 (List.mem_of_getElem? (i := 10) rfl)) rfl, by decide +kernel, by decide +kernel, by decide +kernel⟩
theorem mk_X10_onIn : MK yX10_onIn cX10_onIn 2 (some .int) 1 := ⟨gtq (lq_8 (List.mem_of_getElem? (i := 25) rfl)) rfl, gtq (lq_1 (List.mem_of_getElem? (i := 10) rfl)) rfl, by decide +kernel, by decide +kernel, by decide +kernel⟩
theorem mk_X10_pitches : MK yX10_pitches cX10_pitches 7 (some .int) 6 := ⟨gtq (lq_7 (List.mem_of_getElem? (i := 43) rfl)) rfl, gtq (lq_1 (List.mem_of_getElem? (i := 10) rfl)) rfl, by decide +kernel, by decide +kernel, by decide +kernel⟩
theorem mk_X10_putsBy : MK yX10_putsBy cX10_putsBy 2 (none) 0 := ⟨gtq (lq_7 (List.mem_of_getElem? (i := 16) rfl)) rfl, gtq (lq_1 (List.mem_of_getElem? (i := 10) rfl)) rfl, by decide +kernel, by decide +kernel, by decide +kernel⟩
theorem mk_X10_readsAct : MK yX10_readsAct cX10_readsAct 5 (some .boolean) 0 := ⟨gtq (lq_7 (List.mem_of_getElem? (i := 88) rfl)) rfl, gtq (lq_1 (List.mem_of_getElem? (i := 10) rfl)) rfl, by decide +kernel, by decide +kernel, by decide +kernel⟩
theorem mk_X10_readsCamp : MK yX10_readsCamp cX10_readsCamp 6 (some .boolean) 0 := ⟨gtq (lq_6 (List.mem_of_getElem? (i := 54) rfl)) rfl, gtq (lq_1 (List.mem_of_getElem? (i := 10) rfl)) rfl, by decide +kernel, by decide +kernel, by decide +kernel⟩
theorem mk_X10_readsRank : MK yX10_readsRank cX10_readsRank 4 (some .boolean) 1 := ⟨gtq (lq_6 (List.mem_of_getElem? (i := 80) rfl)) rfl, gtq (lq_1 (List.mem_of_getElem? (i := 10) rfl)) rfl, by decide +kernel, by decide +kernel, by decide +kernel⟩
theorem mk_X10_readsRule : MK yX10_readsRule cX10_readsRule 3 (some .int) 0 := ⟨gtq (lq_6 (List.mem_of_getElem? (i := 76) rfl)) rfl, gtq (lq_1 (List.mem_of_getElem? (i := 10) rfl)) rfl, by decide +kernel, by decide +kernel, by decide +kernel⟩
theorem mk_X10_readsThing : MK yX10_readsThing cX10_readsThing 2 (some .boolean) 0 := ⟨gtq (lq_6 (List.mem_of_getElem? (i := 84) rfl)) rfl, gtq (lq_1 (List.mem_of_getElem? (i := 10) rfl)) rfl, by decide +kernel, by decide +kernel, by decide +kernel⟩
theorem mk_X10_refuse : MK yX10_refuse cX10_refuse 1 (some .int) 0 := ⟨gtq (lq_6 (List.mem_of_getElem? (i := 172) rfl)) rfl, gtq (lq_1 (List.mem_of_getElem? (i := 10) rfl)) rfl, by decide +kernel, by decide +kernel, by decide +kernel⟩
theorem mk_X10_roomOf : MK yX10_roomOf cX10_roomOf 9 (some .int) 3 := ⟨gtq (lq_7 (List.mem_of_getElem? (i := 138) rfl)) rfl, gtq (lq_1 (List.mem_of_getElem? (i := 10) rfl)) rfl, by decide +kernel, by decide +kernel, by decide +kernel⟩
theorem mk_X10_ruled : MK yX10_ruled cX10_ruled 4 (some .int) 0 := ⟨gtq (lq_6 (List.mem_of_getElem? (i := 204) rfl)) rfl, gtq (lq_1 (List.mem_of_getElem? (i := 10) rfl)) rfl, by decide +kernel, by decide +kernel, by decide +kernel⟩
theorem mk_X10_seenBy : MK yX10_seenBy cX10_seenBy 4 (some .int) 1 := ⟨gtq (lq_7 (List.mem_of_getElem? (i := 201) rfl)) rfl, gtq (lq_1 (List.mem_of_getElem? (i := 10) rfl)) rfl, by decide +kernel, by decide +kernel, by decide +kernel⟩
theorem mk_X10_seenFrom : MK yX10_seenFrom cX10_seenFrom 8 (some .int) 1 := ⟨gtq (lq_7 (List.mem_of_getElem? (i := 193) rfl)) rfl, gtq (lq_1 (List.mem_of_getElem? (i := 10) rfl)) rfl, by decide +kernel, by decide +kernel, by decide +kernel⟩
theorem mk_X10_singsTo : MK yX10_singsTo cX10_singsTo 3 (some .int) 2 := ⟨gtq (lq_7 (List.mem_of_getElem? (i := 72) rfl)) rfl, gtq (lq_1 (List.mem_of_getElem? (i := 10) rfl)) rfl, by decide +kernel, by decide +kernel, by decide +kernel⟩
theorem mk_X10_sleptBy : MK yX10_sleptBy cX10_sleptBy 6 (some .long) 2 := ⟨gtq (lq_7 (List.mem_of_getElem? (i := 52) rfl)) rfl, gtq (lq_1 (List.mem_of_getElem? (i := 10) rfl)) rfl, by decide +kernel, by decide +kernel, by decide +kernel⟩
theorem mk_X10_state : MK yX10_state cX10_state 2 (some .int) 2 := ⟨gtq (lq_7 (List.mem_of_getElem? (i := 169) rfl)) rfl, gtq (lq_1 (List.mem_of_getElem? (i := 10) rfl)) rfl, by decide +kernel, by decide +kernel, by decide +kernel⟩
theorem mk_X10_strengthOn : MK yX10_strengthOn cX10_strengthOn 5 (some .int) 2 := ⟨gtq (lq_6 (List.mem_of_getElem? (i := 229) rfl)) rfl, gtq (lq_1 (List.mem_of_getElem? (i := 10) rfl)) rfl, by decide +kernel, by decide +kernel, by decide +kernel⟩
theorem mk_X10_strongest : MK yX10_strongest cX10_strongest 4 (some .int) 2 := ⟨gtq (lq_6 (List.mem_of_getElem? (i := 232) rfl)) rfl, gtq (lq_1 (List.mem_of_getElem? (i := 10) rfl)) rfl, by decide +kernel, by decide +kernel, by decide +kernel⟩
theorem mk_X10_sumOf : MK yX10_sumOf cX10_sumOf 4 (some .int) 2 := ⟨gtq (lq_7 (List.mem_of_getElem? (i := 3) rfl)) rfl, gtq (lq_1 (List.mem_of_getElem? (i := 10) rfl)) rfl, by decide +kernel, by decide +kernel, by decide +kernel⟩
theorem mk_X10_takes : MK yX10_takes cX10_takes 3 (some .boolean) 1 := ⟨gtq (lq_6 (List.mem_of_getElem? (i := 61) rfl)) rfl, gtq (lq_1 (List.mem_of_getElem? (i := 10) rfl)) rfl, by decide +kernel, by decide +kernel, by decide +kernel⟩
theorem mk_X10_takesOf : MK yX10_takesOf cX10_takesOf 3 (some .int) 1 := ⟨gtq (lq_6 (List.mem_of_getElem? (i := 103) rfl)) rfl, gtq (lq_1 (List.mem_of_getElem? (i := 10) rfl)) rfl, by decide +kernel, by decide +kernel, by decide +kernel⟩
theorem mk_X10_tellsWay : MK yX10_tellsWay cX10_tellsWay 9 (some .int) 2 := ⟨gtq (lq_7 (List.mem_of_getElem? (i := 177) rfl)) rfl, gtq (lq_1 (List.mem_of_getElem? (i := 10) rfl)) rfl, by decide +kernel, by decide +kernel, by decide +kernel⟩
theorem mk_X10_treadsOn : MK yX10_treadsOn cX10_treadsOn 3 (some .int) 2 := ⟨gtq (lq_7 (List.mem_of_getElem? (i := 64) rfl)) rfl, gtq (lq_1 (List.mem_of_getElem? (i := 10) rfl)) rfl, by decide +kernel, by decide +kernel, by decide +kernel⟩
theorem mk_X10_worked : MK yX10_worked cX10_worked 3 (some .int) 3 := ⟨gtq (lq_6 (List.mem_of_getElem? (i := 207) rfl)) rfl, gtq (lq_1 (List.mem_of_getElem? (i := 10) rfl)) rfl, by decide +kernel, by decide +kernel, by decide +kernel⟩
theorem mk_X10_worthOf : MK yX10_worthOf cX10_worthOf 4 (some .int) 1 := ⟨gtq (lq_8 (List.mem_of_getElem? (i := 17) rfl)) rfl, gtq (lq_1 (List.mem_of_getElem? (i := 10) rfl)) rfl, by decide +kernel, by decide +kernel, by decide +kernel⟩
theorem mk_X10_yearGoes : MK yX10_yearGoes cX10_yearGoes 5 (none) 1 := ⟨gtq (lq_7 (List.mem_of_getElem? (i := 24) rfl)) rfl, gtq (lq_1 (List.mem_of_getElem? (i := 10) rfl)) rfl, by decide +kernel, by decide +kernel, by decide +kernel⟩
theorem mk_J6_bitCount_0f7a4 : MK yJ6_bitCount_0f7a4 cJ6_bitCount_0f7a4 1 (some .int) 1 := ⟨gtq (lq_3 (List.mem_of_getElem? (i := 9) rfl)) rfl, gtq (lq_1 (List.mem_of_getElem? (i := 21) rfl)) rfl, by decide +kernel, by decide +kernel, by decide +kernel⟩
theorem mk_J6_numberOfTrailingZeros_0f7a4 : MK yJ6_numberOfTrailingZeros_0f7a4 cJ6_numberOfTrailingZeros_0f7a4 2 (some .int) 1 := ⟨gtq (lq_7 (List.mem_of_getElem? (i := 105) rfl)) rfl, gtq (lq_1 (List.mem_of_getElem? (i := 21) rfl)) rfl, by decide +kernel, by decide +kernel, by decide +kernel⟩
theorem mk_J13_bitCount_95d88 : MK yJ13_bitCount_95d88 cJ13_bitCount_95d88 2 (some .int) 1 := ⟨gtq (lq_3 (List.mem_of_getElem? (i := 184) rfl)) rfl, gtq (lq_1 (List.mem_of_getElem? (i := 22) rfl)) rfl, by decide +kernel, by decide +kernel, by decide +kernel⟩
theorem mk_J7_fill_d0a16 : MK yJ7_fill_d0a16 cJ7_fill_d0a16 5 (none) 2 := ⟨gtq (lq_4 (List.mem_of_getElem? (i := 44) rfl)) rfl, gtq (lq_1 (List.mem_of_getElem? (i := 23) rfl)) rfl, by decide +kernel, by decide +kernel, by decide +kernel⟩
theorem cn_X0_156 : NS RX0 156 yX9_areSides "FieldKeepsCamps" := ⟨List.mem_filter.mpr ⟨lq_3 (List.mem_of_getElem? (i := 76) rfl), rfl⟩, gtq (lq_3 (List.mem_of_getElem? (i := 77) rfl)) rfl⟩
theorem cn_X0_84 : NS RX0 84 yX9_isIn "FieldKeepsCamps" := ⟨List.mem_filter.mpr ⟨lq_3 (List.mem_of_getElem? (i := 203) rfl), rfl⟩, gtq (lq_3 (List.mem_of_getElem? (i := 204) rfl)) rfl⟩
theorem cn_X3_15 : NI RX3 15 yX0_init "FieldKeepsCamps" := ⟨List.mem_filter.mpr ⟨lq_1 (List.mem_of_getElem? (i := 134) rfl), rfl⟩, gtq (lq_1 (List.mem_of_getElem? (i := 69) rfl)) rfl, rfl⟩
theorem cn_X4_84 : NS RX4 84 yX9_digitOf "FieldKeepsCamps" := ⟨List.mem_filter.mpr ⟨lq_3 (List.mem_of_getElem? (i := 35) rfl), rfl⟩, gtq (lq_2 (List.mem_of_getElem? (i := 208) rfl)) rfl⟩
theorem cn_X9_18 : NI RX9 18 yX7_init "FieldKeepsCamps" := ⟨List.mem_filter.mpr ⟨lq_1 (List.mem_of_getElem? (i := 51) rfl), rfl⟩, gtq (lq_1 (List.mem_of_getElem? (i := 52) rfl)) rfl, rfl⟩
theorem cn_X9_25 : NI RX9 25 yX0_init "FieldKeepsCamps" := ⟨List.mem_filter.mpr ⟨lq_1 (List.mem_of_getElem? (i := 68) rfl), rfl⟩, gtq (lq_1 (List.mem_of_getElem? (i := 69) rfl)) rfl, rfl⟩
theorem cn_X9_49 : NI RX9 49 yX4_init "FieldKeepsCamps" := ⟨List.mem_filter.mpr ⟨lq_1 (List.mem_of_getElem? (i := 148) rfl), rfl⟩, gtq (lq_1 (List.mem_of_getElem? (i := 149) rfl)) rfl, rfl⟩
theorem cn_X9_59 : NI RX9 59 yX5_init "FieldKeepsCamps" := ⟨List.mem_filter.mpr ⟨lq_1 (List.mem_of_getElem? (i := 173) rfl), rfl⟩, gtq (lq_1 (List.mem_of_getElem? (i := 174) rfl)) rfl, rfl⟩
theorem cn_X9_78 : NI RX9 78 yX8_init "FieldKeepsCamps" := ⟨List.mem_filter.mpr ⟨lq_1 (List.mem_of_getElem? (i := 215) rfl), rfl⟩, gtq (lq_1 (List.mem_of_getElem? (i := 216) rfl)) rfl, rfl⟩
theorem cn_X9_9 : NI RX9 9 yX6_init "FieldKeepsCamps" := ⟨List.mem_filter.mpr ⟨lq_1 (List.mem_of_getElem? (i := 35) rfl), rfl⟩, gtq (lq_1 (List.mem_of_getElem? (i := 36) rfl)) rfl, rfl⟩
theorem nl_X3_9 : NL RX3 9 0 := ⟨RX0, TX0, tyX0, rfl, inw_0, tyX0_ok, gtq (lq_1 (List.mem_of_getElem? (i := 132) rfl)) rfl, gtq (lq_1 (List.mem_of_getElem? (i := 67) rfl)) rfl, gtq (lq_1 (List.mem_of_getElem? (i := 4) rfl)) rfl, fun j hj => match j, hj with | 0, _ => rfl | 1, _ => rfl | 2, _ => rfl | 3, _ => rfl | 4, _ => rfl | 5, _ => rfl | 6, _ => rfl | 7, _ => rfl | 8, _ => rfl | 9, _ => rfl | 10, _ => rfl | 11, _ => rfl | n + 12, hn => absurd hn (by show ¬ (n + 12 < 12); omega)⟩
theorem nl_X9_16 : NL RX9 16 7 := ⟨RX7, TX7, tyX7, rfl, inw_7, tyX7_ok, gtq (lq_1 (List.mem_of_getElem? (i := 49) rfl)) rfl, gtq (lq_1 (List.mem_of_getElem? (i := 50) rfl)) rfl, gtq (lq_1 (List.mem_of_getElem? (i := 3) rfl)) rfl, fun j hj => match j, hj with | 0, _ => rfl | 1, _ => rfl | n + 2, hn => absurd hn (by show ¬ (n + 2 < 2); omega)⟩
theorem nl_X9_23 : NL RX9 23 0 := ⟨RX0, TX0, tyX0, rfl, inw_0, tyX0_ok, gtq (lq_1 (List.mem_of_getElem? (i := 66) rfl)) rfl, gtq (lq_1 (List.mem_of_getElem? (i := 67) rfl)) rfl, gtq (lq_1 (List.mem_of_getElem? (i := 4) rfl)) rfl, fun j hj => match j, hj with | 0, _ => rfl | 1, _ => rfl | 2, _ => rfl | 3, _ => rfl | 4, _ => rfl | 5, _ => rfl | 6, _ => rfl | 7, _ => rfl | 8, _ => rfl | 9, _ => rfl | 10, _ => rfl | 11, _ => rfl | n + 12, hn => absurd hn (by show ¬ (n + 12 < 12); omega)⟩
theorem nl_X9_36 : NL RX9 36 3 := ⟨RX3, TX3, tyX3, rfl, inw_3, tyX3_ok, gtq (lq_1 (List.mem_of_getElem? (i := 126) rfl)) rfl, gtq (lq_1 (List.mem_of_getElem? (i := 127) rfl)) rfl, gtq (lq_1 (List.mem_of_getElem? (i := 5) rfl)) rfl, fun j hj => match j, hj with | 0, _ => rfl | 1, _ => rfl | 2, _ => rfl | n + 3, hn => absurd hn (by show ¬ (n + 3 < 3); omega)⟩
theorem nl_X9_421 : NL RX9 421 1 := ⟨RX1, TX1, tyX1, rfl, inw_1, tyX1_ok, gtq (lq_4 (List.mem_of_getElem? (i := 230) rfl)) rfl, gtq (lq_4 (List.mem_of_getElem? (i := 231) rfl)) rfl, gtq (lq_1 (List.mem_of_getElem? (i := 24) rfl)) rfl, fun j hj => match j, hj with | 0, _ => rfl | n + 1, hn => absurd hn (by show ¬ (n + 1 < 1); omega)⟩
theorem nl_X9_47 : NL RX9 47 4 := ⟨RX4, TX4, tyX4, rfl, inw_4, tyX4_ok, gtq (lq_1 (List.mem_of_getElem? (i := 146) rfl)) rfl, gtq (lq_1 (List.mem_of_getElem? (i := 147) rfl)) rfl, gtq (lq_1 (List.mem_of_getElem? (i := 6) rfl)) rfl, fun j hj => match j, hj with | 0, _ => rfl | 1, _ => rfl | 2, _ => rfl | 3, _ => rfl | 4, _ => rfl | 5, _ => rfl | n + 6, hn => absurd hn (by show ¬ (n + 6 < 6); omega)⟩
theorem nl_X9_57 : NL RX9 57 5 := ⟨RX5, TX5, tyX5, rfl, inw_5, tyX5_ok, gtq (lq_1 (List.mem_of_getElem? (i := 171) rfl)) rfl, gtq (lq_1 (List.mem_of_getElem? (i := 172) rfl)) rfl, gtq (lq_1 (List.mem_of_getElem? (i := 7) rfl)) rfl, fun j hj => match j, hj with | 0, _ => rfl | 1, _ => rfl | 2, _ => rfl | 3, _ => rfl | n + 4, hn => absurd hn (by show ¬ (n + 4 < 4); omega)⟩
theorem nl_X9_64 : NL RX9 64 2 := ⟨RX2, TX2, tyX2, rfl, inw_2, tyX2_ok, gtq (lq_1 (List.mem_of_getElem? (i := 190) rfl)) rfl, gtq (lq_1 (List.mem_of_getElem? (i := 191) rfl)) rfl, gtq (lq_1 (List.mem_of_getElem? (i := 8) rfl)) rfl, fun j hj => match j, hj with | 0, _ => rfl | 1, _ => rfl | 2, _ => rfl | 3, _ => rfl | n + 4, hn => absurd hn (by show ¬ (n + 4 < 4); omega)⟩
theorem nl_X9_7 : NL RX9 7 6 := ⟨RX6, TX6, tyX6, rfl, inw_6, tyX6_ok, gtq (lq_1 (List.mem_of_getElem? (i := 33) rfl)) rfl, gtq (lq_1 (List.mem_of_getElem? (i := 34) rfl)) rfl, gtq (lq_1 (List.mem_of_getElem? (i := 2) rfl)) rfl, fun j hj => match j, hj with | 0, _ => rfl | 1, _ => rfl | n + 2, hn => absurd hn (by show ¬ (n + 2 < 2); omega)⟩
theorem nl_X9_76 : NL RX9 76 8 := ⟨RX8, TX8, tyX8, rfl, inw_8, tyX8_ok, gtq (lq_1 (List.mem_of_getElem? (i := 213) rfl)) rfl, gtq (lq_1 (List.mem_of_getElem? (i := 214) rfl)) rfl, gtq (lq_1 (List.mem_of_getElem? (i := 9) rfl)) rfl, fun j hj => match j, hj with | 0, _ => rfl | 1, _ => rfl | 2, _ => rfl | 3, _ => rfl | 4, _ => rfl | n + 5, hn => absurd hn (by show ¬ (n + 5 < 5); omega)⟩
theorem lk_Mmax_s : Cond.static yJ9_max_7cf53 ∈ gt := gtq (lq_2 (List.mem_of_getElem? (i := 202) rfl)) rfl
theorem lk_Mmin_s : Cond.static yJ9_min_7cf53 ∈ gt := gtq (lq_2 (List.mem_of_getElem? (i := 117) rfl)) rfl
