theorem dL_camp_0 : decode cL_camp 0 = .ok (.aload_n 3, 1) := by decide +kernel
theorem dL_camp_1 : decode cL_camp 1 = .ok (.iconst 0, 1) := by decide +kernel
theorem dL_camp_2 : decode cL_camp 2 = .ok (.aload_n 0, 1) := by decide +kernel
theorem dL_camp_3 : decode cL_camp 3 = .ok (.iload_n 1, 1) := by decide +kernel
theorem dL_camp_4 : decode cL_camp 4 = .ok (.iload_n 2, 1) := by decide +kernel
theorem dL_camp_5 : decode cL_camp 5 = .ok (.invokevirtual 7, 3) := by decide +kernel
theorem dL_camp_8 : decode cL_camp 8 = .ok (.i2l, 1) := by decide +kernel
theorem dL_camp_9 : decode cL_camp 9 = .ok (.lastore, 1) := by decide +kernel
theorem dL_camp_10 : decode cL_camp 10 = .ok (.goto 7, 3) := by decide +kernel
theorem dL_camp_13 : decode cL_camp 13 = .ok (.astore 4, 2) := by decide +kernel
theorem dL_camp_15 : decode cL_camp 15 = .ok (.iconst 1, 1) := by decide +kernel
theorem dL_camp_16 : decode cL_camp 16 = .ok (.ireturn, 1) := by decide +kernel
theorem dL_camp_17 : decode cL_camp 17 = .ok (.iconst 0, 1) := by decide +kernel
theorem dL_camp_18 : decode cL_camp 18 = .ok (.ireturn, 1) := by decide +kernel
theorem dL_cell_0 : decode cL_cell 0 = .ok (.aload_n 3, 1) := by decide +kernel
theorem dL_cell_1 : decode cL_cell 1 = .ok (.iconst 0, 1) := by decide +kernel
theorem dL_cell_2 : decode cL_cell 2 = .ok (.aload_n 0, 1) := by decide +kernel
theorem dL_cell_3 : decode cL_cell 3 = .ok (.iload_n 1, 1) := by decide +kernel
theorem dL_cell_4 : decode cL_cell 4 = .ok (.iload_n 2, 1) := by decide +kernel
theorem dL_cell_5 : decode cL_cell 5 = .ok (.invokevirtual 15, 3) := by decide +kernel
theorem dL_cell_8 : decode cL_cell 8 = .ok (.i2l, 1) := by decide +kernel
theorem dL_cell_9 : decode cL_cell 9 = .ok (.lastore, 1) := by decide +kernel
theorem dL_cell_10 : decode cL_cell 10 = .ok (.goto 7, 3) := by decide +kernel
theorem dL_cell_13 : decode cL_cell 13 = .ok (.astore 4, 2) := by decide +kernel
theorem dL_cell_15 : decode cL_cell 15 = .ok (.iconst 1, 1) := by decide +kernel
theorem dL_cell_16 : decode cL_cell 16 = .ok (.ireturn, 1) := by decide +kernel
theorem dL_cell_17 : decode cL_cell 17 = .ok (.iconst 0, 1) := by decide +kernel
theorem dL_cell_18 : decode cL_cell 18 = .ok (.ireturn, 1) := by decide +kernel
theorem dL_row_0 : decode cL_row 0 = .ok (.aload_n 2, 1) := by decide +kernel
theorem dL_row_1 : decode cL_row 1 = .ok (.iconst 0, 1) := by decide +kernel
theorem dL_row_2 : decode cL_row 2 = .ok (.aload_n 0, 1) := by decide +kernel
theorem dL_row_3 : decode cL_row 3 = .ok (.iload_n 1, 1) := by decide +kernel
theorem dL_row_4 : decode cL_row 4 = .ok (.invokevirtual 18, 3) := by decide +kernel
theorem dL_row_7 : decode cL_row 7 = .ok (.lastore, 1) := by decide +kernel
theorem dL_row_8 : decode cL_row 8 = .ok (.goto 6, 3) := by decide +kernel
theorem dL_row_11 : decode cL_row 11 = .ok (.astore_n 3, 1) := by decide +kernel
theorem dL_row_12 : decode cL_row 12 = .ok (.iconst 1, 1) := by decide +kernel
theorem dL_row_13 : decode cL_row 13 = .ok (.ireturn, 1) := by decide +kernel
theorem dL_row_14 : decode cL_row 14 = .ok (.iconst 0, 1) := by decide +kernel
theorem dL_row_15 : decode cL_row 15 = .ok (.ireturn, 1) := by decide +kernel
