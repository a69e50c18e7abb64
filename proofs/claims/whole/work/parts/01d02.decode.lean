theorem dX9_cell_23 : decode cX9_cell 23 = .ok (.dup, 1) := by decide +kernel
theorem dX9_cell_24 : decode cX9_cell 24 = .ok (.invokespecial 160, 3) := by decide +kernel
theorem dX9_cell_27 : decode cX9_cell 27 = .ok (.athrow, 1) := by decide +kernel
theorem dX9_cell_28 : decode cX9_cell 28 = .ok (.iload_n 2, 1) := by decide +kernel
theorem dX9_cell_29 : decode cX9_cell 29 = .ok (.ifCond .ne 12, 3) := by decide +kernel
theorem dX9_cell_32 : decode cX9_cell 32 = .ok (.aload_n 0, 1) := by decide +kernel
theorem dX9_cell_33 : decode cX9_cell 33 = .ok (.getfield 26, 3) := by decide +kernel
theorem dX9_cell_36 : decode cX9_cell 36 = .ok (.iload_n 1, 1) := by decide +kernel
theorem dX9_cell_37 : decode cX9_cell 37 = .ok (.invokevirtual 189, 3) := by decide +kernel
theorem dX9_cell_40 : decode cX9_cell 40 = .ok (.ireturn, 1) := by decide +kernel
theorem dX9_cell_41 : decode cX9_cell 41 = .ok (.iload_n 2, 1) := by decide +kernel
theorem dX9_cell_42 : decode cX9_cell 42 = .ok (.iconst 1, 1) := by decide +kernel
theorem dX9_cell_43 : decode cX9_cell 43 = .ok (.if_icmp .ne 14, 3) := by decide +kernel
theorem dX9_cell_46 : decode cX9_cell 46 = .ok (.aload_n 0, 1) := by decide +kernel
theorem dX9_cell_47 : decode cX9_cell 47 = .ok (.getfield 26, 3) := by decide +kernel
theorem dX9_cell_50 : decode cX9_cell 50 = .ok (.iload_n 1, 1) := by decide +kernel
theorem dX9_cell_51 : decode cX9_cell 51 = .ok (.invokevirtual 192, 3) := by decide +kernel
theorem dX9_cell_54 : decode cX9_cell 54 = .ok (.goto 11, 3) := by decide +kernel
theorem dX9_cell_57 : decode cX9_cell 57 = .ok (.aload_n 0, 1) := by decide +kernel
theorem dX9_cell_58 : decode cX9_cell 58 = .ok (.getfield 26, 3) := by decide +kernel
theorem dX9_cell_61 : decode cX9_cell 61 = .ok (.iload_n 1, 1) := by decide +kernel
theorem dX9_cell_62 : decode cX9_cell 62 = .ok (.invokevirtual 195, 3) := by decide +kernel
theorem dX9_cell_65 : decode cX9_cell 65 = .ok (.ireturn, 1) := by decide +kernel
theorem dX9_sheet_0 : decode cX9_sheet 0 = .ok (.iload_n 1, 1) := by decide +kernel
theorem dX9_sheet_1 : decode cX9_sheet 1 = .ok (.ifCond .lt 14, 3) := by decide +kernel
theorem dX9_sheet_4 : decode cX9_sheet 4 = .ok (.iload_n 1, 1) := by decide +kernel
theorem dX9_sheet_5 : decode cX9_sheet 5 = .ok (.iconst 3, 1) := by decide +kernel
theorem dX9_sheet_6 : decode cX9_sheet 6 = .ok (.if_icmp .gt 9, 3) := by decide +kernel
theorem dX9_sheet_9 : decode cX9_sheet 9 = .ok (.iload_n 2, 1) := by decide +kernel
theorem dX9_sheet_10 : decode cX9_sheet 10 = .ok (.bipush 8, 2) := by decide +kernel
theorem dX9_sheet_12 : decode cX9_sheet 12 = .ok (.if_icmp .le 5, 3) := by decide +kernel
theorem dX9_sheet_15 : decode cX9_sheet 15 = .ok (.iconst (-1), 1) := by decide +kernel
theorem dX9_sheet_16 : decode cX9_sheet 16 = .ok (.ireturn, 1) := by decide +kernel
theorem dX9_sheet_17 : decode cX9_sheet 17 = .ok (.iload_n 1, 1) := by decide +kernel
theorem dX9_sheet_18 : decode cX9_sheet 18 = .ok (.iconst 3, 1) := by decide +kernel
theorem dX9_sheet_19 : decode cX9_sheet 19 = .ok (.if_icmp .ne 14, 3) := by decide +kernel
theorem dX9_sheet_22 : decode cX9_sheet 22 = .ok (.aload_n 0, 1) := by decide +kernel
theorem dX9_sheet_23 : decode cX9_sheet 23 = .ok (.getfield 26, 3) := by decide +kernel
theorem dX9_sheet_26 : decode cX9_sheet 26 = .ok (.iconst 0, 1) := by decide +kernel
theorem dX9_sheet_27 : decode cX9_sheet 27 = .ok (.invokevirtual 198, 3) := by decide +kernel
theorem dX9_sheet_30 : decode cX9_sheet 30 = .ok (.bipush (-3), 2) := by decide +kernel
theorem dX9_sheet_32 : decode cX9_sheet 32 = .ok (.ireturn, 1) := by decide +kernel
theorem dX9_sheet_33 : decode cX9_sheet 33 = .ok (.iload_n 2, 1) := by decide +kernel
theorem dX9_sheet_34 : decode cX9_sheet 34 = .ok (.ifCond .ge 6, 3) := by decide +kernel
theorem dX9_sheet_37 : decode cX9_sheet 37 = .ok (.bipush (-2), 2) := by decide +kernel
theorem dX9_sheet_39 : decode cX9_sheet 39 = .ok (.ireturn, 1) := by decide +kernel
theorem dX9_sheet_40 : decode cX9_sheet 40 = .ok (.iconst 0, 1) := by decide +kernel
theorem dX9_sheet_41 : decode cX9_sheet 41 = .ok (.istore 5, 2) := by decide +kernel
theorem dX9_sheet_43 : decode cX9_sheet 43 = .ok (.iload 5, 2) := by decide +kernel
theorem dX9_sheet_45 : decode cX9_sheet 45 = .ok (.iload_n 2, 1) := by decide +kernel
theorem dX9_sheet_46 : decode cX9_sheet 46 = .ok (.if_icmp .ge 45, 3) := by decide +kernel
theorem dX9_sheet_49 : decode cX9_sheet 49 = .ok (.iload 5, 2) := by decide +kernel
theorem dX9_sheet_51 : decode cX9_sheet 51 = .ok (.aload_n 0, 1) := by decide +kernel
theorem dX9_sheet_52 : decode cX9_sheet 52 = .ok (.getfield 26, 3) := by decide +kernel
theorem dX9_sheet_55 : decode cX9_sheet 55 = .ok (.getfield 146, 3) := by decide +kernel
theorem dX9_sheet_58 : decode cX9_sheet 58 = .ok (.if_icmp .ge 33, 3) := by decide +kernel
theorem dX9_sheet_61 : decode cX9_sheet 61 = .ok (.aload_n 0, 1) := by decide +kernel
theorem dX9_sheet_62 : decode cX9_sheet 62 = .ok (.getfield 26, 3) := by decide +kernel
theorem dX9_sheet_65 : decode cX9_sheet 65 = .ok (.getfield 170, 3) := by decide +kernel
theorem dX9_sheet_68 : decode cX9_sheet 68 = .ok (.iload 5, 2) := by decide +kernel
theorem dX9_sheet_70 : decode cX9_sheet 70 = .ok (.iload_n 1, 1) := by decide +kernel
theorem dX9_sheet_71 : decode cX9_sheet 71 = .ok (.iload_n 3, 1) := by decide +kernel
theorem dX9_sheet_72 : decode cX9_sheet 72 = .ok (.iload 5, 2) := by decide +kernel
theorem dX9_sheet_74 : decode cX9_sheet 74 = .ok (.iload 4, 2) := by decide +kernel
theorem dX9_sheet_76 : decode cX9_sheet 76 = .ok (.imul, 1) := by decide +kernel
theorem dX9_sheet_77 : decode cX9_sheet 77 = .ok (.iadd, 1) := by decide +kernel
theorem dX9_sheet_78 : decode cX9_sheet 78 = .ok (.invokestatic 201, 3) := by decide +kernel
theorem dX9_sheet_81 : decode cX9_sheet 81 = .ok (.invokestatic 204, 3) := by decide +kernel
theorem dX9_sheet_84 : decode cX9_sheet 84 = .ok (.iastore, 1) := by decide +kernel
theorem dX9_sheet_85 : decode cX9_sheet 85 = .ok (.iinc 5 1, 3) := by decide +kernel
theorem dX9_sheet_88 : decode cX9_sheet 88 = .ok (.goto (-45), 3) := by decide +kernel
theorem dX9_sheet_91 : decode cX9_sheet 91 = .ok (.aload_n 0, 1) := by decide +kernel
theorem dX9_sheet_92 : decode cX9_sheet 92 = .ok (.getfield 26, 3) := by decide +kernel
theorem dX9_sheet_95 : decode cX9_sheet 95 = .ok (.iload_n 2, 1) := by decide +kernel
theorem dX9_sheet_96 : decode cX9_sheet 96 = .ok (.invokevirtual 198, 3) := by decide +kernel
theorem dX9_sheet_99 : decode cX9_sheet 99 = .ok (.aload_n 0, 1) := by decide +kernel
theorem dX9_sheet_100 : decode cX9_sheet 100 = .ok (.getfield 26, 3) := by decide +kernel
theorem dX9_sheet_103 : decode cX9_sheet 103 = .ok (.invokevirtual 207, 3) := by decide +kernel
theorem dX9_sheet_106 : decode cX9_sheet 106 = .ok (.ireturn, 1) := by decide +kernel
theorem dX9_entry_0 : decode cX9_entry 0 = .ok (.iload_n 0, 1) := by decide +kernel
theorem dX9_entry_1 : decode cX9_entry 1 = .ok (.ifCond .ne 6, 3) := by decide +kernel
theorem dX9_entry_4 : decode cX9_entry 4 = .ok (.iload_n 1, 1) := by decide +kernel
theorem dX9_entry_5 : decode cX9_entry 5 = .ok (.i2b, 1) := by decide +kernel
theorem dX9_entry_6 : decode cX9_entry 6 = .ok (.ireturn, 1) := by decide +kernel
theorem dX9_entry_7 : decode cX9_entry 7 = .ok (.iload_n 0, 1) := by decide +kernel
theorem dX9_entry_8 : decode cX9_entry 8 = .ok (.iconst 1, 1) := by decide +kernel
theorem dX9_entry_9 : decode cX9_entry 9 = .ok (.if_icmp .ne 8, 3) := by decide +kernel
theorem dX9_entry_12 : decode cX9_entry 12 = .ok (.iload_n 1, 1) := by decide +kernel
theorem dX9_entry_13 : decode cX9_entry 13 = .ok (.i2s, 1) := by decide +kernel
theorem dX9_entry_14 : decode cX9_entry 14 = .ok (.goto 4, 3) := by decide +kernel
theorem dX9_entry_17 : decode cX9_entry 17 = .ok (.iload_n 1, 1) := by decide +kernel
theorem dX9_entry_18 : decode cX9_entry 18 = .ok (.ireturn, 1) := by decide +kernel
theorem dX9_digitOf_0 : decode cX9_digitOf 0 = .ok (.iconst 0, 1) := by decide +kernel
theorem dX9_digitOf_1 : decode cX9_digitOf 1 = .ok (.bipush 9, 2) := by decide +kernel
theorem dX9_digitOf_3 : decode cX9_digitOf 3 = .ok (.iload_n 0, 1) := by decide +kernel
theorem dX9_digitOf_4 : decode cX9_digitOf 4 = .ok (.invokestatic 129, 3) := by decide +kernel
theorem dX9_digitOf_7 : decode cX9_digitOf 7 = .ok (.invokestatic 210, 3) := by decide +kernel
theorem dX9_digitOf_10 : decode cX9_digitOf 10 = .ok (.ireturn, 1) := by decide +kernel
theorem dX9_years_0 : decode cX9_years 0 = .ok (.iload_n 1, 1) := by decide +kernel
theorem dX9_years_1 : decode cX9_years 1 = .ok (.ifCond .lt 9, 3) := by decide +kernel
theorem dX9_years_4 : decode cX9_years 4 = .ok (.iload_n 1, 1) := by decide +kernel
theorem dX9_years_5 : decode cX9_years 5 = .ok (.bipush 60, 2) := by decide +kernel
theorem dX9_years_7 : decode cX9_years 7 = .ok (.if_icmp .le 5, 3) := by decide +kernel
theorem dX9_years_10 : decode cX9_years 10 = .ok (.iconst (-1), 1) := by decide +kernel
theorem dX9_years_11 : decode cX9_years 11 = .ok (.ireturn, 1) := by decide +kernel
theorem dX9_years_12 : decode cX9_years 12 = .ok (.aload_n 0, 1) := by decide +kernel
theorem dX9_years_13 : decode cX9_years 13 = .ok (.getfield 30, 3) := by decide +kernel
theorem dX9_years_16 : decode cX9_years 16 = .ok (.aload_n 0, 1) := by decide +kernel
theorem dX9_years_17 : decode cX9_years 17 = .ok (.getfield 26, 3) := by decide +kernel
theorem dX9_years_20 : decode cX9_years 20 = .ok (.invokevirtual 134, 3) := by decide +kernel
theorem dX9_years_23 : decode cX9_years 23 = .ok (.aload_n 0, 1) := by decide +kernel
theorem dX9_years_24 : decode cX9_years 24 = .ok (.getfield 26, 3) := by decide +kernel
theorem dX9_years_27 : decode cX9_years 27 = .ok (.aload_n 0, 1) := by decide +kernel
theorem dX9_years_28 : decode cX9_years 28 = .ok (.getfield 50, 3) := by decide +kernel
theorem dX9_years_31 : decode cX9_years 31 = .ok (.iload_n 1, 1) := by decide +kernel
theorem dX9_years_32 : decode cX9_years 32 = .ok (.invokevirtual 213, 3) := by decide +kernel
theorem dX9_years_35 : decode cX9_years 35 = .ok (.istore_n 2, 1) := by decide +kernel
theorem dX9_years_36 : decode cX9_years 36 = .ok (.aload_n 0, 1) := by decide +kernel
theorem dX9_years_37 : decode cX9_years 37 = .ok (.getfield 39, 3) := by decide +kernel
theorem dX9_years_40 : decode cX9_years 40 = .ok (.aload_n 0, 1) := by decide +kernel
theorem dX9_years_41 : decode cX9_years 41 = .ok (.getfield 30, 3) := by decide +kernel
theorem dX9_years_44 : decode cX9_years 44 = .ok (.invokevirtual 217, 3) := by decide +kernel
theorem dX9_years_47 : decode cX9_years 47 = .ok (.aload_n 0, 1) := by decide +kernel
theorem dX9_years_48 : decode cX9_years 48 = .ok (.getfield 19, 3) := by decide +kernel
theorem dX9_years_51 : decode cX9_years 51 = .ok (.invokevirtual 220, 3) := by decide +kernel
theorem dX9_years_54 : decode cX9_years 54 = .ok (.aload_n 0, 1) := by decide +kernel
theorem dX9_years_55 : decode cX9_years 55 = .ok (.getfield 19, 3) := by decide +kernel
theorem dX9_years_58 : decode cX9_years 58 = .ok (.iload_n 2, 1) := by decide +kernel
theorem dX9_years_59 : decode cX9_years 59 = .ok (.i2l, 1) := by decide +kernel
theorem dX9_years_60 : decode cX9_years 60 = .ok (.invokevirtual 223, 3) := by decide +kernel
theorem dX9_years_63 : decode cX9_years 63 = .ok (.aload_n 0, 1) := by decide +kernel
theorem dX9_years_64 : decode cX9_years 64 = .ok (.getfield 19, 3) := by decide +kernel
theorem dX9_years_67 : decode cX9_years 67 = .ok (.aload_n 0, 1) := by decide +kernel
theorem dX9_years_68 : decode cX9_years 68 = .ok (.getfield 26, 3) := by decide +kernel
theorem dX9_years_71 : decode cX9_years 71 = .ok (.invokevirtual 207, 3) := by decide +kernel
theorem dX9_years_74 : decode cX9_years 74 = .ok (.i2l, 1) := by decide +kernel
theorem dX9_years_75 : decode cX9_years 75 = .ok (.invokevirtual 223, 3) := by decide +kernel
theorem dX9_years_78 : decode cX9_years 78 = .ok (.aload_n 0, 1) := by decide +kernel
theorem dX9_years_79 : decode cX9_years 79 = .ok (.getfield 26, 3) := by decide +kernel
theorem dX9_years_82 : decode cX9_years 82 = .ok (.invokevirtual 226, 3) := by decide +kernel
theorem dX9_years_85 : decode cX9_years 85 = .ok (.ireturn, 1) := by decide +kernel
theorem dX9_pitch_0 : decode cX9_pitch 0 = .ok (.aload_n 0, 1) := by decide +kernel
theorem dX9_pitch_1 : decode cX9_pitch 1 = .ok (.getfield 30, 3) := by decide +kernel
theorem dX9_pitch_4 : decode cX9_pitch 4 = .ok (.aload_n 0, 1) := by decide +kernel
theorem dX9_pitch_5 : decode cX9_pitch 5 = .ok (.getfield 26, 3) := by decide +kernel
theorem dX9_pitch_8 : decode cX9_pitch 8 = .ok (.invokevirtual 134, 3) := by decide +kernel
theorem dX9_pitch_11 : decode cX9_pitch 11 = .ok (.aload_n 0, 1) := by decide +kernel
theorem dX9_pitch_12 : decode cX9_pitch 12 = .ok (.aload_n 0, 1) := by decide +kernel
theorem dX9_pitch_13 : decode cX9_pitch 13 = .ok (.getfield 26, 3) := by decide +kernel
theorem dX9_pitch_16 : decode cX9_pitch 16 = .ok (.iload_n 1, 1) := by decide +kernel
theorem dX9_pitch_17 : decode cX9_pitch 17 = .ok (.iload_n 2, 1) := by decide +kernel
theorem dX9_pitch_18 : decode cX9_pitch 18 = .ok (.iload_n 3, 1) := by decide +kernel
theorem dX9_pitch_19 : decode cX9_pitch 19 = .ok (.iload 4, 2) := by decide +kernel
theorem dX9_pitch_21 : decode cX9_pitch 21 = .ok (.iload 5, 2) := by decide +kernel
theorem dX9_pitch_23 : decode cX9_pitch 23 = .ok (.invokevirtual 229, 3) := by decide +kernel
theorem dX9_pitch_26 : decode cX9_pitch 26 = .ok (.invokevirtual 233, 3) := by decide +kernel
theorem dX9_pitch_29 : decode cX9_pitch 29 = .ok (.ireturn, 1) := by decide +kernel
theorem dX9_treads_0 : decode cX9_treads 0 = .ok (.aload_n 0, 1) := by decide +kernel
theorem dX9_treads_1 : decode cX9_treads 1 = .ok (.getfield 30, 3) := by decide +kernel
theorem dX9_treads_4 : decode cX9_treads 4 = .ok (.aload_n 0, 1) := by decide +kernel
theorem dX9_treads_5 : decode cX9_treads 5 = .ok (.getfield 26, 3) := by decide +kernel
theorem dX9_treads_8 : decode cX9_treads 8 = .ok (.invokevirtual 134, 3) := by decide +kernel
theorem dX9_treads_11 : decode cX9_treads 11 = .ok (.aload_n 0, 1) := by decide +kernel
theorem dX9_treads_12 : decode cX9_treads 12 = .ok (.aload_n 0, 1) := by decide +kernel
theorem dX9_treads_13 : decode cX9_treads 13 = .ok (.getfield 26, 3) := by decide +kernel
theorem dX9_treads_16 : decode cX9_treads 16 = .ok (.iload_n 1, 1) := by decide +kernel
theorem dX9_treads_17 : decode cX9_treads 17 = .ok (.iload_n 2, 1) := by decide +kernel
theorem dX9_treads_18 : decode cX9_treads 18 = .ok (.invokevirtual 236, 3) := by decide +kernel
theorem dX9_treads_21 : decode cX9_treads 21 = .ok (.invokevirtual 233, 3) := by decide +kernel
theorem dX9_treads_24 : decode cX9_treads 24 = .ok (.ireturn, 1) := by decide +kernel
theorem dX9_sings_0 : decode cX9_sings 0 = .ok (.aload_n 0, 1) := by decide +kernel
theorem dX9_sings_1 : decode cX9_sings 1 = .ok (.getfield 30, 3) := by decide +kernel
theorem dX9_sings_4 : decode cX9_sings 4 = .ok (.aload_n 0, 1) := by decide +kernel
theorem dX9_sings_5 : decode cX9_sings 5 = .ok (.getfield 26, 3) := by decide +kernel
theorem dX9_sings_8 : decode cX9_sings 8 = .ok (.invokevirtual 134, 3) := by decide +kernel
theorem dX9_sings_11 : decode cX9_sings 11 = .ok (.aload_n 0, 1) := by decide +kernel
theorem dX9_sings_12 : decode cX9_sings 12 = .ok (.aload_n 0, 1) := by decide +kernel
theorem dX9_sings_13 : decode cX9_sings 13 = .ok (.getfield 26, 3) := by decide +kernel
theorem dX9_sings_16 : decode cX9_sings 16 = .ok (.iload_n 1, 1) := by decide +kernel
theorem dX9_sings_17 : decode cX9_sings 17 = .ok (.iload_n 2, 1) := by decide +kernel
theorem dX9_sings_18 : decode cX9_sings 18 = .ok (.invokevirtual 239, 3) := by decide +kernel
theorem dX9_sings_21 : decode cX9_sings 21 = .ok (.invokevirtual 233, 3) := by decide +kernel
theorem dX9_sings_24 : decode cX9_sings 24 = .ok (.ireturn, 1) := by decide +kernel
theorem dX9_moves_0 : decode cX9_moves 0 = .ok (.aload_n 0, 1) := by decide +kernel
theorem dX9_moves_1 : decode cX9_moves 1 = .ok (.getfield 30, 3) := by decide +kernel
theorem dX9_moves_4 : decode cX9_moves 4 = .ok (.aload_n 0, 1) := by decide +kernel
theorem dX9_moves_5 : decode cX9_moves 5 = .ok (.getfield 26, 3) := by decide +kernel
theorem dX9_moves_8 : decode cX9_moves 8 = .ok (.invokevirtual 134, 3) := by decide +kernel
theorem dX9_moves_11 : decode cX9_moves 11 = .ok (.aload_n 0, 1) := by decide +kernel
theorem dX9_moves_12 : decode cX9_moves 12 = .ok (.aload_n 0, 1) := by decide +kernel
theorem dX9_moves_13 : decode cX9_moves 13 = .ok (.getfield 26, 3) := by decide +kernel
theorem dX9_moves_16 : decode cX9_moves 16 = .ok (.iload_n 1, 1) := by decide +kernel
theorem dX9_moves_17 : decode cX9_moves 17 = .ok (.iload_n 2, 1) := by decide +kernel
theorem dX9_moves_18 : decode cX9_moves 18 = .ok (.invokevirtual 242, 3) := by decide +kernel
theorem dX9_moves_21 : decode cX9_moves 21 = .ok (.invokevirtual 233, 3) := by decide +kernel
theorem dX9_moves_24 : decode cX9_moves 24 = .ok (.ireturn, 1) := by decide +kernel
theorem dX9_noted_0 : decode cX9_noted 0 = .ok (.iload_n 1, 1) := by decide +kernel
theorem dX9_noted_1 : decode cX9_noted 1 = .ok (.ifCond .lt 14, 3) := by decide +kernel
theorem dX9_noted_4 : decode cX9_noted 4 = .ok (.aload_n 0, 1) := by decide +kernel
theorem dX9_noted_5 : decode cX9_noted 5 = .ok (.getfield 39, 3) := by decide +kernel
theorem dX9_noted_8 : decode cX9_noted 8 = .ok (.aload_n 0, 1) := by decide +kernel
theorem dX9_noted_9 : decode cX9_noted 9 = .ok (.getfield 30, 3) := by decide +kernel
theorem dX9_noted_12 : decode cX9_noted 12 = .ok (.invokevirtual 217, 3) := by decide +kernel
theorem dX9_noted_15 : decode cX9_noted 15 = .ok (.iload_n 1, 1) := by decide +kernel
theorem dX9_noted_16 : decode cX9_noted 16 = .ok (.ireturn, 1) := by decide +kernel
theorem dX9_story_0 : decode cX9_story 0 = .ok (.aload_n 0, 1) := by decide +kernel
theorem dX9_story_1 : decode cX9_story 1 = .ok (.invokevirtual 245, 3) := by decide +kernel
theorem dX9_story_4 : decode cX9_story 4 = .ok (.istore_n 1, 1) := by decide +kernel
theorem dX9_story_5 : decode cX9_story 5 = .ok (.iload_n 1, 1) := by decide +kernel
theorem dX9_story_6 : decode cX9_story 6 = .ok (.iconst (-1), 1) := by decide +kernel
theorem dX9_story_7 : decode cX9_story 7 = .ok (.if_icmp .eq 15, 3) := by decide +kernel
theorem dX9_story_10 : decode cX9_story 10 = .ok (.aload_n 0, 1) := by decide +kernel
theorem dX9_story_11 : decode cX9_story 11 = .ok (.getfield 10, 3) := by decide +kernel
theorem dX9_story_14 : decode cX9_story 14 = .ok (.iconst 0, 1) := by decide +kernel
theorem dX9_story_15 : decode cX9_story 15 = .ok (.putfield 93, 3) := by decide +kernel
theorem dX9_story_18 : decode cX9_story 18 = .ok (.iconst (-1), 1) := by decide +kernel
theorem dX9_story_19 : decode cX9_story 19 = .ok (.iload_n 1, 1) := by decide +kernel
theorem dX9_story_20 : decode cX9_story 20 = .ok (.isub, 1) := by decide +kernel
theorem dX9_story_21 : decode cX9_story 21 = .ok (.ireturn, 1) := by decide +kernel
theorem dX9_story_22 : decode cX9_story 22 = .ok (.aload_n 0, 1) := by decide +kernel
theorem dX9_story_23 : decode cX9_story 23 = .ok (.getfield 30, 3) := by decide +kernel
theorem dX9_story_26 : decode cX9_story 26 = .ok (.aload_n 0, 1) := by decide +kernel
theorem dX9_story_27 : decode cX9_story 27 = .ok (.getfield 26, 3) := by decide +kernel
theorem dX9_story_30 : decode cX9_story 30 = .ok (.invokevirtual 134, 3) := by decide +kernel
theorem dX9_story_33 : decode cX9_story 33 = .ok (.iconst 0, 1) := by decide +kernel
theorem dX9_story_34 : decode cX9_story 34 = .ok (.istore_n 2, 1) := by decide +kernel
theorem dX9_story_35 : decode cX9_story 35 = .ok (.iconst 0, 1) := by decide +kernel
theorem dX9_story_36 : decode cX9_story 36 = .ok (.istore_n 3, 1) := by decide +kernel
theorem dX9_story_37 : decode cX9_story 37 = .ok (.iconst 0, 1) := by decide +kernel
theorem dX9_story_38 : decode cX9_story 38 = .ok (.istore 4, 2) := by decide +kernel
theorem dX9_story_40 : decode cX9_story 40 = .ok (.iconst 0, 1) := by decide +kernel
theorem dX9_story_41 : decode cX9_story 41 = .ok (.istore 5, 2) := by decide +kernel
theorem dX9_story_43 : decode cX9_story 43 = .ok (.iload 5, 2) := by decide +kernel
theorem dX9_story_45 : decode cX9_story 45 = .ok (.bipush 60, 2) := by decide +kernel
theorem dX9_story_47 : decode cX9_story 47 = .ok (.if_icmp .ge 61, 3) := by decide +kernel
theorem dX9_story_50 : decode cX9_story 50 = .ok (.iload 4, 2) := by decide +kernel
theorem dX9_story_52 : decode cX9_story 52 = .ok (.aload_n 0, 1) := by decide +kernel
theorem dX9_story_53 : decode cX9_story 53 = .ok (.getfield 10, 3) := by decide +kernel
theorem dX9_story_56 : decode cX9_story 56 = .ok (.getfield 93, 3) := by decide +kernel
theorem dX9_story_59 : decode cX9_story 59 = .ok (.if_icmp .ge 49, 3) := by decide +kernel
theorem dX9_story_62 : decode cX9_story 62 = .ok (.iload_n 3, 1) := by decide +kernel
theorem dX9_story_63 : decode cX9_story 63 = .ok (.ifCond .ne 45, 3) := by decide +kernel
theorem dX9_story_66 : decode cX9_story 66 = .ok (.aload_n 0, 1) := by decide +kernel
theorem dX9_story_67 : decode cX9_story 67 = .ok (.iload 4, 2) := by decide +kernel
theorem dX9_story_69 : decode cX9_story 69 = .ok (.invokevirtual 248, 3) := by decide +kernel
theorem dX9_story_72 : decode cX9_story 72 = .ok (.ifCond .ge 8, 3) := by decide +kernel
theorem dX9_story_75 : decode cX9_story 75 = .ok (.iconst 1, 1) := by decide +kernel
theorem dX9_story_76 : decode cX9_story 76 = .ok (.istore_n 3, 1) := by decide +kernel
theorem dX9_story_77 : decode cX9_story 77 = .ok (.goto 6, 3) := by decide +kernel
theorem dX9_story_80 : decode cX9_story 80 = .ok (.iinc 2 1, 3) := by decide +kernel
theorem dX9_story_83 : decode cX9_story 83 = .ok (.iload 4, 2) := by decide +kernel
theorem dX9_story_85 : decode cX9_story 85 = .ok (.iconst 1, 1) := by decide +kernel
theorem dX9_story_86 : decode cX9_story 86 = .ok (.aload_n 0, 1) := by decide +kernel
theorem dX9_story_87 : decode cX9_story 87 = .ok (.getfield 10, 3) := by decide +kernel
theorem dX9_story_90 : decode cX9_story 90 = .ok (.iload 4, 2) := by decide +kernel
theorem dX9_story_92 : decode cX9_story 92 = .ok (.invokevirtual 142, 3) := by decide +kernel
theorem dX9_story_95 : decode cX9_story 95 = .ok (.invokestatic 251, 3) := by decide +kernel
theorem dX9_story_98 : decode cX9_story 98 = .ok (.iadd, 1) := by decide +kernel
theorem dX9_story_99 : decode cX9_story 99 = .ok (.iadd, 1) := by decide +kernel
theorem dX9_story_100 : decode cX9_story 100 = .ok (.istore 4, 2) := by decide +kernel
theorem dX9_story_102 : decode cX9_story 102 = .ok (.iinc 5 1, 3) := by decide +kernel
theorem dX9_story_105 : decode cX9_story 105 = .ok (.goto (-62), 3) := by decide +kernel
theorem dX9_story_108 : decode cX9_story 108 = .ok (.aload_n 0, 1) := by decide +kernel
theorem dX9_story_109 : decode cX9_story 109 = .ok (.getfield 10, 3) := by decide +kernel
theorem dX9_story_112 : decode cX9_story 112 = .ok (.iconst 0, 1) := by decide +kernel
theorem dX9_story_113 : decode cX9_story 113 = .ok (.putfield 93, 3) := by decide +kernel
theorem dX9_story_116 : decode cX9_story 116 = .ok (.iload_n 2, 1) := by decide +kernel
theorem dX9_story_117 : decode cX9_story 117 = .ok (.ifCond .le 14, 3) := by decide +kernel
theorem dX9_story_120 : decode cX9_story 120 = .ok (.aload_n 0, 1) := by decide +kernel
theorem dX9_story_121 : decode cX9_story 121 = .ok (.getfield 39, 3) := by decide +kernel
theorem dX9_story_124 : decode cX9_story 124 = .ok (.aload_n 0, 1) := by decide +kernel
theorem dX9_story_125 : decode cX9_story 125 = .ok (.getfield 30, 3) := by decide +kernel
theorem dX9_story_128 : decode cX9_story 128 = .ok (.invokevirtual 217, 3) := by decide +kernel
theorem dX9_story_131 : decode cX9_story 131 = .ok (.aload_n 0, 1) := by decide +kernel
theorem dX9_story_132 : decode cX9_story 132 = .ok (.getfield 19, 3) := by decide +kernel
theorem dX9_story_135 : decode cX9_story 135 = .ok (.invokevirtual 220, 3) := by decide +kernel
theorem dX9_story_138 : decode cX9_story 138 = .ok (.aload_n 0, 1) := by decide +kernel
theorem dX9_story_139 : decode cX9_story 139 = .ok (.getfield 19, 3) := by decide +kernel
theorem dX9_story_142 : decode cX9_story 142 = .ok (.iload_n 3, 1) := by decide +kernel
theorem dX9_story_143 : decode cX9_story 143 = .ok (.i2l, 1) := by decide +kernel
theorem dX9_story_144 : decode cX9_story 144 = .ok (.invokevirtual 223, 3) := by decide +kernel
theorem dX9_story_147 : decode cX9_story 147 = .ok (.aload_n 0, 1) := by decide +kernel
theorem dX9_story_148 : decode cX9_story 148 = .ok (.getfield 19, 3) := by decide +kernel
theorem dX9_story_151 : decode cX9_story 151 = .ok (.aload_n 0, 1) := by decide +kernel
theorem dX9_story_152 : decode cX9_story 152 = .ok (.getfield 26, 3) := by decide +kernel
theorem dX9_story_155 : decode cX9_story 155 = .ok (.getfield 254, 3) := by decide +kernel
theorem dX9_story_158 : decode cX9_story 158 = .ok (.i2l, 1) := by decide +kernel
theorem dX9_story_159 : decode cX9_story 159 = .ok (.invokevirtual 223, 3) := by decide +kernel
theorem dX9_story_162 : decode cX9_story 162 = .ok (.iload_n 2, 1) := by decide +kernel
theorem dX9_story_163 : decode cX9_story 163 = .ok (.ireturn, 1) := by decide +kernel
theorem dX9_badInStory_0 : decode cX9_badInStory 0 = .ok (.aload_n 0, 1) := by decide +kernel
theorem dX9_badInStory_1 : decode cX9_badInStory 1 = .ok (.getfield 10, 3) := by decide +kernel
theorem dX9_badInStory_4 : decode cX9_badInStory 4 = .ok (.getfield 93, 3) := by decide +kernel
theorem dX9_badInStory_7 : decode cX9_badInStory 7 = .ok (.bipush 60, 2) := by decide +kernel
theorem dX9_badInStory_9 : decode cX9_badInStory 9 = .ok (.invokestatic 129, 3) := by decide +kernel
theorem dX9_badInStory_12 : decode cX9_badInStory 12 = .ok (.istore_n 1, 1) := by decide +kernel
theorem dX9_badInStory_13 : decode cX9_badInStory 13 = .ok (.iconst 0, 1) := by decide +kernel
theorem dX9_badInStory_14 : decode cX9_badInStory 14 = .ok (.istore_n 2, 1) := by decide +kernel
theorem dX9_badInStory_15 : decode cX9_badInStory 15 = .ok (.iconst 0, 1) := by decide +kernel
theorem dX9_badInStory_16 : decode cX9_badInStory 16 = .ok (.istore_n 3, 1) := by decide +kernel
theorem dX9_badInStory_17 : decode cX9_badInStory 17 = .ok (.iconst 0, 1) := by decide +kernel
theorem dX9_badInStory_18 : decode cX9_badInStory 18 = .ok (.istore 4, 2) := by decide +kernel
theorem dX9_badInStory_20 : decode cX9_badInStory 20 = .ok (.iload 4, 2) := by decide +kernel
theorem dX9_badInStory_22 : decode cX9_badInStory 22 = .ok (.iload_n 1, 1) := by decide +kernel
theorem dX9_badInStory_23 : decode cX9_badInStory 23 = .ok (.if_icmp .ge 92, 3) := by decide +kernel
theorem dX9_badInStory_26 : decode cX9_badInStory 26 = .ok (.iload_n 2, 1) := by decide +kernel
theorem dX9_badInStory_27 : decode cX9_badInStory 27 = .ok (.ifCond .ne 25, 3) := by decide +kernel
theorem dX9_badInStory_30 : decode cX9_badInStory 30 = .ok (.aload_n 0, 1) := by decide +kernel
theorem dX9_badInStory_31 : decode cX9_badInStory 31 = .ok (.getfield 10, 3) := by decide +kernel
theorem dX9_badInStory_34 : decode cX9_badInStory 34 = .ok (.iload 4, 2) := by decide +kernel
theorem dX9_badInStory_36 : decode cX9_badInStory 36 = .ok (.invokevirtual 142, 3) := by decide +kernel
theorem dX9_badInStory_39 : decode cX9_badInStory 39 = .ok (.istore_n 3, 1) := by decide +kernel
theorem dX9_badInStory_40 : decode cX9_badInStory 40 = .ok (.iload_n 3, 1) := by decide +kernel
theorem dX9_badInStory_41 : decode cX9_badInStory 41 = .ok (.invokestatic 251, 3) := by decide +kernel
theorem dX9_badInStory_44 : decode cX9_badInStory 44 = .ok (.istore_n 2, 1) := by decide +kernel
theorem dX9_badInStory_45 : decode cX9_badInStory 45 = .ok (.iload_n 2, 1) := by decide +kernel
theorem dX9_badInStory_46 : decode cX9_badInStory 46 = .ok (.ifCond .ne 63, 3) := by decide +kernel
theorem dX9_badInStory_49 : decode cX9_badInStory 49 = .ok (.iload 4, 2) := by decide +kernel
theorem dX9_badInStory_51 : decode cX9_badInStory 51 = .ok (.ireturn, 1) := by decide +kernel
theorem dX9_badInStory_52 : decode cX9_badInStory 52 = .ok (.aload_n 0, 1) := by decide +kernel
theorem dX9_badInStory_53 : decode cX9_badInStory 53 = .ok (.getfield 10, 3) := by decide +kernel
theorem dX9_badInStory_56 : decode cX9_badInStory 56 = .ok (.iload 4, 2) := by decide +kernel
theorem dX9_badInStory_58 : decode cX9_badInStory 58 = .ok (.iload_n 1, 1) := by decide +kernel
theorem dX9_badInStory_59 : decode cX9_badInStory 59 = .ok (.invokevirtual 104, 3) := by decide +kernel
theorem dX9_badInStory_62 : decode cX9_badInStory 62 = .ok (.istore 5, 2) := by decide +kernel
theorem dX9_badInStory_64 : decode cX9_badInStory 64 = .ok (.iload_n 2, 1) := by decide +kernel
theorem dX9_badInStory_65 : decode cX9_badInStory 65 = .ok (.iconst 1, 1) := by decide +kernel
theorem dX9_badInStory_66 : decode cX9_badInStory 66 = .ok (.if_icmp .ne 19, 3) := by decide +kernel
theorem dX9_badInStory_69 : decode cX9_badInStory 69 = .ok (.iload_n 3, 1) := by decide +kernel
theorem dX9_badInStory_70 : decode cX9_badInStory 70 = .ok (.bipush 116, 2) := by decide +kernel
theorem dX9_badInStory_72 : decode cX9_badInStory 72 = .ok (.if_icmp .eq 9, 3) := by decide +kernel
theorem dX9_badInStory_75 : decode cX9_badInStory 75 = .ok (.iload_n 3, 1) := by decide +kernel
theorem dX9_badInStory_76 : decode cX9_badInStory 76 = .ok (.bipush 115, 2) := by decide +kernel
theorem dX9_badInStory_78 : decode cX9_badInStory 78 = .ok (.if_icmp .ne 7, 3) := by decide +kernel
theorem dX9_badInStory_81 : decode cX9_badInStory 81 = .ok (.iconst 1, 1) := by decide +kernel
theorem dX9_badInStory_82 : decode cX9_badInStory 82 = .ok (.goto 4, 3) := by decide +kernel
theorem dX9_badInStory_85 : decode cX9_badInStory 85 = .ok (.iconst 0, 1) := by decide +kernel
theorem dX9_badInStory_86 : decode cX9_badInStory 86 = .ok (.istore 6, 2) := by decide +kernel
theorem dX9_badInStory_88 : decode cX9_badInStory 88 = .ok (.iload 5, 2) := by decide +kernel
theorem dX9_badInStory_90 : decode cX9_badInStory 90 = .ok (.iload 6, 2) := by decide +kernel
theorem dX9_badInStory_92 : decode cX9_badInStory 92 = .ok (.ifCond .eq 7, 3) := by decide +kernel
theorem dX9_badInStory_95 : decode cX9_badInStory 95 = .ok (.iconst 1, 1) := by decide +kernel
theorem dX9_badInStory_96 : decode cX9_badInStory 96 = .ok (.goto 4, 3) := by decide +kernel
theorem dX9_badInStory_99 : decode cX9_badInStory 99 = .ok (.iconst 0, 1) := by decide +kernel
theorem dX9_badInStory_100 : decode cX9_badInStory 100 = .ok (.if_icmp .ge 6, 3) := by decide +kernel
theorem dX9_badInStory_103 : decode cX9_badInStory 103 = .ok (.iload 4, 2) := by decide +kernel
theorem dX9_badInStory_105 : decode cX9_badInStory 105 = .ok (.ireturn, 1) := by decide +kernel
theorem dX9_badInStory_106 : decode cX9_badInStory 106 = .ok (.iinc 2 (-1), 3) := by decide +kernel
theorem dX9_badInStory_109 : decode cX9_badInStory 109 = .ok (.iinc 4 1, 3) := by decide +kernel
theorem dX9_badInStory_112 : decode cX9_badInStory 112 = .ok (.goto (-92), 3) := by decide +kernel
theorem dX9_badInStory_115 : decode cX9_badInStory 115 = .ok (.iload_n 2, 1) := by decide +kernel
theorem dX9_badInStory_116 : decode cX9_badInStory 116 = .ok (.ifCond .gt 15, 3) := by decide +kernel
theorem dX9_badInStory_119 : decode cX9_badInStory 119 = .ok (.aload_n 0, 1) := by decide +kernel
theorem dX9_badInStory_120 : decode cX9_badInStory 120 = .ok (.getfield 10, 3) := by decide +kernel
theorem dX9_badInStory_123 : decode cX9_badInStory 123 = .ok (.getfield 93, 3) := by decide +kernel
theorem dX9_badInStory_126 : decode cX9_badInStory 126 = .ok (.bipush 60, 2) := by decide +kernel
theorem dX9_badInStory_128 : decode cX9_badInStory 128 = .ok (.if_icmp .le 7, 3) := by decide +kernel
theorem dX9_badInStory_131 : decode cX9_badInStory 131 = .ok (.iload_n 1, 1) := by decide +kernel
theorem dX9_badInStory_132 : decode cX9_badInStory 132 = .ok (.goto 4, 3) := by decide +kernel
theorem dX9_badInStory_135 : decode cX9_badInStory 135 = .ok (.iconst (-1), 1) := by decide +kernel
theorem dX9_badInStory_136 : decode cX9_badInStory 136 = .ok (.ireturn, 1) := by decide +kernel
theorem dX9_digitsBehind_0 : decode cX9_digitsBehind 0 = .ok (.iload_n 0, 1) := by decide +kernel
theorem dX9_digitsBehind_1 : decode cX9_digitsBehind 1 = .ok (.tableswitch 54 109 116 #[52, 47, 54, 49, 54, 54, 52, 52], 47) := by decide +kernel
theorem dX9_digitsBehind_48 : decode cX9_digitsBehind 48 = .ok (.iconst 1, 1) := by decide +kernel
theorem dX9_digitsBehind_49 : decode cX9_digitsBehind 49 = .ok (.ireturn, 1) := by decide +kernel
theorem dX9_digitsBehind_50 : decode cX9_digitsBehind 50 = .ok (.bipush 6, 2) := by decide +kernel
theorem dX9_digitsBehind_52 : decode cX9_digitsBehind 52 = .ok (.ireturn, 1) := by decide +kernel
theorem dX9_digitsBehind_53 : decode cX9_digitsBehind 53 = .ok (.iconst 2, 1) := by decide +kernel
theorem dX9_digitsBehind_54 : decode cX9_digitsBehind 54 = .ok (.ireturn, 1) := by decide +kernel
theorem dX9_digitsBehind_55 : decode cX9_digitsBehind 55 = .ok (.iconst 0, 1) := by decide +kernel
theorem dX9_digitsBehind_56 : decode cX9_digitsBehind 56 = .ok (.ireturn, 1) := by decide +kernel
theorem dX9_actDone_0 : decode cX9_actDone 0 = .ok (.aload_n 0, 1) := by decide +kernel
theorem dX9_actDone_1 : decode cX9_actDone 1 = .ok (.iload_n 1, 1) := by decide +kernel
theorem dX9_actDone_2 : decode cX9_actDone 2 = .ok (.iconst 1, 1) := by decide +kernel
theorem dX9_actDone_3 : decode cX9_actDone 3 = .ok (.iadd, 1) := by decide +kernel
theorem dX9_actDone_4 : decode cX9_actDone 4 = .ok (.invokevirtual 257, 3) := by decide +kernel
theorem dX9_actDone_7 : decode cX9_actDone 7 = .ok (.istore_n 2, 1) := by decide +kernel
theorem dX9_actDone_8 : decode cX9_actDone 8 = .ok (.aload_n 0, 1) := by decide +kernel
theorem dX9_actDone_9 : decode cX9_actDone 9 = .ok (.getfield 10, 3) := by decide +kernel
theorem dX9_actDone_12 : decode cX9_actDone 12 = .ok (.iload_n 1, 1) := by decide +kernel
theorem dX9_actDone_13 : decode cX9_actDone 13 = .ok (.invokevirtual 142, 3) := by decide +kernel
theorem dX9_actDone_16 : decode cX9_actDone 16 = .ok (.tableswitch 141 110 116 #[44, 141, 57, 141, 141, 125, 109], 44) := by decide +kernel
theorem dX9_actDone_60 : decode cX9_actDone 60 = .ok (.aload_n 0, 1) := by decide +kernel
theorem dX9_actDone_61 : decode cX9_actDone 61 = .ok (.getfield 26, 3) := by decide +kernel
theorem dX9_actDone_64 : decode cX9_actDone 64 = .ok (.aload_n 0, 1) := by decide +kernel
theorem dX9_actDone_65 : decode cX9_actDone 65 = .ok (.getfield 50, 3) := by decide +kernel
theorem dX9_actDone_68 : decode cX9_actDone 68 = .ok (.iload_n 2, 1) := by decide +kernel
theorem dX9_actDone_69 : decode cX9_actDone 69 = .ok (.invokevirtual 213, 3) := by decide +kernel
theorem dX9_actDone_72 : decode cX9_actDone 72 = .ok (.ireturn, 1) := by decide +kernel
theorem dX9_actDone_73 : decode cX9_actDone 73 = .ok (.aload_n 0, 1) := by decide +kernel
theorem dX9_actDone_74 : decode cX9_actDone 74 = .ok (.getfield 26, 3) := by decide +kernel
theorem dX9_actDone_77 : decode cX9_actDone 77 = .ok (.aload_n 0, 1) := by decide +kernel
theorem dX9_actDone_78 : decode cX9_actDone 78 = .ok (.getfield 26, 3) := by decide +kernel
theorem dX9_actDone_81 : decode cX9_actDone 81 = .ok (.iload_n 2, 1) := by decide +kernel
theorem dX9_actDone_82 : decode cX9_actDone 82 = .ok (.aload_n 0, 1) := by decide +kernel
theorem dX9_actDone_83 : decode cX9_actDone 83 = .ok (.iload_n 1, 1) := by decide +kernel
theorem dX9_actDone_84 : decode cX9_actDone 84 = .ok (.iconst 2, 1) := by decide +kernel
theorem dX9_actDone_85 : decode cX9_actDone 85 = .ok (.iadd, 1) := by decide +kernel
theorem dX9_actDone_86 : decode cX9_actDone 86 = .ok (.invokevirtual 257, 3) := by decide +kernel
theorem dX9_actDone_89 : decode cX9_actDone 89 = .ok (.invokevirtual 260, 3) := by decide +kernel
theorem dX9_actDone_92 : decode cX9_actDone 92 = .ok (.aload_n 0, 1) := by decide +kernel
theorem dX9_actDone_93 : decode cX9_actDone 93 = .ok (.iload_n 1, 1) := by decide +kernel
theorem dX9_actDone_94 : decode cX9_actDone 94 = .ok (.iconst 3, 1) := by decide +kernel
theorem dX9_actDone_95 : decode cX9_actDone 95 = .ok (.iadd, 1) := by decide +kernel
theorem dX9_actDone_96 : decode cX9_actDone 96 = .ok (.invokevirtual 257, 3) := by decide +kernel
theorem dX9_actDone_99 : decode cX9_actDone 99 = .ok (.aload_n 0, 1) := by decide +kernel
theorem dX9_actDone_100 : decode cX9_actDone 100 = .ok (.iload_n 1, 1) := by decide +kernel
theorem dX9_actDone_101 : decode cX9_actDone 101 = .ok (.iconst 4, 1) := by decide +kernel
theorem dX9_actDone_102 : decode cX9_actDone 102 = .ok (.iadd, 1) := by decide +kernel
theorem dX9_actDone_103 : decode cX9_actDone 103 = .ok (.invokevirtual 257, 3) := by decide +kernel
theorem dX9_actDone_106 : decode cX9_actDone 106 = .ok (.aload_n 0, 1) := by decide +kernel
theorem dX9_actDone_107 : decode cX9_actDone 107 = .ok (.iload_n 1, 1) := by decide +kernel
theorem dX9_actDone_108 : decode cX9_actDone 108 = .ok (.iconst 5, 1) := by decide +kernel
theorem dX9_actDone_109 : decode cX9_actDone 109 = .ok (.iadd, 1) := by decide +kernel
theorem dX9_actDone_110 : decode cX9_actDone 110 = .ok (.invokevirtual 257, 3) := by decide +kernel
theorem dX9_actDone_113 : decode cX9_actDone 113 = .ok (.aload_n 0, 1) := by decide +kernel
theorem dX9_actDone_114 : decode cX9_actDone 114 = .ok (.iload_n 1, 1) := by decide +kernel
theorem dX9_actDone_115 : decode cX9_actDone 115 = .ok (.bipush 6, 2) := by decide +kernel
theorem dX9_actDone_117 : decode cX9_actDone 117 = .ok (.iadd, 1) := by decide +kernel
theorem dX9_actDone_118 : decode cX9_actDone 118 = .ok (.invokevirtual 257, 3) := by decide +kernel
theorem dX9_actDone_121 : decode cX9_actDone 121 = .ok (.invokevirtual 229, 3) := by decide +kernel
theorem dX9_actDone_124 : decode cX9_actDone 124 = .ok (.ireturn, 1) := by decide +kernel
theorem dX9_actDone_125 : decode cX9_actDone 125 = .ok (.aload_n 0, 1) := by decide +kernel
theorem dX9_actDone_126 : decode cX9_actDone 126 = .ok (.getfield 26, 3) := by decide +kernel
theorem dX9_actDone_129 : decode cX9_actDone 129 = .ok (.iload_n 2, 1) := by decide +kernel
theorem dX9_actDone_130 : decode cX9_actDone 130 = .ok (.aload_n 0, 1) := by decide +kernel
theorem dX9_actDone_131 : decode cX9_actDone 131 = .ok (.iload_n 1, 1) := by decide +kernel
theorem dX9_actDone_132 : decode cX9_actDone 132 = .ok (.iconst 2, 1) := by decide +kernel
theorem dX9_actDone_133 : decode cX9_actDone 133 = .ok (.iadd, 1) := by decide +kernel
theorem dX9_actDone_134 : decode cX9_actDone 134 = .ok (.invokevirtual 257, 3) := by decide +kernel
theorem dX9_actDone_137 : decode cX9_actDone 137 = .ok (.invokevirtual 236, 3) := by decide +kernel
theorem dX9_actDone_140 : decode cX9_actDone 140 = .ok (.ireturn, 1) := by decide +kernel
theorem dX9_actDone_141 : decode cX9_actDone 141 = .ok (.aload_n 0, 1) := by decide +kernel
theorem dX9_actDone_142 : decode cX9_actDone 142 = .ok (.getfield 26, 3) := by decide +kernel
theorem dX9_actDone_145 : decode cX9_actDone 145 = .ok (.iload_n 2, 1) := by decide +kernel
theorem dX9_actDone_146 : decode cX9_actDone 146 = .ok (.aload_n 0, 1) := by decide +kernel
theorem dX9_actDone_147 : decode cX9_actDone 147 = .ok (.iload_n 1, 1) := by decide +kernel
theorem dX9_actDone_148 : decode cX9_actDone 148 = .ok (.iconst 2, 1) := by decide +kernel
theorem dX9_actDone_149 : decode cX9_actDone 149 = .ok (.iadd, 1) := by decide +kernel
theorem dX9_actDone_150 : decode cX9_actDone 150 = .ok (.invokevirtual 257, 3) := by decide +kernel
theorem dX9_actDone_153 : decode cX9_actDone 153 = .ok (.invokevirtual 239, 3) := by decide +kernel
theorem dX9_actDone_156 : decode cX9_actDone 156 = .ok (.ireturn, 1) := by decide +kernel
theorem dX9_actDone_157 : decode cX9_actDone 157 = .ok (.aload_n 0, 1) := by decide +kernel
theorem dX9_actDone_158 : decode cX9_actDone 158 = .ok (.getfield 26, 3) := by decide +kernel
theorem dX9_actDone_161 : decode cX9_actDone 161 = .ok (.iload_n 2, 1) := by decide +kernel
theorem dX9_actDone_162 : decode cX9_actDone 162 = .ok (.aload_n 0, 1) := by decide +kernel
theorem dX9_actDone_163 : decode cX9_actDone 163 = .ok (.iload_n 1, 1) := by decide +kernel
theorem dX9_actDone_164 : decode cX9_actDone 164 = .ok (.iconst 2, 1) := by decide +kernel
theorem dX9_actDone_165 : decode cX9_actDone 165 = .ok (.iadd, 1) := by decide +kernel
theorem dX9_actDone_166 : decode cX9_actDone 166 = .ok (.invokevirtual 257, 3) := by decide +kernel
theorem dX9_actDone_169 : decode cX9_actDone 169 = .ok (.invokevirtual 242, 3) := by decide +kernel
theorem dX9_actDone_172 : decode cX9_actDone 172 = .ok (.ireturn, 1) := by decide +kernel
theorem dX9_storyDigit_0 : decode cX9_storyDigit 0 = .ok (.aload_n 0, 1) := by decide +kernel
theorem dX9_storyDigit_1 : decode cX9_storyDigit 1 = .ok (.getfield 10, 3) := by decide +kernel
theorem dX9_storyDigit_4 : decode cX9_storyDigit 4 = .ok (.iload_n 1, 1) := by decide +kernel
theorem dX9_storyDigit_5 : decode cX9_storyDigit 5 = .ok (.aload_n 0, 1) := by decide +kernel
theorem dX9_storyDigit_6 : decode cX9_storyDigit 6 = .ok (.getfield 10, 3) := by decide +kernel
theorem dX9_storyDigit_9 : decode cX9_storyDigit 9 = .ok (.getfield 93, 3) := by decide +kernel
theorem dX9_storyDigit_12 : decode cX9_storyDigit 12 = .ok (.invokevirtual 104, 3) := by decide +kernel
theorem dX9_storyDigit_15 : decode cX9_storyDigit 15 = .ok (.ireturn, 1) := by decide +kernel
theorem dX9_undo_0 : decode cX9_undo 0 = .ok (.aload_n 0, 1) := by decide +kernel
theorem dX9_undo_1 : decode cX9_undo 1 = .ok (.getfield 39, 3) := by decide +kernel
theorem dX9_undo_4 : decode cX9_undo 4 = .ok (.getfield 263, 3) := by decide +kernel
theorem dX9_undo_7 : decode cX9_undo 7 = .ok (.ifCond .ne 5, 3) := by decide +kernel
theorem dX9_undo_10 : decode cX9_undo 10 = .ok (.iconst (-1), 1) := by decide +kernel
theorem dX9_undo_11 : decode cX9_undo 11 = .ok (.ireturn, 1) := by decide +kernel
theorem dX9_undo_12 : decode cX9_undo 12 = .ok (.aload_n 0, 1) := by decide +kernel
theorem dX9_undo_13 : decode cX9_undo 13 = .ok (.getfield 39, 3) := by decide +kernel
theorem dX9_undo_16 : decode cX9_undo 16 = .ok (.aload_n 0, 1) := by decide +kernel
theorem dX9_undo_17 : decode cX9_undo 17 = .ok (.getfield 26, 3) := by decide +kernel
theorem dX9_undo_20 : decode cX9_undo 20 = .ok (.invokevirtual 264, 3) := by decide +kernel
theorem dX9_undo_23 : decode cX9_undo 23 = .ok (.aload_n 0, 1) := by decide +kernel
theorem dX9_undo_24 : decode cX9_undo 24 = .ok (.getfield 39, 3) := by decide +kernel
theorem dX9_undo_27 : decode cX9_undo 27 = .ok (.getfield 263, 3) := by decide +kernel
theorem dX9_undo_30 : decode cX9_undo 30 = .ok (.ireturn, 1) := by decide +kernel
theorem dX9_slept_0 : decode cX9_slept 0 = .ok (.iconst 0, 1) := by decide +kernel
theorem dX9_slept_1 : decode cX9_slept 1 = .ok (.istore_n 1, 1) := by decide +kernel
theorem dX9_slept_2 : decode cX9_slept 2 = .ok (.iconst (-1), 1) := by decide +kernel
theorem dX9_slept_3 : decode cX9_slept 3 = .ok (.istore_n 2, 1) := by decide +kernel
theorem dX9_slept_4 : decode cX9_slept 4 = .ok (.iconst 0, 1) := by decide +kernel
theorem dX9_slept_5 : decode cX9_slept 5 = .ok (.istore_n 3, 1) := by decide +kernel
theorem dX9_slept_6 : decode cX9_slept 6 = .ok (.iload_n 3, 1) := by decide +kernel
theorem dX9_slept_7 : decode cX9_slept 7 = .ok (.aload_n 0, 1) := by decide +kernel
theorem dX9_slept_8 : decode cX9_slept 8 = .ok (.getfield 26, 3) := by decide +kernel
theorem dX9_slept_11 : decode cX9_slept 11 = .ok (.invokevirtual 118, 3) := by decide +kernel
theorem dX9_slept_14 : decode cX9_slept 14 = .ok (.if_icmp .ge 33, 3) := by decide +kernel
theorem dX9_slept_17 : decode cX9_slept 17 = .ok (.aload_n 0, 1) := by decide +kernel
theorem dX9_slept_18 : decode cX9_slept 18 = .ok (.getfield 26, 3) := by decide +kernel
theorem dX9_slept_21 : decode cX9_slept 21 = .ok (.iload_n 3, 1) := by decide +kernel
theorem dX9_slept_22 : decode cX9_slept 22 = .ok (.invokevirtual 189, 3) := by decide +kernel
theorem dX9_slept_25 : decode cX9_slept 25 = .ok (.invokestatic 267, 3) := by decide +kernel
theorem dX9_slept_28 : decode cX9_slept 28 = .ok (.istore 4, 2) := by decide +kernel
theorem dX9_slept_30 : decode cX9_slept 30 = .ok (.iload 4, 2) := by decide +kernel
theorem dX9_slept_32 : decode cX9_slept 32 = .ok (.iload_n 1, 1) := by decide +kernel
theorem dX9_slept_33 : decode cX9_slept 33 = .ok (.if_icmp .le 8, 3) := by decide +kernel
theorem dX9_slept_36 : decode cX9_slept 36 = .ok (.iload 4, 2) := by decide +kernel
theorem dX9_slept_38 : decode cX9_slept 38 = .ok (.istore_n 1, 1) := by decide +kernel
theorem dX9_slept_39 : decode cX9_slept 39 = .ok (.iload_n 3, 1) := by decide +kernel
theorem dX9_slept_40 : decode cX9_slept 40 = .ok (.istore_n 2, 1) := by decide +kernel
theorem dX9_slept_41 : decode cX9_slept 41 = .ok (.iinc 3 1, 3) := by decide +kernel
theorem dX9_slept_44 : decode cX9_slept 44 = .ok (.goto (-38), 3) := by decide +kernel
theorem dX9_slept_47 : decode cX9_slept 47 = .ok (.aload_n 0, 1) := by decide +kernel
theorem dX9_slept_48 : decode cX9_slept 48 = .ok (.getfield 26, 3) := by decide +kernel
theorem dX9_slept_51 : decode cX9_slept 51 = .ok (.invokevirtual 272, 3) := by decide +kernel
theorem dX9_slept_54 : decode cX9_slept 54 = .ok (.lstore_n 3, 1) := by decide +kernel
theorem dX9_slept_55 : decode cX9_slept 55 = .ok (.aload_n 0, 1) := by decide +kernel
theorem dX9_slept_56 : decode cX9_slept 56 = .ok (.getfield 19, 3) := by decide +kernel
theorem dX9_slept_59 : decode cX9_slept 59 = .ok (.invokevirtual 220, 3) := by decide +kernel
theorem dX9_slept_62 : decode cX9_slept 62 = .ok (.aload_n 0, 1) := by decide +kernel
theorem dX9_slept_63 : decode cX9_slept 63 = .ok (.getfield 19, 3) := by decide +kernel
theorem dX9_slept_66 : decode cX9_slept 66 = .ok (.lload_n 3, 1) := by decide +kernel
theorem dX9_slept_67 : decode cX9_slept 67 = .ok (.invokestatic 276, 3) := by decide +kernel
theorem dX9_slept_70 : decode cX9_slept 70 = .ok (.i2l, 1) := by decide +kernel
theorem dX9_slept_71 : decode cX9_slept 71 = .ok (.invokevirtual 223, 3) := by decide +kernel
theorem dX9_slept_74 : decode cX9_slept 74 = .ok (.aload_n 0, 1) := by decide +kernel
theorem dX9_slept_75 : decode cX9_slept 75 = .ok (.getfield 19, 3) := by decide +kernel
theorem dX9_slept_78 : decode cX9_slept 78 = .ok (.iload_n 1, 1) := by decide +kernel
theorem dX9_slept_79 : decode cX9_slept 79 = .ok (.i2l, 1) := by decide +kernel
theorem dX9_slept_80 : decode cX9_slept 80 = .ok (.invokevirtual 223, 3) := by decide +kernel
theorem dX9_slept_83 : decode cX9_slept 83 = .ok (.aload_n 0, 1) := by decide +kernel
theorem dX9_slept_84 : decode cX9_slept 84 = .ok (.getfield 19, 3) := by decide +kernel
theorem dX9_slept_87 : decode cX9_slept 87 = .ok (.iload_n 2, 1) := by decide +kernel
theorem dX9_slept_88 : decode cX9_slept 88 = .ok (.i2l, 1) := by decide +kernel
theorem dX9_slept_89 : decode cX9_slept 89 = .ok (.invokevirtual 223, 3) := by decide +kernel
theorem dX9_slept_92 : decode cX9_slept 92 = .ok (.lload_n 3, 1) := by decide +kernel
theorem dX9_slept_93 : decode cX9_slept 93 = .ok (.lreturn, 1) := by decide +kernel
theorem dX9_crosses_0 : decode cX9_crosses 0 = .ok (.iconst 0, 1) := by decide +kernel
theorem dX9_crosses_1 : decode cX9_crosses 1 = .ok (.istore_n 1, 1) := by decide +kernel
theorem dX9_crosses_2 : decode cX9_crosses 2 = .ok (.iconst 0, 1) := by decide +kernel
theorem dX9_crosses_3 : decode cX9_crosses 3 = .ok (.istore_n 2, 1) := by decide +kernel
theorem dX9_crosses_4 : decode cX9_crosses 4 = .ok (.iload_n 2, 1) := by decide +kernel
theorem dX9_crosses_5 : decode cX9_crosses 5 = .ok (.aload_n 0, 1) := by decide +kernel
theorem dX9_crosses_6 : decode cX9_crosses 6 = .ok (.getfield 26, 3) := by decide +kernel
theorem dX9_crosses_9 : decode cX9_crosses 9 = .ok (.invokevirtual 118, 3) := by decide +kernel
theorem dX9_crosses_12 : decode cX9_crosses 12 = .ok (.if_icmp .ge 27, 3) := by decide +kernel
theorem dX9_crosses_15 : decode cX9_crosses 15 = .ok (.aload_n 0, 1) := by decide +kernel
theorem dX9_crosses_16 : decode cX9_crosses 16 = .ok (.getfield 26, 3) := by decide +kernel
theorem dX9_crosses_19 : decode cX9_crosses 19 = .ok (.iload_n 2, 1) := by decide +kernel
theorem dX9_crosses_20 : decode cX9_crosses 20 = .ok (.invokevirtual 189, 3) := by decide +kernel
theorem dX9_crosses_23 : decode cX9_crosses 23 = .ok (.invokestatic 267, 3) := by decide +kernel
theorem dX9_crosses_26 : decode cX9_crosses 26 = .ok (.iconst 1, 1) := by decide +kernel
theorem dX9_crosses_27 : decode cX9_crosses 27 = .ok (.if_icmp .le 6, 3) := by decide +kernel
theorem dX9_crosses_30 : decode cX9_crosses 30 = .ok (.iinc 1 1, 3) := by decide +kernel
theorem dX9_crosses_33 : decode cX9_crosses 33 = .ok (.iinc 2 1, 3) := by decide +kernel
theorem dX9_crosses_36 : decode cX9_crosses 36 = .ok (.goto (-32), 3) := by decide +kernel
theorem dX9_crosses_39 : decode cX9_crosses 39 = .ok (.aload_n 0, 1) := by decide +kernel
theorem dX9_crosses_40 : decode cX9_crosses 40 = .ok (.getfield 19, 3) := by decide +kernel
theorem dX9_crosses_43 : decode cX9_crosses 43 = .ok (.invokevirtual 220, 3) := by decide +kernel
theorem dX9_crosses_46 : decode cX9_crosses 46 = .ok (.aload_n 0, 1) := by decide +kernel
theorem dX9_crosses_47 : decode cX9_crosses 47 = .ok (.getfield 19, 3) := by decide +kernel
theorem dX9_crosses_50 : decode cX9_crosses 50 = .ok (.iload_n 1, 1) := by decide +kernel
theorem dX9_crosses_51 : decode cX9_crosses 51 = .ok (.i2l, 1) := by decide +kernel
theorem dX9_crosses_52 : decode cX9_crosses 52 = .ok (.invokevirtual 223, 3) := by decide +kernel
theorem dX9_crosses_55 : decode cX9_crosses 55 = .ok (.iconst 0, 1) := by decide +kernel
theorem dX9_crosses_56 : decode cX9_crosses 56 = .ok (.istore_n 2, 1) := by decide +kernel
theorem dX9_crosses_57 : decode cX9_crosses 57 = .ok (.iconst 0, 1) := by decide +kernel
theorem dX9_crosses_58 : decode cX9_crosses 58 = .ok (.istore_n 3, 1) := by decide +kernel
theorem dX9_crosses_59 : decode cX9_crosses 59 = .ok (.iload_n 3, 1) := by decide +kernel
theorem dX9_crosses_60 : decode cX9_crosses 60 = .ok (.aload_n 0, 1) := by decide +kernel
theorem dX9_crosses_61 : decode cX9_crosses 61 = .ok (.getfield 26, 3) := by decide +kernel
theorem dX9_crosses_64 : decode cX9_crosses 64 = .ok (.getfield 146, 3) := by decide +kernel
theorem dX9_crosses_67 : decode cX9_crosses 67 = .ok (.if_icmp .ge 71, 3) := by decide +kernel
theorem dX9_crosses_70 : decode cX9_crosses 70 = .ok (.iload_n 3, 1) := by decide +kernel
theorem dX9_crosses_71 : decode cX9_crosses 71 = .ok (.iconst 1, 1) := by decide +kernel
theorem dX9_crosses_72 : decode cX9_crosses 72 = .ok (.iadd, 1) := by decide +kernel
theorem dX9_crosses_73 : decode cX9_crosses 73 = .ok (.istore 4, 2) := by decide +kernel
theorem dX9_crosses_75 : decode cX9_crosses 75 = .ok (.iload 4, 2) := by decide +kernel
theorem dX9_crosses_77 : decode cX9_crosses 77 = .ok (.aload_n 0, 1) := by decide +kernel
theorem dX9_crosses_78 : decode cX9_crosses 78 = .ok (.getfield 26, 3) := by decide +kernel
theorem dX9_crosses_81 : decode cX9_crosses 81 = .ok (.getfield 146, 3) := by decide +kernel
theorem dX9_crosses_84 : decode cX9_crosses 84 = .ok (.if_icmp .ge 48, 3) := by decide +kernel
theorem dX9_crosses_87 : decode cX9_crosses 87 = .ok (.aload_n 0, 1) := by decide +kernel
theorem dX9_crosses_88 : decode cX9_crosses 88 = .ok (.getfield 26, 3) := by decide +kernel
theorem dX9_crosses_91 : decode cX9_crosses 91 = .ok (.iload_n 3, 1) := by decide +kernel
theorem dX9_crosses_92 : decode cX9_crosses 92 = .ok (.iload 4, 2) := by decide +kernel
theorem dX9_crosses_94 : decode cX9_crosses 94 = .ok (.invokevirtual 281, 3) := by decide +kernel
theorem dX9_crosses_97 : decode cX9_crosses 97 = .ok (.ifCond .eq 29, 3) := by decide +kernel
theorem dX9_crosses_100 : decode cX9_crosses 100 = .ok (.iload_n 2, 1) := by decide +kernel
theorem dX9_crosses_101 : decode cX9_crosses 101 = .ok (.ifCond .ne 22, 3) := by decide +kernel
theorem dX9_crosses_104 : decode cX9_crosses 104 = .ok (.aload_n 0, 1) := by decide +kernel
theorem dX9_crosses_105 : decode cX9_crosses 105 = .ok (.getfield 19, 3) := by decide +kernel
theorem dX9_crosses_108 : decode cX9_crosses 108 = .ok (.iload_n 3, 1) := by decide +kernel
theorem dX9_crosses_109 : decode cX9_crosses 109 = .ok (.i2l, 1) := by decide +kernel
theorem dX9_crosses_110 : decode cX9_crosses 110 = .ok (.invokevirtual 223, 3) := by decide +kernel
theorem dX9_crosses_113 : decode cX9_crosses 113 = .ok (.aload_n 0, 1) := by decide +kernel
theorem dX9_crosses_114 : decode cX9_crosses 114 = .ok (.getfield 19, 3) := by decide +kernel
theorem dX9_crosses_117 : decode cX9_crosses 117 = .ok (.iload 4, 2) := by decide +kernel
theorem dX9_crosses_119 : decode cX9_crosses 119 = .ok (.i2l, 1) := by decide +kernel
theorem dX9_crosses_120 : decode cX9_crosses 120 = .ok (.invokevirtual 223, 3) := by decide +kernel
theorem dX9_crosses_123 : decode cX9_crosses 123 = .ok (.iinc 2 1, 3) := by decide +kernel
theorem dX9_crosses_126 : decode cX9_crosses 126 = .ok (.iinc 4 1, 3) := by decide +kernel
theorem dX9_crosses_129 : decode cX9_crosses 129 = .ok (.goto (-54), 3) := by decide +kernel
theorem dX9_crosses_132 : decode cX9_crosses 132 = .ok (.iinc 3 1, 3) := by decide +kernel
theorem dX9_crosses_135 : decode cX9_crosses 135 = .ok (.goto (-76), 3) := by decide +kernel
theorem dX9_crosses_138 : decode cX9_crosses 138 = .ok (.iload_n 2, 1) := by decide +kernel
theorem dX9_crosses_139 : decode cX9_crosses 139 = .ok (.ireturn, 1) := by decide +kernel
theorem dX9_heap_0 : decode cX9_heap 0 = .ok (.aload_n 0, 1) := by decide +kernel
theorem dX9_heap_1 : decode cX9_heap 1 = .ok (.getfield 26, 3) := by decide +kernel
theorem dX9_heap_4 : decode cX9_heap 4 = .ok (.iload_n 1, 1) := by decide +kernel
theorem dX9_heap_5 : decode cX9_heap 5 = .ok (.invokevirtual 154, 3) := by decide +kernel
theorem dX9_heap_8 : decode cX9_heap 8 = .ok (.ifCond .ne 5, 3) := by decide +kernel
theorem dX9_heap_11 : decode cX9_heap 11 = .ok (.iconst (-1), 1) := by decide +kernel
theorem dX9_heap_12 : decode cX9_heap 12 = .ok (.ireturn, 1) := by decide +kernel
theorem dX9_heap_13 : decode cX9_heap 13 = .ok (.aload_n 0, 1) := by decide +kernel
theorem dX9_heap_14 : decode cX9_heap 14 = .ok (.getfield 26, 3) := by decide +kernel
theorem dX9_heap_17 : decode cX9_heap 17 = .ok (.iload_n 1, 1) := by decide +kernel
theorem dX9_heap_18 : decode cX9_heap 18 = .ok (.invokevirtual 285, 3) := by decide +kernel
theorem dX9_heap_21 : decode cX9_heap 21 = .ok (.ifCond .ne 6, 3) := by decide +kernel
theorem dX9_heap_24 : decode cX9_heap 24 = .ok (.bipush (-2), 2) := by decide +kernel
theorem dX9_heap_26 : decode cX9_heap 26 = .ok (.ireturn, 1) := by decide +kernel
theorem dX9_heap_27 : decode cX9_heap 27 = .ok (.aload_n 0, 1) := by decide +kernel
theorem dX9_heap_28 : decode cX9_heap 28 = .ok (.getfield 26, 3) := by decide +kernel
theorem dX9_heap_31 : decode cX9_heap 31 = .ok (.iload_n 1, 1) := by decide +kernel
theorem dX9_heap_32 : decode cX9_heap 32 = .ok (.invokevirtual 288, 3) := by decide +kernel
theorem dX9_heap_35 : decode cX9_heap 35 = .ok (.istore_n 2, 1) := by decide +kernel
theorem dX9_heap_36 : decode cX9_heap 36 = .ok (.lconst 0, 1) := by decide +kernel
theorem dX9_heap_37 : decode cX9_heap 37 = .ok (.lstore_n 3, 1) := by decide +kernel
theorem dX9_heap_38 : decode cX9_heap 38 = .ok (.iconst 0, 1) := by decide +kernel
theorem dX9_heap_39 : decode cX9_heap 39 = .ok (.istore 5, 2) := by decide +kernel
theorem dX9_heap_41 : decode cX9_heap 41 = .ok (.iload 5, 2) := by decide +kernel
theorem dX9_heap_43 : decode cX9_heap 43 = .ok (.aload_n 0, 1) := by decide +kernel
theorem dX9_heap_44 : decode cX9_heap 44 = .ok (.getfield 26, 3) := by decide +kernel
theorem dX9_heap_47 : decode cX9_heap 47 = .ok (.getfield 146, 3) := by decide +kernel
theorem dX9_heap_50 : decode cX9_heap 50 = .ok (.if_icmp .ge 30, 3) := by decide +kernel
theorem dX9_heap_53 : decode cX9_heap 53 = .ok (.iload_n 2, 1) := by decide +kernel
theorem dX9_heap_54 : decode cX9_heap 54 = .ok (.iload 5, 2) := by decide +kernel
theorem dX9_heap_56 : decode cX9_heap 56 = .ok (.invokestatic 291, 3) := by decide +kernel
theorem dX9_heap_59 : decode cX9_heap 59 = .ok (.ifCond .eq 15, 3) := by decide +kernel
theorem dX9_heap_62 : decode cX9_heap 62 = .ok (.lload_n 3, 1) := by decide +kernel
theorem dX9_heap_63 : decode cX9_heap 63 = .ok (.aload_n 0, 1) := by decide +kernel
theorem dX9_heap_64 : decode cX9_heap 64 = .ok (.getfield 26, 3) := by decide +kernel
theorem dX9_heap_67 : decode cX9_heap 67 = .ok (.iload 5, 2) := by decide +kernel
theorem dX9_heap_69 : decode cX9_heap 69 = .ok (.invokevirtual 294, 3) := by decide +kernel
theorem dX9_heap_72 : decode cX9_heap 72 = .ok (.lor, 1) := by decide +kernel
theorem dX9_heap_73 : decode cX9_heap 73 = .ok (.lstore_n 3, 1) := by decide +kernel
theorem dX9_heap_74 : decode cX9_heap 74 = .ok (.iinc 5 1, 3) := by decide +kernel
theorem dX9_heap_77 : decode cX9_heap 77 = .ok (.goto (-36), 3) := by decide +kernel
theorem dX9_heap_80 : decode cX9_heap 80 = .ok (.aload_n 0, 1) := by decide +kernel
theorem dX9_heap_81 : decode cX9_heap 81 = .ok (.getfield 19, 3) := by decide +kernel
theorem dX9_heap_84 : decode cX9_heap 84 = .ok (.invokevirtual 220, 3) := by decide +kernel
theorem dX9_heap_87 : decode cX9_heap 87 = .ok (.aload_n 0, 1) := by decide +kernel
theorem dX9_heap_88 : decode cX9_heap 88 = .ok (.getfield 19, 3) := by decide +kernel
theorem dX9_heap_91 : decode cX9_heap 91 = .ok (.iload_n 2, 1) := by decide +kernel
theorem dX9_heap_92 : decode cX9_heap 92 = .ok (.invokestatic 267, 3) := by decide +kernel
theorem dX9_heap_95 : decode cX9_heap 95 = .ok (.i2l, 1) := by decide +kernel
theorem dX9_heap_96 : decode cX9_heap 96 = .ok (.invokevirtual 223, 3) := by decide +kernel
theorem dX9_heap_99 : decode cX9_heap 99 = .ok (.aload_n 0, 1) := by decide +kernel
theorem dX9_heap_100 : decode cX9_heap 100 = .ok (.getfield 19, 3) := by decide +kernel
theorem dX9_heap_103 : decode cX9_heap 103 = .ok (.lload_n 3, 1) := by decide +kernel
theorem dX9_heap_104 : decode cX9_heap 104 = .ok (.invokevirtual 223, 3) := by decide +kernel
theorem dX9_heap_107 : decode cX9_heap 107 = .ok (.iload_n 2, 1) := by decide +kernel
theorem dX9_heap_108 : decode cX9_heap 108 = .ok (.ireturn, 1) := by decide +kernel
theorem dX9_isIn_0 : decode cX9_isIn 0 = .ok (.iload_n 0, 1) := by decide +kernel
theorem dX9_isIn_1 : decode cX9_isIn 1 = .ok (.iload_n 1, 1) := by decide +kernel
theorem dX9_isIn_2 : decode cX9_isIn 2 = .ok (.ishr, 1) := by decide +kernel
theorem dX9_isIn_3 : decode cX9_isIn 3 = .ok (.iconst 1, 1) := by decide +kernel
theorem dX9_isIn_4 : decode cX9_isIn 4 = .ok (.iand, 1) := by decide +kernel
theorem dX9_isIn_5 : decode cX9_isIn 5 = .ok (.ifCond .eq 7, 3) := by decide +kernel
theorem dX9_isIn_8 : decode cX9_isIn 8 = .ok (.iconst 1, 1) := by decide +kernel
theorem dX9_isIn_9 : decode cX9_isIn 9 = .ok (.goto 4, 3) := by decide +kernel
theorem dX9_isIn_12 : decode cX9_isIn 12 = .ok (.iconst 0, 1) := by decide +kernel
theorem dX9_isIn_13 : decode cX9_isIn 13 = .ok (.ireturn, 1) := by decide +kernel
theorem dX9_gone_0 : decode cX9_gone 0 = .ok (.aload_n 0, 1) := by decide +kernel
theorem dX9_gone_1 : decode cX9_gone 1 = .ok (.getfield 26, 3) := by decide +kernel
theorem dX9_gone_4 : decode cX9_gone 4 = .ok (.iload_n 1, 1) := by decide +kernel
theorem dX9_gone_5 : decode cX9_gone 5 = .ok (.invokevirtual 154, 3) := by decide +kernel
theorem dX9_gone_8 : decode cX9_gone 8 = .ok (.ifCond .ne 5, 3) := by decide +kernel
theorem dX9_gone_11 : decode cX9_gone 11 = .ok (.iconst (-1), 1) := by decide +kernel
theorem dX9_gone_12 : decode cX9_gone 12 = .ok (.ireturn, 1) := by decide +kernel
theorem dX9_gone_13 : decode cX9_gone 13 = .ok (.aload_n 0, 1) := by decide +kernel
theorem dX9_gone_14 : decode cX9_gone 14 = .ok (.getfield 33, 3) := by decide +kernel
theorem dX9_gone_17 : decode cX9_gone 17 = .ok (.aload_n 0, 1) := by decide +kernel
theorem dX9_gone_18 : decode cX9_gone 18 = .ok (.getfield 26, 3) := by decide +kernel
theorem dX9_gone_21 : decode cX9_gone 21 = .ok (.invokevirtual 134, 3) := by decide +kernel
theorem dX9_gone_24 : decode cX9_gone 24 = .ok (.iconst 0, 1) := by decide +kernel
theorem dX9_gone_25 : decode cX9_gone 25 = .ok (.istore_n 2, 1) := by decide +kernel
theorem dX9_gone_26 : decode cX9_gone 26 = .ok (.iload_n 2, 1) := by decide +kernel
theorem dX9_gone_27 : decode cX9_gone 27 = .ok (.bipush 100, 2) := by decide +kernel
theorem dX9_gone_29 : decode cX9_gone 29 = .ok (.if_icmp .ge 57, 3) := by decide +kernel
theorem dX9_gone_32 : decode cX9_gone 32 = .ok (.aload_n 0, 1) := by decide +kernel
theorem dX9_gone_33 : decode cX9_gone 33 = .ok (.getfield 33, 3) := by decide +kernel
theorem dX9_gone_36 : decode cX9_gone 36 = .ok (.iload_n 1, 1) := by decide +kernel
theorem dX9_gone_37 : decode cX9_gone 37 = .ok (.invokevirtual 285, 3) := by decide +kernel
theorem dX9_gone_40 : decode cX9_gone 40 = .ok (.ifCond .ne 28, 3) := by decide +kernel
theorem dX9_gone_43 : decode cX9_gone 43 = .ok (.aload_n 0, 1) := by decide +kernel
theorem dX9_gone_44 : decode cX9_gone 44 = .ok (.getfield 19, 3) := by decide +kernel
theorem dX9_gone_47 : decode cX9_gone 47 = .ok (.invokevirtual 220, 3) := by decide +kernel
theorem dX9_gone_50 : decode cX9_gone 50 = .ok (.aload_n 0, 1) := by decide +kernel
theorem dX9_gone_51 : decode cX9_gone 51 = .ok (.getfield 19, 3) := by decide +kernel
theorem dX9_gone_54 : decode cX9_gone 54 = .ok (.aload_n 0, 1) := by decide +kernel
theorem dX9_gone_55 : decode cX9_gone 55 = .ok (.getfield 33, 3) := by decide +kernel
theorem dX9_gone_58 : decode cX9_gone 58 = .ok (.iload_n 1, 1) := by decide +kernel
theorem dX9_gone_59 : decode cX9_gone 59 = .ok (.invokevirtual 161, 3) := by decide +kernel
theorem dX9_gone_62 : decode cX9_gone 62 = .ok (.i2l, 1) := by decide +kernel
theorem dX9_gone_63 : decode cX9_gone 63 = .ok (.invokevirtual 223, 3) := by decide +kernel
theorem dX9_gone_66 : decode cX9_gone 66 = .ok (.iload_n 2, 1) := by decide +kernel
theorem dX9_gone_67 : decode cX9_gone 67 = .ok (.ireturn, 1) := by decide +kernel
theorem dX9_gone_68 : decode cX9_gone 68 = .ok (.aload_n 0, 1) := by decide +kernel
theorem dX9_gone_69 : decode cX9_gone 69 = .ok (.getfield 33, 3) := by decide +kernel
theorem dX9_gone_72 : decode cX9_gone 72 = .ok (.aload_n 0, 1) := by decide +kernel
theorem dX9_gone_73 : decode cX9_gone 73 = .ok (.getfield 50, 3) := by decide +kernel
theorem dX9_gone_76 : decode cX9_gone 76 = .ok (.invokevirtual 298, 3) := by decide +kernel
theorem dX9_gone_79 : decode cX9_gone 79 = .ok (.pop, 1) := by decide +kernel
theorem dX9_gone_80 : decode cX9_gone 80 = .ok (.iinc 2 1, 3) := by decide +kernel
theorem dX9_gone_83 : decode cX9_gone 83 = .ok (.goto (-57), 3) := by decide +kernel
theorem dX9_gone_86 : decode cX9_gone 86 = .ok (.bipush (-2), 2) := by decide +kernel
theorem dX9_gone_88 : decode cX9_gone 88 = .ok (.ireturn, 1) := by decide +kernel
theorem dX9_lies_0 : decode cX9_lies 0 = .ok (.aload_n 0, 1) := by decide +kernel
theorem dX9_lies_1 : decode cX9_lies 1 = .ok (.getfield 26, 3) := by decide +kernel
theorem dX9_lies_4 : decode cX9_lies 4 = .ok (.iload_n 1, 1) := by decide +kernel
theorem dX9_lies_5 : decode cX9_lies 5 = .ok (.invokevirtual 154, 3) := by decide +kernel
theorem dX9_lies_8 : decode cX9_lies 8 = .ok (.ifCond .eq 13, 3) := by decide +kernel
theorem dX9_lies_11 : decode cX9_lies 11 = .ok (.iload_n 2, 1) := by decide +kernel
theorem dX9_lies_12 : decode cX9_lies 12 = .ok (.ifCond .lt 9, 3) := by decide +kernel
theorem dX9_lies_15 : decode cX9_lies 15 = .ok (.iload_n 2, 1) := by decide +kernel
theorem dX9_lies_16 : decode cX9_lies 16 = .ok (.bipush 100, 2) := by decide +kernel
theorem dX9_lies_18 : decode cX9_lies 18 = .ok (.if_icmp .lt 5, 3) := by decide +kernel
theorem dX9_lies_21 : decode cX9_lies 21 = .ok (.iconst (-1), 1) := by decide +kernel
theorem dX9_lies_22 : decode cX9_lies 22 = .ok (.ireturn, 1) := by decide +kernel
theorem dX9_lies_23 : decode cX9_lies 23 = .ok (.aload_n 0, 1) := by decide +kernel
theorem dX9_lies_24 : decode cX9_lies 24 = .ok (.getfield 33, 3) := by decide +kernel
theorem dX9_lies_27 : decode cX9_lies 27 = .ok (.aload_n 0, 1) := by decide +kernel
theorem dX9_lies_28 : decode cX9_lies 28 = .ok (.getfield 26, 3) := by decide +kernel
theorem dX9_lies_31 : decode cX9_lies 31 = .ok (.invokevirtual 134, 3) := by decide +kernel
theorem dX9_lies_34 : decode cX9_lies 34 = .ok (.aload_n 0, 1) := by decide +kernel
theorem dX9_lies_35 : decode cX9_lies 35 = .ok (.getfield 33, 3) := by decide +kernel
theorem dX9_lies_38 : decode cX9_lies 38 = .ok (.aload_n 0, 1) := by decide +kernel
theorem dX9_lies_39 : decode cX9_lies 39 = .ok (.getfield 50, 3) := by decide +kernel
theorem dX9_lies_42 : decode cX9_lies 42 = .ok (.iload_n 2, 1) := by decide +kernel
theorem dX9_lies_43 : decode cX9_lies 43 = .ok (.invokevirtual 213, 3) := by decide +kernel
theorem dX9_lies_46 : decode cX9_lies 46 = .ok (.pop, 1) := by decide +kernel
theorem dX9_lies_47 : decode cX9_lies 47 = .ok (.aload_n 0, 1) := by decide +kernel
theorem dX9_lies_48 : decode cX9_lies 48 = .ok (.getfield 19, 3) := by decide +kernel
theorem dX9_lies_51 : decode cX9_lies 51 = .ok (.invokevirtual 220, 3) := by decide +kernel
theorem dX9_lies_54 : decode cX9_lies 54 = .ok (.aload_n 0, 1) := by decide +kernel
theorem dX9_lies_55 : decode cX9_lies 55 = .ok (.getfield 19, 3) := by decide +kernel
theorem dX9_lies_58 : decode cX9_lies 58 = .ok (.aload_n 0, 1) := by decide +kernel
theorem dX9_lies_59 : decode cX9_lies 59 = .ok (.getfield 33, 3) := by decide +kernel
theorem dX9_lies_62 : decode cX9_lies 62 = .ok (.getfield 170, 3) := by decide +kernel
theorem dX9_lies_65 : decode cX9_lies 65 = .ok (.iload_n 1, 1) := by decide +kernel
theorem dX9_lies_66 : decode cX9_lies 66 = .ok (.iaload, 1) := by decide +kernel
theorem dX9_lies_67 : decode cX9_lies 67 = .ok (.i2l, 1) := by decide +kernel
theorem dX9_lies_68 : decode cX9_lies 68 = .ok (.invokevirtual 223, 3) := by decide +kernel
theorem dX9_lies_71 : decode cX9_lies 71 = .ok (.aload_n 0, 1) := by decide +kernel
theorem dX9_lies_72 : decode cX9_lies 72 = .ok (.getfield 19, 3) := by decide +kernel
theorem dX9_lies_75 : decode cX9_lies 75 = .ok (.aload_n 0, 1) := by decide +kernel
theorem dX9_lies_76 : decode cX9_lies 76 = .ok (.getfield 33, 3) := by decide +kernel
theorem dX9_lies_79 : decode cX9_lies 79 = .ok (.invokevirtual 302, 3) := by decide +kernel
theorem dX9_lies_82 : decode cX9_lies 82 = .ok (.i2l, 1) := by decide +kernel
theorem dX9_lies_83 : decode cX9_lies 83 = .ok (.invokevirtual 223, 3) := by decide +kernel
theorem dX9_lies_86 : decode cX9_lies 86 = .ok (.aload_n 0, 1) := by decide +kernel
theorem dX9_lies_87 : decode cX9_lies 87 = .ok (.getfield 33, 3) := by decide +kernel
theorem dX9_lies_90 : decode cX9_lies 90 = .ok (.iload_n 1, 1) := by decide +kernel
theorem dX9_lies_91 : decode cX9_lies 91 = .ok (.invokevirtual 161, 3) := by decide +kernel
theorem dX9_lies_94 : decode cX9_lies 94 = .ok (.ireturn, 1) := by decide +kernel
theorem dX9_clears_0 : decode cX9_clears 0 = .ok (.aload_n 0, 1) := by decide +kernel
theorem dX9_clears_1 : decode cX9_clears 1 = .ok (.getfield 26, 3) := by decide +kernel
theorem dX9_clears_4 : decode cX9_clears 4 = .ok (.iload_n 1, 1) := by decide +kernel
theorem dX9_clears_5 : decode cX9_clears 5 = .ok (.invokevirtual 186, 3) := by decide +kernel
theorem dX9_clears_8 : decode cX9_clears 8 = .ok (.ifCond .ne 5, 3) := by decide +kernel
theorem dX9_clears_11 : decode cX9_clears 11 = .ok (.iconst (-1), 1) := by decide +kernel
theorem dX9_clears_12 : decode cX9_clears 12 = .ok (.ireturn, 1) := by decide +kernel
theorem dX9_clears_13 : decode cX9_clears 13 = .ok (.bipush (-2), 2) := by decide +kernel
theorem dX9_clears_15 : decode cX9_clears 15 = .ok (.istore_n 2, 1) := by decide +kernel
theorem dX9_clears_16 : decode cX9_clears 16 = .ok (.iconst 0, 1) := by decide +kernel
theorem dX9_clears_17 : decode cX9_clears 17 = .ok (.istore_n 3, 1) := by decide +kernel
theorem dX9_clears_18 : decode cX9_clears 18 = .ok (.aload_n 0, 1) := by decide +kernel
theorem dX9_clears_19 : decode cX9_clears 19 = .ok (.getfield 33, 3) := by decide +kernel
theorem dX9_clears_22 : decode cX9_clears 22 = .ok (.aload_n 0, 1) := by decide +kernel
theorem dX9_clears_23 : decode cX9_clears 23 = .ok (.getfield 26, 3) := by decide +kernel
theorem dX9_clears_26 : decode cX9_clears 26 = .ok (.invokevirtual 134, 3) := by decide +kernel
theorem dX9_clears_29 : decode cX9_clears 29 = .ok (.iconst 0, 1) := by decide +kernel
theorem dX9_clears_30 : decode cX9_clears 30 = .ok (.istore 4, 2) := by decide +kernel
theorem dX9_clears_32 : decode cX9_clears 32 = .ok (.iload 4, 2) := by decide +kernel
theorem dX9_clears_34 : decode cX9_clears 34 = .ok (.bipush 100, 2) := by decide +kernel
theorem dX9_clears_36 : decode cX9_clears 36 = .ok (.if_icmp .ge 47, 3) := by decide +kernel
theorem dX9_clears_39 : decode cX9_clears 39 = .ok (.aload_n 0, 1) := by decide +kernel
theorem dX9_clears_40 : decode cX9_clears 40 = .ok (.getfield 33, 3) := by decide +kernel
theorem dX9_clears_43 : decode cX9_clears 43 = .ok (.iload_n 1, 1) := by decide +kernel
theorem dX9_clears_44 : decode cX9_clears 44 = .ok (.invokevirtual 189, 3) := by decide +kernel
theorem dX9_clears_47 : decode cX9_clears 47 = .ok (.ifCond .eq 9, 3) := by decide +kernel
theorem dX9_clears_50 : decode cX9_clears 50 = .ok (.iinc 3 1, 3) := by decide +kernel
theorem dX9_clears_53 : decode cX9_clears 53 = .ok (.goto 12, 3) := by decide +kernel
theorem dX9_clears_56 : decode cX9_clears 56 = .ok (.iload_n 2, 1) := by decide +kernel
theorem dX9_clears_57 : decode cX9_clears 57 = .ok (.bipush (-2), 2) := by decide +kernel
theorem dX9_clears_59 : decode cX9_clears 59 = .ok (.if_icmp .ne 6, 3) := by decide +kernel
theorem dX9_clears_62 : decode cX9_clears 62 = .ok (.iload 4, 2) := by decide +kernel
theorem dX9_clears_64 : decode cX9_clears 64 = .ok (.istore_n 2, 1) := by decide +kernel
theorem dX9_clears_65 : decode cX9_clears 65 = .ok (.aload_n 0, 1) := by decide +kernel
theorem dX9_clears_66 : decode cX9_clears 66 = .ok (.getfield 33, 3) := by decide +kernel
theorem dX9_clears_69 : decode cX9_clears 69 = .ok (.aload_n 0, 1) := by decide +kernel
theorem dX9_clears_70 : decode cX9_clears 70 = .ok (.getfield 50, 3) := by decide +kernel
theorem dX9_clears_73 : decode cX9_clears 73 = .ok (.invokevirtual 298, 3) := by decide +kernel
theorem dX9_clears_76 : decode cX9_clears 76 = .ok (.pop, 1) := by decide +kernel
theorem dX9_clears_77 : decode cX9_clears 77 = .ok (.iinc 4 1, 3) := by decide +kernel
theorem dX9_clears_80 : decode cX9_clears 80 = .ok (.goto (-48), 3) := by decide +kernel
theorem dX9_clears_83 : decode cX9_clears 83 = .ok (.iload_n 2, 1) := by decide +kernel
theorem dX9_clears_84 : decode cX9_clears 84 = .ok (.bipush (-2), 2) := by decide +kernel
theorem dX9_clears_86 : decode cX9_clears 86 = .ok (.if_icmp .eq 19, 3) := by decide +kernel
theorem dX9_clears_89 : decode cX9_clears 89 = .ok (.aload_n 0, 1) := by decide +kernel
theorem dX9_clears_90 : decode cX9_clears 90 = .ok (.getfield 19, 3) := by decide +kernel
theorem dX9_clears_93 : decode cX9_clears 93 = .ok (.invokevirtual 220, 3) := by decide +kernel
theorem dX9_clears_96 : decode cX9_clears 96 = .ok (.aload_n 0, 1) := by decide +kernel
theorem dX9_clears_97 : decode cX9_clears 97 = .ok (.getfield 19, 3) := by decide +kernel
theorem dX9_clears_100 : decode cX9_clears 100 = .ok (.iload_n 3, 1) := by decide +kernel
theorem dX9_clears_101 : decode cX9_clears 101 = .ok (.i2l, 1) := by decide +kernel
theorem dX9_clears_102 : decode cX9_clears 102 = .ok (.invokevirtual 223, 3) := by decide +kernel
theorem dX9_clears_105 : decode cX9_clears 105 = .ok (.iload_n 2, 1) := by decide +kernel
theorem dX9_clears_106 : decode cX9_clears 106 = .ok (.ireturn, 1) := by decide +kernel
theorem dX9_room_0 : decode cX9_room 0 = .ok (.iload_n 1, 1) := by decide +kernel
theorem dX9_room_1 : decode cX9_room 1 = .ok (.iload_n 2, 1) := by decide +kernel
theorem dX9_room_2 : decode cX9_room 2 = .ok (.invokestatic 305, 3) := by decide +kernel
theorem dX9_room_5 : decode cX9_room 5 = .ok (.ifCond .ne 5, 3) := by decide +kernel
theorem dX9_room_8 : decode cX9_room 8 = .ok (.iconst (-1), 1) := by decide +kernel
theorem dX9_room_9 : decode cX9_room 9 = .ok (.ireturn, 1) := by decide +kernel
theorem dX9_room_10 : decode cX9_room 10 = .ok (.aload_n 0, 1) := by decide +kernel
theorem dX9_room_11 : decode cX9_room 11 = .ok (.getfield 26, 3) := by decide +kernel
theorem dX9_room_14 : decode cX9_room 14 = .ok (.iload_n 1, 1) := by decide +kernel
theorem dX9_room_15 : decode cX9_room 15 = .ok (.iload_n 2, 1) := by decide +kernel
theorem dX9_room_16 : decode cX9_room 16 = .ok (.invokevirtual 308, 3) := by decide +kernel
theorem dX9_room_19 : decode cX9_room 19 = .ok (.istore_n 3, 1) := by decide +kernel
theorem dX9_room_20 : decode cX9_room 20 = .ok (.iload_n 3, 1) := by decide +kernel
theorem dX9_room_21 : decode cX9_room 21 = .ok (.iconst (-1), 1) := by decide +kernel
theorem dX9_room_22 : decode cX9_room 22 = .ok (.if_icmp .ne 6, 3) := by decide +kernel
theorem dX9_room_25 : decode cX9_room 25 = .ok (.bipush (-2), 2) := by decide +kernel
theorem dX9_room_27 : decode cX9_room 27 = .ok (.ireturn, 1) := by decide +kernel
theorem dX9_room_28 : decode cX9_room 28 = .ok (.iconst 0, 1) := by decide +kernel
theorem dX9_room_29 : decode cX9_room 29 = .ok (.istore 4, 2) := by decide +kernel
theorem dX9_room_31 : decode cX9_room 31 = .ok (.iload_n 3, 1) := by decide +kernel
theorem dX9_room_32 : decode cX9_room 32 = .ok (.istore 5, 2) := by decide +kernel
theorem dX9_room_34 : decode cX9_room 34 = .ok (.iload 5, 2) := by decide +kernel
theorem dX9_room_36 : decode cX9_room 36 = .ok (.aload_n 0, 1) := by decide +kernel
theorem dX9_room_37 : decode cX9_room 37 = .ok (.getfield 26, 3) := by decide +kernel
theorem dX9_room_40 : decode cX9_room 40 = .ok (.invokevirtual 118, 3) := by decide +kernel
theorem dX9_room_43 : decode cX9_room 43 = .ok (.if_icmp .ge 26, 3) := by decide +kernel
theorem dX9_room_46 : decode cX9_room 46 = .ok (.aload_n 0, 1) := by decide +kernel
theorem dX9_room_47 : decode cX9_room 47 = .ok (.getfield 26, 3) := by decide +kernel
theorem dX9_room_50 : decode cX9_room 50 = .ok (.iload 5, 2) := by decide +kernel
theorem dX9_room_52 : decode cX9_room 52 = .ok (.iload_n 1, 1) := by decide +kernel
theorem dX9_room_53 : decode cX9_room 53 = .ok (.iload_n 2, 1) := by decide +kernel
theorem dX9_room_54 : decode cX9_room 54 = .ok (.invokevirtual 311, 3) := by decide +kernel
theorem dX9_room_57 : decode cX9_room 57 = .ok (.ifCond .eq 6, 3) := by decide +kernel
theorem dX9_room_60 : decode cX9_room 60 = .ok (.iinc 4 1, 3) := by decide +kernel
theorem dX9_room_63 : decode cX9_room 63 = .ok (.iinc 5 1, 3) := by decide +kernel
theorem dX9_room_66 : decode cX9_room 66 = .ok (.goto (-32), 3) := by decide +kernel
theorem dX9_room_69 : decode cX9_room 69 = .ok (.aload_n 0, 1) := by decide +kernel
theorem dX9_room_70 : decode cX9_room 70 = .ok (.getfield 19, 3) := by decide +kernel
theorem dX9_room_73 : decode cX9_room 73 = .ok (.invokevirtual 220, 3) := by decide +kernel
theorem dX9_room_76 : decode cX9_room 76 = .ok (.aload_n 0, 1) := by decide +kernel
theorem dX9_room_77 : decode cX9_room 77 = .ok (.getfield 19, 3) := by decide +kernel
theorem dX9_room_80 : decode cX9_room 80 = .ok (.iload 4, 2) := by decide +kernel
theorem dX9_room_82 : decode cX9_room 82 = .ok (.i2l, 1) := by decide +kernel
theorem dX9_room_83 : decode cX9_room 83 = .ok (.invokevirtual 223, 3) := by decide +kernel
theorem dX9_room_86 : decode cX9_room 86 = .ok (.iload_n 3, 1) := by decide +kernel
theorem dX9_room_87 : decode cX9_room 87 = .ok (.ireturn, 1) := by decide +kernel
theorem dX9_areSides_0 : decode cX9_areSides 0 = .ok (.iload_n 0, 1) := by decide +kernel
theorem dX9_areSides_1 : decode cX9_areSides 1 = .ok (.iconst 1, 1) := by decide +kernel
theorem dX9_areSides_2 : decode cX9_areSides 2 = .ok (.if_icmp .lt 22, 3) := by decide +kernel
theorem dX9_areSides_5 : decode cX9_areSides 5 = .ok (.iload_n 0, 1) := by decide +kernel
theorem dX9_areSides_6 : decode cX9_areSides 6 = .ok (.iconst 3, 1) := by decide +kernel
theorem dX9_areSides_7 : decode cX9_areSides 7 = .ok (.if_icmp .gt 17, 3) := by decide +kernel
theorem dX9_areSides_10 : decode cX9_areSides 10 = .ok (.iload_n 1, 1) := by decide +kernel
theorem dX9_areSides_11 : decode cX9_areSides 11 = .ok (.iconst 1, 1) := by decide +kernel
theorem dX9_areSides_12 : decode cX9_areSides 12 = .ok (.if_icmp .lt 12, 3) := by decide +kernel
theorem dX9_areSides_15 : decode cX9_areSides 15 = .ok (.iload_n 1, 1) := by decide +kernel
theorem dX9_areSides_16 : decode cX9_areSides 16 = .ok (.iconst 3, 1) := by decide +kernel
theorem dX9_areSides_17 : decode cX9_areSides 17 = .ok (.if_icmp .gt 7, 3) := by decide +kernel
theorem dX9_areSides_20 : decode cX9_areSides 20 = .ok (.iconst 1, 1) := by decide +kernel
theorem dX9_areSides_21 : decode cX9_areSides 21 = .ok (.goto 4, 3) := by decide +kernel
theorem dX9_areSides_24 : decode cX9_areSides 24 = .ok (.iconst 0, 1) := by decide +kernel
theorem dX9_areSides_25 : decode cX9_areSides 25 = .ok (.ireturn, 1) := by decide +kernel
theorem dX9_when_0 : decode cX9_when 0 = .ok (.iload_n 1, 1) := by decide +kernel
theorem dX9_when_1 : decode cX9_when 1 = .ok (.iload_n 2, 1) := by decide +kernel
theorem dX9_when_2 : decode cX9_when 2 = .ok (.invokestatic 305, 3) := by decide +kernel
theorem dX9_when_5 : decode cX9_when 5 = .ok (.ifCond .ne 5, 3) := by decide +kernel
theorem dX9_when_8 : decode cX9_when 8 = .ok (.iconst (-1), 1) := by decide +kernel
theorem dX9_when_9 : decode cX9_when 9 = .ok (.ireturn, 1) := by decide +kernel
theorem dX9_when_10 : decode cX9_when 10 = .ok (.aload_n 0, 1) := by decide +kernel
theorem dX9_when_11 : decode cX9_when 11 = .ok (.getfield 33, 3) := by decide +kernel
theorem dX9_when_14 : decode cX9_when 14 = .ok (.aload_n 0, 1) := by decide +kernel
theorem dX9_when_15 : decode cX9_when 15 = .ok (.getfield 26, 3) := by decide +kernel
theorem dX9_when_18 : decode cX9_when 18 = .ok (.invokevirtual 134, 3) := by decide +kernel
theorem dX9_when_21 : decode cX9_when 21 = .ok (.iconst 0, 1) := by decide +kernel
theorem dX9_when_22 : decode cX9_when 22 = .ok (.istore_n 3, 1) := by decide +kernel
theorem dX9_when_23 : decode cX9_when 23 = .ok (.iload_n 3, 1) := by decide +kernel
theorem dX9_when_24 : decode cX9_when 24 = .ok (.bipush 100, 2) := by decide +kernel
theorem dX9_when_26 : decode cX9_when 26 = .ok (.if_icmp .ge 57, 3) := by decide +kernel
theorem dX9_when_29 : decode cX9_when 29 = .ok (.aload_n 0, 1) := by decide +kernel
theorem dX9_when_30 : decode cX9_when 30 = .ok (.getfield 33, 3) := by decide +kernel
theorem dX9_when_33 : decode cX9_when 33 = .ok (.iload_n 1, 1) := by decide +kernel
theorem dX9_when_34 : decode cX9_when 34 = .ok (.iload_n 2, 1) := by decide +kernel
theorem dX9_when_35 : decode cX9_when 35 = .ok (.invokevirtual 308, 3) := by decide +kernel
theorem dX9_when_38 : decode cX9_when 38 = .ok (.istore 4, 2) := by decide +kernel
theorem dX9_when_40 : decode cX9_when 40 = .ok (.iload 4, 2) := by decide +kernel
theorem dX9_when_42 : decode cX9_when 42 = .ok (.iconst (-1), 1) := by decide +kernel
theorem dX9_when_43 : decode cX9_when 43 = .ok (.if_icmp .eq 22, 3) := by decide +kernel
theorem dX9_when_46 : decode cX9_when 46 = .ok (.aload_n 0, 1) := by decide +kernel
theorem dX9_when_47 : decode cX9_when 47 = .ok (.getfield 19, 3) := by decide +kernel
theorem dX9_when_50 : decode cX9_when 50 = .ok (.invokevirtual 220, 3) := by decide +kernel
theorem dX9_when_53 : decode cX9_when 53 = .ok (.aload_n 0, 1) := by decide +kernel
theorem dX9_when_54 : decode cX9_when 54 = .ok (.getfield 19, 3) := by decide +kernel
theorem dX9_when_57 : decode cX9_when 57 = .ok (.iload 4, 2) := by decide +kernel
theorem dX9_when_59 : decode cX9_when 59 = .ok (.i2l, 1) := by decide +kernel
theorem dX9_when_60 : decode cX9_when 60 = .ok (.invokevirtual 223, 3) := by decide +kernel
theorem dX9_when_63 : decode cX9_when 63 = .ok (.iload_n 3, 1) := by decide +kernel
theorem dX9_when_64 : decode cX9_when 64 = .ok (.ireturn, 1) := by decide +kernel
theorem dX9_when_65 : decode cX9_when 65 = .ok (.aload_n 0, 1) := by decide +kernel
theorem dX9_when_66 : decode cX9_when 66 = .ok (.getfield 33, 3) := by decide +kernel
theorem dX9_when_69 : decode cX9_when 69 = .ok (.aload_n 0, 1) := by decide +kernel
theorem dX9_when_70 : decode cX9_when 70 = .ok (.getfield 50, 3) := by decide +kernel
theorem dX9_when_73 : decode cX9_when 73 = .ok (.invokevirtual 298, 3) := by decide +kernel
theorem dX9_when_76 : decode cX9_when 76 = .ok (.pop, 1) := by decide +kernel
theorem dX9_when_77 : decode cX9_when 77 = .ok (.iinc 3 1, 3) := by decide +kernel
theorem dX9_when_80 : decode cX9_when 80 = .ok (.goto (-57), 3) := by decide +kernel
theorem dX9_when_83 : decode cX9_when 83 = .ok (.bipush (-2), 2) := by decide +kernel
theorem dX9_when_85 : decode cX9_when 85 = .ok (.ireturn, 1) := by decide +kernel
theorem dX9_least_0 : decode cX9_least 0 = .ok (.iload_n 1, 1) := by decide +kernel
theorem dX9_least_1 : decode cX9_least 1 = .ok (.iload_n 2, 1) := by decide +kernel
theorem dX9_least_2 : decode cX9_least 2 = .ok (.invokestatic 305, 3) := by decide +kernel
theorem dX9_least_5 : decode cX9_least 5 = .ok (.ifCond .ne 5, 3) := by decide +kernel
theorem dX9_least_8 : decode cX9_least 8 = .ok (.iconst (-1), 1) := by decide +kernel
theorem dX9_least_9 : decode cX9_least 9 = .ok (.ireturn, 1) := by decide +kernel
theorem dX9_least_10 : decode cX9_least 10 = .ok (.bipush (-2), 2) := by decide +kernel
theorem dX9_least_12 : decode cX9_least 12 = .ok (.istore_n 3, 1) := by decide +kernel
theorem dX9_least_13 : decode cX9_least 13 = .ok (.ldc_w 315, 3) := by decide +kernel
theorem dX9_least_16 : decode cX9_least 16 = .ok (.istore 4, 2) := by decide +kernel
theorem dX9_least_18 : decode cX9_least 18 = .ok (.iconst 0, 1) := by decide +kernel
theorem dX9_least_19 : decode cX9_least 19 = .ok (.istore 5, 2) := by decide +kernel
theorem dX9_least_21 : decode cX9_least 21 = .ok (.iload 5, 2) := by decide +kernel
theorem dX9_least_23 : decode cX9_least 23 = .ok (.aload_n 0, 1) := by decide +kernel
theorem dX9_least_24 : decode cX9_least 24 = .ok (.getfield 26, 3) := by decide +kernel
theorem dX9_least_27 : decode cX9_least 27 = .ok (.invokevirtual 118, 3) := by decide +kernel
theorem dX9_least_30 : decode cX9_least 30 = .ok (.if_icmp .ge 50, 3) := by decide +kernel
theorem dX9_least_33 : decode cX9_least 33 = .ok (.aload_n 0, 1) := by decide +kernel
theorem dX9_least_34 : decode cX9_least 34 = .ok (.getfield 26, 3) := by decide +kernel
theorem dX9_least_37 : decode cX9_least 37 = .ok (.iload 5, 2) := by decide +kernel
theorem dX9_least_39 : decode cX9_least 39 = .ok (.iload_n 1, 1) := by decide +kernel
theorem dX9_least_40 : decode cX9_least 40 = .ok (.iload_n 2, 1) := by decide +kernel
theorem dX9_least_41 : decode cX9_least 41 = .ok (.invokevirtual 316, 3) := by decide +kernel
theorem dX9_least_44 : decode cX9_least 44 = .ok (.ifCond .eq 30, 3) := by decide +kernel
theorem dX9_least_47 : decode cX9_least 47 = .ok (.aload_n 0, 1) := by decide +kernel
theorem dX9_least_48 : decode cX9_least 48 = .ok (.getfield 26, 3) := by decide +kernel
theorem dX9_least_51 : decode cX9_least 51 = .ok (.iload 5, 2) := by decide +kernel
theorem dX9_least_53 : decode cX9_least 53 = .ok (.iload_n 1, 1) := by decide +kernel
theorem dX9_least_54 : decode cX9_least 54 = .ok (.iload_n 2, 1) := by decide +kernel
theorem dX9_least_55 : decode cX9_least 55 = .ok (.invokevirtual 319, 3) := by decide +kernel
theorem dX9_least_58 : decode cX9_least 58 = .ok (.istore 6, 2) := by decide +kernel
theorem dX9_least_60 : decode cX9_least 60 = .ok (.iload 6, 2) := by decide +kernel
theorem dX9_least_62 : decode cX9_least 62 = .ok (.iload 4, 2) := by decide +kernel
theorem dX9_least_64 : decode cX9_least 64 = .ok (.if_icmp .ge 10, 3) := by decide +kernel
theorem dX9_least_67 : decode cX9_least 67 = .ok (.iload 6, 2) := by decide +kernel
theorem dX9_least_69 : decode cX9_least 69 = .ok (.istore 4, 2) := by decide +kernel
theorem dX9_least_71 : decode cX9_least 71 = .ok (.iload 5, 2) := by decide +kernel
theorem dX9_least_73 : decode cX9_least 73 = .ok (.istore_n 3, 1) := by decide +kernel
theorem dX9_least_74 : decode cX9_least 74 = .ok (.iinc 5 1, 3) := by decide +kernel
theorem dX9_least_77 : decode cX9_least 77 = .ok (.goto (-56), 3) := by decide +kernel
theorem dX9_least_80 : decode cX9_least 80 = .ok (.iload_n 3, 1) := by decide +kernel
theorem dX9_least_81 : decode cX9_least 81 = .ok (.bipush (-2), 2) := by decide +kernel
theorem dX9_least_83 : decode cX9_least 83 = .ok (.if_icmp .eq 38, 3) := by decide +kernel
theorem dX9_least_86 : decode cX9_least 86 = .ok (.aload_n 0, 1) := by decide +kernel
theorem dX9_least_87 : decode cX9_least 87 = .ok (.getfield 19, 3) := by decide +kernel
theorem dX9_least_90 : decode cX9_least 90 = .ok (.invokevirtual 220, 3) := by decide +kernel
theorem dX9_least_93 : decode cX9_least 93 = .ok (.aload_n 0, 1) := by decide +kernel
theorem dX9_least_94 : decode cX9_least 94 = .ok (.getfield 19, 3) := by decide +kernel
theorem dX9_least_97 : decode cX9_least 97 = .ok (.iload 4, 2) := by decide +kernel
theorem dX9_least_99 : decode cX9_least 99 = .ok (.i2l, 1) := by decide +kernel
theorem dX9_least_100 : decode cX9_least 100 = .ok (.invokevirtual 223, 3) := by decide +kernel
theorem dX9_least_103 : decode cX9_least 103 = .ok (.aload_n 0, 1) := by decide +kernel
theorem dX9_least_104 : decode cX9_least 104 = .ok (.getfield 19, 3) := by decide +kernel
theorem dX9_least_107 : decode cX9_least 107 = .ok (.aload_n 0, 1) := by decide +kernel
theorem dX9_least_108 : decode cX9_least 108 = .ok (.getfield 26, 3) := by decide +kernel
theorem dX9_least_111 : decode cX9_least 111 = .ok (.iload_n 3, 1) := by decide +kernel
theorem dX9_least_112 : decode cX9_least 112 = .ok (.iload_n 1, 1) := by decide +kernel
theorem dX9_least_113 : decode cX9_least 113 = .ok (.iload_n 2, 1) := by decide +kernel
theorem dX9_least_114 : decode cX9_least 114 = .ok (.invokevirtual 323, 3) := by decide +kernel
theorem dX9_least_117 : decode cX9_least 117 = .ok (.i2l, 1) := by decide +kernel
theorem dX9_least_118 : decode cX9_least 118 = .ok (.invokevirtual 223, 3) := by decide +kernel
theorem dX9_least_121 : decode cX9_least 121 = .ok (.iload_n 3, 1) := by decide +kernel
theorem dX9_least_122 : decode cX9_least 122 = .ok (.ireturn, 1) := by decide +kernel
theorem dX9_largest_0 : decode cX9_largest 0 = .ok (.iconst 0, 1) := by decide +kernel
theorem dX9_largest_1 : decode cX9_largest 1 = .ok (.istore_n 1, 1) := by decide +kernel
theorem dX9_largest_2 : decode cX9_largest 2 = .ok (.aload_n 0, 1) := by decide +kernel
theorem dX9_largest_3 : decode cX9_largest 3 = .ok (.getfield 19, 3) := by decide +kernel
theorem dX9_largest_6 : decode cX9_largest 6 = .ok (.invokevirtual 220, 3) := by decide +kernel
theorem dX9_largest_9 : decode cX9_largest 9 = .ok (.iconst 0, 1) := by decide +kernel
theorem dX9_largest_10 : decode cX9_largest 10 = .ok (.istore_n 2, 1) := by decide +kernel
theorem dX9_largest_11 : decode cX9_largest 11 = .ok (.iload_n 2, 1) := by decide +kernel
theorem dX9_largest_12 : decode cX9_largest 12 = .ok (.aload_n 0, 1) := by decide +kernel
theorem dX9_largest_13 : decode cX9_largest 13 = .ok (.getfield 26, 3) := by decide +kernel
theorem dX9_largest_16 : decode cX9_largest 16 = .ok (.invokevirtual 118, 3) := by decide +kernel
theorem dX9_largest_19 : decode cX9_largest 19 = .ok (.if_icmp .ge 111, 3) := by decide +kernel
theorem dX9_largest_22 : decode cX9_largest 22 = .ok (.iconst 1, 1) := by decide +kernel
theorem dX9_largest_23 : decode cX9_largest 23 = .ok (.istore_n 3, 1) := by decide +kernel
theorem dX9_largest_24 : decode cX9_largest 24 = .ok (.iload_n 3, 1) := by decide +kernel
theorem dX9_largest_25 : decode cX9_largest 25 = .ok (.aload_n 0, 1) := by decide +kernel
theorem dX9_largest_26 : decode cX9_largest 26 = .ok (.getfield 26, 3) := by decide +kernel
theorem dX9_largest_29 : decode cX9_largest 29 = .ok (.getfield 326, 3) := by decide +kernel
theorem dX9_largest_32 : decode cX9_largest 32 = .ok (.if_icmp .gt 92, 3) := by decide +kernel
theorem dX9_largest_35 : decode cX9_largest 35 = .ok (.iconst 1, 1) := by decide +kernel
theorem dX9_largest_36 : decode cX9_largest 36 = .ok (.istore 4, 2) := by decide +kernel
theorem dX9_largest_38 : decode cX9_largest 38 = .ok (.iload 4, 2) := by decide +kernel
theorem dX9_largest_40 : decode cX9_largest 40 = .ok (.aload_n 0, 1) := by decide +kernel
theorem dX9_largest_41 : decode cX9_largest 41 = .ok (.getfield 26, 3) := by decide +kernel
theorem dX9_largest_44 : decode cX9_largest 44 = .ok (.getfield 329, 3) := by decide +kernel
theorem dX9_largest_47 : decode cX9_largest 47 = .ok (.if_icmp .gt 71, 3) := by decide +kernel
theorem dX9_largest_50 : decode cX9_largest 50 = .ok (.iload_n 3, 1) := by decide +kernel
theorem dX9_largest_51 : decode cX9_largest 51 = .ok (.iload 4, 2) := by decide +kernel
theorem dX9_largest_53 : decode cX9_largest 53 = .ok (.imul, 1) := by decide +kernel
theorem dX9_largest_54 : decode cX9_largest 54 = .ok (.iload_n 1, 1) := by decide +kernel
theorem dX9_largest_55 : decode cX9_largest 55 = .ok (.if_icmp .le 57, 3) := by decide +kernel
theorem dX9_largest_58 : decode cX9_largest 58 = .ok (.aload_n 0, 1) := by decide +kernel
theorem dX9_largest_59 : decode cX9_largest 59 = .ok (.getfield 26, 3) := by decide +kernel
theorem dX9_largest_62 : decode cX9_largest 62 = .ok (.iload_n 2, 1) := by decide +kernel
theorem dX9_largest_63 : decode cX9_largest 63 = .ok (.iload_n 3, 1) := by decide +kernel
theorem dX9_largest_64 : decode cX9_largest 64 = .ok (.iload 4, 2) := by decide +kernel
theorem dX9_largest_66 : decode cX9_largest 66 = .ok (.invokevirtual 311, 3) := by decide +kernel
theorem dX9_largest_69 : decode cX9_largest 69 = .ok (.ifCond .eq 43, 3) := by decide +kernel
theorem dX9_largest_72 : decode cX9_largest 72 = .ok (.iload_n 3, 1) := by decide +kernel
theorem dX9_largest_73 : decode cX9_largest 73 = .ok (.iload 4, 2) := by decide +kernel
theorem dX9_largest_75 : decode cX9_largest 75 = .ok (.imul, 1) := by decide +kernel
theorem dX9_largest_76 : decode cX9_largest 76 = .ok (.istore_n 1, 1) := by decide +kernel
theorem dX9_largest_77 : decode cX9_largest 77 = .ok (.aload_n 0, 1) := by decide +kernel
theorem dX9_largest_78 : decode cX9_largest 78 = .ok (.getfield 19, 3) := by decide +kernel
theorem dX9_largest_81 : decode cX9_largest 81 = .ok (.invokevirtual 220, 3) := by decide +kernel
theorem dX9_largest_84 : decode cX9_largest 84 = .ok (.aload_n 0, 1) := by decide +kernel
theorem dX9_largest_85 : decode cX9_largest 85 = .ok (.getfield 19, 3) := by decide +kernel
theorem dX9_largest_88 : decode cX9_largest 88 = .ok (.iload_n 2, 1) := by decide +kernel
theorem dX9_largest_89 : decode cX9_largest 89 = .ok (.i2l, 1) := by decide +kernel
theorem dX9_largest_90 : decode cX9_largest 90 = .ok (.invokevirtual 223, 3) := by decide +kernel
theorem dX9_largest_93 : decode cX9_largest 93 = .ok (.aload_n 0, 1) := by decide +kernel
theorem dX9_largest_94 : decode cX9_largest 94 = .ok (.getfield 19, 3) := by decide +kernel
theorem dX9_largest_97 : decode cX9_largest 97 = .ok (.iload_n 3, 1) := by decide +kernel
theorem dX9_largest_98 : decode cX9_largest 98 = .ok (.i2l, 1) := by decide +kernel
theorem dX9_largest_99 : decode cX9_largest 99 = .ok (.invokevirtual 223, 3) := by decide +kernel
theorem dX9_largest_102 : decode cX9_largest 102 = .ok (.aload_n 0, 1) := by decide +kernel
theorem dX9_largest_103 : decode cX9_largest 103 = .ok (.getfield 19, 3) := by decide +kernel
theorem dX9_largest_106 : decode cX9_largest 106 = .ok (.iload 4, 2) := by decide +kernel
theorem dX9_largest_108 : decode cX9_largest 108 = .ok (.i2l, 1) := by decide +kernel
theorem dX9_largest_109 : decode cX9_largest 109 = .ok (.invokevirtual 223, 3) := by decide +kernel
theorem dX9_largest_112 : decode cX9_largest 112 = .ok (.iinc 4 1, 3) := by decide +kernel
theorem dX9_largest_115 : decode cX9_largest 115 = .ok (.goto (-77), 3) := by decide +kernel
theorem dX9_largest_118 : decode cX9_largest 118 = .ok (.iinc 3 1, 3) := by decide +kernel
theorem dX9_largest_121 : decode cX9_largest 121 = .ok (.goto (-97), 3) := by decide +kernel
theorem dX9_largest_124 : decode cX9_largest 124 = .ok (.iinc 2 1, 3) := by decide +kernel
theorem dX9_largest_127 : decode cX9_largest 127 = .ok (.goto (-116), 3) := by decide +kernel
theorem dX9_largest_130 : decode cX9_largest 130 = .ok (.iload_n 1, 1) := by decide +kernel
theorem dX9_largest_131 : decode cX9_largest 131 = .ok (.ireturn, 1) := by decide +kernel
theorem dX9_makes_0 : decode cX9_makes 0 = .ok (.iload_n 1, 1) := by decide +kernel
theorem dX9_makes_1 : decode cX9_makes 1 = .ok (.iload_n 2, 1) := by decide +kernel
theorem dX9_makes_2 : decode cX9_makes 2 = .ok (.invokestatic 305, 3) := by decide +kernel
theorem dX9_makes_5 : decode cX9_makes 5 = .ok (.ifCond .ne 5, 3) := by decide +kernel
theorem dX9_makes_8 : decode cX9_makes 8 = .ok (.iconst (-1), 1) := by decide +kernel
theorem dX9_makes_9 : decode cX9_makes 9 = .ok (.ireturn, 1) := by decide +kernel
theorem dX9_makes_10 : decode cX9_makes 10 = .ok (.ldc_w 315, 3) := by decide +kernel
theorem dX9_makes_13 : decode cX9_makes 13 = .ok (.istore_n 3, 1) := by decide +kernel
theorem dX9_makes_14 : decode cX9_makes 14 = .ok (.iconst 0, 1) := by decide +kernel
theorem dX9_makes_15 : decode cX9_makes 15 = .ok (.istore 4, 2) := by decide +kernel
theorem dX9_makes_17 : decode cX9_makes 17 = .ok (.iconst 0, 1) := by decide +kernel
theorem dX9_makes_18 : decode cX9_makes 18 = .ok (.istore 5, 2) := by decide +kernel
theorem dX9_makes_20 : decode cX9_makes 20 = .ok (.iload 5, 2) := by decide +kernel
theorem dX9_makes_22 : decode cX9_makes 22 = .ok (.aload_n 0, 1) := by decide +kernel
theorem dX9_makes_23 : decode cX9_makes 23 = .ok (.getfield 26, 3) := by decide +kernel
theorem dX9_makes_26 : decode cX9_makes 26 = .ok (.invokevirtual 118, 3) := by decide +kernel
theorem dX9_makes_29 : decode cX9_makes 29 = .ok (.if_icmp .ge 69, 3) := by decide +kernel
theorem dX9_makes_32 : decode cX9_makes 32 = .ok (.aload_n 0, 1) := by decide +kernel
theorem dX9_makes_33 : decode cX9_makes 33 = .ok (.getfield 26, 3) := by decide +kernel
theorem dX9_makes_36 : decode cX9_makes 36 = .ok (.iload 5, 2) := by decide +kernel
theorem dX9_makes_38 : decode cX9_makes 38 = .ok (.iload_n 1, 1) := by decide +kernel
theorem dX9_makes_39 : decode cX9_makes 39 = .ok (.iload_n 2, 1) := by decide +kernel
theorem dX9_makes_40 : decode cX9_makes 40 = .ok (.invokevirtual 316, 3) := by decide +kernel
theorem dX9_makes_43 : decode cX9_makes 43 = .ok (.ifCond .eq 49, 3) := by decide +kernel
theorem dX9_makes_46 : decode cX9_makes 46 = .ok (.aload_n 0, 1) := by decide +kernel
theorem dX9_makes_47 : decode cX9_makes 47 = .ok (.getfield 26, 3) := by decide +kernel
theorem dX9_makes_50 : decode cX9_makes 50 = .ok (.iload 5, 2) := by decide +kernel
theorem dX9_makes_52 : decode cX9_makes 52 = .ok (.iload_n 1, 1) := by decide +kernel
theorem dX9_makes_53 : decode cX9_makes 53 = .ok (.iload_n 2, 1) := by decide +kernel
theorem dX9_makes_54 : decode cX9_makes 54 = .ok (.invokevirtual 323, 3) := by decide +kernel
theorem dX9_makes_57 : decode cX9_makes 57 = .ok (.istore 6, 2) := by decide +kernel
theorem dX9_makes_59 : decode cX9_makes 59 = .ok (.iload 6, 2) := by decide +kernel
theorem dX9_makes_61 : decode cX9_makes 61 = .ok (.invokestatic 267, 3) := by decide +kernel
theorem dX9_makes_64 : decode cX9_makes 64 = .ok (.istore 7, 2) := by decide +kernel
theorem dX9_makes_66 : decode cX9_makes 66 = .ok (.iload 7, 2) := by decide +kernel
theorem dX9_makes_68 : decode cX9_makes 68 = .ok (.iload_n 3, 1) := by decide +kernel
theorem dX9_makes_69 : decode cX9_makes 69 = .ok (.if_icmp .lt 16, 3) := by decide +kernel
theorem dX9_makes_72 : decode cX9_makes 72 = .ok (.iload 7, 2) := by decide +kernel
theorem dX9_makes_74 : decode cX9_makes 74 = .ok (.iload_n 3, 1) := by decide +kernel
theorem dX9_makes_75 : decode cX9_makes 75 = .ok (.if_icmp .ne 17, 3) := by decide +kernel
theorem dX9_makes_78 : decode cX9_makes 78 = .ok (.iload 6, 2) := by decide +kernel
theorem dX9_makes_80 : decode cX9_makes 80 = .ok (.iload 4, 2) := by decide +kernel
theorem dX9_makes_82 : decode cX9_makes 82 = .ok (.if_icmp .ge 10, 3) := by decide +kernel
theorem dX9_makes_85 : decode cX9_makes 85 = .ok (.iload 7, 2) := by decide +kernel
theorem dX9_makes_87 : decode cX9_makes 87 = .ok (.istore_n 3, 1) := by decide +kernel
theorem dX9_makes_88 : decode cX9_makes 88 = .ok (.iload 6, 2) := by decide +kernel
theorem dX9_makes_90 : decode cX9_makes 90 = .ok (.istore 4, 2) := by decide +kernel
theorem dX9_makes_92 : decode cX9_makes 92 = .ok (.iinc 5 1, 3) := by decide +kernel
theorem dX9_makes_95 : decode cX9_makes 95 = .ok (.goto (-75), 3) := by decide +kernel
theorem dX9_makes_98 : decode cX9_makes 98 = .ok (.iload_n 3, 1) := by decide +kernel
theorem dX9_makes_99 : decode cX9_makes 99 = .ok (.bipush 8, 2) := by decide +kernel
theorem dX9_makes_101 : decode cX9_makes 101 = .ok (.if_icmp .le 6, 3) := by decide +kernel
theorem dX9_makes_104 : decode cX9_makes 104 = .ok (.bipush (-2), 2) := by decide +kernel
theorem dX9_makes_106 : decode cX9_makes 106 = .ok (.ireturn, 1) := by decide +kernel
theorem dX9_makes_107 : decode cX9_makes 107 = .ok (.aload_n 0, 1) := by decide +kernel
theorem dX9_makes_108 : decode cX9_makes 108 = .ok (.getfield 19, 3) := by decide +kernel
theorem dX9_makes_111 : decode cX9_makes 111 = .ok (.invokevirtual 220, 3) := by decide +kernel
theorem dX9_makes_114 : decode cX9_makes 114 = .ok (.aload_n 0, 1) := by decide +kernel
theorem dX9_makes_115 : decode cX9_makes 115 = .ok (.getfield 19, 3) := by decide +kernel
theorem dX9_makes_118 : decode cX9_makes 118 = .ok (.iload 4, 2) := by decide +kernel
theorem dX9_makes_120 : decode cX9_makes 120 = .ok (.i2l, 1) := by decide +kernel
theorem dX9_makes_121 : decode cX9_makes 121 = .ok (.invokevirtual 223, 3) := by decide +kernel
theorem dX9_makes_124 : decode cX9_makes 124 = .ok (.iload_n 3, 1) := by decide +kernel
theorem dX9_makes_125 : decode cX9_makes 125 = .ok (.ireturn, 1) := by decide +kernel
theorem dX9_meets_0 : decode cX9_meets 0 = .ok (.aload_n 0, 1) := by decide +kernel
theorem dX9_meets_1 : decode cX9_meets 1 = .ok (.getfield 26, 3) := by decide +kernel
theorem dX9_meets_4 : decode cX9_meets 4 = .ok (.iload_n 1, 1) := by decide +kernel
theorem dX9_meets_5 : decode cX9_meets 5 = .ok (.invokevirtual 186, 3) := by decide +kernel
theorem dX9_meets_8 : decode cX9_meets 8 = .ok (.ifCond .eq 31, 3) := by decide +kernel
theorem dX9_meets_11 : decode cX9_meets 11 = .ok (.aload_n 0, 1) := by decide +kernel
theorem dX9_meets_12 : decode cX9_meets 12 = .ok (.getfield 26, 3) := by decide +kernel
theorem dX9_meets_15 : decode cX9_meets 15 = .ok (.iload_n 2, 1) := by decide +kernel
theorem dX9_meets_16 : decode cX9_meets 16 = .ok (.invokevirtual 186, 3) := by decide +kernel
theorem dX9_meets_19 : decode cX9_meets 19 = .ok (.ifCond .eq 20, 3) := by decide +kernel
theorem dX9_meets_22 : decode cX9_meets 22 = .ok (.iload_n 3, 1) := by decide +kernel
theorem dX9_meets_23 : decode cX9_meets 23 = .ok (.ifCond .lt 16, 3) := by decide +kernel
theorem dX9_meets_26 : decode cX9_meets 26 = .ok (.iload_n 3, 1) := by decide +kernel
theorem dX9_meets_27 : decode cX9_meets 27 = .ok (.iconst 1, 1) := by decide +kernel
theorem dX9_meets_28 : decode cX9_meets 28 = .ok (.aload_n 0, 1) := by decide +kernel
theorem dX9_meets_29 : decode cX9_meets 29 = .ok (.getfield 26, 3) := by decide +kernel
theorem dX9_meets_32 : decode cX9_meets 32 = .ok (.getfield 146, 3) := by decide +kernel
theorem dX9_meets_35 : decode cX9_meets 35 = .ok (.ishl, 1) := by decide +kernel
theorem dX9_meets_36 : decode cX9_meets 36 = .ok (.if_icmp .lt 5, 3) := by decide +kernel
theorem dX9_meets_39 : decode cX9_meets 39 = .ok (.iconst (-1), 1) := by decide +kernel
theorem dX9_meets_40 : decode cX9_meets 40 = .ok (.ireturn, 1) := by decide +kernel
theorem dX9_meets_41 : decode cX9_meets 41 = .ok (.iload_n 3, 1) := by decide +kernel
theorem dX9_meets_42 : decode cX9_meets 42 = .ok (.aload_n 0, 1) := by decide +kernel
theorem dX9_meets_43 : decode cX9_meets 43 = .ok (.getfield 26, 3) := by decide +kernel
theorem dX9_meets_46 : decode cX9_meets 46 = .ok (.invokevirtual 302, 3) := by decide +kernel
theorem dX9_meets_49 : decode cX9_meets 49 = .ok (.iconst (-1), 1) := by decide +kernel
theorem dX9_meets_50 : decode cX9_meets 50 = .ok (.ixor, 1) := by decide +kernel
theorem dX9_meets_51 : decode cX9_meets 51 = .ok (.iand, 1) := by decide +kernel
theorem dX9_meets_52 : decode cX9_meets 52 = .ok (.ifCond .eq 6, 3) := by decide +kernel
theorem dX9_meets_55 : decode cX9_meets 55 = .ok (.bipush (-2), 2) := by decide +kernel
theorem dX9_meets_57 : decode cX9_meets 57 = .ok (.ireturn, 1) := by decide +kernel
theorem dX9_meets_58 : decode cX9_meets 58 = .ok (.aload_n 0, 1) := by decide +kernel
theorem dX9_meets_59 : decode cX9_meets 59 = .ok (.getfield 79, 3) := by decide +kernel
theorem dX9_meets_62 : decode cX9_meets 62 = .ok (.aload_n 0, 1) := by decide +kernel
theorem dX9_meets_63 : decode cX9_meets 63 = .ok (.getfield 26, 3) := by decide +kernel
theorem dX9_meets_66 : decode cX9_meets 66 = .ok (.iload_n 1, 1) := by decide +kernel
theorem dX9_meets_67 : decode cX9_meets 67 = .ok (.iload_n 2, 1) := by decide +kernel
theorem dX9_meets_68 : decode cX9_meets 68 = .ok (.iload_n 3, 1) := by decide +kernel
theorem dX9_meets_69 : decode cX9_meets 69 = .ok (.ldc2_w 332, 3) := by decide +kernel
theorem dX9_meets_72 : decode cX9_meets 72 = .ok (.aload_n 0, 1) := by decide +kernel
theorem dX9_meets_73 : decode cX9_meets 73 = .ok (.getfield 19, 3) := by decide +kernel
theorem dX9_meets_76 : decode cX9_meets 76 = .ok (.invokevirtual 334, 3) := by decide +kernel
theorem dX9_meets_79 : decode cX9_meets 79 = .ok (.ireturn, 1) := by decide +kernel
theorem dX9_quiet_0 : decode cX9_quiet 0 = .ok (.aload_n 0, 1) := by decide +kernel
theorem dX9_quiet_1 : decode cX9_quiet 1 = .ok (.getfield 26, 3) := by decide +kernel
theorem dX9_quiet_4 : decode cX9_quiet 4 = .ok (.iload_n 1, 1) := by decide +kernel
theorem dX9_quiet_5 : decode cX9_quiet 5 = .ok (.invokevirtual 186, 3) := by decide +kernel
theorem dX9_quiet_8 : decode cX9_quiet 8 = .ok (.ifCond .eq 14, 3) := by decide +kernel
theorem dX9_quiet_11 : decode cX9_quiet 11 = .ok (.aload_n 0, 1) := by decide +kernel
theorem dX9_quiet_12 : decode cX9_quiet 12 = .ok (.getfield 26, 3) := by decide +kernel
theorem dX9_quiet_15 : decode cX9_quiet 15 = .ok (.iload_n 2, 1) := by decide +kernel
theorem dX9_quiet_16 : decode cX9_quiet 16 = .ok (.invokevirtual 186, 3) := by decide +kernel
theorem dX9_quiet_19 : decode cX9_quiet 19 = .ok (.ifCond .ne 5, 3) := by decide +kernel
theorem dX9_quiet_22 : decode cX9_quiet 22 = .ok (.iconst (-1), 1) := by decide +kernel
theorem dX9_quiet_23 : decode cX9_quiet 23 = .ok (.ireturn, 1) := by decide +kernel
theorem dX9_quiet_24 : decode cX9_quiet 24 = .ok (.aload_n 0, 1) := by decide +kernel
theorem dX9_quiet_25 : decode cX9_quiet 25 = .ok (.getfield 26, 3) := by decide +kernel
theorem dX9_quiet_28 : decode cX9_quiet 28 = .ok (.invokevirtual 272, 3) := by decide +kernel
theorem dX9_quiet_31 : decode cX9_quiet 31 = .ok (.ldc2_w 332, 3) := by decide +kernel
theorem dX9_quiet_34 : decode cX9_quiet 34 = .ok (.lxor, 1) := by decide +kernel
theorem dX9_quiet_35 : decode cX9_quiet 35 = .ok (.lconst 1, 1) := by decide +kernel
theorem dX9_quiet_36 : decode cX9_quiet 36 = .ok (.iload_n 1, 1) := by decide +kernel
theorem dX9_quiet_37 : decode cX9_quiet 37 = .ok (.lshl, 1) := by decide +kernel
theorem dX9_quiet_38 : decode cX9_quiet 38 = .ok (.lor, 1) := by decide +kernel
theorem dX9_quiet_39 : decode cX9_quiet 39 = .ok (.lconst 1, 1) := by decide +kernel
theorem dX9_quiet_40 : decode cX9_quiet 40 = .ok (.iload_n 2, 1) := by decide +kernel
theorem dX9_quiet_41 : decode cX9_quiet 41 = .ok (.lshl, 1) := by decide +kernel
theorem dX9_quiet_42 : decode cX9_quiet 42 = .ok (.lor, 1) := by decide +kernel
theorem dX9_quiet_43 : decode cX9_quiet 43 = .ok (.lstore_n 3, 1) := by decide +kernel
theorem dX9_quiet_44 : decode cX9_quiet 44 = .ok (.aload_n 0, 1) := by decide +kernel
theorem dX9_quiet_45 : decode cX9_quiet 45 = .ok (.getfield 79, 3) := by decide +kernel
theorem dX9_quiet_48 : decode cX9_quiet 48 = .ok (.aload_n 0, 1) := by decide +kernel
theorem dX9_quiet_49 : decode cX9_quiet 49 = .ok (.getfield 26, 3) := by decide +kernel
theorem dX9_quiet_52 : decode cX9_quiet 52 = .ok (.iload_n 1, 1) := by decide +kernel
theorem dX9_quiet_53 : decode cX9_quiet 53 = .ok (.iload_n 2, 1) := by decide +kernel
theorem dX9_quiet_54 : decode cX9_quiet 54 = .ok (.iconst 0, 1) := by decide +kernel
theorem dX9_quiet_55 : decode cX9_quiet 55 = .ok (.lload_n 3, 1) := by decide +kernel
theorem dX9_quiet_56 : decode cX9_quiet 56 = .ok (.aload_n 0, 1) := by decide +kernel
theorem dX9_quiet_57 : decode cX9_quiet 57 = .ok (.getfield 19, 3) := by decide +kernel
theorem dX9_quiet_60 : decode cX9_quiet 60 = .ok (.invokevirtual 334, 3) := by decide +kernel
theorem dX9_quiet_63 : decode cX9_quiet 63 = .ok (.ireturn, 1) := by decide +kernel
theorem dX9_soft_0 : decode cX9_soft 0 = .ok (.aload_n 0, 1) := by decide +kernel
theorem dX9_soft_1 : decode cX9_soft 1 = .ok (.getfield 26, 3) := by decide +kernel
theorem dX9_soft_4 : decode cX9_soft 4 = .ok (.iload_n 1, 1) := by decide +kernel
theorem dX9_soft_5 : decode cX9_soft 5 = .ok (.invokevirtual 186, 3) := by decide +kernel
theorem dX9_soft_8 : decode cX9_soft 8 = .ok (.ifCond .eq 14, 3) := by decide +kernel
theorem dX9_soft_11 : decode cX9_soft 11 = .ok (.aload_n 0, 1) := by decide +kernel
theorem dX9_soft_12 : decode cX9_soft 12 = .ok (.getfield 26, 3) := by decide +kernel
theorem dX9_soft_15 : decode cX9_soft 15 = .ok (.iload_n 2, 1) := by decide +kernel
theorem dX9_soft_16 : decode cX9_soft 16 = .ok (.invokevirtual 186, 3) := by decide +kernel
theorem dX9_soft_19 : decode cX9_soft 19 = .ok (.ifCond .ne 5, 3) := by decide +kernel
theorem dX9_soft_22 : decode cX9_soft 22 = .ok (.iconst (-1), 1) := by decide +kernel
theorem dX9_soft_23 : decode cX9_soft 23 = .ok (.ireturn, 1) := by decide +kernel
theorem dX9_soft_24 : decode cX9_soft 24 = .ok (.aload_n 0, 1) := by decide +kernel
theorem dX9_soft_25 : decode cX9_soft 25 = .ok (.getfield 79, 3) := by decide +kernel
theorem dX9_soft_28 : decode cX9_soft 28 = .ok (.aload_n 0, 1) := by decide +kernel
theorem dX9_soft_29 : decode cX9_soft 29 = .ok (.getfield 26, 3) := by decide +kernel
theorem dX9_soft_32 : decode cX9_soft 32 = .ok (.iload_n 1, 1) := by decide +kernel
theorem dX9_soft_33 : decode cX9_soft 33 = .ok (.iload_n 2, 1) := by decide +kernel
theorem dX9_soft_34 : decode cX9_soft 34 = .ok (.aload_n 0, 1) := by decide +kernel
theorem dX9_soft_35 : decode cX9_soft 35 = .ok (.getfield 19, 3) := by decide +kernel
theorem dX9_soft_38 : decode cX9_soft 38 = .ok (.invokevirtual 338, 3) := by decide +kernel
theorem dX9_soft_41 : decode cX9_soft 41 = .ok (.ireturn, 1) := by decide +kernel
theorem dX9_seen_0 : decode cX9_seen 0 = .ok (.iload_n 1, 1) := by decide +kernel
theorem dX9_seen_1 : decode cX9_seen 1 = .ok (.ifCond .lt 14, 3) := by decide +kernel
theorem dX9_seen_4 : decode cX9_seen 4 = .ok (.iload_n 1, 1) := by decide +kernel
theorem dX9_seen_5 : decode cX9_seen 5 = .ok (.aload_n 0, 1) := by decide +kernel
theorem dX9_seen_6 : decode cX9_seen 6 = .ok (.getfield 26, 3) := by decide +kernel
theorem dX9_seen_9 : decode cX9_seen 9 = .ok (.getfield 326, 3) := by decide +kernel
theorem dX9_seen_12 : decode cX9_seen 12 = .ok (.if_icmp .lt 5, 3) := by decide +kernel
theorem dX9_seen_15 : decode cX9_seen 15 = .ok (.iconst (-1), 1) := by decide +kernel
theorem dX9_seen_16 : decode cX9_seen 16 = .ok (.ireturn, 1) := by decide +kernel
theorem dX9_seen_17 : decode cX9_seen 17 = .ok (.aload_n 0, 1) := by decide +kernel
theorem dX9_seen_18 : decode cX9_seen 18 = .ok (.getfield 26, 3) := by decide +kernel
theorem dX9_seen_21 : decode cX9_seen 21 = .ok (.iload_n 1, 1) := by decide +kernel
theorem dX9_seen_22 : decode cX9_seen 22 = .ok (.invokevirtual 342, 3) := by decide +kernel
theorem dX9_seen_25 : decode cX9_seen 25 = .ok (.istore_n 2, 1) := by decide +kernel
theorem dX9_seen_26 : decode cX9_seen 26 = .ok (.aload_n 0, 1) := by decide +kernel
theorem dX9_seen_27 : decode cX9_seen 27 = .ok (.getfield 19, 3) := by decide +kernel
theorem dX9_seen_30 : decode cX9_seen 30 = .ok (.invokevirtual 220, 3) := by decide +kernel
theorem dX9_seen_33 : decode cX9_seen 33 = .ok (.aload_n 0, 1) := by decide +kernel
theorem dX9_seen_34 : decode cX9_seen 34 = .ok (.getfield 19, 3) := by decide +kernel
theorem dX9_seen_37 : decode cX9_seen 37 = .ok (.iload_n 2, 1) := by decide +kernel
theorem dX9_seen_38 : decode cX9_seen 38 = .ok (.invokestatic 267, 3) := by decide +kernel
theorem dX9_seen_41 : decode cX9_seen 41 = .ok (.i2l, 1) := by decide +kernel
theorem dX9_seen_42 : decode cX9_seen 42 = .ok (.invokevirtual 223, 3) := by decide +kernel
theorem dX9_seen_45 : decode cX9_seen 45 = .ok (.iload_n 2, 1) := by decide +kernel
theorem dX9_seen_46 : decode cX9_seen 46 = .ok (.ireturn, 1) := by decide +kernel
theorem dX9_seats_0 : decode cX9_seats 0 = .ok (.aload_n 0, 1) := by decide +kernel
theorem dX9_seats_1 : decode cX9_seats 1 = .ok (.getfield 26, 3) := by decide +kernel
theorem dX9_seats_4 : decode cX9_seats 4 = .ok (.iconst 1, 1) := by decide +kernel
theorem dX9_seats_5 : decode cX9_seats 5 = .ok (.aload_n 0, 1) := by decide +kernel
theorem dX9_seats_6 : decode cX9_seats 6 = .ok (.getfield 26, 3) := by decide +kernel
theorem dX9_seats_9 : decode cX9_seats 9 = .ok (.getfield 326, 3) := by decide +kernel
theorem dX9_seats_12 : decode cX9_seats 12 = .ok (.ishl, 1) := by decide +kernel
theorem dX9_seats_13 : decode cX9_seats 13 = .ok (.iconst 1, 1) := by decide +kernel
theorem dX9_seats_14 : decode cX9_seats 14 = .ok (.isub, 1) := by decide +kernel
theorem dX9_seats_15 : decode cX9_seats 15 = .ok (.invokevirtual 345, 3) := by decide +kernel
theorem dX9_seats_18 : decode cX9_seats 18 = .ok (.istore_n 1, 1) := by decide +kernel
theorem dX9_seats_19 : decode cX9_seats 19 = .ok (.iconst 1, 1) := by decide +kernel
theorem dX9_seats_20 : decode cX9_seats 20 = .ok (.aload_n 0, 1) := by decide +kernel
theorem dX9_seats_21 : decode cX9_seats 21 = .ok (.getfield 26, 3) := by decide +kernel
theorem dX9_seats_24 : decode cX9_seats 24 = .ok (.getfield 326, 3) := by decide +kernel
theorem dX9_seats_27 : decode cX9_seats 27 = .ok (.ishl, 1) := by decide +kernel
theorem dX9_seats_28 : decode cX9_seats 28 = .ok (.iconst 1, 1) := by decide +kernel
theorem dX9_seats_29 : decode cX9_seats 29 = .ok (.isub, 1) := by decide +kernel
theorem dX9_seats_30 : decode cX9_seats 30 = .ok (.istore_n 2, 1) := by decide +kernel
theorem dX9_seats_31 : decode cX9_seats 31 = .ok (.iload_n 2, 1) := by decide +kernel
theorem dX9_seats_32 : decode cX9_seats 32 = .ok (.iconst 1, 1) := by decide +kernel
theorem dX9_seats_33 : decode cX9_seats 33 = .ok (.isub, 1) := by decide +kernel
theorem dX9_seats_34 : decode cX9_seats 34 = .ok (.istore_n 3, 1) := by decide +kernel
theorem dX9_seats_35 : decode cX9_seats 35 = .ok (.iload_n 3, 1) := by decide +kernel
theorem dX9_seats_36 : decode cX9_seats 36 = .ok (.ifCond .lt 34, 3) := by decide +kernel
theorem dX9_seats_39 : decode cX9_seats 39 = .ok (.iload_n 3, 1) := by decide +kernel
theorem dX9_seats_40 : decode cX9_seats 40 = .ok (.invokestatic 267, 3) := by decide +kernel
theorem dX9_seats_43 : decode cX9_seats 43 = .ok (.iload_n 2, 1) := by decide +kernel
theorem dX9_seats_44 : decode cX9_seats 44 = .ok (.invokestatic 267, 3) := by decide +kernel
theorem dX9_seats_47 : decode cX9_seats 47 = .ok (.if_icmp .gt 17, 3) := by decide +kernel
theorem dX9_seats_50 : decode cX9_seats 50 = .ok (.aload_n 0, 1) := by decide +kernel
theorem dX9_seats_51 : decode cX9_seats 51 = .ok (.getfield 26, 3) := by decide +kernel
theorem dX9_seats_54 : decode cX9_seats 54 = .ok (.iload_n 3, 1) := by decide +kernel
theorem dX9_seats_55 : decode cX9_seats 55 = .ok (.invokevirtual 345, 3) := by decide +kernel
theorem dX9_seats_58 : decode cX9_seats 58 = .ok (.iload_n 1, 1) := by decide +kernel
theorem dX9_seats_59 : decode cX9_seats 59 = .ok (.if_icmp .ne 5, 3) := by decide +kernel
theorem dX9_seats_62 : decode cX9_seats 62 = .ok (.iload_n 3, 1) := by decide +kernel
theorem dX9_seats_63 : decode cX9_seats 63 = .ok (.istore_n 2, 1) := by decide +kernel
theorem dX9_seats_64 : decode cX9_seats 64 = .ok (.iinc 3 (-1), 3) := by decide +kernel
theorem dX9_seats_67 : decode cX9_seats 67 = .ok (.goto (-32), 3) := by decide +kernel
theorem dX9_seats_70 : decode cX9_seats 70 = .ok (.aload_n 0, 1) := by decide +kernel
theorem dX9_seats_71 : decode cX9_seats 71 = .ok (.getfield 19, 3) := by decide +kernel
theorem dX9_seats_74 : decode cX9_seats 74 = .ok (.invokevirtual 220, 3) := by decide +kernel
theorem dX9_seats_77 : decode cX9_seats 77 = .ok (.aload_n 0, 1) := by decide +kernel
theorem dX9_seats_78 : decode cX9_seats 78 = .ok (.getfield 19, 3) := by decide +kernel
theorem dX9_seats_81 : decode cX9_seats 81 = .ok (.iload_n 2, 1) := by decide +kernel
theorem dX9_seats_82 : decode cX9_seats 82 = .ok (.i2l, 1) := by decide +kernel
theorem dX9_seats_83 : decode cX9_seats 83 = .ok (.invokevirtual 223, 3) := by decide +kernel
theorem dX9_seats_86 : decode cX9_seats 86 = .ok (.aload_n 0, 1) := by decide +kernel
theorem dX9_seats_87 : decode cX9_seats 87 = .ok (.getfield 19, 3) := by decide +kernel
theorem dX9_seats_90 : decode cX9_seats 90 = .ok (.aload_n 0, 1) := by decide +kernel
theorem dX9_seats_91 : decode cX9_seats 91 = .ok (.getfield 26, 3) := by decide +kernel
theorem dX9_seats_94 : decode cX9_seats 94 = .ok (.invokevirtual 302, 3) := by decide +kernel
theorem dX9_seats_97 : decode cX9_seats 97 = .ok (.iload_n 1, 1) := by decide +kernel
theorem dX9_seats_98 : decode cX9_seats 98 = .ok (.iconst (-1), 1) := by decide +kernel
theorem dX9_seats_99 : decode cX9_seats 99 = .ok (.ixor, 1) := by decide +kernel
theorem dX9_seats_100 : decode cX9_seats 100 = .ok (.iand, 1) := by decide +kernel
theorem dX9_seats_101 : decode cX9_seats 101 = .ok (.i2l, 1) := by decide +kernel
theorem dX9_seats_102 : decode cX9_seats 102 = .ok (.invokevirtual 223, 3) := by decide +kernel
theorem dX9_seats_105 : decode cX9_seats 105 = .ok (.iload_n 2, 1) := by decide +kernel
theorem dX9_seats_106 : decode cX9_seats 106 = .ok (.invokestatic 267, 3) := by decide +kernel
theorem dX9_seats_109 : decode cX9_seats 109 = .ok (.ireturn, 1) := by decide +kernel
theorem dX9_marked_0 : decode cX9_marked 0 = .ok (.aload_n 0, 1) := by decide +kernel
theorem dX9_marked_1 : decode cX9_marked 1 = .ok (.getfield 26, 3) := by decide +kernel
theorem dX9_marked_4 : decode cX9_marked 4 = .ok (.iload_n 1, 1) := by decide +kernel
theorem dX9_marked_5 : decode cX9_marked 5 = .ok (.invokevirtual 154, 3) := by decide +kernel
theorem dX9_marked_8 : decode cX9_marked 8 = .ok (.ifCond .eq 32, 3) := by decide +kernel
theorem dX9_marked_11 : decode cX9_marked 11 = .ok (.iload_n 2, 1) := by decide +kernel
theorem dX9_marked_12 : decode cX9_marked 12 = .ok (.ifCond .lt 28, 3) := by decide +kernel
theorem dX9_marked_15 : decode cX9_marked 15 = .ok (.iload_n 2, 1) := by decide +kernel
theorem dX9_marked_16 : decode cX9_marked 16 = .ok (.bipush 31, 2) := by decide +kernel
theorem dX9_marked_18 : decode cX9_marked 18 = .ok (.if_icmp .ge 22, 3) := by decide +kernel
theorem dX9_marked_21 : decode cX9_marked 21 = .ok (.iload_n 3, 1) := by decide +kernel
theorem dX9_marked_22 : decode cX9_marked 22 = .ok (.ifCond .lt 18, 3) := by decide +kernel
theorem dX9_marked_25 : decode cX9_marked 25 = .ok (.iload_n 3, 1) := by decide +kernel
theorem dX9_marked_26 : decode cX9_marked 26 = .ok (.iconst 1, 1) := by decide +kernel
theorem dX9_marked_27 : decode cX9_marked 27 = .ok (.if_icmp .gt 13, 3) := by decide +kernel
theorem dX9_marked_30 : decode cX9_marked 30 = .ok (.aload_n 0, 1) := by decide +kernel
theorem dX9_marked_31 : decode cX9_marked 31 = .ok (.getfield 69, 3) := by decide +kernel
theorem dX9_marked_34 : decode cX9_marked 34 = .ok (.invokevirtual 348, 3) := by decide +kernel
theorem dX9_marked_37 : decode cX9_marked 37 = .ok (.ifCond .eq 5, 3) := by decide +kernel
theorem dX9_marked_40 : decode cX9_marked 40 = .ok (.iconst (-1), 1) := by decide +kernel
theorem dX9_marked_41 : decode cX9_marked 41 = .ok (.ireturn, 1) := by decide +kernel
theorem dX9_marked_42 : decode cX9_marked 42 = .ok (.aload_n 0, 1) := by decide +kernel
theorem dX9_marked_43 : decode cX9_marked 43 = .ok (.getfield 69, 3) := by decide +kernel
theorem dX9_marked_46 : decode cX9_marked 46 = .ok (.iload_n 1, 1) := by decide +kernel
theorem dX9_marked_47 : decode cX9_marked 47 = .ok (.iload_n 2, 1) := by decide +kernel
theorem dX9_marked_48 : decode cX9_marked 48 = .ok (.iload_n 3, 1) := by decide +kernel
theorem dX9_marked_49 : decode cX9_marked 49 = .ok (.invokevirtual 352, 3) := by decide +kernel
theorem dX9_marked_52 : decode cX9_marked 52 = .ok (.aload_n 0, 1) := by decide +kernel
theorem dX9_marked_53 : decode cX9_marked 53 = .ok (.getfield 69, 3) := by decide +kernel
theorem dX9_marked_56 : decode cX9_marked 56 = .ok (.getfield 355, 3) := by decide +kernel
theorem dX9_marked_59 : decode cX9_marked 59 = .ok (.ireturn, 1) := by decide +kernel
theorem dX9_wiped_0 : decode cX9_wiped 0 = .ok (.aload_n 0, 1) := by decide +kernel
theorem dX9_wiped_1 : decode cX9_wiped 1 = .ok (.getfield 69, 3) := by decide +kernel
theorem dX9_wiped_4 : decode cX9_wiped 4 = .ok (.invokevirtual 115, 3) := by decide +kernel
theorem dX9_wiped_7 : decode cX9_wiped 7 = .ok (.ireturn, 1) := by decide +kernel
theorem dX9_laws_0 : decode cX9_laws 0 = .ok (.aload_n 0, 1) := by decide +kernel
theorem dX9_laws_1 : decode cX9_laws 1 = .ok (.invokevirtual 356, 3) := by decide +kernel
theorem dX9_laws_4 : decode cX9_laws 4 = .ok (.istore_n 1, 1) := by decide +kernel
theorem dX9_laws_5 : decode cX9_laws 5 = .ok (.aload_n 0, 1) := by decide +kernel
theorem dX9_laws_6 : decode cX9_laws 6 = .ok (.getfield 19, 3) := by decide +kernel
theorem dX9_laws_9 : decode cX9_laws 9 = .ok (.invokevirtual 220, 3) := by decide +kernel
theorem dX9_laws_12 : decode cX9_laws 12 = .ok (.iload_n 1, 1) := by decide +kernel
theorem dX9_laws_13 : decode cX9_laws 13 = .ok (.ifCond .eq 30, 3) := by decide +kernel
theorem dX9_laws_16 : decode cX9_laws 16 = .ok (.iload_n 1, 1) := by decide +kernel
theorem dX9_laws_17 : decode cX9_laws 17 = .ok (.invokestatic 359, 3) := by decide +kernel
theorem dX9_laws_20 : decode cX9_laws 20 = .ok (.istore_n 2, 1) := by decide +kernel
theorem dX9_laws_21 : decode cX9_laws 21 = .ok (.aload_n 0, 1) := by decide +kernel
theorem dX9_laws_22 : decode cX9_laws 22 = .ok (.getfield 19, 3) := by decide +kernel
theorem dX9_laws_25 : decode cX9_laws 25 = .ok (.iload_n 2, 1) := by decide +kernel
theorem dX9_laws_26 : decode cX9_laws 26 = .ok (.iconst 4, 1) := by decide +kernel
theorem dX9_laws_27 : decode cX9_laws 27 = .ok (.idiv, 1) := by decide +kernel
theorem dX9_laws_28 : decode cX9_laws 28 = .ok (.i2l, 1) := by decide +kernel
theorem dX9_laws_29 : decode cX9_laws 29 = .ok (.invokevirtual 223, 3) := by decide +kernel
theorem dX9_laws_32 : decode cX9_laws 32 = .ok (.aload_n 0, 1) := by decide +kernel
theorem dX9_laws_33 : decode cX9_laws 33 = .ok (.getfield 19, 3) := by decide +kernel
theorem dX9_laws_36 : decode cX9_laws 36 = .ok (.iload_n 2, 1) := by decide +kernel
theorem dX9_laws_37 : decode cX9_laws 37 = .ok (.iconst 4, 1) := by decide +kernel
theorem dX9_laws_38 : decode cX9_laws 38 = .ok (.irem, 1) := by decide +kernel
theorem dX9_laws_39 : decode cX9_laws 39 = .ok (.i2l, 1) := by decide +kernel
theorem dX9_laws_40 : decode cX9_laws 40 = .ok (.invokevirtual 223, 3) := by decide +kernel
theorem dX9_laws_43 : decode cX9_laws 43 = .ok (.iload_n 1, 1) := by decide +kernel
theorem dX9_laws_44 : decode cX9_laws 44 = .ok (.invokestatic 267, 3) := by decide +kernel
theorem dX9_laws_47 : decode cX9_laws 47 = .ok (.ireturn, 1) := by decide +kernel
theorem dX9_watch_0 : decode cX9_watch 0 = .ok (.aload_n 0, 1) := by decide +kernel
theorem dX9_watch_1 : decode cX9_watch 1 = .ok (.invokevirtual 356, 3) := by decide +kernel
theorem dX9_watch_4 : decode cX9_watch 4 = .ok (.istore_n 1, 1) := by decide +kernel
theorem dX9_watch_5 : decode cX9_watch 5 = .ok (.iload_n 1, 1) := by decide +kernel
theorem dX9_watch_6 : decode cX9_watch 6 = .ok (.ifCond .eq 13, 3) := by decide +kernel
theorem dX9_watch_9 : decode cX9_watch 9 = .ok (.aload_n 0, 1) := by decide +kernel
theorem dX9_watch_10 : decode cX9_watch 10 = .ok (.getfield 26, 3) := by decide +kernel
theorem dX9_watch_13 : decode cX9_watch 13 = .ok (.getfield 146, 3) := by decide +kernel
theorem dX9_watch_16 : decode cX9_watch 16 = .ok (.ifCond .ne 6, 3) := by decide +kernel
theorem dX9_watch_19 : decode cX9_watch 19 = .ok (.bipush (-2), 2) := by decide +kernel
theorem dX9_watch_21 : decode cX9_watch 21 = .ok (.ireturn, 1) := by decide +kernel
theorem dX9_watch_22 : decode cX9_watch 22 = .ok (.iconst 0, 1) := by decide +kernel
theorem dX9_watch_23 : decode cX9_watch 23 = .ok (.istore_n 2, 1) := by decide +kernel
theorem dX9_watch_24 : decode cX9_watch 24 = .ok (.bipush 17, 2) := by decide +kernel
theorem dX9_watch_26 : decode cX9_watch 26 = .ok (.istore_n 3, 1) := by decide +kernel
theorem dX9_watch_27 : decode cX9_watch 27 = .ok (.iconst 0, 1) := by decide +kernel
theorem dX9_watch_28 : decode cX9_watch 28 = .ok (.istore 4, 2) := by decide +kernel
theorem dX9_watch_30 : decode cX9_watch 30 = .ok (.iload 4, 2) := by decide +kernel
theorem dX9_watch_32 : decode cX9_watch 32 = .ok (.aload_n 0, 1) := by decide +kernel
theorem dX9_watch_33 : decode cX9_watch 33 = .ok (.getfield 26, 3) := by decide +kernel
theorem dX9_watch_36 : decode cX9_watch 36 = .ok (.getfield 146, 3) := by decide +kernel
theorem dX9_watch_39 : decode cX9_watch 39 = .ok (.if_icmp .ge 54, 3) := by decide +kernel
theorem dX9_watch_42 : decode cX9_watch 42 = .ok (.iconst 0, 1) := by decide +kernel
theorem dX9_watch_43 : decode cX9_watch 43 = .ok (.istore 5, 2) := by decide +kernel
theorem dX9_watch_45 : decode cX9_watch 45 = .ok (.iload 5, 2) := by decide +kernel
theorem dX9_watch_47 : decode cX9_watch 47 = .ok (.bipush 31, 2) := by decide +kernel
theorem dX9_watch_49 : decode cX9_watch 49 = .ok (.if_icmp .ge 38, 3) := by decide +kernel
theorem dX9_watch_52 : decode cX9_watch 52 = .ok (.aload_n 0, 1) := by decide +kernel
theorem dX9_watch_53 : decode cX9_watch 53 = .ok (.iload_n 1, 1) := by decide +kernel
theorem dX9_watch_54 : decode cX9_watch 54 = .ok (.iload 4, 2) := by decide +kernel
theorem dX9_watch_56 : decode cX9_watch 56 = .ok (.iload 5, 2) := by decide +kernel
theorem dX9_watch_58 : decode cX9_watch 58 = .ok (.invokevirtual 362, 3) := by decide +kernel
theorem dX9_watch_61 : decode cX9_watch 61 = .ok (.istore 6, 2) := by decide +kernel
theorem dX9_watch_63 : decode cX9_watch 63 = .ok (.iload 6, 2) := by decide +kernel
theorem dX9_watch_65 : decode cX9_watch 65 = .ok (.iload_n 3, 1) := by decide +kernel
theorem dX9_watch_66 : decode cX9_watch 66 = .ok (.if_icmp .ge 15, 3) := by decide +kernel
theorem dX9_watch_69 : decode cX9_watch 69 = .ok (.iload 6, 2) := by decide +kernel
theorem dX9_watch_71 : decode cX9_watch 71 = .ok (.istore_n 3, 1) := by decide +kernel
theorem dX9_watch_72 : decode cX9_watch 72 = .ok (.bipush 31, 2) := by decide +kernel
theorem dX9_watch_74 : decode cX9_watch 74 = .ok (.iload 4, 2) := by decide +kernel
theorem dX9_watch_76 : decode cX9_watch 76 = .ok (.imul, 1) := by decide +kernel
theorem dX9_watch_77 : decode cX9_watch 77 = .ok (.iload 5, 2) := by decide +kernel
theorem dX9_watch_79 : decode cX9_watch 79 = .ok (.iadd, 1) := by decide +kernel
theorem dX9_watch_80 : decode cX9_watch 80 = .ok (.istore_n 2, 1) := by decide +kernel
theorem dX9_watch_81 : decode cX9_watch 81 = .ok (.iinc 5 1, 3) := by decide +kernel
theorem dX9_watch_84 : decode cX9_watch 84 = .ok (.goto (-39), 3) := by decide +kernel
theorem dX9_watch_87 : decode cX9_watch 87 = .ok (.iinc 4 1, 3) := by decide +kernel
theorem dX9_watch_90 : decode cX9_watch 90 = .ok (.goto (-60), 3) := by decide +kernel
theorem dX9_watch_93 : decode cX9_watch 93 = .ok (.aload_n 0, 1) := by decide +kernel
theorem dX9_watch_94 : decode cX9_watch 94 = .ok (.getfield 19, 3) := by decide +kernel
theorem dX9_watch_97 : decode cX9_watch 97 = .ok (.invokevirtual 220, 3) := by decide +kernel
theorem dX9_watch_100 : decode cX9_watch 100 = .ok (.aload_n 0, 1) := by decide +kernel
theorem dX9_watch_101 : decode cX9_watch 101 = .ok (.getfield 19, 3) := by decide +kernel
theorem dX9_watch_104 : decode cX9_watch 104 = .ok (.iload_n 3, 1) := by decide +kernel
theorem dX9_watch_105 : decode cX9_watch 105 = .ok (.i2l, 1) := by decide +kernel
theorem dX9_watch_106 : decode cX9_watch 106 = .ok (.invokevirtual 223, 3) := by decide +kernel
theorem dX9_watch_109 : decode cX9_watch 109 = .ok (.iload_n 2, 1) := by decide +kernel
theorem dX9_watch_110 : decode cX9_watch 110 = .ok (.ireturn, 1) := by decide +kernel
theorem dX9_lawsLeft_0 : decode cX9_lawsLeft 0 = .ok (.iconst 0, 1) := by decide +kernel
theorem dX9_lawsLeft_1 : decode cX9_lawsLeft 1 = .ok (.istore 4, 2) := by decide +kernel
theorem dX9_lawsLeft_3 : decode cX9_lawsLeft 3 = .ok (.iconst 0, 1) := by decide +kernel
theorem dX9_lawsLeft_4 : decode cX9_lawsLeft 4 = .ok (.istore 5, 2) := by decide +kernel
theorem dX9_lawsLeft_6 : decode cX9_lawsLeft 6 = .ok (.iload 5, 2) := by decide +kernel
theorem dX9_lawsLeft_8 : decode cX9_lawsLeft 8 = .ok (.bipush 16, 2) := by decide +kernel
theorem dX9_lawsLeft_10 : decode cX9_lawsLeft 10 = .ok (.if_icmp .ge 40, 3) := by decide +kernel
theorem dX9_lawsLeft_13 : decode cX9_lawsLeft 13 = .ok (.iload_n 1, 1) := by decide +kernel
theorem dX9_lawsLeft_14 : decode cX9_lawsLeft 14 = .ok (.iload 5, 2) := by decide +kernel
theorem dX9_lawsLeft_16 : decode cX9_lawsLeft 16 = .ok (.invokestatic 291, 3) := by decide +kernel
theorem dX9_lawsLeft_19 : decode cX9_lawsLeft 19 = .ok (.ifCond .eq 25, 3) := by decide +kernel
theorem dX9_lawsLeft_22 : decode cX9_lawsLeft 22 = .ok (.aload_n 0, 1) := by decide +kernel
theorem dX9_lawsLeft_23 : decode cX9_lawsLeft 23 = .ok (.getfield 83, 3) := by decide +kernel
theorem dX9_lawsLeft_26 : decode cX9_lawsLeft 26 = .ok (.iload 5, 2) := by decide +kernel
theorem dX9_lawsLeft_28 : decode cX9_lawsLeft 28 = .ok (.bipush 31, 2) := by decide +kernel
theorem dX9_lawsLeft_30 : decode cX9_lawsLeft 30 = .ok (.imul, 1) := by decide +kernel
theorem dX9_lawsLeft_31 : decode cX9_lawsLeft 31 = .ok (.iload_n 3, 1) := by decide +kernel
theorem dX9_lawsLeft_32 : decode cX9_lawsLeft 32 = .ok (.iadd, 1) := by decide +kernel
theorem dX9_lawsLeft_33 : decode cX9_lawsLeft 33 = .ok (.iaload, 1) := by decide +kernel
theorem dX9_lawsLeft_34 : decode cX9_lawsLeft 34 = .ok (.iload_n 2, 1) := by decide +kernel
theorem dX9_lawsLeft_35 : decode cX9_lawsLeft 35 = .ok (.invokestatic 291, 3) := by decide +kernel
theorem dX9_lawsLeft_38 : decode cX9_lawsLeft 38 = .ok (.ifCond .eq 6, 3) := by decide +kernel
theorem dX9_lawsLeft_41 : decode cX9_lawsLeft 41 = .ok (.iinc 4 1, 3) := by decide +kernel
theorem dX9_lawsLeft_44 : decode cX9_lawsLeft 44 = .ok (.iinc 5 1, 3) := by decide +kernel
theorem dX9_lawsLeft_47 : decode cX9_lawsLeft 47 = .ok (.goto (-41), 3) := by decide +kernel
theorem dX9_lawsLeft_50 : decode cX9_lawsLeft 50 = .ok (.iload 4, 2) := by decide +kernel
theorem dX9_lawsLeft_52 : decode cX9_lawsLeft 52 = .ok (.iload_n 1, 1) := by decide +kernel
theorem dX9_lawsLeft_53 : decode cX9_lawsLeft 53 = .ok (.invokestatic 267, 3) := by decide +kernel
theorem dX9_lawsLeft_56 : decode cX9_lawsLeft 56 = .ok (.iload 4, 2) := by decide +kernel
theorem dX9_lawsLeft_58 : decode cX9_lawsLeft 58 = .ok (.isub, 1) := by decide +kernel
theorem dX9_lawsLeft_59 : decode cX9_lawsLeft 59 = .ok (.invokestatic 210, 3) := by decide +kernel
theorem dX9_lawsLeft_62 : decode cX9_lawsLeft 62 = .ok (.ireturn, 1) := by decide +kernel
theorem dX9_fittingLaws_0 : decode cX9_fittingLaws 0 = .ok (.iconst 0, 1) := by decide +kernel
theorem dX9_fittingLaws_1 : decode cX9_fittingLaws 1 = .ok (.istore_n 1, 1) := by decide +kernel
theorem dX9_fittingLaws_2 : decode cX9_fittingLaws 2 = .ok (.iconst 0, 1) := by decide +kernel
theorem dX9_fittingLaws_3 : decode cX9_fittingLaws 3 = .ok (.istore_n 2, 1) := by decide +kernel
theorem dX9_fittingLaws_4 : decode cX9_fittingLaws 4 = .ok (.iload_n 2, 1) := by decide +kernel
theorem dX9_fittingLaws_5 : decode cX9_fittingLaws 5 = .ok (.bipush 16, 2) := by decide +kernel
theorem dX9_fittingLaws_7 : decode cX9_fittingLaws 7 = .ok (.if_icmp .ge 91, 3) := by decide +kernel
theorem dX9_fittingLaws_10 : decode cX9_fittingLaws 10 = .ok (.aload_n 0, 1) := by decide +kernel
theorem dX9_fittingLaws_11 : decode cX9_fittingLaws 11 = .ok (.getfield 54, 3) := by decide +kernel
theorem dX9_fittingLaws_14 : decode cX9_fittingLaws 14 = .ok (.iload_n 2, 1) := by decide +kernel
theorem dX9_fittingLaws_15 : decode cX9_fittingLaws 15 = .ok (.iconst 4, 1) := by decide +kernel
theorem dX9_fittingLaws_16 : decode cX9_fittingLaws 16 = .ok (.idiv, 1) := by decide +kernel
theorem dX9_fittingLaws_17 : decode cX9_fittingLaws 17 = .ok (.iload_n 2, 1) := by decide +kernel
theorem dX9_fittingLaws_18 : decode cX9_fittingLaws 18 = .ok (.iconst 4, 1) := by decide +kernel
theorem dX9_fittingLaws_19 : decode cX9_fittingLaws 19 = .ok (.irem, 1) := by decide +kernel
theorem dX9_fittingLaws_20 : decode cX9_fittingLaws 20 = .ok (.invokevirtual 365, 3) := by decide +kernel
theorem dX9_fittingLaws_23 : decode cX9_fittingLaws 23 = .ok (.aload_n 0, 1) := by decide +kernel
theorem dX9_fittingLaws_24 : decode cX9_fittingLaws 24 = .ok (.getfield 33, 3) := by decide +kernel
theorem dX9_fittingLaws_27 : decode cX9_fittingLaws 27 = .ok (.aload_n 0, 1) := by decide +kernel
theorem dX9_fittingLaws_28 : decode cX9_fittingLaws 28 = .ok (.getfield 26, 3) := by decide +kernel
theorem dX9_fittingLaws_31 : decode cX9_fittingLaws 31 = .ok (.invokevirtual 134, 3) := by decide +kernel
theorem dX9_fittingLaws_34 : decode cX9_fittingLaws 34 = .ok (.iconst 0, 1) := by decide +kernel
theorem dX9_fittingLaws_35 : decode cX9_fittingLaws 35 = .ok (.istore_n 3, 1) := by decide +kernel
theorem dX9_fittingLaws_36 : decode cX9_fittingLaws 36 = .ok (.iload_n 3, 1) := by decide +kernel
theorem dX9_fittingLaws_37 : decode cX9_fittingLaws 37 = .ok (.bipush 31, 2) := by decide +kernel
theorem dX9_fittingLaws_39 : decode cX9_fittingLaws 39 = .ok (.if_icmp .ge 39, 3) := by decide +kernel
theorem dX9_fittingLaws_42 : decode cX9_fittingLaws 42 = .ok (.aload_n 0, 1) := by decide +kernel
theorem dX9_fittingLaws_43 : decode cX9_fittingLaws 43 = .ok (.getfield 83, 3) := by decide +kernel
theorem dX9_fittingLaws_46 : decode cX9_fittingLaws 46 = .ok (.iload_n 2, 1) := by decide +kernel
theorem dX9_fittingLaws_47 : decode cX9_fittingLaws 47 = .ok (.bipush 31, 2) := by decide +kernel
theorem dX9_fittingLaws_49 : decode cX9_fittingLaws 49 = .ok (.imul, 1) := by decide +kernel
theorem dX9_fittingLaws_50 : decode cX9_fittingLaws 50 = .ok (.iload_n 3, 1) := by decide +kernel
theorem dX9_fittingLaws_51 : decode cX9_fittingLaws 51 = .ok (.iadd, 1) := by decide +kernel
theorem dX9_fittingLaws_52 : decode cX9_fittingLaws 52 = .ok (.aload_n 0, 1) := by decide +kernel
theorem dX9_fittingLaws_53 : decode cX9_fittingLaws 53 = .ok (.getfield 33, 3) := by decide +kernel
theorem dX9_fittingLaws_56 : decode cX9_fittingLaws 56 = .ok (.invokevirtual 302, 3) := by decide +kernel
theorem dX9_fittingLaws_59 : decode cX9_fittingLaws 59 = .ok (.iastore, 1) := by decide +kernel
theorem dX9_fittingLaws_60 : decode cX9_fittingLaws 60 = .ok (.aload_n 0, 1) := by decide +kernel
theorem dX9_fittingLaws_61 : decode cX9_fittingLaws 61 = .ok (.getfield 33, 3) := by decide +kernel
theorem dX9_fittingLaws_64 : decode cX9_fittingLaws 64 = .ok (.aload_n 0, 1) := by decide +kernel
theorem dX9_fittingLaws_65 : decode cX9_fittingLaws 65 = .ok (.getfield 54, 3) := by decide +kernel
theorem dX9_fittingLaws_68 : decode cX9_fittingLaws 68 = .ok (.invokevirtual 298, 3) := by decide +kernel
theorem dX9_fittingLaws_71 : decode cX9_fittingLaws 71 = .ok (.pop, 1) := by decide +kernel
theorem dX9_fittingLaws_72 : decode cX9_fittingLaws 72 = .ok (.iinc 3 1, 3) := by decide +kernel
theorem dX9_fittingLaws_75 : decode cX9_fittingLaws 75 = .ok (.goto (-39), 3) := by decide +kernel
theorem dX9_fittingLaws_78 : decode cX9_fittingLaws 78 = .ok (.aload_n 0, 1) := by decide +kernel
theorem dX9_fittingLaws_79 : decode cX9_fittingLaws 79 = .ok (.iload_n 2, 1) := by decide +kernel
theorem dX9_fittingLaws_80 : decode cX9_fittingLaws 80 = .ok (.invokevirtual 368, 3) := by decide +kernel
theorem dX9_fittingLaws_83 : decode cX9_fittingLaws 83 = .ok (.ifCond .eq 9, 3) := by decide +kernel
theorem dX9_fittingLaws_86 : decode cX9_fittingLaws 86 = .ok (.iload_n 1, 1) := by decide +kernel
theorem dX9_fittingLaws_87 : decode cX9_fittingLaws 87 = .ok (.iconst 1, 1) := by decide +kernel
theorem dX9_fittingLaws_88 : decode cX9_fittingLaws 88 = .ok (.iload_n 2, 1) := by decide +kernel
theorem dX9_fittingLaws_89 : decode cX9_fittingLaws 89 = .ok (.ishl, 1) := by decide +kernel
theorem dX9_fittingLaws_90 : decode cX9_fittingLaws 90 = .ok (.ior, 1) := by decide +kernel
theorem dX9_fittingLaws_91 : decode cX9_fittingLaws 91 = .ok (.istore_n 1, 1) := by decide +kernel
theorem dX9_fittingLaws_92 : decode cX9_fittingLaws 92 = .ok (.iinc 2 1, 3) := by decide +kernel
theorem dX9_fittingLaws_95 : decode cX9_fittingLaws 95 = .ok (.goto (-91), 3) := by decide +kernel
theorem dX9_fittingLaws_98 : decode cX9_fittingLaws 98 = .ok (.iload_n 1, 1) := by decide +kernel
theorem dX9_fittingLaws_99 : decode cX9_fittingLaws 99 = .ok (.ireturn, 1) := by decide +kernel
theorem dX9_firstIn_0 : decode cX9_firstIn 0 = .ok (.iconst 0, 1) := by decide +kernel
theorem dX9_firstIn_1 : decode cX9_firstIn 1 = .ok (.istore_n 1, 1) := by decide +kernel
theorem dX9_firstIn_2 : decode cX9_firstIn 2 = .ok (.iload_n 1, 1) := by decide +kernel
theorem dX9_firstIn_3 : decode cX9_firstIn 3 = .ok (.bipush 16, 2) := by decide +kernel
theorem dX9_firstIn_5 : decode cX9_firstIn 5 = .ok (.if_icmp .ge 19, 3) := by decide +kernel
theorem dX9_firstIn_8 : decode cX9_firstIn 8 = .ok (.iload_n 0, 1) := by decide +kernel
theorem dX9_firstIn_9 : decode cX9_firstIn 9 = .ok (.iload_n 1, 1) := by decide +kernel
theorem dX9_firstIn_10 : decode cX9_firstIn 10 = .ok (.invokestatic 291, 3) := by decide +kernel
theorem dX9_firstIn_13 : decode cX9_firstIn 13 = .ok (.ifCond .eq 5, 3) := by decide +kernel
theorem dX9_firstIn_16 : decode cX9_firstIn 16 = .ok (.iload_n 1, 1) := by decide +kernel
theorem dX9_firstIn_17 : decode cX9_firstIn 17 = .ok (.ireturn, 1) := by decide +kernel
theorem dX9_firstIn_18 : decode cX9_firstIn 18 = .ok (.iinc 1 1, 3) := by decide +kernel
theorem dX9_firstIn_21 : decode cX9_firstIn 21 = .ok (.goto (-19), 3) := by decide +kernel
theorem dX9_firstIn_24 : decode cX9_firstIn 24 = .ok (.iconst (-1), 1) := by decide +kernel
theorem dX9_firstIn_25 : decode cX9_firstIn 25 = .ok (.ireturn, 1) := by decide +kernel
theorem dX9_isAsMarked_0 : decode cX9_isAsMarked 0 = .ok (.iconst 0, 1) := by decide +kernel
theorem dX9_isAsMarked_1 : decode cX9_isAsMarked 1 = .ok (.istore_n 2, 1) := by decide +kernel
theorem dX9_isAsMarked_2 : decode cX9_isAsMarked 2 = .ok (.iload_n 2, 1) := by decide +kernel
theorem dX9_isAsMarked_3 : decode cX9_isAsMarked 3 = .ok (.aload_n 0, 1) := by decide +kernel
theorem dX9_isAsMarked_4 : decode cX9_isAsMarked 4 = .ok (.getfield 69, 3) := by decide +kernel
theorem dX9_isAsMarked_7 : decode cX9_isAsMarked 7 = .ok (.getfield 355, 3) := by decide +kernel
theorem dX9_isAsMarked_10 : decode cX9_isAsMarked 10 = .ok (.if_icmp .ge 65, 3) := by decide +kernel
theorem dX9_isAsMarked_13 : decode cX9_isAsMarked 13 = .ok (.aload_n 0, 1) := by decide +kernel
theorem dX9_isAsMarked_14 : decode cX9_isAsMarked 14 = .ok (.getfield 83, 3) := by decide +kernel
theorem dX9_isAsMarked_17 : decode cX9_isAsMarked 17 = .ok (.iload_n 1, 1) := by decide +kernel
theorem dX9_isAsMarked_18 : decode cX9_isAsMarked 18 = .ok (.bipush 31, 2) := by decide +kernel
theorem dX9_isAsMarked_20 : decode cX9_isAsMarked 20 = .ok (.imul, 1) := by decide +kernel
theorem dX9_isAsMarked_21 : decode cX9_isAsMarked 21 = .ok (.aload_n 0, 1) := by decide +kernel
theorem dX9_isAsMarked_22 : decode cX9_isAsMarked 22 = .ok (.getfield 69, 3) := by decide +kernel
theorem dX9_isAsMarked_25 : decode cX9_isAsMarked 25 = .ok (.getfield 371, 3) := by decide +kernel
theorem dX9_isAsMarked_28 : decode cX9_isAsMarked 28 = .ok (.iload_n 2, 1) := by decide +kernel
theorem dX9_isAsMarked_29 : decode cX9_isAsMarked 29 = .ok (.iaload, 1) := by decide +kernel
theorem dX9_isAsMarked_30 : decode cX9_isAsMarked 30 = .ok (.iadd, 1) := by decide +kernel
theorem dX9_isAsMarked_31 : decode cX9_isAsMarked 31 = .ok (.iaload, 1) := by decide +kernel
theorem dX9_isAsMarked_32 : decode cX9_isAsMarked 32 = .ok (.istore_n 3, 1) := by decide +kernel
theorem dX9_isAsMarked_33 : decode cX9_isAsMarked 33 = .ok (.iload_n 3, 1) := by decide +kernel
theorem dX9_isAsMarked_34 : decode cX9_isAsMarked 34 = .ok (.aload_n 0, 1) := by decide +kernel
theorem dX9_isAsMarked_35 : decode cX9_isAsMarked 35 = .ok (.getfield 69, 3) := by decide +kernel
theorem dX9_isAsMarked_38 : decode cX9_isAsMarked 38 = .ok (.getfield 374, 3) := by decide +kernel
theorem dX9_isAsMarked_41 : decode cX9_isAsMarked 41 = .ok (.iload_n 2, 1) := by decide +kernel
theorem dX9_isAsMarked_42 : decode cX9_isAsMarked 42 = .ok (.iaload, 1) := by decide +kernel
theorem dX9_isAsMarked_43 : decode cX9_isAsMarked 43 = .ok (.invokestatic 291, 3) := by decide +kernel
theorem dX9_isAsMarked_46 : decode cX9_isAsMarked 46 = .ok (.aload_n 0, 1) := by decide +kernel
theorem dX9_isAsMarked_47 : decode cX9_isAsMarked 47 = .ok (.getfield 69, 3) := by decide +kernel
theorem dX9_isAsMarked_50 : decode cX9_isAsMarked 50 = .ok (.getfield 377, 3) := by decide +kernel
theorem dX9_isAsMarked_53 : decode cX9_isAsMarked 53 = .ok (.iload_n 2, 1) := by decide +kernel
theorem dX9_isAsMarked_54 : decode cX9_isAsMarked 54 = .ok (.iaload, 1) := by decide +kernel
theorem dX9_isAsMarked_55 : decode cX9_isAsMarked 55 = .ok (.iconst 1, 1) := by decide +kernel
theorem dX9_isAsMarked_56 : decode cX9_isAsMarked 56 = .ok (.if_icmp .ne 7, 3) := by decide +kernel
theorem dX9_isAsMarked_59 : decode cX9_isAsMarked 59 = .ok (.iconst 1, 1) := by decide +kernel
theorem dX9_isAsMarked_60 : decode cX9_isAsMarked 60 = .ok (.goto 4, 3) := by decide +kernel
theorem dX9_isAsMarked_63 : decode cX9_isAsMarked 63 = .ok (.iconst 0, 1) := by decide +kernel
theorem dX9_isAsMarked_64 : decode cX9_isAsMarked 64 = .ok (.if_icmp .eq 5, 3) := by decide +kernel
theorem dX9_isAsMarked_67 : decode cX9_isAsMarked 67 = .ok (.iconst 0, 1) := by decide +kernel
theorem dX9_isAsMarked_68 : decode cX9_isAsMarked 68 = .ok (.ireturn, 1) := by decide +kernel
theorem dX9_isAsMarked_69 : decode cX9_isAsMarked 69 = .ok (.iinc 2 1, 3) := by decide +kernel
theorem dX9_isAsMarked_72 : decode cX9_isAsMarked 72 = .ok (.goto (-70), 3) := by decide +kernel
theorem dX9_isAsMarked_75 : decode cX9_isAsMarked 75 = .ok (.iconst 1, 1) := by decide +kernel
theorem dX9_isAsMarked_76 : decode cX9_isAsMarked 76 = .ok (.ireturn, 1) := by decide +kernel
theorem dX9_heard_0 : decode cX9_heard 0 = .ok (.iload_n 2, 1) := by decide +kernel
theorem dX9_heard_1 : decode cX9_heard 1 = .ok (.ifCond .lt 21, 3) := by decide +kernel
theorem dX9_heard_4 : decode cX9_heard 4 = .ok (.iload_n 2, 1) := by decide +kernel
theorem dX9_heard_5 : decode cX9_heard 5 = .ok (.iload_n 1, 1) := by decide +kernel
theorem dX9_heard_6 : decode cX9_heard 6 = .ok (.invokestatic 380, 3) := by decide +kernel
theorem dX9_heard_9 : decode cX9_heard 9 = .ok (.if_icmp .gt 13, 3) := by decide +kernel
theorem dX9_heard_12 : decode cX9_heard 12 = .ok (.aload_n 0, 1) := by decide +kernel
theorem dX9_heard_13 : decode cX9_heard 13 = .ok (.getfield 73, 3) := by decide +kernel
theorem dX9_heard_16 : decode cX9_heard 16 = .ok (.invokevirtual 348, 3) := by decide +kernel
theorem dX9_heard_19 : decode cX9_heard 19 = .ok (.ifCond .eq 5, 3) := by decide +kernel
theorem dX9_heard_22 : decode cX9_heard 22 = .ok (.iconst (-1), 1) := by decide +kernel
theorem dX9_heard_23 : decode cX9_heard 23 = .ok (.ireturn, 1) := by decide +kernel
theorem dX9_heard_24 : decode cX9_heard 24 = .ok (.aload_n 0, 1) := by decide +kernel
theorem dX9_heard_25 : decode cX9_heard 25 = .ok (.getfield 73, 3) := by decide +kernel
theorem dX9_heard_28 : decode cX9_heard 28 = .ok (.iload_n 1, 1) := by decide +kernel
theorem dX9_heard_29 : decode cX9_heard 29 = .ok (.iload_n 2, 1) := by decide +kernel
theorem dX9_heard_30 : decode cX9_heard 30 = .ok (.iconst 0, 1) := by decide +kernel
theorem dX9_heard_31 : decode cX9_heard 31 = .ok (.invokevirtual 352, 3) := by decide +kernel
theorem dX9_heard_34 : decode cX9_heard 34 = .ok (.aload_n 0, 1) := by decide +kernel
theorem dX9_heard_35 : decode cX9_heard 35 = .ok (.getfield 73, 3) := by decide +kernel
theorem dX9_heard_38 : decode cX9_heard 38 = .ok (.getfield 355, 3) := by decide +kernel
theorem dX9_heard_41 : decode cX9_heard 41 = .ok (.ireturn, 1) := by decide +kernel
theorem dX9_mostHeard_0 : decode cX9_mostHeard 0 = .ok (.iload_n 0, 1) := by decide +kernel
theorem dX9_mostHeard_1 : decode cX9_mostHeard 1 = .ok (.tableswitch 46 0 4 #[35, 38, 38, 40, 43], 35) := by decide +kernel
theorem dX9_mostHeard_36 : decode cX9_mostHeard 36 = .ok (.bipush 9, 2) := by decide +kernel
theorem dX9_mostHeard_38 : decode cX9_mostHeard 38 = .ok (.ireturn, 1) := by decide +kernel
theorem dX9_mostHeard_39 : decode cX9_mostHeard 39 = .ok (.iconst 5, 1) := by decide +kernel
theorem dX9_mostHeard_40 : decode cX9_mostHeard 40 = .ok (.ireturn, 1) := by decide +kernel
