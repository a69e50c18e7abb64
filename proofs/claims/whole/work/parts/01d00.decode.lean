theorem dX0_init_0 : decode cX0_init 0 = .ok (.aload_n 0, 1) := by decide +kernel
theorem dX0_init_1 : decode cX0_init 1 = .ok (.invokespecial 3, 3) := by decide +kernel
theorem dX0_init_4 : decode cX0_init 4 = .ok (.aload_n 0, 1) := by decide +kernel
theorem dX0_init_5 : decode cX0_init 5 = .ok (.iconst 4, 1) := by decide +kernel
theorem dX0_init_6 : decode cX0_init 6 = .ok (.putfield 9, 3) := by decide +kernel
theorem dX0_init_9 : decode cX0_init 9 = .ok (.aload_n 0, 1) := by decide +kernel
theorem dX0_init_10 : decode cX0_init 10 = .ok (.iconst 4, 1) := by decide +kernel
theorem dX0_init_11 : decode cX0_init 11 = .ok (.putfield 15, 3) := by decide +kernel
theorem dX0_init_14 : decode cX0_init 14 = .ok (.aload_n 0, 1) := by decide +kernel
theorem dX0_init_15 : decode cX0_init 15 = .ok (.bipush 8, 2) := by decide +kernel
theorem dX0_init_17 : decode cX0_init 17 = .ok (.newarray .int, 2) := by decide +kernel
theorem dX0_init_19 : decode cX0_init 19 = .ok (.putfield 18, 3) := by decide +kernel
theorem dX0_init_22 : decode cX0_init 22 = .ok (.aload_n 0, 1) := by decide +kernel
theorem dX0_init_23 : decode cX0_init 23 = .ok (.bipush 8, 2) := by decide +kernel
theorem dX0_init_25 : decode cX0_init 25 = .ok (.newarray .int, 2) := by decide +kernel
theorem dX0_init_27 : decode cX0_init 27 = .ok (.putfield 22, 3) := by decide +kernel
theorem dX0_init_30 : decode cX0_init 30 = .ok (.aload_n 0, 1) := by decide +kernel
theorem dX0_init_31 : decode cX0_init 31 = .ok (.bipush 8, 2) := by decide +kernel
theorem dX0_init_33 : decode cX0_init 33 = .ok (.newarray .int, 2) := by decide +kernel
theorem dX0_init_35 : decode cX0_init 35 = .ok (.putfield 25, 3) := by decide +kernel
theorem dX0_init_38 : decode cX0_init 38 = .ok (.aload_n 0, 1) := by decide +kernel
theorem dX0_init_39 : decode cX0_init 39 = .ok (.bipush 8, 2) := by decide +kernel
theorem dX0_init_41 : decode cX0_init 41 = .ok (.newarray .int, 2) := by decide +kernel
theorem dX0_init_43 : decode cX0_init 43 = .ok (.putfield 28, 3) := by decide +kernel
theorem dX0_init_46 : decode cX0_init 46 = .ok (.aload_n 0, 1) := by decide +kernel
theorem dX0_init_47 : decode cX0_init 47 = .ok (.bipush 8, 2) := by decide +kernel
theorem dX0_init_49 : decode cX0_init 49 = .ok (.newarray .int, 2) := by decide +kernel
theorem dX0_init_51 : decode cX0_init 51 = .ok (.putfield 31, 3) := by decide +kernel
theorem dX0_init_54 : decode cX0_init 54 = .ok (.aload_n 0, 1) := by decide +kernel
theorem dX0_init_55 : decode cX0_init 55 = .ok (.bipush 8, 2) := by decide +kernel
theorem dX0_init_57 : decode cX0_init 57 = .ok (.newarray .int, 2) := by decide +kernel
theorem dX0_init_59 : decode cX0_init 59 = .ok (.putfield 34, 3) := by decide +kernel
theorem dX0_init_62 : decode cX0_init 62 = .ok (.aload_n 0, 1) := by decide +kernel
theorem dX0_init_63 : decode cX0_init 63 = .ok (.bipush 8, 2) := by decide +kernel
theorem dX0_init_65 : decode cX0_init 65 = .ok (.newarray .int, 2) := by decide +kernel
theorem dX0_init_67 : decode cX0_init 67 = .ok (.putfield 37, 3) := by decide +kernel
theorem dX0_init_70 : decode cX0_init 70 = .ok (.return_, 1) := by decide +kernel
theorem dX0_copy_0 : decode cX0_copy 0 = .ok (.aload_n 0, 1) := by decide +kernel
theorem dX0_copy_1 : decode cX0_copy 1 = .ok (.aload_n 1, 1) := by decide +kernel
theorem dX0_copy_2 : decode cX0_copy 2 = .ok (.getfield 9, 3) := by decide +kernel
theorem dX0_copy_5 : decode cX0_copy 5 = .ok (.putfield 9, 3) := by decide +kernel
theorem dX0_copy_8 : decode cX0_copy 8 = .ok (.aload_n 0, 1) := by decide +kernel
theorem dX0_copy_9 : decode cX0_copy 9 = .ok (.aload_n 1, 1) := by decide +kernel
theorem dX0_copy_10 : decode cX0_copy 10 = .ok (.getfield 15, 3) := by decide +kernel
theorem dX0_copy_13 : decode cX0_copy 13 = .ok (.putfield 15, 3) := by decide +kernel
theorem dX0_copy_16 : decode cX0_copy 16 = .ok (.aload_n 0, 1) := by decide +kernel
theorem dX0_copy_17 : decode cX0_copy 17 = .ok (.aload_n 1, 1) := by decide +kernel
theorem dX0_copy_18 : decode cX0_copy 18 = .ok (.getfield 40, 3) := by decide +kernel
theorem dX0_copy_21 : decode cX0_copy 21 = .ok (.putfield 40, 3) := by decide +kernel
theorem dX0_copy_24 : decode cX0_copy 24 = .ok (.aload_n 0, 1) := by decide +kernel
theorem dX0_copy_25 : decode cX0_copy 25 = .ok (.aload_n 1, 1) := by decide +kernel
theorem dX0_copy_26 : decode cX0_copy 26 = .ok (.getfield 43, 3) := by decide +kernel
theorem dX0_copy_29 : decode cX0_copy 29 = .ok (.putfield 43, 3) := by decide +kernel
theorem dX0_copy_32 : decode cX0_copy 32 = .ok (.aload_n 0, 1) := by decide +kernel
theorem dX0_copy_33 : decode cX0_copy 33 = .ok (.aload_n 1, 1) := by decide +kernel
theorem dX0_copy_34 : decode cX0_copy 34 = .ok (.getfield 46, 3) := by decide +kernel
theorem dX0_copy_37 : decode cX0_copy 37 = .ok (.putfield 46, 3) := by decide +kernel
theorem dX0_copy_40 : decode cX0_copy 40 = .ok (.aload_n 1, 1) := by decide +kernel
theorem dX0_copy_41 : decode cX0_copy 41 = .ok (.getfield 18, 3) := by decide +kernel
theorem dX0_copy_44 : decode cX0_copy 44 = .ok (.iconst 0, 1) := by decide +kernel
theorem dX0_copy_45 : decode cX0_copy 45 = .ok (.aload_n 0, 1) := by decide +kernel
theorem dX0_copy_46 : decode cX0_copy 46 = .ok (.getfield 18, 3) := by decide +kernel
theorem dX0_copy_49 : decode cX0_copy 49 = .ok (.iconst 0, 1) := by decide +kernel
theorem dX0_copy_50 : decode cX0_copy 50 = .ok (.bipush 8, 2) := by decide +kernel
theorem dX0_copy_52 : decode cX0_copy 52 = .ok (.invokestatic 49, 3) := by decide +kernel
theorem dX0_copy_55 : decode cX0_copy 55 = .ok (.aload_n 1, 1) := by decide +kernel
theorem dX0_copy_56 : decode cX0_copy 56 = .ok (.getfield 22, 3) := by decide +kernel
theorem dX0_copy_59 : decode cX0_copy 59 = .ok (.iconst 0, 1) := by decide +kernel
theorem dX0_copy_60 : decode cX0_copy 60 = .ok (.aload_n 0, 1) := by decide +kernel
theorem dX0_copy_61 : decode cX0_copy 61 = .ok (.getfield 22, 3) := by decide +kernel
theorem dX0_copy_64 : decode cX0_copy 64 = .ok (.iconst 0, 1) := by decide +kernel
theorem dX0_copy_65 : decode cX0_copy 65 = .ok (.bipush 8, 2) := by decide +kernel
theorem dX0_copy_67 : decode cX0_copy 67 = .ok (.invokestatic 49, 3) := by decide +kernel
theorem dX0_copy_70 : decode cX0_copy 70 = .ok (.aload_n 1, 1) := by decide +kernel
theorem dX0_copy_71 : decode cX0_copy 71 = .ok (.getfield 25, 3) := by decide +kernel
theorem dX0_copy_74 : decode cX0_copy 74 = .ok (.iconst 0, 1) := by decide +kernel
theorem dX0_copy_75 : decode cX0_copy 75 = .ok (.aload_n 0, 1) := by decide +kernel
theorem dX0_copy_76 : decode cX0_copy 76 = .ok (.getfield 25, 3) := by decide +kernel
theorem dX0_copy_79 : decode cX0_copy 79 = .ok (.iconst 0, 1) := by decide +kernel
theorem dX0_copy_80 : decode cX0_copy 80 = .ok (.bipush 8, 2) := by decide +kernel
theorem dX0_copy_82 : decode cX0_copy 82 = .ok (.invokestatic 49, 3) := by decide +kernel
theorem dX0_copy_85 : decode cX0_copy 85 = .ok (.aload_n 1, 1) := by decide +kernel
theorem dX0_copy_86 : decode cX0_copy 86 = .ok (.getfield 28, 3) := by decide +kernel
theorem dX0_copy_89 : decode cX0_copy 89 = .ok (.iconst 0, 1) := by decide +kernel
theorem dX0_copy_90 : decode cX0_copy 90 = .ok (.aload_n 0, 1) := by decide +kernel
theorem dX0_copy_91 : decode cX0_copy 91 = .ok (.getfield 28, 3) := by decide +kernel
theorem dX0_copy_94 : decode cX0_copy 94 = .ok (.iconst 0, 1) := by decide +kernel
theorem dX0_copy_95 : decode cX0_copy 95 = .ok (.bipush 8, 2) := by decide +kernel
theorem dX0_copy_97 : decode cX0_copy 97 = .ok (.invokestatic 49, 3) := by decide +kernel
theorem dX0_copy_100 : decode cX0_copy 100 = .ok (.aload_n 1, 1) := by decide +kernel
theorem dX0_copy_101 : decode cX0_copy 101 = .ok (.getfield 31, 3) := by decide +kernel
theorem dX0_copy_104 : decode cX0_copy 104 = .ok (.iconst 0, 1) := by decide +kernel
theorem dX0_copy_105 : decode cX0_copy 105 = .ok (.aload_n 0, 1) := by decide +kernel
theorem dX0_copy_106 : decode cX0_copy 106 = .ok (.getfield 31, 3) := by decide +kernel
theorem dX0_copy_109 : decode cX0_copy 109 = .ok (.iconst 0, 1) := by decide +kernel
theorem dX0_copy_110 : decode cX0_copy 110 = .ok (.bipush 8, 2) := by decide +kernel
theorem dX0_copy_112 : decode cX0_copy 112 = .ok (.invokestatic 49, 3) := by decide +kernel
theorem dX0_copy_115 : decode cX0_copy 115 = .ok (.aload_n 1, 1) := by decide +kernel
theorem dX0_copy_116 : decode cX0_copy 116 = .ok (.getfield 34, 3) := by decide +kernel
theorem dX0_copy_119 : decode cX0_copy 119 = .ok (.iconst 0, 1) := by decide +kernel
theorem dX0_copy_120 : decode cX0_copy 120 = .ok (.aload_n 0, 1) := by decide +kernel
theorem dX0_copy_121 : decode cX0_copy 121 = .ok (.getfield 34, 3) := by decide +kernel
theorem dX0_copy_124 : decode cX0_copy 124 = .ok (.iconst 0, 1) := by decide +kernel
theorem dX0_copy_125 : decode cX0_copy 125 = .ok (.bipush 8, 2) := by decide +kernel
theorem dX0_copy_127 : decode cX0_copy 127 = .ok (.invokestatic 49, 3) := by decide +kernel
theorem dX0_copy_130 : decode cX0_copy 130 = .ok (.aload_n 1, 1) := by decide +kernel
theorem dX0_copy_131 : decode cX0_copy 131 = .ok (.getfield 37, 3) := by decide +kernel
theorem dX0_copy_134 : decode cX0_copy 134 = .ok (.iconst 0, 1) := by decide +kernel
theorem dX0_copy_135 : decode cX0_copy 135 = .ok (.aload_n 0, 1) := by decide +kernel
theorem dX0_copy_136 : decode cX0_copy 136 = .ok (.getfield 37, 3) := by decide +kernel
theorem dX0_copy_139 : decode cX0_copy 139 = .ok (.iconst 0, 1) := by decide +kernel
theorem dX0_copy_140 : decode cX0_copy 140 = .ok (.bipush 8, 2) := by decide +kernel
theorem dX0_copy_142 : decode cX0_copy 142 = .ok (.invokestatic 49, 3) := by decide +kernel
theorem dX0_copy_145 : decode cX0_copy 145 = .ok (.return_, 1) := by decide +kernel
theorem dX0_layOut_0 : decode cX0_layOut 0 = .ok (.aload_n 0, 1) := by decide +kernel
theorem dX0_layOut_1 : decode cX0_layOut 1 = .ok (.iload_n 1, 1) := by decide +kernel
theorem dX0_layOut_2 : decode cX0_layOut 2 = .ok (.putfield 9, 3) := by decide +kernel
theorem dX0_layOut_5 : decode cX0_layOut 5 = .ok (.aload_n 0, 1) := by decide +kernel
theorem dX0_layOut_6 : decode cX0_layOut 6 = .ok (.iload_n 2, 1) := by decide +kernel
theorem dX0_layOut_7 : decode cX0_layOut 7 = .ok (.putfield 15, 3) := by decide +kernel
theorem dX0_layOut_10 : decode cX0_layOut 10 = .ok (.aload_n 0, 1) := by decide +kernel
theorem dX0_layOut_11 : decode cX0_layOut 11 = .ok (.iconst 0, 1) := by decide +kernel
theorem dX0_layOut_12 : decode cX0_layOut 12 = .ok (.putfield 40, 3) := by decide +kernel
theorem dX0_layOut_15 : decode cX0_layOut 15 = .ok (.aload_n 0, 1) := by decide +kernel
theorem dX0_layOut_16 : decode cX0_layOut 16 = .ok (.iconst 0, 1) := by decide +kernel
theorem dX0_layOut_17 : decode cX0_layOut 17 = .ok (.putfield 43, 3) := by decide +kernel
theorem dX0_layOut_20 : decode cX0_layOut 20 = .ok (.aload_n 0, 1) := by decide +kernel
theorem dX0_layOut_21 : decode cX0_layOut 21 = .ok (.iconst 0, 1) := by decide +kernel
theorem dX0_layOut_22 : decode cX0_layOut 22 = .ok (.putfield 46, 3) := by decide +kernel
theorem dX0_layOut_25 : decode cX0_layOut 25 = .ok (.return_, 1) := by decide +kernel
theorem dX0_cells_0 : decode cX0_cells 0 = .ok (.aload_n 0, 1) := by decide +kernel
theorem dX0_cells_1 : decode cX0_cells 1 = .ok (.getfield 9, 3) := by decide +kernel
theorem dX0_cells_4 : decode cX0_cells 4 = .ok (.aload_n 0, 1) := by decide +kernel
theorem dX0_cells_5 : decode cX0_cells 5 = .ok (.getfield 15, 3) := by decide +kernel
theorem dX0_cells_8 : decode cX0_cells 8 = .ok (.imul, 1) := by decide +kernel
theorem dX0_cells_9 : decode cX0_cells 9 = .ok (.ireturn, 1) := by decide +kernel
theorem dX0_hasCell_0 : decode cX0_hasCell 0 = .ok (.iload_n 1, 1) := by decide +kernel
theorem dX0_hasCell_1 : decode cX0_hasCell 1 = .ok (.ifCond .lt 15, 3) := by decide +kernel
theorem dX0_hasCell_4 : decode cX0_hasCell 4 = .ok (.iload_n 1, 1) := by decide +kernel
theorem dX0_hasCell_5 : decode cX0_hasCell 5 = .ok (.aload_n 0, 1) := by decide +kernel
theorem dX0_hasCell_6 : decode cX0_hasCell 6 = .ok (.invokevirtual 55, 3) := by decide +kernel
theorem dX0_hasCell_9 : decode cX0_hasCell 9 = .ok (.if_icmp .ge 7, 3) := by decide +kernel
theorem dX0_hasCell_12 : decode cX0_hasCell 12 = .ok (.iconst 1, 1) := by decide +kernel
theorem dX0_hasCell_13 : decode cX0_hasCell 13 = .ok (.goto 4, 3) := by decide +kernel
theorem dX0_hasCell_16 : decode cX0_hasCell 16 = .ok (.iconst 0, 1) := by decide +kernel
theorem dX0_hasCell_17 : decode cX0_hasCell 17 = .ok (.ireturn, 1) := by decide +kernel
theorem dX0_cellAt_0 : decode cX0_cellAt 0 = .ok (.iload_n 1, 1) := by decide +kernel
theorem dX0_cellAt_1 : decode cX0_cellAt 1 = .ok (.ifCond .lt 27, 3) := by decide +kernel
theorem dX0_cellAt_4 : decode cX0_cellAt 4 = .ok (.iload_n 1, 1) := by decide +kernel
theorem dX0_cellAt_5 : decode cX0_cellAt 5 = .ok (.aload_n 0, 1) := by decide +kernel
theorem dX0_cellAt_6 : decode cX0_cellAt 6 = .ok (.getfield 9, 3) := by decide +kernel
theorem dX0_cellAt_9 : decode cX0_cellAt 9 = .ok (.if_icmp .ge 19, 3) := by decide +kernel
theorem dX0_cellAt_12 : decode cX0_cellAt 12 = .ok (.iload_n 2, 1) := by decide +kernel
theorem dX0_cellAt_13 : decode cX0_cellAt 13 = .ok (.ifCond .lt 15, 3) := by decide +kernel
theorem dX0_cellAt_16 : decode cX0_cellAt 16 = .ok (.iload_n 2, 1) := by decide +kernel
theorem dX0_cellAt_17 : decode cX0_cellAt 17 = .ok (.aload_n 0, 1) := by decide +kernel
theorem dX0_cellAt_18 : decode cX0_cellAt 18 = .ok (.getfield 15, 3) := by decide +kernel
theorem dX0_cellAt_21 : decode cX0_cellAt 21 = .ok (.if_icmp .ge 7, 3) := by decide +kernel
theorem dX0_cellAt_24 : decode cX0_cellAt 24 = .ok (.iconst 1, 1) := by decide +kernel
theorem dX0_cellAt_25 : decode cX0_cellAt 25 = .ok (.goto 4, 3) := by decide +kernel
theorem dX0_cellAt_28 : decode cX0_cellAt 28 = .ok (.iconst 0, 1) := by decide +kernel
theorem dX0_cellAt_29 : decode cX0_cellAt 29 = .ok (.istore_n 3, 1) := by decide +kernel
theorem dX0_cellAt_30 : decode cX0_cellAt 30 = .ok (.iload_n 3, 1) := by decide +kernel
theorem dX0_cellAt_31 : decode cX0_cellAt 31 = .ok (.ifCond .eq 14, 3) := by decide +kernel
theorem dX0_cellAt_34 : decode cX0_cellAt 34 = .ok (.iload_n 1, 1) := by decide +kernel
theorem dX0_cellAt_35 : decode cX0_cellAt 35 = .ok (.aload_n 0, 1) := by decide +kernel
theorem dX0_cellAt_36 : decode cX0_cellAt 36 = .ok (.getfield 15, 3) := by decide +kernel
theorem dX0_cellAt_39 : decode cX0_cellAt 39 = .ok (.imul, 1) := by decide +kernel
theorem dX0_cellAt_40 : decode cX0_cellAt 40 = .ok (.iload_n 2, 1) := by decide +kernel
theorem dX0_cellAt_41 : decode cX0_cellAt 41 = .ok (.iadd, 1) := by decide +kernel
theorem dX0_cellAt_42 : decode cX0_cellAt 42 = .ok (.goto 4, 3) := by decide +kernel
theorem dX0_cellAt_45 : decode cX0_cellAt 45 = .ok (.iconst (-1), 1) := by decide +kernel
theorem dX0_cellAt_46 : decode cX0_cellAt 46 = .ok (.ireturn, 1) := by decide +kernel
theorem dX0_rowOf_0 : decode cX0_rowOf 0 = .ok (.aload_n 0, 1) := by decide +kernel
theorem dX0_rowOf_1 : decode cX0_rowOf 1 = .ok (.getfield 15, 3) := by decide +kernel
theorem dX0_rowOf_4 : decode cX0_rowOf 4 = .ok (.ifCond .le 12, 3) := by decide +kernel
theorem dX0_rowOf_7 : decode cX0_rowOf 7 = .ok (.iload_n 1, 1) := by decide +kernel
theorem dX0_rowOf_8 : decode cX0_rowOf 8 = .ok (.aload_n 0, 1) := by decide +kernel
theorem dX0_rowOf_9 : decode cX0_rowOf 9 = .ok (.getfield 15, 3) := by decide +kernel
theorem dX0_rowOf_12 : decode cX0_rowOf 12 = .ok (.idiv, 1) := by decide +kernel
theorem dX0_rowOf_13 : decode cX0_rowOf 13 = .ok (.goto 4, 3) := by decide +kernel
theorem dX0_rowOf_16 : decode cX0_rowOf 16 = .ok (.iconst 0, 1) := by decide +kernel
theorem dX0_rowOf_17 : decode cX0_rowOf 17 = .ok (.ireturn, 1) := by decide +kernel
theorem dX0_columnOf_0 : decode cX0_columnOf 0 = .ok (.aload_n 0, 1) := by decide +kernel
theorem dX0_columnOf_1 : decode cX0_columnOf 1 = .ok (.getfield 15, 3) := by decide +kernel
theorem dX0_columnOf_4 : decode cX0_columnOf 4 = .ok (.ifCond .le 12, 3) := by decide +kernel
theorem dX0_columnOf_7 : decode cX0_columnOf 7 = .ok (.iload_n 1, 1) := by decide +kernel
theorem dX0_columnOf_8 : decode cX0_columnOf 8 = .ok (.aload_n 0, 1) := by decide +kernel
theorem dX0_columnOf_9 : decode cX0_columnOf 9 = .ok (.getfield 15, 3) := by decide +kernel
theorem dX0_columnOf_12 : decode cX0_columnOf 12 = .ok (.irem, 1) := by decide +kernel
theorem dX0_columnOf_13 : decode cX0_columnOf 13 = .ok (.goto 4, 3) := by decide +kernel
theorem dX0_columnOf_16 : decode cX0_columnOf 16 = .ok (.iconst 0, 1) := by decide +kernel
theorem dX0_columnOf_17 : decode cX0_columnOf 17 = .ok (.ireturn, 1) := by decide +kernel
theorem dX0_beside_0 : decode cX0_beside 0 = .ok (.aload_n 0, 1) := by decide +kernel
theorem dX0_beside_1 : decode cX0_beside 1 = .ok (.iload_n 1, 1) := by decide +kernel
theorem dX0_beside_2 : decode cX0_beside 2 = .ok (.invokevirtual 59, 3) := by decide +kernel
theorem dX0_beside_5 : decode cX0_beside 5 = .ok (.istore_n 3, 1) := by decide +kernel
theorem dX0_beside_6 : decode cX0_beside 6 = .ok (.aload_n 0, 1) := by decide +kernel
theorem dX0_beside_7 : decode cX0_beside 7 = .ok (.iload_n 1, 1) := by decide +kernel
theorem dX0_beside_8 : decode cX0_beside 8 = .ok (.invokevirtual 63, 3) := by decide +kernel
theorem dX0_beside_11 : decode cX0_beside 11 = .ok (.istore 4, 2) := by decide +kernel
theorem dX0_beside_13 : decode cX0_beside 13 = .ok (.iload_n 2, 1) := by decide +kernel
theorem dX0_beside_14 : decode cX0_beside 14 = .ok (.tableswitch 56 0 2 #[26, 36, 46], 26) := by decide +kernel
theorem dX0_beside_40 : decode cX0_beside 40 = .ok (.aload_n 0, 1) := by decide +kernel
theorem dX0_beside_41 : decode cX0_beside 41 = .ok (.iload_n 3, 1) := by decide +kernel
theorem dX0_beside_42 : decode cX0_beside 42 = .ok (.iconst 1, 1) := by decide +kernel
theorem dX0_beside_43 : decode cX0_beside 43 = .ok (.isub, 1) := by decide +kernel
theorem dX0_beside_44 : decode cX0_beside 44 = .ok (.iload 4, 2) := by decide +kernel
theorem dX0_beside_46 : decode cX0_beside 46 = .ok (.invokevirtual 66, 3) := by decide +kernel
theorem dX0_beside_49 : decode cX0_beside 49 = .ok (.ireturn, 1) := by decide +kernel
theorem dX0_beside_50 : decode cX0_beside 50 = .ok (.aload_n 0, 1) := by decide +kernel
theorem dX0_beside_51 : decode cX0_beside 51 = .ok (.iload_n 3, 1) := by decide +kernel
theorem dX0_beside_52 : decode cX0_beside 52 = .ok (.iload 4, 2) := by decide +kernel
theorem dX0_beside_54 : decode cX0_beside 54 = .ok (.iconst 1, 1) := by decide +kernel
theorem dX0_beside_55 : decode cX0_beside 55 = .ok (.isub, 1) := by decide +kernel
theorem dX0_beside_56 : decode cX0_beside 56 = .ok (.invokevirtual 66, 3) := by decide +kernel
theorem dX0_beside_59 : decode cX0_beside 59 = .ok (.ireturn, 1) := by decide +kernel
theorem dX0_beside_60 : decode cX0_beside 60 = .ok (.aload_n 0, 1) := by decide +kernel
theorem dX0_beside_61 : decode cX0_beside 61 = .ok (.iload_n 3, 1) := by decide +kernel
theorem dX0_beside_62 : decode cX0_beside 62 = .ok (.iload 4, 2) := by decide +kernel
theorem dX0_beside_64 : decode cX0_beside 64 = .ok (.iconst 1, 1) := by decide +kernel
theorem dX0_beside_65 : decode cX0_beside 65 = .ok (.iadd, 1) := by decide +kernel
theorem dX0_beside_66 : decode cX0_beside 66 = .ok (.invokevirtual 66, 3) := by decide +kernel
theorem dX0_beside_69 : decode cX0_beside 69 = .ok (.ireturn, 1) := by decide +kernel
theorem dX0_beside_70 : decode cX0_beside 70 = .ok (.aload_n 0, 1) := by decide +kernel
theorem dX0_beside_71 : decode cX0_beside 71 = .ok (.iload_n 3, 1) := by decide +kernel
theorem dX0_beside_72 : decode cX0_beside 72 = .ok (.iconst 1, 1) := by decide +kernel
theorem dX0_beside_73 : decode cX0_beside 73 = .ok (.iadd, 1) := by decide +kernel
theorem dX0_beside_74 : decode cX0_beside 74 = .ok (.iload 4, 2) := by decide +kernel
theorem dX0_beside_76 : decode cX0_beside 76 = .ok (.invokevirtual 66, 3) := by decide +kernel
theorem dX0_beside_79 : decode cX0_beside 79 = .ok (.ireturn, 1) := by decide +kernel
theorem dX0_has_0 : decode cX0_has 0 = .ok (.iload_n 1, 1) := by decide +kernel
theorem dX0_has_1 : decode cX0_has 1 = .ok (.ifCond .lt 15, 3) := by decide +kernel
theorem dX0_has_4 : decode cX0_has 4 = .ok (.iload_n 1, 1) := by decide +kernel
theorem dX0_has_5 : decode cX0_has 5 = .ok (.aload_n 0, 1) := by decide +kernel
theorem dX0_has_6 : decode cX0_has 6 = .ok (.getfield 40, 3) := by decide +kernel
theorem dX0_has_9 : decode cX0_has 9 = .ok (.if_icmp .ge 7, 3) := by decide +kernel
theorem dX0_has_12 : decode cX0_has 12 = .ok (.iconst 1, 1) := by decide +kernel
theorem dX0_has_13 : decode cX0_has 13 = .ok (.goto 4, 3) := by decide +kernel
theorem dX0_has_16 : decode cX0_has 16 = .ok (.iconst 0, 1) := by decide +kernel
theorem dX0_has_17 : decode cX0_has 17 = .ok (.ireturn, 1) := by decide +kernel
theorem dX0_isOn_0 : decode cX0_isOn 0 = .ok (.aload_n 0, 1) := by decide +kernel
theorem dX0_isOn_1 : decode cX0_isOn 1 = .ok (.iload_n 1, 1) := by decide +kernel
theorem dX0_isOn_2 : decode cX0_isOn 2 = .ok (.invokevirtual 70, 3) := by decide +kernel
theorem dX0_isOn_5 : decode cX0_isOn 5 = .ok (.ifCond .eq 16, 3) := by decide +kernel
theorem dX0_isOn_8 : decode cX0_isOn 8 = .ok (.aload_n 0, 1) := by decide +kernel
theorem dX0_isOn_9 : decode cX0_isOn 9 = .ok (.getfield 31, 3) := by decide +kernel
theorem dX0_isOn_12 : decode cX0_isOn 12 = .ok (.iload_n 1, 1) := by decide +kernel
theorem dX0_isOn_13 : decode cX0_isOn 13 = .ok (.iaload, 1) := by decide +kernel
theorem dX0_isOn_14 : decode cX0_isOn 14 = .ok (.ifCond .le 7, 3) := by decide +kernel
theorem dX0_isOn_17 : decode cX0_isOn 17 = .ok (.iconst 1, 1) := by decide +kernel
theorem dX0_isOn_18 : decode cX0_isOn 18 = .ok (.goto 4, 3) := by decide +kernel
theorem dX0_isOn_21 : decode cX0_isOn 21 = .ok (.iconst 0, 1) := by decide +kernel
theorem dX0_isOn_22 : decode cX0_isOn 22 = .ok (.ireturn, 1) := by decide +kernel
theorem dX0_firstCell_0 : decode cX0_firstCell 0 = .ok (.aload_n 0, 1) := by decide +kernel
theorem dX0_firstCell_1 : decode cX0_firstCell 1 = .ok (.iload_n 1, 1) := by decide +kernel
theorem dX0_firstCell_2 : decode cX0_firstCell 2 = .ok (.invokevirtual 70, 3) := by decide +kernel
theorem dX0_firstCell_5 : decode cX0_firstCell 5 = .ok (.ifCond .eq 22, 3) := by decide +kernel
theorem dX0_firstCell_8 : decode cX0_firstCell 8 = .ok (.aload_n 0, 1) := by decide +kernel
theorem dX0_firstCell_9 : decode cX0_firstCell 9 = .ok (.aload_n 0, 1) := by decide +kernel
theorem dX0_firstCell_10 : decode cX0_firstCell 10 = .ok (.getfield 18, 3) := by decide +kernel
theorem dX0_firstCell_13 : decode cX0_firstCell 13 = .ok (.iload_n 1, 1) := by decide +kernel
theorem dX0_firstCell_14 : decode cX0_firstCell 14 = .ok (.iaload, 1) := by decide +kernel
theorem dX0_firstCell_15 : decode cX0_firstCell 15 = .ok (.aload_n 0, 1) := by decide +kernel
theorem dX0_firstCell_16 : decode cX0_firstCell 16 = .ok (.getfield 22, 3) := by decide +kernel
theorem dX0_firstCell_19 : decode cX0_firstCell 19 = .ok (.iload_n 1, 1) := by decide +kernel
theorem dX0_firstCell_20 : decode cX0_firstCell 20 = .ok (.iaload, 1) := by decide +kernel
theorem dX0_firstCell_21 : decode cX0_firstCell 21 = .ok (.invokevirtual 66, 3) := by decide +kernel
theorem dX0_firstCell_24 : decode cX0_firstCell 24 = .ok (.goto 4, 3) := by decide +kernel
theorem dX0_firstCell_27 : decode cX0_firstCell 27 = .ok (.iconst (-1), 1) := by decide +kernel
theorem dX0_firstCell_28 : decode cX0_firstCell 28 = .ok (.ireturn, 1) := by decide +kernel
theorem dX0_isOverRow_0 : decode cX0_isOverRow 0 = .ok (.aload_n 0, 1) := by decide +kernel
theorem dX0_isOverRow_1 : decode cX0_isOverRow 1 = .ok (.iload_n 1, 1) := by decide +kernel
theorem dX0_isOverRow_2 : decode cX0_isOverRow 2 = .ok (.invokevirtual 70, 3) := by decide +kernel
theorem dX0_isOverRow_5 : decode cX0_isOverRow 5 = .ok (.ifCond .eq 34, 3) := by decide +kernel
theorem dX0_isOverRow_8 : decode cX0_isOverRow 8 = .ok (.aload_n 0, 1) := by decide +kernel
theorem dX0_isOverRow_9 : decode cX0_isOverRow 9 = .ok (.getfield 18, 3) := by decide +kernel
theorem dX0_isOverRow_12 : decode cX0_isOverRow 12 = .ok (.iload_n 1, 1) := by decide +kernel
theorem dX0_isOverRow_13 : decode cX0_isOverRow 13 = .ok (.iaload, 1) := by decide +kernel
theorem dX0_isOverRow_14 : decode cX0_isOverRow 14 = .ok (.iload_n 2, 1) := by decide +kernel
theorem dX0_isOverRow_15 : decode cX0_isOverRow 15 = .ok (.if_icmp .gt 24, 3) := by decide +kernel
theorem dX0_isOverRow_18 : decode cX0_isOverRow 18 = .ok (.iload_n 2, 1) := by decide +kernel
theorem dX0_isOverRow_19 : decode cX0_isOverRow 19 = .ok (.aload_n 0, 1) := by decide +kernel
theorem dX0_isOverRow_20 : decode cX0_isOverRow 20 = .ok (.getfield 18, 3) := by decide +kernel
theorem dX0_isOverRow_23 : decode cX0_isOverRow 23 = .ok (.iload_n 1, 1) := by decide +kernel
theorem dX0_isOverRow_24 : decode cX0_isOverRow 24 = .ok (.iaload, 1) := by decide +kernel
theorem dX0_isOverRow_25 : decode cX0_isOverRow 25 = .ok (.aload_n 0, 1) := by decide +kernel
theorem dX0_isOverRow_26 : decode cX0_isOverRow 26 = .ok (.getfield 25, 3) := by decide +kernel
theorem dX0_isOverRow_29 : decode cX0_isOverRow 29 = .ok (.iload_n 1, 1) := by decide +kernel
theorem dX0_isOverRow_30 : decode cX0_isOverRow 30 = .ok (.iaload, 1) := by decide +kernel
theorem dX0_isOverRow_31 : decode cX0_isOverRow 31 = .ok (.iadd, 1) := by decide +kernel
theorem dX0_isOverRow_32 : decode cX0_isOverRow 32 = .ok (.if_icmp .ge 7, 3) := by decide +kernel
theorem dX0_isOverRow_35 : decode cX0_isOverRow 35 = .ok (.iconst 1, 1) := by decide +kernel
theorem dX0_isOverRow_36 : decode cX0_isOverRow 36 = .ok (.goto 4, 3) := by decide +kernel
theorem dX0_isOverRow_39 : decode cX0_isOverRow 39 = .ok (.iconst 0, 1) := by decide +kernel
theorem dX0_isOverRow_40 : decode cX0_isOverRow 40 = .ok (.ireturn, 1) := by decide +kernel
theorem dX0_isOverColumn_0 : decode cX0_isOverColumn 0 = .ok (.aload_n 0, 1) := by decide +kernel
theorem dX0_isOverColumn_1 : decode cX0_isOverColumn 1 = .ok (.iload_n 1, 1) := by decide +kernel
theorem dX0_isOverColumn_2 : decode cX0_isOverColumn 2 = .ok (.invokevirtual 70, 3) := by decide +kernel
theorem dX0_isOverColumn_5 : decode cX0_isOverColumn 5 = .ok (.ifCond .eq 34, 3) := by decide +kernel
theorem dX0_isOverColumn_8 : decode cX0_isOverColumn 8 = .ok (.aload_n 0, 1) := by decide +kernel
theorem dX0_isOverColumn_9 : decode cX0_isOverColumn 9 = .ok (.getfield 22, 3) := by decide +kernel
theorem dX0_isOverColumn_12 : decode cX0_isOverColumn 12 = .ok (.iload_n 1, 1) := by decide +kernel
theorem dX0_isOverColumn_13 : decode cX0_isOverColumn 13 = .ok (.iaload, 1) := by decide +kernel
theorem dX0_isOverColumn_14 : decode cX0_isOverColumn 14 = .ok (.iload_n 2, 1) := by decide +kernel
theorem dX0_isOverColumn_15 : decode cX0_isOverColumn 15 = .ok (.if_icmp .gt 24, 3) := by decide +kernel
theorem dX0_isOverColumn_18 : decode cX0_isOverColumn 18 = .ok (.iload_n 2, 1) := by decide +kernel
theorem dX0_isOverColumn_19 : decode cX0_isOverColumn 19 = .ok (.aload_n 0, 1) := by decide +kernel
theorem dX0_isOverColumn_20 : decode cX0_isOverColumn 20 = .ok (.getfield 22, 3) := by decide +kernel
theorem dX0_isOverColumn_23 : decode cX0_isOverColumn 23 = .ok (.iload_n 1, 1) := by decide +kernel
theorem dX0_isOverColumn_24 : decode cX0_isOverColumn 24 = .ok (.iaload, 1) := by decide +kernel
theorem dX0_isOverColumn_25 : decode cX0_isOverColumn 25 = .ok (.aload_n 0, 1) := by decide +kernel
theorem dX0_isOverColumn_26 : decode cX0_isOverColumn 26 = .ok (.getfield 28, 3) := by decide +kernel
theorem dX0_isOverColumn_29 : decode cX0_isOverColumn 29 = .ok (.iload_n 1, 1) := by decide +kernel
theorem dX0_isOverColumn_30 : decode cX0_isOverColumn 30 = .ok (.iaload, 1) := by decide +kernel
theorem dX0_isOverColumn_31 : decode cX0_isOverColumn 31 = .ok (.iadd, 1) := by decide +kernel
theorem dX0_isOverColumn_32 : decode cX0_isOverColumn 32 = .ok (.if_icmp .ge 7, 3) := by decide +kernel
theorem dX0_isOverColumn_35 : decode cX0_isOverColumn 35 = .ok (.iconst 1, 1) := by decide +kernel
theorem dX0_isOverColumn_36 : decode cX0_isOverColumn 36 = .ok (.goto 4, 3) := by decide +kernel
theorem dX0_isOverColumn_39 : decode cX0_isOverColumn 39 = .ok (.iconst 0, 1) := by decide +kernel
theorem dX0_isOverColumn_40 : decode cX0_isOverColumn 40 = .ok (.ireturn, 1) := by decide +kernel
theorem dX0_cellsOf_0 : decode cX0_cellsOf 0 = .ok (.lconst 0, 1) := by decide +kernel
theorem dX0_cellsOf_1 : decode cX0_cellsOf 1 = .ok (.lstore_n 2, 1) := by decide +kernel
theorem dX0_cellsOf_2 : decode cX0_cellsOf 2 = .ok (.iconst 0, 1) := by decide +kernel
theorem dX0_cellsOf_3 : decode cX0_cellsOf 3 = .ok (.istore 4, 2) := by decide +kernel
theorem dX0_cellsOf_5 : decode cX0_cellsOf 5 = .ok (.iload 4, 2) := by decide +kernel
theorem dX0_cellsOf_7 : decode cX0_cellsOf 7 = .ok (.aload_n 0, 1) := by decide +kernel
theorem dX0_cellsOf_8 : decode cX0_cellsOf 8 = .ok (.invokevirtual 55, 3) := by decide +kernel
theorem dX0_cellsOf_11 : decode cX0_cellsOf 11 = .ok (.if_icmp .ge 44, 3) := by decide +kernel
theorem dX0_cellsOf_14 : decode cX0_cellsOf 14 = .ok (.aload_n 0, 1) := by decide +kernel
theorem dX0_cellsOf_15 : decode cX0_cellsOf 15 = .ok (.iload_n 1, 1) := by decide +kernel
theorem dX0_cellsOf_16 : decode cX0_cellsOf 16 = .ok (.aload_n 0, 1) := by decide +kernel
theorem dX0_cellsOf_17 : decode cX0_cellsOf 17 = .ok (.iload 4, 2) := by decide +kernel
theorem dX0_cellsOf_19 : decode cX0_cellsOf 19 = .ok (.invokevirtual 59, 3) := by decide +kernel
theorem dX0_cellsOf_22 : decode cX0_cellsOf 22 = .ok (.invokevirtual 74, 3) := by decide +kernel
theorem dX0_cellsOf_25 : decode cX0_cellsOf 25 = .ok (.ifCond .eq 24, 3) := by decide +kernel
theorem dX0_cellsOf_28 : decode cX0_cellsOf 28 = .ok (.aload_n 0, 1) := by decide +kernel
theorem dX0_cellsOf_29 : decode cX0_cellsOf 29 = .ok (.iload_n 1, 1) := by decide +kernel
theorem dX0_cellsOf_30 : decode cX0_cellsOf 30 = .ok (.aload_n 0, 1) := by decide +kernel
theorem dX0_cellsOf_31 : decode cX0_cellsOf 31 = .ok (.iload 4, 2) := by decide +kernel
theorem dX0_cellsOf_33 : decode cX0_cellsOf 33 = .ok (.invokevirtual 63, 3) := by decide +kernel
theorem dX0_cellsOf_36 : decode cX0_cellsOf 36 = .ok (.invokevirtual 78, 3) := by decide +kernel
theorem dX0_cellsOf_39 : decode cX0_cellsOf 39 = .ok (.ifCond .eq 10, 3) := by decide +kernel
theorem dX0_cellsOf_42 : decode cX0_cellsOf 42 = .ok (.lload_n 2, 1) := by decide +kernel
theorem dX0_cellsOf_43 : decode cX0_cellsOf 43 = .ok (.lconst 1, 1) := by decide +kernel
theorem dX0_cellsOf_44 : decode cX0_cellsOf 44 = .ok (.iload 4, 2) := by decide +kernel
theorem dX0_cellsOf_46 : decode cX0_cellsOf 46 = .ok (.lshl, 1) := by decide +kernel
theorem dX0_cellsOf_47 : decode cX0_cellsOf 47 = .ok (.lor, 1) := by decide +kernel
theorem dX0_cellsOf_48 : decode cX0_cellsOf 48 = .ok (.lstore_n 2, 1) := by decide +kernel
theorem dX0_cellsOf_49 : decode cX0_cellsOf 49 = .ok (.iinc 4 1, 3) := by decide +kernel
theorem dX0_cellsOf_52 : decode cX0_cellsOf 52 = .ok (.goto (-47), 3) := by decide +kernel
theorem dX0_cellsOf_55 : decode cX0_cellsOf 55 = .ok (.lload_n 2, 1) := by decide +kernel
theorem dX0_cellsOf_56 : decode cX0_cellsOf 56 = .ok (.lreturn, 1) := by decide +kernel
theorem dX0_cross_0 : decode cX0_cross 0 = .ok (.aload_n 0, 1) := by decide +kernel
theorem dX0_cross_1 : decode cX0_cross 1 = .ok (.getfield 31, 3) := by decide +kernel
theorem dX0_cross_4 : decode cX0_cross 4 = .ok (.iload_n 1, 1) := by decide +kernel
theorem dX0_cross_5 : decode cX0_cross 5 = .ok (.iaload, 1) := by decide +kernel
theorem dX0_cross_6 : decode cX0_cross 6 = .ok (.ifCond .le 104, 3) := by decide +kernel
theorem dX0_cross_9 : decode cX0_cross 9 = .ok (.aload_n 0, 1) := by decide +kernel
theorem dX0_cross_10 : decode cX0_cross 10 = .ok (.getfield 31, 3) := by decide +kernel
theorem dX0_cross_13 : decode cX0_cross 13 = .ok (.iload_n 2, 1) := by decide +kernel
theorem dX0_cross_14 : decode cX0_cross 14 = .ok (.iaload, 1) := by decide +kernel
theorem dX0_cross_15 : decode cX0_cross 15 = .ok (.ifCond .le 95, 3) := by decide +kernel
theorem dX0_cross_18 : decode cX0_cross 18 = .ok (.aload_n 0, 1) := by decide +kernel
theorem dX0_cross_19 : decode cX0_cross 19 = .ok (.getfield 18, 3) := by decide +kernel
theorem dX0_cross_22 : decode cX0_cross 22 = .ok (.iload_n 1, 1) := by decide +kernel
theorem dX0_cross_23 : decode cX0_cross 23 = .ok (.iaload, 1) := by decide +kernel
theorem dX0_cross_24 : decode cX0_cross 24 = .ok (.aload_n 0, 1) := by decide +kernel
theorem dX0_cross_25 : decode cX0_cross 25 = .ok (.getfield 18, 3) := by decide +kernel
theorem dX0_cross_28 : decode cX0_cross 28 = .ok (.iload_n 2, 1) := by decide +kernel
theorem dX0_cross_29 : decode cX0_cross 29 = .ok (.iaload, 1) := by decide +kernel
theorem dX0_cross_30 : decode cX0_cross 30 = .ok (.aload_n 0, 1) := by decide +kernel
theorem dX0_cross_31 : decode cX0_cross 31 = .ok (.getfield 25, 3) := by decide +kernel
theorem dX0_cross_34 : decode cX0_cross 34 = .ok (.iload_n 2, 1) := by decide +kernel
theorem dX0_cross_35 : decode cX0_cross 35 = .ok (.iaload, 1) := by decide +kernel
theorem dX0_cross_36 : decode cX0_cross 36 = .ok (.iadd, 1) := by decide +kernel
theorem dX0_cross_37 : decode cX0_cross 37 = .ok (.if_icmp .ge 73, 3) := by decide +kernel
theorem dX0_cross_40 : decode cX0_cross 40 = .ok (.aload_n 0, 1) := by decide +kernel
theorem dX0_cross_41 : decode cX0_cross 41 = .ok (.getfield 18, 3) := by decide +kernel
theorem dX0_cross_44 : decode cX0_cross 44 = .ok (.iload_n 2, 1) := by decide +kernel
theorem dX0_cross_45 : decode cX0_cross 45 = .ok (.iaload, 1) := by decide +kernel
theorem dX0_cross_46 : decode cX0_cross 46 = .ok (.aload_n 0, 1) := by decide +kernel
theorem dX0_cross_47 : decode cX0_cross 47 = .ok (.getfield 18, 3) := by decide +kernel
theorem dX0_cross_50 : decode cX0_cross 50 = .ok (.iload_n 1, 1) := by decide +kernel
theorem dX0_cross_51 : decode cX0_cross 51 = .ok (.iaload, 1) := by decide +kernel
theorem dX0_cross_52 : decode cX0_cross 52 = .ok (.aload_n 0, 1) := by decide +kernel
theorem dX0_cross_53 : decode cX0_cross 53 = .ok (.getfield 25, 3) := by decide +kernel
theorem dX0_cross_56 : decode cX0_cross 56 = .ok (.iload_n 1, 1) := by decide +kernel
theorem dX0_cross_57 : decode cX0_cross 57 = .ok (.iaload, 1) := by decide +kernel
theorem dX0_cross_58 : decode cX0_cross 58 = .ok (.iadd, 1) := by decide +kernel
theorem dX0_cross_59 : decode cX0_cross 59 = .ok (.if_icmp .ge 51, 3) := by decide +kernel
theorem dX0_cross_62 : decode cX0_cross 62 = .ok (.aload_n 0, 1) := by decide +kernel
theorem dX0_cross_63 : decode cX0_cross 63 = .ok (.getfield 22, 3) := by decide +kernel
theorem dX0_cross_66 : decode cX0_cross 66 = .ok (.iload_n 1, 1) := by decide +kernel
theorem dX0_cross_67 : decode cX0_cross 67 = .ok (.iaload, 1) := by decide +kernel
theorem dX0_cross_68 : decode cX0_cross 68 = .ok (.aload_n 0, 1) := by decide +kernel
theorem dX0_cross_69 : decode cX0_cross 69 = .ok (.getfield 22, 3) := by decide +kernel
theorem dX0_cross_72 : decode cX0_cross 72 = .ok (.iload_n 2, 1) := by decide +kernel
theorem dX0_cross_73 : decode cX0_cross 73 = .ok (.iaload, 1) := by decide +kernel
theorem dX0_cross_74 : decode cX0_cross 74 = .ok (.aload_n 0, 1) := by decide +kernel
theorem dX0_cross_75 : decode cX0_cross 75 = .ok (.getfield 28, 3) := by decide +kernel
theorem dX0_cross_78 : decode cX0_cross 78 = .ok (.iload_n 2, 1) := by decide +kernel
theorem dX0_cross_79 : decode cX0_cross 79 = .ok (.iaload, 1) := by decide +kernel
theorem dX0_cross_80 : decode cX0_cross 80 = .ok (.iadd, 1) := by decide +kernel
theorem dX0_cross_81 : decode cX0_cross 81 = .ok (.if_icmp .ge 29, 3) := by decide +kernel
theorem dX0_cross_84 : decode cX0_cross 84 = .ok (.aload_n 0, 1) := by decide +kernel
theorem dX0_cross_85 : decode cX0_cross 85 = .ok (.getfield 22, 3) := by decide +kernel
theorem dX0_cross_88 : decode cX0_cross 88 = .ok (.iload_n 2, 1) := by decide +kernel
theorem dX0_cross_89 : decode cX0_cross 89 = .ok (.iaload, 1) := by decide +kernel
theorem dX0_cross_90 : decode cX0_cross 90 = .ok (.aload_n 0, 1) := by decide +kernel
theorem dX0_cross_91 : decode cX0_cross 91 = .ok (.getfield 22, 3) := by decide +kernel
theorem dX0_cross_94 : decode cX0_cross 94 = .ok (.iload_n 1, 1) := by decide +kernel
theorem dX0_cross_95 : decode cX0_cross 95 = .ok (.iaload, 1) := by decide +kernel
theorem dX0_cross_96 : decode cX0_cross 96 = .ok (.aload_n 0, 1) := by decide +kernel
theorem dX0_cross_97 : decode cX0_cross 97 = .ok (.getfield 28, 3) := by decide +kernel
theorem dX0_cross_100 : decode cX0_cross 100 = .ok (.iload_n 1, 1) := by decide +kernel
theorem dX0_cross_101 : decode cX0_cross 101 = .ok (.iaload, 1) := by decide +kernel
theorem dX0_cross_102 : decode cX0_cross 102 = .ok (.iadd, 1) := by decide +kernel
theorem dX0_cross_103 : decode cX0_cross 103 = .ok (.if_icmp .ge 7, 3) := by decide +kernel
theorem dX0_cross_106 : decode cX0_cross 106 = .ok (.iconst 1, 1) := by decide +kernel
theorem dX0_cross_107 : decode cX0_cross 107 = .ok (.goto 4, 3) := by decide +kernel
theorem dX0_cross_110 : decode cX0_cross 110 = .ok (.iconst 0, 1) := by decide +kernel
theorem dX0_cross_111 : decode cX0_cross 111 = .ok (.ireturn, 1) := by decide +kernel
theorem dX0_crossedBy_0 : decode cX0_crossedBy 0 = .ok (.aload_n 0, 1) := by decide +kernel
theorem dX0_crossedBy_1 : decode cX0_crossedBy 1 = .ok (.iload_n 1, 1) := by decide +kernel
theorem dX0_crossedBy_2 : decode cX0_crossedBy 2 = .ok (.invokevirtual 70, 3) := by decide +kernel
theorem dX0_crossedBy_5 : decode cX0_crossedBy 5 = .ok (.ifCond .ne 5, 3) := by decide +kernel
theorem dX0_crossedBy_8 : decode cX0_crossedBy 8 = .ok (.iconst 0, 1) := by decide +kernel
theorem dX0_crossedBy_9 : decode cX0_crossedBy 9 = .ok (.ireturn, 1) := by decide +kernel
theorem dX0_crossedBy_10 : decode cX0_crossedBy 10 = .ok (.iconst 0, 1) := by decide +kernel
theorem dX0_crossedBy_11 : decode cX0_crossedBy 11 = .ok (.istore_n 2, 1) := by decide +kernel
theorem dX0_crossedBy_12 : decode cX0_crossedBy 12 = .ok (.iconst 0, 1) := by decide +kernel
theorem dX0_crossedBy_13 : decode cX0_crossedBy 13 = .ok (.istore_n 3, 1) := by decide +kernel
theorem dX0_crossedBy_14 : decode cX0_crossedBy 14 = .ok (.iload_n 3, 1) := by decide +kernel
theorem dX0_crossedBy_15 : decode cX0_crossedBy 15 = .ok (.aload_n 0, 1) := by decide +kernel
theorem dX0_crossedBy_16 : decode cX0_crossedBy 16 = .ok (.getfield 40, 3) := by decide +kernel
theorem dX0_crossedBy_19 : decode cX0_crossedBy 19 = .ok (.if_icmp .ge 29, 3) := by decide +kernel
theorem dX0_crossedBy_22 : decode cX0_crossedBy 22 = .ok (.iload_n 3, 1) := by decide +kernel
theorem dX0_crossedBy_23 : decode cX0_crossedBy 23 = .ok (.iload_n 1, 1) := by decide +kernel
theorem dX0_crossedBy_24 : decode cX0_crossedBy 24 = .ok (.if_icmp .eq 18, 3) := by decide +kernel
theorem dX0_crossedBy_27 : decode cX0_crossedBy 27 = .ok (.aload_n 0, 1) := by decide +kernel
theorem dX0_crossedBy_28 : decode cX0_crossedBy 28 = .ok (.iload_n 1, 1) := by decide +kernel
theorem dX0_crossedBy_29 : decode cX0_crossedBy 29 = .ok (.iload_n 3, 1) := by decide +kernel
theorem dX0_crossedBy_30 : decode cX0_crossedBy 30 = .ok (.invokevirtual 81, 3) := by decide +kernel
theorem dX0_crossedBy_33 : decode cX0_crossedBy 33 = .ok (.ifCond .eq 9, 3) := by decide +kernel
theorem dX0_crossedBy_36 : decode cX0_crossedBy 36 = .ok (.iload_n 2, 1) := by decide +kernel
theorem dX0_crossedBy_37 : decode cX0_crossedBy 37 = .ok (.iconst 1, 1) := by decide +kernel
theorem dX0_crossedBy_38 : decode cX0_crossedBy 38 = .ok (.iload_n 3, 1) := by decide +kernel
theorem dX0_crossedBy_39 : decode cX0_crossedBy 39 = .ok (.ishl, 1) := by decide +kernel
theorem dX0_crossedBy_40 : decode cX0_crossedBy 40 = .ok (.ior, 1) := by decide +kernel
theorem dX0_crossedBy_41 : decode cX0_crossedBy 41 = .ok (.istore_n 2, 1) := by decide +kernel
theorem dX0_crossedBy_42 : decode cX0_crossedBy 42 = .ok (.iinc 3 1, 3) := by decide +kernel
theorem dX0_crossedBy_45 : decode cX0_crossedBy 45 = .ok (.goto (-31), 3) := by decide +kernel
theorem dX0_crossedBy_48 : decode cX0_crossedBy 48 = .ok (.iload_n 2, 1) := by decide +kernel
theorem dX0_crossedBy_49 : decode cX0_crossedBy 49 = .ok (.ireturn, 1) := by decide +kernel
theorem dX0_hangTogether_0 : decode cX0_hangTogether 0 = .ok (.iconst 1, 1) := by decide +kernel
theorem dX0_hangTogether_1 : decode cX0_hangTogether 1 = .ok (.iload_n 1, 1) := by decide +kernel
theorem dX0_hangTogether_2 : decode cX0_hangTogether 2 = .ok (.ishl, 1) := by decide +kernel
theorem dX0_hangTogether_3 : decode cX0_hangTogether 3 = .ok (.istore_n 2, 1) := by decide +kernel
theorem dX0_hangTogether_4 : decode cX0_hangTogether 4 = .ok (.iconst 0, 1) := by decide +kernel
theorem dX0_hangTogether_5 : decode cX0_hangTogether 5 = .ok (.istore_n 3, 1) := by decide +kernel
theorem dX0_hangTogether_6 : decode cX0_hangTogether 6 = .ok (.iload_n 3, 1) := by decide +kernel
theorem dX0_hangTogether_7 : decode cX0_hangTogether 7 = .ok (.aload_n 0, 1) := by decide +kernel
theorem dX0_hangTogether_8 : decode cX0_hangTogether 8 = .ok (.getfield 40, 3) := by decide +kernel
theorem dX0_hangTogether_11 : decode cX0_hangTogether 11 = .ok (.if_icmp .ge 45, 3) := by decide +kernel
theorem dX0_hangTogether_14 : decode cX0_hangTogether 14 = .ok (.iconst 0, 1) := by decide +kernel
theorem dX0_hangTogether_15 : decode cX0_hangTogether 15 = .ok (.istore 4, 2) := by decide +kernel
theorem dX0_hangTogether_17 : decode cX0_hangTogether 17 = .ok (.iload 4, 2) := by decide +kernel
theorem dX0_hangTogether_19 : decode cX0_hangTogether 19 = .ok (.aload_n 0, 1) := by decide +kernel
theorem dX0_hangTogether_20 : decode cX0_hangTogether 20 = .ok (.getfield 40, 3) := by decide +kernel
theorem dX0_hangTogether_23 : decode cX0_hangTogether 23 = .ok (.if_icmp .ge 27, 3) := by decide +kernel
theorem dX0_hangTogether_26 : decode cX0_hangTogether 26 = .ok (.iload_n 2, 1) := by decide +kernel
theorem dX0_hangTogether_27 : decode cX0_hangTogether 27 = .ok (.iload 4, 2) := by decide +kernel
theorem dX0_hangTogether_29 : decode cX0_hangTogether 29 = .ok (.invokestatic 84, 3) := by decide +kernel
theorem dX0_hangTogether_32 : decode cX0_hangTogether 32 = .ok (.ifCond .eq 12, 3) := by decide +kernel
theorem dX0_hangTogether_35 : decode cX0_hangTogether 35 = .ok (.iload_n 2, 1) := by decide +kernel
theorem dX0_hangTogether_36 : decode cX0_hangTogether 36 = .ok (.aload_n 0, 1) := by decide +kernel
theorem dX0_hangTogether_37 : decode cX0_hangTogether 37 = .ok (.iload 4, 2) := by decide +kernel
theorem dX0_hangTogether_39 : decode cX0_hangTogether 39 = .ok (.invokevirtual 87, 3) := by decide +kernel
theorem dX0_hangTogether_42 : decode cX0_hangTogether 42 = .ok (.ior, 1) := by decide +kernel
theorem dX0_hangTogether_43 : decode cX0_hangTogether 43 = .ok (.istore_n 2, 1) := by decide +kernel
theorem dX0_hangTogether_44 : decode cX0_hangTogether 44 = .ok (.iinc 4 1, 3) := by decide +kernel
theorem dX0_hangTogether_47 : decode cX0_hangTogether 47 = .ok (.goto (-30), 3) := by decide +kernel
theorem dX0_hangTogether_50 : decode cX0_hangTogether 50 = .ok (.iinc 3 1, 3) := by decide +kernel
theorem dX0_hangTogether_53 : decode cX0_hangTogether 53 = .ok (.goto (-47), 3) := by decide +kernel
theorem dX0_hangTogether_56 : decode cX0_hangTogether 56 = .ok (.iload_n 2, 1) := by decide +kernel
theorem dX0_hangTogether_57 : decode cX0_hangTogether 57 = .ok (.ireturn, 1) := by decide +kernel
theorem dX0_onBits_0 : decode cX0_onBits 0 = .ok (.iconst 0, 1) := by decide +kernel
theorem dX0_onBits_1 : decode cX0_onBits 1 = .ok (.istore_n 1, 1) := by decide +kernel
theorem dX0_onBits_2 : decode cX0_onBits 2 = .ok (.iconst 0, 1) := by decide +kernel
theorem dX0_onBits_3 : decode cX0_onBits 3 = .ok (.istore_n 2, 1) := by decide +kernel
theorem dX0_onBits_4 : decode cX0_onBits 4 = .ok (.iload_n 2, 1) := by decide +kernel
theorem dX0_onBits_5 : decode cX0_onBits 5 = .ok (.aload_n 0, 1) := by decide +kernel
theorem dX0_onBits_6 : decode cX0_onBits 6 = .ok (.getfield 40, 3) := by decide +kernel
theorem dX0_onBits_9 : decode cX0_onBits 9 = .ok (.if_icmp .ge 24, 3) := by decide +kernel
theorem dX0_onBits_12 : decode cX0_onBits 12 = .ok (.aload_n 0, 1) := by decide +kernel
theorem dX0_onBits_13 : decode cX0_onBits 13 = .ok (.getfield 31, 3) := by decide +kernel
theorem dX0_onBits_16 : decode cX0_onBits 16 = .ok (.iload_n 2, 1) := by decide +kernel
theorem dX0_onBits_17 : decode cX0_onBits 17 = .ok (.iaload, 1) := by decide +kernel
theorem dX0_onBits_18 : decode cX0_onBits 18 = .ok (.ifCond .le 9, 3) := by decide +kernel
theorem dX0_onBits_21 : decode cX0_onBits 21 = .ok (.iload_n 1, 1) := by decide +kernel
theorem dX0_onBits_22 : decode cX0_onBits 22 = .ok (.iconst 1, 1) := by decide +kernel
theorem dX0_onBits_23 : decode cX0_onBits 23 = .ok (.iload_n 2, 1) := by decide +kernel
theorem dX0_onBits_24 : decode cX0_onBits 24 = .ok (.ishl, 1) := by decide +kernel
theorem dX0_onBits_25 : decode cX0_onBits 25 = .ok (.ior, 1) := by decide +kernel
theorem dX0_onBits_26 : decode cX0_onBits 26 = .ok (.istore_n 1, 1) := by decide +kernel
theorem dX0_onBits_27 : decode cX0_onBits 27 = .ok (.iinc 2 1, 3) := by decide +kernel
theorem dX0_onBits_30 : decode cX0_onBits 30 = .ok (.goto (-26), 3) := by decide +kernel
theorem dX0_onBits_33 : decode cX0_onBits 33 = .ok (.iload_n 1, 1) := by decide +kernel
theorem dX0_onBits_34 : decode cX0_onBits 34 = .ok (.ireturn, 1) := by decide +kernel
theorem dX0_onCount_0 : decode cX0_onCount 0 = .ok (.aload_n 0, 1) := by decide +kernel
theorem dX0_onCount_1 : decode cX0_onCount 1 = .ok (.invokevirtual 90, 3) := by decide +kernel
theorem dX0_onCount_4 : decode cX0_onCount 4 = .ok (.invokestatic 93, 3) := by decide +kernel
theorem dX0_onCount_7 : decode cX0_onCount 7 = .ok (.ireturn, 1) := by decide +kernel
theorem dX0_strengthOfAll_0 : decode cX0_strengthOfAll 0 = .ok (.iconst 0, 1) := by decide +kernel
theorem dX0_strengthOfAll_1 : decode cX0_strengthOfAll 1 = .ok (.istore_n 1, 1) := by decide +kernel
theorem dX0_strengthOfAll_2 : decode cX0_strengthOfAll 2 = .ok (.iconst 0, 1) := by decide +kernel
theorem dX0_strengthOfAll_3 : decode cX0_strengthOfAll 3 = .ok (.istore_n 2, 1) := by decide +kernel
theorem dX0_strengthOfAll_4 : decode cX0_strengthOfAll 4 = .ok (.iload_n 2, 1) := by decide +kernel
theorem dX0_strengthOfAll_5 : decode cX0_strengthOfAll 5 = .ok (.aload_n 0, 1) := by decide +kernel
theorem dX0_strengthOfAll_6 : decode cX0_strengthOfAll 6 = .ok (.getfield 40, 3) := by decide +kernel
theorem dX0_strengthOfAll_9 : decode cX0_strengthOfAll 9 = .ok (.if_icmp .ge 18, 3) := by decide +kernel
theorem dX0_strengthOfAll_12 : decode cX0_strengthOfAll 12 = .ok (.iload_n 1, 1) := by decide +kernel
theorem dX0_strengthOfAll_13 : decode cX0_strengthOfAll 13 = .ok (.aload_n 0, 1) := by decide +kernel
theorem dX0_strengthOfAll_14 : decode cX0_strengthOfAll 14 = .ok (.getfield 31, 3) := by decide +kernel
theorem dX0_strengthOfAll_17 : decode cX0_strengthOfAll 17 = .ok (.iload_n 2, 1) := by decide +kernel
theorem dX0_strengthOfAll_18 : decode cX0_strengthOfAll 18 = .ok (.iaload, 1) := by decide +kernel
theorem dX0_strengthOfAll_19 : decode cX0_strengthOfAll 19 = .ok (.iadd, 1) := by decide +kernel
theorem dX0_strengthOfAll_20 : decode cX0_strengthOfAll 20 = .ok (.istore_n 1, 1) := by decide +kernel
theorem dX0_strengthOfAll_21 : decode cX0_strengthOfAll 21 = .ok (.iinc 2 1, 3) := by decide +kernel
theorem dX0_strengthOfAll_24 : decode cX0_strengthOfAll 24 = .ok (.goto (-20), 3) := by decide +kernel
theorem dX0_strengthOfAll_27 : decode cX0_strengthOfAll 27 = .ok (.iload_n 1, 1) := by decide +kernel
theorem dX0_strengthOfAll_28 : decode cX0_strengthOfAll 28 = .ok (.ireturn, 1) := by decide +kernel
theorem dX0_onOver_0 : decode cX0_onOver 0 = .ok (.aload_n 0, 1) := by decide +kernel
theorem dX0_onOver_1 : decode cX0_onOver 1 = .ok (.iload_n 1, 1) := by decide +kernel
theorem dX0_onOver_2 : decode cX0_onOver 2 = .ok (.iconst 1, 1) := by decide +kernel
theorem dX0_onOver_3 : decode cX0_onOver 3 = .ok (.iconst 1, 1) := by decide +kernel
theorem dX0_onOver_4 : decode cX0_onOver 4 = .ok (.invokevirtual 98, 3) := by decide +kernel
theorem dX0_onOver_7 : decode cX0_onOver 7 = .ok (.ireturn, 1) := by decide +kernel
theorem dX0_strengthOver_0 : decode cX0_strengthOver 0 = .ok (.aload_n 0, 1) := by decide +kernel
theorem dX0_strengthOver_1 : decode cX0_strengthOver 1 = .ok (.iload_n 1, 1) := by decide +kernel
theorem dX0_strengthOver_2 : decode cX0_strengthOver 2 = .ok (.iconst 1, 1) := by decide +kernel
theorem dX0_strengthOver_3 : decode cX0_strengthOver 3 = .ok (.iconst 1, 1) := by decide +kernel
theorem dX0_strengthOver_4 : decode cX0_strengthOver 4 = .ok (.invokevirtual 102, 3) := by decide +kernel
theorem dX0_strengthOver_7 : decode cX0_strengthOver 7 = .ok (.ireturn, 1) := by decide +kernel
theorem dX0_strongestOver_0 : decode cX0_strongestOver 0 = .ok (.aload_n 0, 1) := by decide +kernel
theorem dX0_strongestOver_1 : decode cX0_strongestOver 1 = .ok (.iload_n 1, 1) := by decide +kernel
theorem dX0_strongestOver_2 : decode cX0_strongestOver 2 = .ok (.invokevirtual 105, 3) := by decide +kernel
theorem dX0_strongestOver_5 : decode cX0_strongestOver 5 = .ok (.istore_n 2, 1) := by decide +kernel
theorem dX0_strongestOver_6 : decode cX0_strongestOver 6 = .ok (.iconst (-1), 1) := by decide +kernel
theorem dX0_strongestOver_7 : decode cX0_strongestOver 7 = .ok (.istore_n 3, 1) := by decide +kernel
theorem dX0_strongestOver_8 : decode cX0_strongestOver 8 = .ok (.iconst 0, 1) := by decide +kernel
theorem dX0_strongestOver_9 : decode cX0_strongestOver 9 = .ok (.istore 4, 2) := by decide +kernel
theorem dX0_strongestOver_11 : decode cX0_strongestOver 11 = .ok (.iload 4, 2) := by decide +kernel
theorem dX0_strongestOver_13 : decode cX0_strongestOver 13 = .ok (.aload_n 0, 1) := by decide +kernel
theorem dX0_strongestOver_14 : decode cX0_strongestOver 14 = .ok (.getfield 40, 3) := by decide +kernel
theorem dX0_strongestOver_17 : decode cX0_strongestOver 17 = .ok (.if_icmp .ge 42, 3) := by decide +kernel
theorem dX0_strongestOver_20 : decode cX0_strongestOver 20 = .ok (.iload_n 2, 1) := by decide +kernel
theorem dX0_strongestOver_21 : decode cX0_strongestOver 21 = .ok (.iload 4, 2) := by decide +kernel
theorem dX0_strongestOver_23 : decode cX0_strongestOver 23 = .ok (.invokestatic 84, 3) := by decide +kernel
theorem dX0_strongestOver_26 : decode cX0_strongestOver 26 = .ok (.ifCond .eq 27, 3) := by decide +kernel
theorem dX0_strongestOver_29 : decode cX0_strongestOver 29 = .ok (.iload_n 3, 1) := by decide +kernel
theorem dX0_strongestOver_30 : decode cX0_strongestOver 30 = .ok (.iconst (-1), 1) := by decide +kernel
theorem dX0_strongestOver_31 : decode cX0_strongestOver 31 = .ok (.if_icmp .eq 19, 3) := by decide +kernel
theorem dX0_strongestOver_34 : decode cX0_strongestOver 34 = .ok (.aload_n 0, 1) := by decide +kernel
theorem dX0_strongestOver_35 : decode cX0_strongestOver 35 = .ok (.getfield 31, 3) := by decide +kernel
theorem dX0_strongestOver_38 : decode cX0_strongestOver 38 = .ok (.iload 4, 2) := by decide +kernel
theorem dX0_strongestOver_40 : decode cX0_strongestOver 40 = .ok (.iaload, 1) := by decide +kernel
theorem dX0_strongestOver_41 : decode cX0_strongestOver 41 = .ok (.aload_n 0, 1) := by decide +kernel
theorem dX0_strongestOver_42 : decode cX0_strongestOver 42 = .ok (.getfield 31, 3) := by decide +kernel
theorem dX0_strongestOver_45 : decode cX0_strongestOver 45 = .ok (.iload_n 3, 1) := by decide +kernel
theorem dX0_strongestOver_46 : decode cX0_strongestOver 46 = .ok (.iaload, 1) := by decide +kernel
theorem dX0_strongestOver_47 : decode cX0_strongestOver 47 = .ok (.if_icmp .le 6, 3) := by decide +kernel
theorem dX0_strongestOver_50 : decode cX0_strongestOver 50 = .ok (.iload 4, 2) := by decide +kernel
theorem dX0_strongestOver_52 : decode cX0_strongestOver 52 = .ok (.istore_n 3, 1) := by decide +kernel
theorem dX0_strongestOver_53 : decode cX0_strongestOver 53 = .ok (.iinc 4 1, 3) := by decide +kernel
theorem dX0_strongestOver_56 : decode cX0_strongestOver 56 = .ok (.goto (-45), 3) := by decide +kernel
theorem dX0_strongestOver_59 : decode cX0_strongestOver 59 = .ok (.iload_n 3, 1) := by decide +kernel
theorem dX0_strongestOver_60 : decode cX0_strongestOver 60 = .ok (.ireturn, 1) := by decide +kernel
theorem dX0_sleptCells_0 : decode cX0_sleptCells 0 = .ok (.lconst 0, 1) := by decide +kernel
theorem dX0_sleptCells_1 : decode cX0_sleptCells 1 = .ok (.lstore_n 1, 1) := by decide +kernel
theorem dX0_sleptCells_2 : decode cX0_sleptCells 2 = .ok (.iconst 0, 1) := by decide +kernel
theorem dX0_sleptCells_3 : decode cX0_sleptCells 3 = .ok (.istore_n 3, 1) := by decide +kernel
theorem dX0_sleptCells_4 : decode cX0_sleptCells 4 = .ok (.iload_n 3, 1) := by decide +kernel
theorem dX0_sleptCells_5 : decode cX0_sleptCells 5 = .ok (.aload_n 0, 1) := by decide +kernel
theorem dX0_sleptCells_6 : decode cX0_sleptCells 6 = .ok (.invokevirtual 55, 3) := by decide +kernel
theorem dX0_sleptCells_9 : decode cX0_sleptCells 9 = .ok (.if_icmp .ge 23, 3) := by decide +kernel
theorem dX0_sleptCells_12 : decode cX0_sleptCells 12 = .ok (.aload_n 0, 1) := by decide +kernel
theorem dX0_sleptCells_13 : decode cX0_sleptCells 13 = .ok (.iload_n 3, 1) := by decide +kernel
theorem dX0_sleptCells_14 : decode cX0_sleptCells 14 = .ok (.invokevirtual 105, 3) := by decide +kernel
theorem dX0_sleptCells_17 : decode cX0_sleptCells 17 = .ok (.ifCond .eq 9, 3) := by decide +kernel
theorem dX0_sleptCells_20 : decode cX0_sleptCells 20 = .ok (.lload_n 1, 1) := by decide +kernel
theorem dX0_sleptCells_21 : decode cX0_sleptCells 21 = .ok (.lconst 1, 1) := by decide +kernel
theorem dX0_sleptCells_22 : decode cX0_sleptCells 22 = .ok (.iload_n 3, 1) := by decide +kernel
theorem dX0_sleptCells_23 : decode cX0_sleptCells 23 = .ok (.lshl, 1) := by decide +kernel
theorem dX0_sleptCells_24 : decode cX0_sleptCells 24 = .ok (.lor, 1) := by decide +kernel
theorem dX0_sleptCells_25 : decode cX0_sleptCells 25 = .ok (.lstore_n 1, 1) := by decide +kernel
theorem dX0_sleptCells_26 : decode cX0_sleptCells 26 = .ok (.iinc 3 1, 3) := by decide +kernel
theorem dX0_sleptCells_29 : decode cX0_sleptCells 29 = .ok (.goto (-25), 3) := by decide +kernel
theorem dX0_sleptCells_32 : decode cX0_sleptCells 32 = .ok (.lload_n 1, 1) := by decide +kernel
theorem dX0_sleptCells_33 : decode cX0_sleptCells 33 = .ok (.lreturn, 1) := by decide +kernel
theorem dX0_seenFrom_0 : decode cX0_seenFrom 0 = .ok (.iconst 0, 1) := by decide +kernel
theorem dX0_seenFrom_1 : decode cX0_seenFrom 1 = .ok (.istore_n 2, 1) := by decide +kernel
theorem dX0_seenFrom_2 : decode cX0_seenFrom 2 = .ok (.iconst 0, 1) := by decide +kernel
theorem dX0_seenFrom_3 : decode cX0_seenFrom 3 = .ok (.istore_n 3, 1) := by decide +kernel
theorem dX0_seenFrom_4 : decode cX0_seenFrom 4 = .ok (.iload_n 3, 1) := by decide +kernel
theorem dX0_seenFrom_5 : decode cX0_seenFrom 5 = .ok (.aload_n 0, 1) := by decide +kernel
theorem dX0_seenFrom_6 : decode cX0_seenFrom 6 = .ok (.getfield 40, 3) := by decide +kernel
theorem dX0_seenFrom_9 : decode cX0_seenFrom 9 = .ok (.if_icmp .ge 41, 3) := by decide +kernel
theorem dX0_seenFrom_12 : decode cX0_seenFrom 12 = .ok (.aload_n 0, 1) := by decide +kernel
theorem dX0_seenFrom_13 : decode cX0_seenFrom 13 = .ok (.iload_n 3, 1) := by decide +kernel
theorem dX0_seenFrom_14 : decode cX0_seenFrom 14 = .ok (.invokevirtual 108, 3) := by decide +kernel
theorem dX0_seenFrom_17 : decode cX0_seenFrom 17 = .ok (.ifCond .eq 27, 3) := by decide +kernel
theorem dX0_seenFrom_20 : decode cX0_seenFrom 20 = .ok (.aload_n 0, 1) := by decide +kernel
theorem dX0_seenFrom_21 : decode cX0_seenFrom 21 = .ok (.iload_n 3, 1) := by decide +kernel
theorem dX0_seenFrom_22 : decode cX0_seenFrom 22 = .ok (.iload_n 1, 1) := by decide +kernel
theorem dX0_seenFrom_23 : decode cX0_seenFrom 23 = .ok (.invokevirtual 74, 3) := by decide +kernel
theorem dX0_seenFrom_26 : decode cX0_seenFrom 26 = .ok (.ifCond .eq 18, 3) := by decide +kernel
theorem dX0_seenFrom_29 : decode cX0_seenFrom 29 = .ok (.aload_n 0, 1) := by decide +kernel
theorem dX0_seenFrom_30 : decode cX0_seenFrom 30 = .ok (.iload_n 3, 1) := by decide +kernel
theorem dX0_seenFrom_31 : decode cX0_seenFrom 31 = .ok (.iload_n 1, 1) := by decide +kernel
theorem dX0_seenFrom_32 : decode cX0_seenFrom 32 = .ok (.invokevirtual 111, 3) := by decide +kernel
theorem dX0_seenFrom_35 : decode cX0_seenFrom 35 = .ok (.ifCond .ne 9, 3) := by decide +kernel
theorem dX0_seenFrom_38 : decode cX0_seenFrom 38 = .ok (.iload_n 2, 1) := by decide +kernel
theorem dX0_seenFrom_39 : decode cX0_seenFrom 39 = .ok (.iconst 1, 1) := by decide +kernel
theorem dX0_seenFrom_40 : decode cX0_seenFrom 40 = .ok (.iload_n 3, 1) := by decide +kernel
theorem dX0_seenFrom_41 : decode cX0_seenFrom 41 = .ok (.ishl, 1) := by decide +kernel
theorem dX0_seenFrom_42 : decode cX0_seenFrom 42 = .ok (.ior, 1) := by decide +kernel
theorem dX0_seenFrom_43 : decode cX0_seenFrom 43 = .ok (.istore_n 2, 1) := by decide +kernel
theorem dX0_seenFrom_44 : decode cX0_seenFrom 44 = .ok (.iinc 3 1, 3) := by decide +kernel
theorem dX0_seenFrom_47 : decode cX0_seenFrom 47 = .ok (.goto (-43), 3) := by decide +kernel
theorem dX0_seenFrom_50 : decode cX0_seenFrom 50 = .ok (.iload_n 2, 1) := by decide +kernel
theorem dX0_seenFrom_51 : decode cX0_seenFrom 51 = .ok (.ireturn, 1) := by decide +kernel
theorem dX0_isHidden_0 : decode cX0_isHidden 0 = .ok (.iconst 0, 1) := by decide +kernel
theorem dX0_isHidden_1 : decode cX0_isHidden 1 = .ok (.istore_n 3, 1) := by decide +kernel
theorem dX0_isHidden_2 : decode cX0_isHidden 2 = .ok (.iload_n 3, 1) := by decide +kernel
theorem dX0_isHidden_3 : decode cX0_isHidden 3 = .ok (.aload_n 0, 1) := by decide +kernel
theorem dX0_isHidden_4 : decode cX0_isHidden 4 = .ok (.getfield 40, 3) := by decide +kernel
theorem dX0_isHidden_7 : decode cX0_isHidden 7 = .ok (.if_icmp .ge 50, 3) := by decide +kernel
theorem dX0_isHidden_10 : decode cX0_isHidden 10 = .ok (.aload_n 0, 1) := by decide +kernel
theorem dX0_isHidden_11 : decode cX0_isHidden 11 = .ok (.iload_n 3, 1) := by decide +kernel
theorem dX0_isHidden_12 : decode cX0_isHidden 12 = .ok (.iload_n 2, 1) := by decide +kernel
theorem dX0_isHidden_13 : decode cX0_isHidden 13 = .ok (.invokevirtual 74, 3) := by decide +kernel
theorem dX0_isHidden_16 : decode cX0_isHidden 16 = .ok (.ifCond .eq 35, 3) := by decide +kernel
theorem dX0_isHidden_19 : decode cX0_isHidden 19 = .ok (.aload_n 0, 1) := by decide +kernel
theorem dX0_isHidden_20 : decode cX0_isHidden 20 = .ok (.getfield 22, 3) := by decide +kernel
theorem dX0_isHidden_23 : decode cX0_isHidden 23 = .ok (.iload_n 3, 1) := by decide +kernel
theorem dX0_isHidden_24 : decode cX0_isHidden 24 = .ok (.iaload, 1) := by decide +kernel
theorem dX0_isHidden_25 : decode cX0_isHidden 25 = .ok (.aload_n 0, 1) := by decide +kernel
theorem dX0_isHidden_26 : decode cX0_isHidden 26 = .ok (.getfield 22, 3) := by decide +kernel
theorem dX0_isHidden_29 : decode cX0_isHidden 29 = .ok (.iload_n 1, 1) := by decide +kernel
theorem dX0_isHidden_30 : decode cX0_isHidden 30 = .ok (.iaload, 1) := by decide +kernel
theorem dX0_isHidden_31 : decode cX0_isHidden 31 = .ok (.if_icmp .ge 20, 3) := by decide +kernel
theorem dX0_isHidden_34 : decode cX0_isHidden 34 = .ok (.aload_n 0, 1) := by decide +kernel
theorem dX0_isHidden_35 : decode cX0_isHidden 35 = .ok (.getfield 31, 3) := by decide +kernel
theorem dX0_isHidden_38 : decode cX0_isHidden 38 = .ok (.iload_n 3, 1) := by decide +kernel
theorem dX0_isHidden_39 : decode cX0_isHidden 39 = .ok (.iaload, 1) := by decide +kernel
theorem dX0_isHidden_40 : decode cX0_isHidden 40 = .ok (.aload_n 0, 1) := by decide +kernel
theorem dX0_isHidden_41 : decode cX0_isHidden 41 = .ok (.getfield 31, 3) := by decide +kernel
theorem dX0_isHidden_44 : decode cX0_isHidden 44 = .ok (.iload_n 1, 1) := by decide +kernel
theorem dX0_isHidden_45 : decode cX0_isHidden 45 = .ok (.iaload, 1) := by decide +kernel
theorem dX0_isHidden_46 : decode cX0_isHidden 46 = .ok (.if_icmp .le 5, 3) := by decide +kernel
theorem dX0_isHidden_49 : decode cX0_isHidden 49 = .ok (.iconst 1, 1) := by decide +kernel
theorem dX0_isHidden_50 : decode cX0_isHidden 50 = .ok (.ireturn, 1) := by decide +kernel
theorem dX0_isHidden_51 : decode cX0_isHidden 51 = .ok (.iinc 3 1, 3) := by decide +kernel
theorem dX0_isHidden_54 : decode cX0_isHidden 54 = .ok (.goto (-52), 3) := by decide +kernel
theorem dX0_isHidden_57 : decode cX0_isHidden 57 = .ok (.iconst 0, 1) := by decide +kernel
theorem dX0_isHidden_58 : decode cX0_isHidden 58 = .ok (.ireturn, 1) := by decide +kernel
theorem dX0_seenFromRows_0 : decode cX0_seenFromRows 0 = .ok (.iconst 0, 1) := by decide +kernel
theorem dX0_seenFromRows_1 : decode cX0_seenFromRows 1 = .ok (.istore_n 2, 1) := by decide +kernel
theorem dX0_seenFromRows_2 : decode cX0_seenFromRows 2 = .ok (.iconst 0, 1) := by decide +kernel
theorem dX0_seenFromRows_3 : decode cX0_seenFromRows 3 = .ok (.istore_n 3, 1) := by decide +kernel
theorem dX0_seenFromRows_4 : decode cX0_seenFromRows 4 = .ok (.iload_n 3, 1) := by decide +kernel
theorem dX0_seenFromRows_5 : decode cX0_seenFromRows 5 = .ok (.aload_n 0, 1) := by decide +kernel
theorem dX0_seenFromRows_6 : decode cX0_seenFromRows 6 = .ok (.getfield 9, 3) := by decide +kernel
theorem dX0_seenFromRows_9 : decode cX0_seenFromRows 9 = .ok (.if_icmp .ge 25, 3) := by decide +kernel
theorem dX0_seenFromRows_12 : decode cX0_seenFromRows 12 = .ok (.iload_n 1, 1) := by decide +kernel
theorem dX0_seenFromRows_13 : decode cX0_seenFromRows 13 = .ok (.iload_n 3, 1) := by decide +kernel
theorem dX0_seenFromRows_14 : decode cX0_seenFromRows 14 = .ok (.invokestatic 84, 3) := by decide +kernel
theorem dX0_seenFromRows_17 : decode cX0_seenFromRows 17 = .ok (.ifCond .eq 11, 3) := by decide +kernel
theorem dX0_seenFromRows_20 : decode cX0_seenFromRows 20 = .ok (.iload_n 2, 1) := by decide +kernel
theorem dX0_seenFromRows_21 : decode cX0_seenFromRows 21 = .ok (.aload_n 0, 1) := by decide +kernel
theorem dX0_seenFromRows_22 : decode cX0_seenFromRows 22 = .ok (.iload_n 3, 1) := by decide +kernel
theorem dX0_seenFromRows_23 : decode cX0_seenFromRows 23 = .ok (.invokevirtual 114, 3) := by decide +kernel
theorem dX0_seenFromRows_26 : decode cX0_seenFromRows 26 = .ok (.ior, 1) := by decide +kernel
theorem dX0_seenFromRows_27 : decode cX0_seenFromRows 27 = .ok (.istore_n 2, 1) := by decide +kernel
theorem dX0_seenFromRows_28 : decode cX0_seenFromRows 28 = .ok (.iinc 3 1, 3) := by decide +kernel
theorem dX0_seenFromRows_31 : decode cX0_seenFromRows 31 = .ok (.goto (-27), 3) := by decide +kernel
theorem dX0_seenFromRows_34 : decode cX0_seenFromRows 34 = .ok (.iload_n 2, 1) := by decide +kernel
theorem dX0_seenFromRows_35 : decode cX0_seenFromRows 35 = .ok (.ireturn, 1) := by decide +kernel
theorem dX0_holds_0 : decode cX0_holds 0 = .ok (.aload_n 0, 1) := by decide +kernel
theorem dX0_holds_1 : decode cX0_holds 1 = .ok (.iload_n 1, 1) := by decide +kernel
theorem dX0_holds_2 : decode cX0_holds 2 = .ok (.invokevirtual 117, 3) := by decide +kernel
theorem dX0_holds_5 : decode cX0_holds 5 = .ok (.ifCond .eq 35, 3) := by decide +kernel
theorem dX0_holds_8 : decode cX0_holds 8 = .ok (.aload_n 0, 1) := by decide +kernel
theorem dX0_holds_9 : decode cX0_holds 9 = .ok (.iload_n 1, 1) := by decide +kernel
theorem dX0_holds_10 : decode cX0_holds 10 = .ok (.invokevirtual 59, 3) := by decide +kernel
theorem dX0_holds_13 : decode cX0_holds 13 = .ok (.iload_n 2, 1) := by decide +kernel
theorem dX0_holds_14 : decode cX0_holds 14 = .ok (.iadd, 1) := by decide +kernel
theorem dX0_holds_15 : decode cX0_holds 15 = .ok (.aload_n 0, 1) := by decide +kernel
theorem dX0_holds_16 : decode cX0_holds 16 = .ok (.getfield 9, 3) := by decide +kernel
theorem dX0_holds_19 : decode cX0_holds 19 = .ok (.if_icmp .gt 21, 3) := by decide +kernel
theorem dX0_holds_22 : decode cX0_holds 22 = .ok (.aload_n 0, 1) := by decide +kernel
theorem dX0_holds_23 : decode cX0_holds 23 = .ok (.iload_n 1, 1) := by decide +kernel
theorem dX0_holds_24 : decode cX0_holds 24 = .ok (.invokevirtual 63, 3) := by decide +kernel
theorem dX0_holds_27 : decode cX0_holds 27 = .ok (.iload_n 3, 1) := by decide +kernel
theorem dX0_holds_28 : decode cX0_holds 28 = .ok (.iadd, 1) := by decide +kernel
theorem dX0_holds_29 : decode cX0_holds 29 = .ok (.aload_n 0, 1) := by decide +kernel
theorem dX0_holds_30 : decode cX0_holds 30 = .ok (.getfield 15, 3) := by decide +kernel
theorem dX0_holds_33 : decode cX0_holds 33 = .ok (.if_icmp .gt 7, 3) := by decide +kernel
theorem dX0_holds_36 : decode cX0_holds 36 = .ok (.iconst 1, 1) := by decide +kernel
theorem dX0_holds_37 : decode cX0_holds 37 = .ok (.goto 4, 3) := by decide +kernel
theorem dX0_holds_40 : decode cX0_holds 40 = .ok (.iconst 0, 1) := by decide +kernel
theorem dX0_holds_41 : decode cX0_holds 41 = .ok (.ireturn, 1) := by decide +kernel
theorem dX0_common_0 : decode cX0_common 0 = .ok (.iconst 0, 1) := by decide +kernel
theorem dX0_common_1 : decode cX0_common 1 = .ok (.iload_n 1, 1) := by decide +kernel
theorem dX0_common_2 : decode cX0_common 2 = .ok (.iload_n 2, 1) := by decide +kernel
theorem dX0_common_3 : decode cX0_common 3 = .ok (.iadd, 1) := by decide +kernel
theorem dX0_common_4 : decode cX0_common 4 = .ok (.iload_n 3, 1) := by decide +kernel
theorem dX0_common_5 : decode cX0_common 5 = .ok (.iload 4, 2) := by decide +kernel
theorem dX0_common_7 : decode cX0_common 7 = .ok (.iadd, 1) := by decide +kernel
theorem dX0_common_8 : decode cX0_common 8 = .ok (.invokestatic 120, 3) := by decide +kernel
theorem dX0_common_11 : decode cX0_common 11 = .ok (.iload_n 1, 1) := by decide +kernel
theorem dX0_common_12 : decode cX0_common 12 = .ok (.iload_n 3, 1) := by decide +kernel
theorem dX0_common_13 : decode cX0_common 13 = .ok (.invokestatic 125, 3) := by decide +kernel
theorem dX0_common_16 : decode cX0_common 16 = .ok (.isub, 1) := by decide +kernel
theorem dX0_common_17 : decode cX0_common 17 = .ok (.invokestatic 125, 3) := by decide +kernel
theorem dX0_common_20 : decode cX0_common 20 = .ok (.ireturn, 1) := by decide +kernel
theorem dX0_commonCells_0 : decode cX0_commonCells 0 = .ok (.aload_n 0, 1) := by decide +kernel
theorem dX0_commonCells_1 : decode cX0_commonCells 1 = .ok (.aload_n 0, 1) := by decide +kernel
theorem dX0_commonCells_2 : decode cX0_commonCells 2 = .ok (.getfield 18, 3) := by decide +kernel
theorem dX0_commonCells_5 : decode cX0_commonCells 5 = .ok (.iload_n 1, 1) := by decide +kernel
theorem dX0_commonCells_6 : decode cX0_commonCells 6 = .ok (.iaload, 1) := by decide +kernel
theorem dX0_commonCells_7 : decode cX0_commonCells 7 = .ok (.aload_n 0, 1) := by decide +kernel
theorem dX0_commonCells_8 : decode cX0_commonCells 8 = .ok (.getfield 25, 3) := by decide +kernel
theorem dX0_commonCells_11 : decode cX0_commonCells 11 = .ok (.iload_n 1, 1) := by decide +kernel
theorem dX0_commonCells_12 : decode cX0_commonCells 12 = .ok (.iaload, 1) := by decide +kernel
theorem dX0_commonCells_13 : decode cX0_commonCells 13 = .ok (.aload_n 0, 1) := by decide +kernel
theorem dX0_commonCells_14 : decode cX0_commonCells 14 = .ok (.iload_n 2, 1) := by decide +kernel
theorem dX0_commonCells_15 : decode cX0_commonCells 15 = .ok (.invokevirtual 59, 3) := by decide +kernel
theorem dX0_commonCells_18 : decode cX0_commonCells 18 = .ok (.iload_n 3, 1) := by decide +kernel
theorem dX0_commonCells_19 : decode cX0_commonCells 19 = .ok (.invokevirtual 128, 3) := by decide +kernel
theorem dX0_commonCells_22 : decode cX0_commonCells 22 = .ok (.aload_n 0, 1) := by decide +kernel
theorem dX0_commonCells_23 : decode cX0_commonCells 23 = .ok (.aload_n 0, 1) := by decide +kernel
theorem dX0_commonCells_24 : decode cX0_commonCells 24 = .ok (.getfield 22, 3) := by decide +kernel
theorem dX0_commonCells_27 : decode cX0_commonCells 27 = .ok (.iload_n 1, 1) := by decide +kernel
theorem dX0_commonCells_28 : decode cX0_commonCells 28 = .ok (.iaload, 1) := by decide +kernel
theorem dX0_commonCells_29 : decode cX0_commonCells 29 = .ok (.aload_n 0, 1) := by decide +kernel
theorem dX0_commonCells_30 : decode cX0_commonCells 30 = .ok (.getfield 28, 3) := by decide +kernel
theorem dX0_commonCells_33 : decode cX0_commonCells 33 = .ok (.iload_n 1, 1) := by decide +kernel
theorem dX0_commonCells_34 : decode cX0_commonCells 34 = .ok (.iaload, 1) := by decide +kernel
theorem dX0_commonCells_35 : decode cX0_commonCells 35 = .ok (.aload_n 0, 1) := by decide +kernel
theorem dX0_commonCells_36 : decode cX0_commonCells 36 = .ok (.iload_n 2, 1) := by decide +kernel
theorem dX0_commonCells_37 : decode cX0_commonCells 37 = .ok (.invokevirtual 63, 3) := by decide +kernel
theorem dX0_commonCells_40 : decode cX0_commonCells 40 = .ok (.iload 4, 2) := by decide +kernel
theorem dX0_commonCells_42 : decode cX0_commonCells 42 = .ok (.invokevirtual 128, 3) := by decide +kernel
theorem dX0_commonCells_45 : decode cX0_commonCells 45 = .ok (.imul, 1) := by decide +kernel
theorem dX0_commonCells_46 : decode cX0_commonCells 46 = .ok (.ireturn, 1) := by decide +kernel
theorem dX0_onUnder_0 : decode cX0_onUnder 0 = .ok (.iconst 0, 1) := by decide +kernel
theorem dX0_onUnder_1 : decode cX0_onUnder 1 = .ok (.istore 4, 2) := by decide +kernel
theorem dX0_onUnder_3 : decode cX0_onUnder 3 = .ok (.iconst 0, 1) := by decide +kernel
theorem dX0_onUnder_4 : decode cX0_onUnder 4 = .ok (.istore 5, 2) := by decide +kernel
theorem dX0_onUnder_6 : decode cX0_onUnder 6 = .ok (.iload 5, 2) := by decide +kernel
theorem dX0_onUnder_8 : decode cX0_onUnder 8 = .ok (.aload_n 0, 1) := by decide +kernel
theorem dX0_onUnder_9 : decode cX0_onUnder 9 = .ok (.getfield 40, 3) := by decide +kernel
theorem dX0_onUnder_12 : decode cX0_onUnder 12 = .ok (.if_icmp .ge 40, 3) := by decide +kernel
theorem dX0_onUnder_15 : decode cX0_onUnder 15 = .ok (.aload_n 0, 1) := by decide +kernel
theorem dX0_onUnder_16 : decode cX0_onUnder 16 = .ok (.getfield 31, 3) := by decide +kernel
theorem dX0_onUnder_19 : decode cX0_onUnder 19 = .ok (.iload 5, 2) := by decide +kernel
theorem dX0_onUnder_21 : decode cX0_onUnder 21 = .ok (.iaload, 1) := by decide +kernel
theorem dX0_onUnder_22 : decode cX0_onUnder 22 = .ok (.ifCond .le 24, 3) := by decide +kernel
theorem dX0_onUnder_25 : decode cX0_onUnder 25 = .ok (.aload_n 0, 1) := by decide +kernel
theorem dX0_onUnder_26 : decode cX0_onUnder 26 = .ok (.iload 5, 2) := by decide +kernel
theorem dX0_onUnder_28 : decode cX0_onUnder 28 = .ok (.iload_n 1, 1) := by decide +kernel
theorem dX0_onUnder_29 : decode cX0_onUnder 29 = .ok (.iload_n 2, 1) := by decide +kernel
theorem dX0_onUnder_30 : decode cX0_onUnder 30 = .ok (.iload_n 3, 1) := by decide +kernel
theorem dX0_onUnder_31 : decode cX0_onUnder 31 = .ok (.invokevirtual 132, 3) := by decide +kernel
theorem dX0_onUnder_34 : decode cX0_onUnder 34 = .ok (.ifCond .le 12, 3) := by decide +kernel
theorem dX0_onUnder_37 : decode cX0_onUnder 37 = .ok (.iload 4, 2) := by decide +kernel
theorem dX0_onUnder_39 : decode cX0_onUnder 39 = .ok (.iconst 1, 1) := by decide +kernel
theorem dX0_onUnder_40 : decode cX0_onUnder 40 = .ok (.iload 5, 2) := by decide +kernel
theorem dX0_onUnder_42 : decode cX0_onUnder 42 = .ok (.ishl, 1) := by decide +kernel
theorem dX0_onUnder_43 : decode cX0_onUnder 43 = .ok (.ior, 1) := by decide +kernel
theorem dX0_onUnder_44 : decode cX0_onUnder 44 = .ok (.istore 4, 2) := by decide +kernel
theorem dX0_onUnder_46 : decode cX0_onUnder 46 = .ok (.iinc 5 1, 3) := by decide +kernel
theorem dX0_onUnder_49 : decode cX0_onUnder 49 = .ok (.goto (-43), 3) := by decide +kernel
theorem dX0_onUnder_52 : decode cX0_onUnder 52 = .ok (.iload 4, 2) := by decide +kernel
theorem dX0_onUnder_54 : decode cX0_onUnder 54 = .ok (.ireturn, 1) := by decide +kernel
theorem dX0_strengthUnder_0 : decode cX0_strengthUnder 0 = .ok (.iconst 0, 1) := by decide +kernel
theorem dX0_strengthUnder_1 : decode cX0_strengthUnder 1 = .ok (.istore 4, 2) := by decide +kernel
theorem dX0_strengthUnder_3 : decode cX0_strengthUnder 3 = .ok (.iconst 0, 1) := by decide +kernel
theorem dX0_strengthUnder_4 : decode cX0_strengthUnder 4 = .ok (.istore 5, 2) := by decide +kernel
theorem dX0_strengthUnder_6 : decode cX0_strengthUnder 6 = .ok (.iload 5, 2) := by decide +kernel
theorem dX0_strengthUnder_8 : decode cX0_strengthUnder 8 = .ok (.aload_n 0, 1) := by decide +kernel
theorem dX0_strengthUnder_9 : decode cX0_strengthUnder 9 = .ok (.getfield 40, 3) := by decide +kernel
theorem dX0_strengthUnder_12 : decode cX0_strengthUnder 12 = .ok (.if_icmp .ge 31, 3) := by decide +kernel
theorem dX0_strengthUnder_15 : decode cX0_strengthUnder 15 = .ok (.iload 4, 2) := by decide +kernel
theorem dX0_strengthUnder_17 : decode cX0_strengthUnder 17 = .ok (.aload_n 0, 1) := by decide +kernel
theorem dX0_strengthUnder_18 : decode cX0_strengthUnder 18 = .ok (.getfield 31, 3) := by decide +kernel
theorem dX0_strengthUnder_21 : decode cX0_strengthUnder 21 = .ok (.iload 5, 2) := by decide +kernel
theorem dX0_strengthUnder_23 : decode cX0_strengthUnder 23 = .ok (.iaload, 1) := by decide +kernel
theorem dX0_strengthUnder_24 : decode cX0_strengthUnder 24 = .ok (.aload_n 0, 1) := by decide +kernel
theorem dX0_strengthUnder_25 : decode cX0_strengthUnder 25 = .ok (.iload 5, 2) := by decide +kernel
theorem dX0_strengthUnder_27 : decode cX0_strengthUnder 27 = .ok (.iload_n 1, 1) := by decide +kernel
theorem dX0_strengthUnder_28 : decode cX0_strengthUnder 28 = .ok (.iload_n 2, 1) := by decide +kernel
theorem dX0_strengthUnder_29 : decode cX0_strengthUnder 29 = .ok (.iload_n 3, 1) := by decide +kernel
theorem dX0_strengthUnder_30 : decode cX0_strengthUnder 30 = .ok (.invokevirtual 132, 3) := by decide +kernel
theorem dX0_strengthUnder_33 : decode cX0_strengthUnder 33 = .ok (.imul, 1) := by decide +kernel
theorem dX0_strengthUnder_34 : decode cX0_strengthUnder 34 = .ok (.iadd, 1) := by decide +kernel
theorem dX0_strengthUnder_35 : decode cX0_strengthUnder 35 = .ok (.istore 4, 2) := by decide +kernel
theorem dX0_strengthUnder_37 : decode cX0_strengthUnder 37 = .ok (.iinc 5 1, 3) := by decide +kernel
theorem dX0_strengthUnder_40 : decode cX0_strengthUnder 40 = .ok (.goto (-34), 3) := by decide +kernel
theorem dX0_strengthUnder_43 : decode cX0_strengthUnder 43 = .ok (.iload 4, 2) := by decide +kernel
theorem dX0_strengthUnder_45 : decode cX0_strengthUnder 45 = .ok (.ireturn, 1) := by decide +kernel
theorem dX0_isRoom_0 : decode cX0_isRoom 0 = .ok (.aload_n 0, 1) := by decide +kernel
theorem dX0_isRoom_1 : decode cX0_isRoom 1 = .ok (.iload_n 1, 1) := by decide +kernel
theorem dX0_isRoom_2 : decode cX0_isRoom 2 = .ok (.iload_n 2, 1) := by decide +kernel
theorem dX0_isRoom_3 : decode cX0_isRoom 3 = .ok (.iload_n 3, 1) := by decide +kernel
theorem dX0_isRoom_4 : decode cX0_isRoom 4 = .ok (.invokevirtual 135, 3) := by decide +kernel
theorem dX0_isRoom_7 : decode cX0_isRoom 7 = .ok (.ifCond .eq 17, 3) := by decide +kernel
theorem dX0_isRoom_10 : decode cX0_isRoom 10 = .ok (.aload_n 0, 1) := by decide +kernel
theorem dX0_isRoom_11 : decode cX0_isRoom 11 = .ok (.iload_n 1, 1) := by decide +kernel
theorem dX0_isRoom_12 : decode cX0_isRoom 12 = .ok (.iload_n 2, 1) := by decide +kernel
theorem dX0_isRoom_13 : decode cX0_isRoom 13 = .ok (.iload_n 3, 1) := by decide +kernel
theorem dX0_isRoom_14 : decode cX0_isRoom 14 = .ok (.invokevirtual 98, 3) := by decide +kernel
theorem dX0_isRoom_17 : decode cX0_isRoom 17 = .ok (.ifCond .ne 7, 3) := by decide +kernel
theorem dX0_isRoom_20 : decode cX0_isRoom 20 = .ok (.iconst 1, 1) := by decide +kernel
theorem dX0_isRoom_21 : decode cX0_isRoom 21 = .ok (.goto 4, 3) := by decide +kernel
theorem dX0_isRoom_24 : decode cX0_isRoom 24 = .ok (.iconst 0, 1) := by decide +kernel
theorem dX0_isRoom_25 : decode cX0_isRoom 25 = .ok (.ireturn, 1) := by decide +kernel
theorem dX0_firstRoom_0 : decode cX0_firstRoom 0 = .ok (.iconst 0, 1) := by decide +kernel
theorem dX0_firstRoom_1 : decode cX0_firstRoom 1 = .ok (.istore_n 3, 1) := by decide +kernel
theorem dX0_firstRoom_2 : decode cX0_firstRoom 2 = .ok (.iload_n 3, 1) := by decide +kernel
theorem dX0_firstRoom_3 : decode cX0_firstRoom 3 = .ok (.aload_n 0, 1) := by decide +kernel
theorem dX0_firstRoom_4 : decode cX0_firstRoom 4 = .ok (.invokevirtual 55, 3) := by decide +kernel
theorem dX0_firstRoom_7 : decode cX0_firstRoom 7 = .ok (.if_icmp .ge 21, 3) := by decide +kernel
theorem dX0_firstRoom_10 : decode cX0_firstRoom 10 = .ok (.aload_n 0, 1) := by decide +kernel
theorem dX0_firstRoom_11 : decode cX0_firstRoom 11 = .ok (.iload_n 3, 1) := by decide +kernel
theorem dX0_firstRoom_12 : decode cX0_firstRoom 12 = .ok (.iload_n 1, 1) := by decide +kernel
theorem dX0_firstRoom_13 : decode cX0_firstRoom 13 = .ok (.iload_n 2, 1) := by decide +kernel
theorem dX0_firstRoom_14 : decode cX0_firstRoom 14 = .ok (.invokevirtual 139, 3) := by decide +kernel
theorem dX0_firstRoom_17 : decode cX0_firstRoom 17 = .ok (.ifCond .eq 5, 3) := by decide +kernel
theorem dX0_firstRoom_20 : decode cX0_firstRoom 20 = .ok (.iload_n 3, 1) := by decide +kernel
theorem dX0_firstRoom_21 : decode cX0_firstRoom 21 = .ok (.ireturn, 1) := by decide +kernel
theorem dX0_firstRoom_22 : decode cX0_firstRoom 22 = .ok (.iinc 3 1, 3) := by decide +kernel
theorem dX0_firstRoom_25 : decode cX0_firstRoom 25 = .ok (.goto (-23), 3) := by decide +kernel
theorem dX0_firstRoom_28 : decode cX0_firstRoom 28 = .ok (.iconst (-1), 1) := by decide +kernel
theorem dX0_firstRoom_29 : decode cX0_firstRoom 29 = .ok (.ireturn, 1) := by decide +kernel
theorem dX0_goBy_0 : decode cX0_goBy 0 = .ok (.aload_n 1, 1) := by decide +kernel
theorem dX0_goBy_1 : decode cX0_goBy 1 = .ok (.aload_n 0, 1) := by decide +kernel
theorem dX0_goBy_2 : decode cX0_goBy 2 = .ok (.invokevirtual 142, 3) := by decide +kernel
theorem dX0_goBy_5 : decode cX0_goBy 5 = .ok (.astore_n 2, 1) := by decide +kernel
theorem dX0_goBy_6 : decode cX0_goBy 6 = .ok (.iconst 0, 1) := by decide +kernel
theorem dX0_goBy_7 : decode cX0_goBy 7 = .ok (.istore_n 3, 1) := by decide +kernel
theorem dX0_goBy_8 : decode cX0_goBy 8 = .ok (.iconst 0, 1) := by decide +kernel
theorem dX0_goBy_9 : decode cX0_goBy 9 = .ok (.istore 4, 2) := by decide +kernel
theorem dX0_goBy_11 : decode cX0_goBy 11 = .ok (.iload 4, 2) := by decide +kernel
theorem dX0_goBy_13 : decode cX0_goBy 13 = .ok (.aload_n 0, 1) := by decide +kernel
theorem dX0_goBy_14 : decode cX0_goBy 14 = .ok (.getfield 40, 3) := by decide +kernel
theorem dX0_goBy_17 : decode cX0_goBy 17 = .ok (.if_icmp .ge 82, 3) := by decide +kernel
theorem dX0_goBy_20 : decode cX0_goBy 20 = .ok (.aload_n 0, 1) := by decide +kernel
theorem dX0_goBy_21 : decode cX0_goBy 21 = .ok (.getfield 31, 3) := by decide +kernel
theorem dX0_goBy_24 : decode cX0_goBy 24 = .ok (.iload 4, 2) := by decide +kernel
theorem dX0_goBy_26 : decode cX0_goBy 26 = .ok (.iaload, 1) := by decide +kernel
theorem dX0_goBy_27 : decode cX0_goBy 27 = .ok (.ifCond .le 66, 3) := by decide +kernel
theorem dX0_goBy_30 : decode cX0_goBy 30 = .ok (.aload_n 0, 1) := by decide +kernel
theorem dX0_goBy_31 : decode cX0_goBy 31 = .ok (.getfield 31, 3) := by decide +kernel
theorem dX0_goBy_34 : decode cX0_goBy 34 = .ok (.iload 4, 2) := by decide +kernel
theorem dX0_goBy_36 : decode cX0_goBy 36 = .ok (.iconst 0, 1) := by decide +kernel
theorem dX0_goBy_37 : decode cX0_goBy 37 = .ok (.aload_n 0, 1) := by decide +kernel
theorem dX0_goBy_38 : decode cX0_goBy 38 = .ok (.getfield 31, 3) := by decide +kernel
theorem dX0_goBy_41 : decode cX0_goBy 41 = .ok (.iload 4, 2) := by decide +kernel
theorem dX0_goBy_43 : decode cX0_goBy 43 = .ok (.iaload, 1) := by decide +kernel
theorem dX0_goBy_44 : decode cX0_goBy 44 = .ok (.aload_n 2, 1) := by decide +kernel
theorem dX0_goBy_45 : decode cX0_goBy 45 = .ok (.iload 4, 2) := by decide +kernel
theorem dX0_goBy_47 : decode cX0_goBy 47 = .ok (.iaload, 1) := by decide +kernel
theorem dX0_goBy_48 : decode cX0_goBy 48 = .ok (.isub, 1) := by decide +kernel
theorem dX0_goBy_49 : decode cX0_goBy 49 = .ok (.invokestatic 125, 3) := by decide +kernel
theorem dX0_goBy_52 : decode cX0_goBy 52 = .ok (.iastore, 1) := by decide +kernel
theorem dX0_goBy_53 : decode cX0_goBy 53 = .ok (.aload_n 0, 1) := by decide +kernel
theorem dX0_goBy_54 : decode cX0_goBy 54 = .ok (.getfield 31, 3) := by decide +kernel
theorem dX0_goBy_57 : decode cX0_goBy 57 = .ok (.iload 4, 2) := by decide +kernel
theorem dX0_goBy_59 : decode cX0_goBy 59 = .ok (.iaload, 1) := by decide +kernel
theorem dX0_goBy_60 : decode cX0_goBy 60 = .ok (.ifCond .ne 6, 3) := by decide +kernel
theorem dX0_goBy_63 : decode cX0_goBy 63 = .ok (.iinc 3 1, 3) := by decide +kernel
theorem dX0_goBy_66 : decode cX0_goBy 66 = .ok (.aload_n 0, 1) := by decide +kernel
theorem dX0_goBy_67 : decode cX0_goBy 67 = .ok (.getfield 37, 3) := by decide +kernel
theorem dX0_goBy_70 : decode cX0_goBy 70 = .ok (.iload 4, 2) := by decide +kernel
theorem dX0_goBy_72 : decode cX0_goBy 72 = .ok (.bipush 99, 2) := by decide +kernel
theorem dX0_goBy_74 : decode cX0_goBy 74 = .ok (.aload_n 0, 1) := by decide +kernel
theorem dX0_goBy_75 : decode cX0_goBy 75 = .ok (.getfield 37, 3) := by decide +kernel
theorem dX0_goBy_78 : decode cX0_goBy 78 = .ok (.iload 4, 2) := by decide +kernel
theorem dX0_goBy_80 : decode cX0_goBy 80 = .ok (.iaload, 1) := by decide +kernel
theorem dX0_goBy_81 : decode cX0_goBy 81 = .ok (.iconst 1, 1) := by decide +kernel
theorem dX0_goBy_82 : decode cX0_goBy 82 = .ok (.iadd, 1) := by decide +kernel
theorem dX0_goBy_83 : decode cX0_goBy 83 = .ok (.invokestatic 120, 3) := by decide +kernel
theorem dX0_goBy_86 : decode cX0_goBy 86 = .ok (.iastore, 1) := by decide +kernel
theorem dX0_goBy_87 : decode cX0_goBy 87 = .ok (.aload_n 0, 1) := by decide +kernel
theorem dX0_goBy_88 : decode cX0_goBy 88 = .ok (.iload 4, 2) := by decide +kernel
theorem dX0_goBy_90 : decode cX0_goBy 90 = .ok (.invokevirtual 148, 3) := by decide +kernel
theorem dX0_goBy_93 : decode cX0_goBy 93 = .ok (.iinc 4 1, 3) := by decide +kernel
theorem dX0_goBy_96 : decode cX0_goBy 96 = .ok (.goto (-85), 3) := by decide +kernel
theorem dX0_goBy_99 : decode cX0_goBy 99 = .ok (.aload_n 0, 1) := by decide +kernel
theorem dX0_goBy_100 : decode cX0_goBy 100 = .ok (.sipush 999, 3) := by decide +kernel
theorem dX0_goBy_103 : decode cX0_goBy 103 = .ok (.aload_n 0, 1) := by decide +kernel
theorem dX0_goBy_104 : decode cX0_goBy 104 = .ok (.getfield 46, 3) := by decide +kernel
theorem dX0_goBy_107 : decode cX0_goBy 107 = .ok (.iload_n 3, 1) := by decide +kernel
theorem dX0_goBy_108 : decode cX0_goBy 108 = .ok (.iadd, 1) := by decide +kernel
theorem dX0_goBy_109 : decode cX0_goBy 109 = .ok (.invokestatic 120, 3) := by decide +kernel
theorem dX0_goBy_112 : decode cX0_goBy 112 = .ok (.putfield 46, 3) := by decide +kernel
theorem dX0_goBy_115 : decode cX0_goBy 115 = .ok (.aload_n 0, 1) := by decide +kernel
theorem dX0_goBy_116 : decode cX0_goBy 116 = .ok (.dup, 1) := by decide +kernel
theorem dX0_goBy_117 : decode cX0_goBy 117 = .ok (.getfield 43, 3) := by decide +kernel
theorem dX0_goBy_120 : decode cX0_goBy 120 = .ok (.iconst 1, 1) := by decide +kernel
theorem dX0_goBy_121 : decode cX0_goBy 121 = .ok (.iadd, 1) := by decide +kernel
theorem dX0_goBy_122 : decode cX0_goBy 122 = .ok (.putfield 43, 3) := by decide +kernel
theorem dX0_goBy_125 : decode cX0_goBy 125 = .ok (.iload_n 3, 1) := by decide +kernel
theorem dX0_goBy_126 : decode cX0_goBy 126 = .ok (.ireturn, 1) := by decide +kernel
theorem dX0_slide_0 : decode cX0_slide 0 = .ok (.aload_n 0, 1) := by decide +kernel
theorem dX0_slide_1 : decode cX0_slide 1 = .ok (.getfield 34, 3) := by decide +kernel
theorem dX0_slide_4 : decode cX0_slide 4 = .ok (.iload_n 1, 1) := by decide +kernel
theorem dX0_slide_5 : decode cX0_slide 5 = .ok (.iaload, 1) := by decide +kernel
theorem dX0_slide_6 : decode cX0_slide 6 = .ok (.ifCond .le 69, 3) := by decide +kernel
theorem dX0_slide_9 : decode cX0_slide 9 = .ok (.aload_n 0, 1) := by decide +kernel
theorem dX0_slide_10 : decode cX0_slide 10 = .ok (.getfield 37, 3) := by decide +kernel
theorem dX0_slide_13 : decode cX0_slide 13 = .ok (.iload_n 1, 1) := by decide +kernel
theorem dX0_slide_14 : decode cX0_slide 14 = .ok (.iaload, 1) := by decide +kernel
theorem dX0_slide_15 : decode cX0_slide 15 = .ok (.aload_n 0, 1) := by decide +kernel
theorem dX0_slide_16 : decode cX0_slide 16 = .ok (.getfield 34, 3) := by decide +kernel
theorem dX0_slide_19 : decode cX0_slide 19 = .ok (.iload_n 1, 1) := by decide +kernel
theorem dX0_slide_20 : decode cX0_slide 20 = .ok (.iaload, 1) := by decide +kernel
theorem dX0_slide_21 : decode cX0_slide 21 = .ok (.irem, 1) := by decide +kernel
theorem dX0_slide_22 : decode cX0_slide 22 = .ok (.ifCond .ne 53, 3) := by decide +kernel
theorem dX0_slide_25 : decode cX0_slide 25 = .ok (.aload_n 0, 1) := by decide +kernel
theorem dX0_slide_26 : decode cX0_slide 26 = .ok (.getfield 22, 3) := by decide +kernel
theorem dX0_slide_29 : decode cX0_slide 29 = .ok (.iload_n 1, 1) := by decide +kernel
theorem dX0_slide_30 : decode cX0_slide 30 = .ok (.iaload, 1) := by decide +kernel
theorem dX0_slide_31 : decode cX0_slide 31 = .ok (.iconst 1, 1) := by decide +kernel
theorem dX0_slide_32 : decode cX0_slide 32 = .ok (.iadd, 1) := by decide +kernel
theorem dX0_slide_33 : decode cX0_slide 33 = .ok (.aload_n 0, 1) := by decide +kernel
theorem dX0_slide_34 : decode cX0_slide 34 = .ok (.getfield 28, 3) := by decide +kernel
theorem dX0_slide_37 : decode cX0_slide 37 = .ok (.iload_n 1, 1) := by decide +kernel
theorem dX0_slide_38 : decode cX0_slide 38 = .ok (.iaload, 1) := by decide +kernel
theorem dX0_slide_39 : decode cX0_slide 39 = .ok (.iadd, 1) := by decide +kernel
theorem dX0_slide_40 : decode cX0_slide 40 = .ok (.aload_n 0, 1) := by decide +kernel
theorem dX0_slide_41 : decode cX0_slide 41 = .ok (.getfield 15, 3) := by decide +kernel
theorem dX0_slide_44 : decode cX0_slide 44 = .ok (.if_icmp .gt 7, 3) := by decide +kernel
theorem dX0_slide_47 : decode cX0_slide 47 = .ok (.iconst 1, 1) := by decide +kernel
theorem dX0_slide_48 : decode cX0_slide 48 = .ok (.goto 4, 3) := by decide +kernel
theorem dX0_slide_51 : decode cX0_slide 51 = .ok (.iconst 0, 1) := by decide +kernel
theorem dX0_slide_52 : decode cX0_slide 52 = .ok (.istore_n 2, 1) := by decide +kernel
theorem dX0_slide_53 : decode cX0_slide 53 = .ok (.aload_n 0, 1) := by decide +kernel
theorem dX0_slide_54 : decode cX0_slide 54 = .ok (.getfield 22, 3) := by decide +kernel
theorem dX0_slide_57 : decode cX0_slide 57 = .ok (.iload_n 1, 1) := by decide +kernel
theorem dX0_slide_58 : decode cX0_slide 58 = .ok (.iload_n 2, 1) := by decide +kernel
theorem dX0_slide_59 : decode cX0_slide 59 = .ok (.ifCond .eq 14, 3) := by decide +kernel
theorem dX0_slide_62 : decode cX0_slide 62 = .ok (.aload_n 0, 1) := by decide +kernel
theorem dX0_slide_63 : decode cX0_slide 63 = .ok (.getfield 22, 3) := by decide +kernel
theorem dX0_slide_66 : decode cX0_slide 66 = .ok (.iload_n 1, 1) := by decide +kernel
theorem dX0_slide_67 : decode cX0_slide 67 = .ok (.iaload, 1) := by decide +kernel
theorem dX0_slide_68 : decode cX0_slide 68 = .ok (.iconst 1, 1) := by decide +kernel
theorem dX0_slide_69 : decode cX0_slide 69 = .ok (.iadd, 1) := by decide +kernel
theorem dX0_slide_70 : decode cX0_slide 70 = .ok (.goto 4, 3) := by decide +kernel
theorem dX0_slide_73 : decode cX0_slide 73 = .ok (.iconst 0, 1) := by decide +kernel
theorem dX0_slide_74 : decode cX0_slide 74 = .ok (.iastore, 1) := by decide +kernel
theorem dX0_slide_75 : decode cX0_slide 75 = .ok (.return_, 1) := by decide +kernel
theorem dX0_goByTimes_0 : decode cX0_goByTimes 0 = .ok (.iconst 0, 1) := by decide +kernel
theorem dX0_goByTimes_1 : decode cX0_goByTimes 1 = .ok (.istore_n 3, 1) := by decide +kernel
theorem dX0_goByTimes_2 : decode cX0_goByTimes 2 = .ok (.iconst 0, 1) := by decide +kernel
theorem dX0_goByTimes_3 : decode cX0_goByTimes 3 = .ok (.istore 4, 2) := by decide +kernel
theorem dX0_goByTimes_5 : decode cX0_goByTimes 5 = .ok (.iload 4, 2) := by decide +kernel
theorem dX0_goByTimes_7 : decode cX0_goByTimes 7 = .ok (.iload_n 2, 1) := by decide +kernel
theorem dX0_goByTimes_8 : decode cX0_goByTimes 8 = .ok (.if_icmp .ge 17, 3) := by decide +kernel
theorem dX0_goByTimes_11 : decode cX0_goByTimes 11 = .ok (.iload_n 3, 1) := by decide +kernel
theorem dX0_goByTimes_12 : decode cX0_goByTimes 12 = .ok (.aload_n 0, 1) := by decide +kernel
theorem dX0_goByTimes_13 : decode cX0_goByTimes 13 = .ok (.aload_n 1, 1) := by decide +kernel
theorem dX0_goByTimes_14 : decode cX0_goByTimes 14 = .ok (.invokevirtual 152, 3) := by decide +kernel
theorem dX0_goByTimes_17 : decode cX0_goByTimes 17 = .ok (.iadd, 1) := by decide +kernel
theorem dX0_goByTimes_18 : decode cX0_goByTimes 18 = .ok (.istore_n 3, 1) := by decide +kernel
theorem dX0_goByTimes_19 : decode cX0_goByTimes 19 = .ok (.iinc 4 1, 3) := by decide +kernel
theorem dX0_goByTimes_22 : decode cX0_goByTimes 22 = .ok (.goto (-17), 3) := by decide +kernel
theorem dX0_goByTimes_25 : decode cX0_goByTimes 25 = .ok (.iload_n 3, 1) := by decide +kernel
theorem dX0_goByTimes_26 : decode cX0_goByTimes 26 = .ok (.ireturn, 1) := by decide +kernel
theorem dX0_pitchOn_0 : decode cX0_pitchOn 0 = .ok (.aload_n 0, 1) := by decide +kernel
theorem dX0_pitchOn_1 : decode cX0_pitchOn 1 = .ok (.iload_n 1, 1) := by decide +kernel
theorem dX0_pitchOn_2 : decode cX0_pitchOn 2 = .ok (.invokevirtual 117, 3) := by decide +kernel
theorem dX0_pitchOn_5 : decode cX0_pitchOn 5 = .ok (.ifCond .eq 36, 3) := by decide +kernel
theorem dX0_pitchOn_8 : decode cX0_pitchOn 8 = .ok (.iload_n 2, 1) := by decide +kernel
theorem dX0_pitchOn_9 : decode cX0_pitchOn 9 = .ok (.iload_n 3, 1) := by decide +kernel
theorem dX0_pitchOn_10 : decode cX0_pitchOn 10 = .ok (.invokestatic 156, 3) := by decide +kernel
theorem dX0_pitchOn_13 : decode cX0_pitchOn 13 = .ok (.ifCond .eq 28, 3) := by decide +kernel
theorem dX0_pitchOn_16 : decode cX0_pitchOn 16 = .ok (.iload 4, 2) := by decide +kernel
theorem dX0_pitchOn_18 : decode cX0_pitchOn 18 = .ok (.iconst 1, 1) := by decide +kernel
theorem dX0_pitchOn_19 : decode cX0_pitchOn 19 = .ok (.if_icmp .lt 22, 3) := by decide +kernel
theorem dX0_pitchOn_22 : decode cX0_pitchOn 22 = .ok (.iload 4, 2) := by decide +kernel
theorem dX0_pitchOn_24 : decode cX0_pitchOn 24 = .ok (.bipush 9, 2) := by decide +kernel
theorem dX0_pitchOn_26 : decode cX0_pitchOn 26 = .ok (.if_icmp .gt 15, 3) := by decide +kernel
theorem dX0_pitchOn_29 : decode cX0_pitchOn 29 = .ok (.iload 5, 2) := by decide +kernel
theorem dX0_pitchOn_31 : decode cX0_pitchOn 31 = .ok (.ifCond .lt 10, 3) := by decide +kernel
theorem dX0_pitchOn_34 : decode cX0_pitchOn 34 = .ok (.iload 5, 2) := by decide +kernel
theorem dX0_pitchOn_36 : decode cX0_pitchOn 36 = .ok (.bipush 9, 2) := by decide +kernel
theorem dX0_pitchOn_38 : decode cX0_pitchOn 38 = .ok (.if_icmp .le 5, 3) := by decide +kernel
theorem dX0_pitchOn_41 : decode cX0_pitchOn 41 = .ok (.iconst (-1), 1) := by decide +kernel
theorem dX0_pitchOn_42 : decode cX0_pitchOn 42 = .ok (.ireturn, 1) := by decide +kernel
theorem dX0_pitchOn_43 : decode cX0_pitchOn 43 = .ok (.aload_n 0, 1) := by decide +kernel
theorem dX0_pitchOn_44 : decode cX0_pitchOn 44 = .ok (.iload_n 1, 1) := by decide +kernel
theorem dX0_pitchOn_45 : decode cX0_pitchOn 45 = .ok (.iload_n 2, 1) := by decide +kernel
theorem dX0_pitchOn_46 : decode cX0_pitchOn 46 = .ok (.iload_n 3, 1) := by decide +kernel
theorem dX0_pitchOn_47 : decode cX0_pitchOn 47 = .ok (.invokevirtual 135, 3) := by decide +kernel
theorem dX0_pitchOn_50 : decode cX0_pitchOn 50 = .ok (.ifCond .ne 6, 3) := by decide +kernel
theorem dX0_pitchOn_53 : decode cX0_pitchOn 53 = .ok (.bipush (-2), 2) := by decide +kernel
theorem dX0_pitchOn_55 : decode cX0_pitchOn 55 = .ok (.ireturn, 1) := by decide +kernel
theorem dX0_pitchOn_56 : decode cX0_pitchOn 56 = .ok (.aload_n 0, 1) := by decide +kernel
theorem dX0_pitchOn_57 : decode cX0_pitchOn 57 = .ok (.getfield 40, 3) := by decide +kernel
theorem dX0_pitchOn_60 : decode cX0_pitchOn 60 = .ok (.bipush 8, 2) := by decide +kernel
theorem dX0_pitchOn_62 : decode cX0_pitchOn 62 = .ok (.if_icmp .lt 6, 3) := by decide +kernel
theorem dX0_pitchOn_65 : decode cX0_pitchOn 65 = .ok (.bipush (-3), 2) := by decide +kernel
theorem dX0_pitchOn_67 : decode cX0_pitchOn 67 = .ok (.ireturn, 1) := by decide +kernel
theorem dX0_pitchOn_68 : decode cX0_pitchOn 68 = .ok (.aload_n 0, 1) := by decide +kernel
theorem dX0_pitchOn_69 : decode cX0_pitchOn 69 = .ok (.iload_n 1, 1) := by decide +kernel
theorem dX0_pitchOn_70 : decode cX0_pitchOn 70 = .ok (.iload_n 2, 1) := by decide +kernel
theorem dX0_pitchOn_71 : decode cX0_pitchOn 71 = .ok (.iload_n 3, 1) := by decide +kernel
theorem dX0_pitchOn_72 : decode cX0_pitchOn 72 = .ok (.invokevirtual 98, 3) := by decide +kernel
theorem dX0_pitchOn_75 : decode cX0_pitchOn 75 = .ok (.ifCond .eq 6, 3) := by decide +kernel
theorem dX0_pitchOn_78 : decode cX0_pitchOn 78 = .ok (.bipush (-4), 2) := by decide +kernel
theorem dX0_pitchOn_80 : decode cX0_pitchOn 80 = .ok (.ireturn, 1) := by decide +kernel
theorem dX0_pitchOn_81 : decode cX0_pitchOn 81 = .ok (.aload_n 0, 1) := by decide +kernel
theorem dX0_pitchOn_82 : decode cX0_pitchOn 82 = .ok (.getfield 18, 3) := by decide +kernel
theorem dX0_pitchOn_85 : decode cX0_pitchOn 85 = .ok (.aload_n 0, 1) := by decide +kernel
theorem dX0_pitchOn_86 : decode cX0_pitchOn 86 = .ok (.getfield 40, 3) := by decide +kernel
theorem dX0_pitchOn_89 : decode cX0_pitchOn 89 = .ok (.aload_n 0, 1) := by decide +kernel
theorem dX0_pitchOn_90 : decode cX0_pitchOn 90 = .ok (.iload_n 1, 1) := by decide +kernel
theorem dX0_pitchOn_91 : decode cX0_pitchOn 91 = .ok (.invokevirtual 59, 3) := by decide +kernel
theorem dX0_pitchOn_94 : decode cX0_pitchOn 94 = .ok (.iastore, 1) := by decide +kernel
theorem dX0_pitchOn_95 : decode cX0_pitchOn 95 = .ok (.aload_n 0, 1) := by decide +kernel
theorem dX0_pitchOn_96 : decode cX0_pitchOn 96 = .ok (.getfield 22, 3) := by decide +kernel
theorem dX0_pitchOn_99 : decode cX0_pitchOn 99 = .ok (.aload_n 0, 1) := by decide +kernel
theorem dX0_pitchOn_100 : decode cX0_pitchOn 100 = .ok (.getfield 40, 3) := by decide +kernel
theorem dX0_pitchOn_103 : decode cX0_pitchOn 103 = .ok (.aload_n 0, 1) := by decide +kernel
theorem dX0_pitchOn_104 : decode cX0_pitchOn 104 = .ok (.iload_n 1, 1) := by decide +kernel
theorem dX0_pitchOn_105 : decode cX0_pitchOn 105 = .ok (.invokevirtual 63, 3) := by decide +kernel
theorem dX0_pitchOn_108 : decode cX0_pitchOn 108 = .ok (.iastore, 1) := by decide +kernel
theorem dX0_pitchOn_109 : decode cX0_pitchOn 109 = .ok (.aload_n 0, 1) := by decide +kernel
theorem dX0_pitchOn_110 : decode cX0_pitchOn 110 = .ok (.getfield 25, 3) := by decide +kernel
theorem dX0_pitchOn_113 : decode cX0_pitchOn 113 = .ok (.aload_n 0, 1) := by decide +kernel
theorem dX0_pitchOn_114 : decode cX0_pitchOn 114 = .ok (.getfield 40, 3) := by decide +kernel
theorem dX0_pitchOn_117 : decode cX0_pitchOn 117 = .ok (.iload_n 2, 1) := by decide +kernel
theorem dX0_pitchOn_118 : decode cX0_pitchOn 118 = .ok (.iastore, 1) := by decide +kernel
theorem dX0_pitchOn_119 : decode cX0_pitchOn 119 = .ok (.aload_n 0, 1) := by decide +kernel
theorem dX0_pitchOn_120 : decode cX0_pitchOn 120 = .ok (.getfield 28, 3) := by decide +kernel
theorem dX0_pitchOn_123 : decode cX0_pitchOn 123 = .ok (.aload_n 0, 1) := by decide +kernel
theorem dX0_pitchOn_124 : decode cX0_pitchOn 124 = .ok (.getfield 40, 3) := by decide +kernel
theorem dX0_pitchOn_127 : decode cX0_pitchOn 127 = .ok (.iload_n 3, 1) := by decide +kernel
theorem dX0_pitchOn_128 : decode cX0_pitchOn 128 = .ok (.iastore, 1) := by decide +kernel
theorem dX0_pitchOn_129 : decode cX0_pitchOn 129 = .ok (.aload_n 0, 1) := by decide +kernel
theorem dX0_pitchOn_130 : decode cX0_pitchOn 130 = .ok (.getfield 31, 3) := by decide +kernel
theorem dX0_pitchOn_133 : decode cX0_pitchOn 133 = .ok (.aload_n 0, 1) := by decide +kernel
theorem dX0_pitchOn_134 : decode cX0_pitchOn 134 = .ok (.getfield 40, 3) := by decide +kernel
theorem dX0_pitchOn_137 : decode cX0_pitchOn 137 = .ok (.iload 4, 2) := by decide +kernel
theorem dX0_pitchOn_139 : decode cX0_pitchOn 139 = .ok (.iastore, 1) := by decide +kernel
theorem dX0_pitchOn_140 : decode cX0_pitchOn 140 = .ok (.aload_n 0, 1) := by decide +kernel
theorem dX0_pitchOn_141 : decode cX0_pitchOn 141 = .ok (.getfield 34, 3) := by decide +kernel
theorem dX0_pitchOn_144 : decode cX0_pitchOn 144 = .ok (.aload_n 0, 1) := by decide +kernel
theorem dX0_pitchOn_145 : decode cX0_pitchOn 145 = .ok (.getfield 40, 3) := by decide +kernel
theorem dX0_pitchOn_148 : decode cX0_pitchOn 148 = .ok (.iload 5, 2) := by decide +kernel
theorem dX0_pitchOn_150 : decode cX0_pitchOn 150 = .ok (.iastore, 1) := by decide +kernel
theorem dX0_pitchOn_151 : decode cX0_pitchOn 151 = .ok (.aload_n 0, 1) := by decide +kernel
theorem dX0_pitchOn_152 : decode cX0_pitchOn 152 = .ok (.getfield 37, 3) := by decide +kernel
theorem dX0_pitchOn_155 : decode cX0_pitchOn 155 = .ok (.aload_n 0, 1) := by decide +kernel
theorem dX0_pitchOn_156 : decode cX0_pitchOn 156 = .ok (.getfield 40, 3) := by decide +kernel
theorem dX0_pitchOn_159 : decode cX0_pitchOn 159 = .ok (.iconst 0, 1) := by decide +kernel
theorem dX0_pitchOn_160 : decode cX0_pitchOn 160 = .ok (.iastore, 1) := by decide +kernel
theorem dX0_pitchOn_161 : decode cX0_pitchOn 161 = .ok (.aload_n 0, 1) := by decide +kernel
theorem dX0_pitchOn_162 : decode cX0_pitchOn 162 = .ok (.dup, 1) := by decide +kernel
theorem dX0_pitchOn_163 : decode cX0_pitchOn 163 = .ok (.getfield 40, 3) := by decide +kernel
theorem dX0_pitchOn_166 : decode cX0_pitchOn 166 = .ok (.iconst 1, 1) := by decide +kernel
theorem dX0_pitchOn_167 : decode cX0_pitchOn 167 = .ok (.iadd, 1) := by decide +kernel
theorem dX0_pitchOn_168 : decode cX0_pitchOn 168 = .ok (.putfield 40, 3) := by decide +kernel
theorem dX0_pitchOn_171 : decode cX0_pitchOn 171 = .ok (.aload_n 0, 1) := by decide +kernel
theorem dX0_pitchOn_172 : decode cX0_pitchOn 172 = .ok (.getfield 40, 3) := by decide +kernel
theorem dX0_pitchOn_175 : decode cX0_pitchOn 175 = .ok (.iconst 1, 1) := by decide +kernel
theorem dX0_pitchOn_176 : decode cX0_pitchOn 176 = .ok (.isub, 1) := by decide +kernel
theorem dX0_pitchOn_177 : decode cX0_pitchOn 177 = .ok (.ireturn, 1) := by decide +kernel
theorem dX0_treadOn_0 : decode cX0_treadOn 0 = .ok (.aload_n 0, 1) := by decide +kernel
theorem dX0_treadOn_1 : decode cX0_treadOn 1 = .ok (.iload_n 1, 1) := by decide +kernel
theorem dX0_treadOn_2 : decode cX0_treadOn 2 = .ok (.invokevirtual 70, 3) := by decide +kernel
theorem dX0_treadOn_5 : decode cX0_treadOn 5 = .ok (.ifCond .eq 14, 3) := by decide +kernel
theorem dX0_treadOn_8 : decode cX0_treadOn 8 = .ok (.iload_n 2, 1) := by decide +kernel
theorem dX0_treadOn_9 : decode cX0_treadOn 9 = .ok (.iconst 1, 1) := by decide +kernel
theorem dX0_treadOn_10 : decode cX0_treadOn 10 = .ok (.if_icmp .lt 9, 3) := by decide +kernel
theorem dX0_treadOn_13 : decode cX0_treadOn 13 = .ok (.iload_n 2, 1) := by decide +kernel
theorem dX0_treadOn_14 : decode cX0_treadOn 14 = .ok (.bipush 9, 2) := by decide +kernel
theorem dX0_treadOn_16 : decode cX0_treadOn 16 = .ok (.if_icmp .le 5, 3) := by decide +kernel
theorem dX0_treadOn_19 : decode cX0_treadOn 19 = .ok (.iconst (-1), 1) := by decide +kernel
theorem dX0_treadOn_20 : decode cX0_treadOn 20 = .ok (.ireturn, 1) := by decide +kernel
theorem dX0_treadOn_21 : decode cX0_treadOn 21 = .ok (.aload_n 0, 1) := by decide +kernel
theorem dX0_treadOn_22 : decode cX0_treadOn 22 = .ok (.iload_n 1, 1) := by decide +kernel
theorem dX0_treadOn_23 : decode cX0_treadOn 23 = .ok (.invokevirtual 108, 3) := by decide +kernel
theorem dX0_treadOn_26 : decode cX0_treadOn 26 = .ok (.ifCond .ne 6, 3) := by decide +kernel
theorem dX0_treadOn_29 : decode cX0_treadOn 29 = .ok (.bipush (-2), 2) := by decide +kernel
theorem dX0_treadOn_31 : decode cX0_treadOn 31 = .ok (.ireturn, 1) := by decide +kernel
theorem dX0_treadOn_32 : decode cX0_treadOn 32 = .ok (.aload_n 0, 1) := by decide +kernel
theorem dX0_treadOn_33 : decode cX0_treadOn 33 = .ok (.getfield 31, 3) := by decide +kernel
theorem dX0_treadOn_36 : decode cX0_treadOn 36 = .ok (.iload_n 1, 1) := by decide +kernel
theorem dX0_treadOn_37 : decode cX0_treadOn 37 = .ok (.iconst 0, 1) := by decide +kernel
theorem dX0_treadOn_38 : decode cX0_treadOn 38 = .ok (.aload_n 0, 1) := by decide +kernel
theorem dX0_treadOn_39 : decode cX0_treadOn 39 = .ok (.getfield 31, 3) := by decide +kernel
theorem dX0_treadOn_42 : decode cX0_treadOn 42 = .ok (.iload_n 1, 1) := by decide +kernel
theorem dX0_treadOn_43 : decode cX0_treadOn 43 = .ok (.iaload, 1) := by decide +kernel
theorem dX0_treadOn_44 : decode cX0_treadOn 44 = .ok (.iload_n 2, 1) := by decide +kernel
theorem dX0_treadOn_45 : decode cX0_treadOn 45 = .ok (.isub, 1) := by decide +kernel
theorem dX0_treadOn_46 : decode cX0_treadOn 46 = .ok (.invokestatic 125, 3) := by decide +kernel
theorem dX0_treadOn_49 : decode cX0_treadOn 49 = .ok (.iastore, 1) := by decide +kernel
theorem dX0_treadOn_50 : decode cX0_treadOn 50 = .ok (.aload_n 0, 1) := by decide +kernel
theorem dX0_treadOn_51 : decode cX0_treadOn 51 = .ok (.getfield 31, 3) := by decide +kernel
theorem dX0_treadOn_54 : decode cX0_treadOn 54 = .ok (.iload_n 1, 1) := by decide +kernel
theorem dX0_treadOn_55 : decode cX0_treadOn 55 = .ok (.iaload, 1) := by decide +kernel
theorem dX0_treadOn_56 : decode cX0_treadOn 56 = .ok (.ireturn, 1) := by decide +kernel
theorem dX0_singTo_0 : decode cX0_singTo 0 = .ok (.aload_n 0, 1) := by decide +kernel
theorem dX0_singTo_1 : decode cX0_singTo 1 = .ok (.iload_n 1, 1) := by decide +kernel
theorem dX0_singTo_2 : decode cX0_singTo 2 = .ok (.invokevirtual 70, 3) := by decide +kernel
theorem dX0_singTo_5 : decode cX0_singTo 5 = .ok (.ifCond .eq 14, 3) := by decide +kernel
theorem dX0_singTo_8 : decode cX0_singTo 8 = .ok (.iload_n 2, 1) := by decide +kernel
theorem dX0_singTo_9 : decode cX0_singTo 9 = .ok (.iconst 1, 1) := by decide +kernel
theorem dX0_singTo_10 : decode cX0_singTo 10 = .ok (.if_icmp .lt 9, 3) := by decide +kernel
theorem dX0_singTo_13 : decode cX0_singTo 13 = .ok (.iload_n 2, 1) := by decide +kernel
theorem dX0_singTo_14 : decode cX0_singTo 14 = .ok (.bipush 9, 2) := by decide +kernel
theorem dX0_singTo_16 : decode cX0_singTo 16 = .ok (.if_icmp .le 5, 3) := by decide +kernel
theorem dX0_singTo_19 : decode cX0_singTo 19 = .ok (.iconst (-1), 1) := by decide +kernel
theorem dX0_singTo_20 : decode cX0_singTo 20 = .ok (.ireturn, 1) := by decide +kernel
theorem dX0_singTo_21 : decode cX0_singTo 21 = .ok (.aload_n 0, 1) := by decide +kernel
theorem dX0_singTo_22 : decode cX0_singTo 22 = .ok (.getfield 31, 3) := by decide +kernel
theorem dX0_singTo_25 : decode cX0_singTo 25 = .ok (.iload_n 1, 1) := by decide +kernel
theorem dX0_singTo_26 : decode cX0_singTo 26 = .ok (.bipush 9, 2) := by decide +kernel
theorem dX0_singTo_28 : decode cX0_singTo 28 = .ok (.aload_n 0, 1) := by decide +kernel
theorem dX0_singTo_29 : decode cX0_singTo 29 = .ok (.getfield 31, 3) := by decide +kernel
theorem dX0_singTo_32 : decode cX0_singTo 32 = .ok (.iload_n 1, 1) := by decide +kernel
theorem dX0_singTo_33 : decode cX0_singTo 33 = .ok (.iaload, 1) := by decide +kernel
theorem dX0_singTo_34 : decode cX0_singTo 34 = .ok (.iload_n 2, 1) := by decide +kernel
theorem dX0_singTo_35 : decode cX0_singTo 35 = .ok (.iadd, 1) := by decide +kernel
theorem dX0_singTo_36 : decode cX0_singTo 36 = .ok (.invokestatic 120, 3) := by decide +kernel
theorem dX0_singTo_39 : decode cX0_singTo 39 = .ok (.iastore, 1) := by decide +kernel
theorem dX0_singTo_40 : decode cX0_singTo 40 = .ok (.aload_n 0, 1) := by decide +kernel
theorem dX0_singTo_41 : decode cX0_singTo 41 = .ok (.getfield 31, 3) := by decide +kernel
theorem dX0_singTo_44 : decode cX0_singTo 44 = .ok (.iload_n 1, 1) := by decide +kernel
theorem dX0_singTo_45 : decode cX0_singTo 45 = .ok (.iaload, 1) := by decide +kernel
theorem dX0_singTo_46 : decode cX0_singTo 46 = .ok (.ireturn, 1) := by decide +kernel
theorem dX0_move_0 : decode cX0_move 0 = .ok (.aload_n 0, 1) := by decide +kernel
theorem dX0_move_1 : decode cX0_move 1 = .ok (.iload_n 1, 1) := by decide +kernel
theorem dX0_move_2 : decode cX0_move 2 = .ok (.invokevirtual 70, 3) := by decide +kernel
theorem dX0_move_5 : decode cX0_move 5 = .ok (.ifCond .eq 12, 3) := by decide +kernel
theorem dX0_move_8 : decode cX0_move 8 = .ok (.iload_n 2, 1) := by decide +kernel
theorem dX0_move_9 : decode cX0_move 9 = .ok (.ifCond .lt 8, 3) := by decide +kernel
theorem dX0_move_12 : decode cX0_move 12 = .ok (.iload_n 2, 1) := by decide +kernel
theorem dX0_move_13 : decode cX0_move 13 = .ok (.iconst 3, 1) := by decide +kernel
theorem dX0_move_14 : decode cX0_move 14 = .ok (.if_icmp .le 5, 3) := by decide +kernel
theorem dX0_move_17 : decode cX0_move 17 = .ok (.iconst (-1), 1) := by decide +kernel
theorem dX0_move_18 : decode cX0_move 18 = .ok (.ireturn, 1) := by decide +kernel
theorem dX0_move_19 : decode cX0_move 19 = .ok (.aload_n 0, 1) := by decide +kernel
theorem dX0_move_20 : decode cX0_move 20 = .ok (.getfield 18, 3) := by decide +kernel
theorem dX0_move_23 : decode cX0_move 23 = .ok (.iload_n 1, 1) := by decide +kernel
theorem dX0_move_24 : decode cX0_move 24 = .ok (.iaload, 1) := by decide +kernel
theorem dX0_move_25 : decode cX0_move 25 = .ok (.iload_n 2, 1) := by decide +kernel
theorem dX0_move_26 : decode cX0_move 26 = .ok (.iconst 2, 1) := by decide +kernel
theorem dX0_move_27 : decode cX0_move 27 = .ok (.if_icmp .ne 7, 3) := by decide +kernel
theorem dX0_move_30 : decode cX0_move 30 = .ok (.iconst 1, 1) := by decide +kernel
theorem dX0_move_31 : decode cX0_move 31 = .ok (.goto 12, 3) := by decide +kernel
theorem dX0_move_34 : decode cX0_move 34 = .ok (.iload_n 2, 1) := by decide +kernel
theorem dX0_move_35 : decode cX0_move 35 = .ok (.ifCond .ne 7, 3) := by decide +kernel
theorem dX0_move_38 : decode cX0_move 38 = .ok (.iconst (-1), 1) := by decide +kernel
theorem dX0_move_39 : decode cX0_move 39 = .ok (.goto 4, 3) := by decide +kernel
theorem dX0_move_42 : decode cX0_move 42 = .ok (.iconst 0, 1) := by decide +kernel
theorem dX0_move_43 : decode cX0_move 43 = .ok (.iadd, 1) := by decide +kernel
theorem dX0_move_44 : decode cX0_move 44 = .ok (.istore_n 3, 1) := by decide +kernel
theorem dX0_move_45 : decode cX0_move 45 = .ok (.aload_n 0, 1) := by decide +kernel
theorem dX0_move_46 : decode cX0_move 46 = .ok (.getfield 22, 3) := by decide +kernel
theorem dX0_move_49 : decode cX0_move 49 = .ok (.iload_n 1, 1) := by decide +kernel
theorem dX0_move_50 : decode cX0_move 50 = .ok (.iaload, 1) := by decide +kernel
theorem dX0_move_51 : decode cX0_move 51 = .ok (.iload_n 2, 1) := by decide +kernel
theorem dX0_move_52 : decode cX0_move 52 = .ok (.iconst 1, 1) := by decide +kernel
theorem dX0_move_53 : decode cX0_move 53 = .ok (.if_icmp .ne 7, 3) := by decide +kernel
theorem dX0_move_56 : decode cX0_move 56 = .ok (.iconst 1, 1) := by decide +kernel
theorem dX0_move_57 : decode cX0_move 57 = .ok (.goto 13, 3) := by decide +kernel
theorem dX0_move_60 : decode cX0_move 60 = .ok (.iload_n 2, 1) := by decide +kernel
theorem dX0_move_61 : decode cX0_move 61 = .ok (.iconst 3, 1) := by decide +kernel
theorem dX0_move_62 : decode cX0_move 62 = .ok (.if_icmp .ne 7, 3) := by decide +kernel
theorem dX0_move_65 : decode cX0_move 65 = .ok (.iconst (-1), 1) := by decide +kernel
theorem dX0_move_66 : decode cX0_move 66 = .ok (.goto 4, 3) := by decide +kernel
theorem dX0_move_69 : decode cX0_move 69 = .ok (.iconst 0, 1) := by decide +kernel
theorem dX0_move_70 : decode cX0_move 70 = .ok (.iadd, 1) := by decide +kernel
theorem dX0_move_71 : decode cX0_move 71 = .ok (.istore 4, 2) := by decide +kernel
theorem dX0_move_73 : decode cX0_move 73 = .ok (.aload_n 0, 1) := by decide +kernel
theorem dX0_move_74 : decode cX0_move 74 = .ok (.aload_n 0, 1) := by decide +kernel
theorem dX0_move_75 : decode cX0_move 75 = .ok (.iload_n 3, 1) := by decide +kernel
theorem dX0_move_76 : decode cX0_move 76 = .ok (.iload 4, 2) := by decide +kernel
theorem dX0_move_78 : decode cX0_move 78 = .ok (.invokevirtual 66, 3) := by decide +kernel
theorem dX0_move_81 : decode cX0_move 81 = .ok (.aload_n 0, 1) := by decide +kernel
theorem dX0_move_82 : decode cX0_move 82 = .ok (.getfield 25, 3) := by decide +kernel
theorem dX0_move_85 : decode cX0_move 85 = .ok (.iload_n 1, 1) := by decide +kernel
theorem dX0_move_86 : decode cX0_move 86 = .ok (.iaload, 1) := by decide +kernel
theorem dX0_move_87 : decode cX0_move 87 = .ok (.aload_n 0, 1) := by decide +kernel
theorem dX0_move_88 : decode cX0_move 88 = .ok (.getfield 28, 3) := by decide +kernel
theorem dX0_move_91 : decode cX0_move 91 = .ok (.iload_n 1, 1) := by decide +kernel
theorem dX0_move_92 : decode cX0_move 92 = .ok (.iaload, 1) := by decide +kernel
theorem dX0_move_93 : decode cX0_move 93 = .ok (.invokevirtual 135, 3) := by decide +kernel
theorem dX0_move_96 : decode cX0_move 96 = .ok (.ifCond .ne 6, 3) := by decide +kernel
theorem dX0_move_99 : decode cX0_move 99 = .ok (.bipush (-2), 2) := by decide +kernel
theorem dX0_move_101 : decode cX0_move 101 = .ok (.ireturn, 1) := by decide +kernel
theorem dX0_move_102 : decode cX0_move 102 = .ok (.aload_n 0, 1) := by decide +kernel
theorem dX0_move_103 : decode cX0_move 103 = .ok (.getfield 18, 3) := by decide +kernel
theorem dX0_move_106 : decode cX0_move 106 = .ok (.iload_n 1, 1) := by decide +kernel
theorem dX0_move_107 : decode cX0_move 107 = .ok (.iload_n 3, 1) := by decide +kernel
theorem dX0_move_108 : decode cX0_move 108 = .ok (.iastore, 1) := by decide +kernel
theorem dX0_move_109 : decode cX0_move 109 = .ok (.aload_n 0, 1) := by decide +kernel
theorem dX0_move_110 : decode cX0_move 110 = .ok (.getfield 22, 3) := by decide +kernel
theorem dX0_move_113 : decode cX0_move 113 = .ok (.iload_n 1, 1) := by decide +kernel
theorem dX0_move_114 : decode cX0_move 114 = .ok (.iload 4, 2) := by decide +kernel
theorem dX0_move_116 : decode cX0_move 116 = .ok (.iastore, 1) := by decide +kernel
theorem dX0_move_117 : decode cX0_move 117 = .ok (.aload_n 0, 1) := by decide +kernel
theorem dX0_move_118 : decode cX0_move 118 = .ok (.iload_n 1, 1) := by decide +kernel
theorem dX0_move_119 : decode cX0_move 119 = .ok (.invokevirtual 159, 3) := by decide +kernel
theorem dX0_move_122 : decode cX0_move 122 = .ok (.ireturn, 1) := by decide +kernel
theorem dX0_weaken_0 : decode cX0_weaken 0 = .ok (.iconst 0, 1) := by decide +kernel
theorem dX0_weaken_1 : decode cX0_weaken 1 = .ok (.iload_n 1, 1) := by decide +kernel
theorem dX0_weaken_2 : decode cX0_weaken 2 = .ok (.invokestatic 125, 3) := by decide +kernel
theorem dX0_weaken_5 : decode cX0_weaken 5 = .ok (.istore_n 2, 1) := by decide +kernel
theorem dX0_weaken_6 : decode cX0_weaken 6 = .ok (.iload_n 2, 1) := by decide +kernel
theorem dX0_weaken_7 : decode cX0_weaken 7 = .ok (.aload_n 0, 1) := by decide +kernel
theorem dX0_weaken_8 : decode cX0_weaken 8 = .ok (.getfield 40, 3) := by decide +kernel
theorem dX0_weaken_11 : decode cX0_weaken 11 = .ok (.if_icmp .ge 16, 3) := by decide +kernel
theorem dX0_weaken_14 : decode cX0_weaken 14 = .ok (.aload_n 0, 1) := by decide +kernel
theorem dX0_weaken_15 : decode cX0_weaken 15 = .ok (.getfield 31, 3) := by decide +kernel
theorem dX0_weaken_18 : decode cX0_weaken 18 = .ok (.iload_n 2, 1) := by decide +kernel
theorem dX0_weaken_19 : decode cX0_weaken 19 = .ok (.iconst 0, 1) := by decide +kernel
theorem dX0_weaken_20 : decode cX0_weaken 20 = .ok (.iastore, 1) := by decide +kernel
theorem dX0_weaken_21 : decode cX0_weaken 21 = .ok (.iinc 2 1, 3) := by decide +kernel
theorem dX0_weaken_24 : decode cX0_weaken 24 = .ok (.goto (-18), 3) := by decide +kernel
theorem dX0_weaken_27 : decode cX0_weaken 27 = .ok (.return_, 1) := by decide +kernel
theorem dX0_readLine_0 : decode cX0_readLine 0 = .ok (.aload_n 0, 1) := by decide +kernel
theorem dX0_readLine_1 : decode cX0_readLine 1 = .ok (.getfield 40, 3) := by decide +kernel
theorem dX0_readLine_4 : decode cX0_readLine 4 = .ok (.bipush 8, 2) := by decide +kernel
theorem dX0_readLine_6 : decode cX0_readLine 6 = .ok (.if_icmp .lt 5, 3) := by decide +kernel
theorem dX0_readLine_9 : decode cX0_readLine 9 = .ok (.iload_n 2, 1) := by decide +kernel
theorem dX0_readLine_10 : decode cX0_readLine 10 = .ok (.ireturn, 1) := by decide +kernel
theorem dX0_readLine_11 : decode cX0_readLine 11 = .ok (.iconst 0, 1) := by decide +kernel
theorem dX0_readLine_12 : decode cX0_readLine 12 = .ok (.istore 4, 2) := by decide +kernel
theorem dX0_readLine_14 : decode cX0_readLine 14 = .ok (.iload 4, 2) := by decide +kernel
theorem dX0_readLine_16 : decode cX0_readLine 16 = .ok (.bipush 6, 2) := by decide +kernel
theorem dX0_readLine_18 : decode cX0_readLine 18 = .ok (.if_icmp .ge 42, 3) := by decide +kernel
theorem dX0_readLine_21 : decode cX0_readLine 21 = .ok (.aload_n 1, 1) := by decide +kernel
theorem dX0_readLine_22 : decode cX0_readLine 22 = .ok (.iload_n 2, 1) := by decide +kernel
theorem dX0_readLine_23 : decode cX0_readLine 23 = .ok (.iload 4, 2) := by decide +kernel
theorem dX0_readLine_25 : decode cX0_readLine 25 = .ok (.iadd, 1) := by decide +kernel
theorem dX0_readLine_26 : decode cX0_readLine 26 = .ok (.iload_n 3, 1) := by decide +kernel
theorem dX0_readLine_27 : decode cX0_readLine 27 = .ok (.invokevirtual 162, 3) := by decide +kernel
theorem dX0_readLine_30 : decode cX0_readLine 30 = .ok (.istore 5, 2) := by decide +kernel
theorem dX0_readLine_32 : decode cX0_readLine 32 = .ok (.iload 5, 2) := by decide +kernel
theorem dX0_readLine_34 : decode cX0_readLine 34 = .ok (.iconst (-1), 1) := by decide +kernel
theorem dX0_readLine_35 : decode cX0_readLine 35 = .ok (.if_icmp .eq 14, 3) := by decide +kernel
theorem dX0_readLine_38 : decode cX0_readLine 38 = .ok (.aload_n 0, 1) := by decide +kernel
theorem dX0_readLine_39 : decode cX0_readLine 39 = .ok (.iload 4, 2) := by decide +kernel
theorem dX0_readLine_41 : decode cX0_readLine 41 = .ok (.iload 5, 2) := by decide +kernel
theorem dX0_readLine_43 : decode cX0_readLine 43 = .ok (.invokevirtual 167, 3) := by decide +kernel
theorem dX0_readLine_46 : decode cX0_readLine 46 = .ok (.ifCond .ne 8, 3) := by decide +kernel
theorem dX0_readLine_49 : decode cX0_readLine 49 = .ok (.iload_n 2, 1) := by decide +kernel
theorem dX0_readLine_50 : decode cX0_readLine 50 = .ok (.iload 4, 2) := by decide +kernel
theorem dX0_readLine_52 : decode cX0_readLine 52 = .ok (.iadd, 1) := by decide +kernel
theorem dX0_readLine_53 : decode cX0_readLine 53 = .ok (.ireturn, 1) := by decide +kernel
theorem dX0_readLine_54 : decode cX0_readLine 54 = .ok (.iinc 4 1, 3) := by decide +kernel
theorem dX0_readLine_57 : decode cX0_readLine 57 = .ok (.goto (-43), 3) := by decide +kernel
theorem dX0_readLine_60 : decode cX0_readLine 60 = .ok (.aload_n 0, 1) := by decide +kernel
theorem dX0_readLine_61 : decode cX0_readLine 61 = .ok (.getfield 37, 3) := by decide +kernel
theorem dX0_readLine_64 : decode cX0_readLine 64 = .ok (.aload_n 0, 1) := by decide +kernel
theorem dX0_readLine_65 : decode cX0_readLine 65 = .ok (.getfield 40, 3) := by decide +kernel
theorem dX0_readLine_68 : decode cX0_readLine 68 = .ok (.iconst 0, 1) := by decide +kernel
theorem dX0_readLine_69 : decode cX0_readLine 69 = .ok (.iastore, 1) := by decide +kernel
theorem dX0_readLine_70 : decode cX0_readLine 70 = .ok (.aload_n 0, 1) := by decide +kernel
theorem dX0_readLine_71 : decode cX0_readLine 71 = .ok (.dup, 1) := by decide +kernel
theorem dX0_readLine_72 : decode cX0_readLine 72 = .ok (.getfield 40, 3) := by decide +kernel
theorem dX0_readLine_75 : decode cX0_readLine 75 = .ok (.iconst 1, 1) := by decide +kernel
theorem dX0_readLine_76 : decode cX0_readLine 76 = .ok (.iadd, 1) := by decide +kernel
theorem dX0_readLine_77 : decode cX0_readLine 77 = .ok (.putfield 40, 3) := by decide +kernel
theorem dX0_readLine_80 : decode cX0_readLine 80 = .ok (.iconst (-1), 1) := by decide +kernel
theorem dX0_readLine_81 : decode cX0_readLine 81 = .ok (.ireturn, 1) := by decide +kernel
theorem dX0_takeDigit_0 : decode cX0_takeDigit 0 = .ok (.aload_n 0, 1) := by decide +kernel
theorem dX0_takeDigit_1 : decode cX0_takeDigit 1 = .ok (.getfield 40, 3) := by decide +kernel
theorem dX0_takeDigit_4 : decode cX0_takeDigit 4 = .ok (.bipush 8, 2) := by decide +kernel
theorem dX0_takeDigit_6 : decode cX0_takeDigit 6 = .ok (.if_icmp .lt 5, 3) := by decide +kernel
theorem dX0_takeDigit_9 : decode cX0_takeDigit 9 = .ok (.iconst 0, 1) := by decide +kernel
theorem dX0_takeDigit_10 : decode cX0_takeDigit 10 = .ok (.ireturn, 1) := by decide +kernel
theorem dX0_takeDigit_11 : decode cX0_takeDigit 11 = .ok (.iload_n 1, 1) := by decide +kernel
theorem dX0_takeDigit_12 : decode cX0_takeDigit 12 = .ok (.tableswitch 193 0 4 #[36, 60, 84, 128, 172], 36) := by decide +kernel
theorem dX0_takeDigit_48 : decode cX0_takeDigit 48 = .ok (.aload_n 0, 1) := by decide +kernel
theorem dX0_takeDigit_49 : decode cX0_takeDigit 49 = .ok (.getfield 18, 3) := by decide +kernel
theorem dX0_takeDigit_52 : decode cX0_takeDigit 52 = .ok (.aload_n 0, 1) := by decide +kernel
theorem dX0_takeDigit_53 : decode cX0_takeDigit 53 = .ok (.getfield 40, 3) := by decide +kernel
theorem dX0_takeDigit_56 : decode cX0_takeDigit 56 = .ok (.iload_n 2, 1) := by decide +kernel
theorem dX0_takeDigit_57 : decode cX0_takeDigit 57 = .ok (.iastore, 1) := by decide +kernel
theorem dX0_takeDigit_58 : decode cX0_takeDigit 58 = .ok (.iload_n 2, 1) := by decide +kernel
theorem dX0_takeDigit_59 : decode cX0_takeDigit 59 = .ok (.aload_n 0, 1) := by decide +kernel
theorem dX0_takeDigit_60 : decode cX0_takeDigit 60 = .ok (.getfield 9, 3) := by decide +kernel
theorem dX0_takeDigit_63 : decode cX0_takeDigit 63 = .ok (.if_icmp .ge 7, 3) := by decide +kernel
theorem dX0_takeDigit_66 : decode cX0_takeDigit 66 = .ok (.iconst 1, 1) := by decide +kernel
theorem dX0_takeDigit_67 : decode cX0_takeDigit 67 = .ok (.goto 4, 3) := by decide +kernel
theorem dX0_takeDigit_70 : decode cX0_takeDigit 70 = .ok (.iconst 0, 1) := by decide +kernel
theorem dX0_takeDigit_71 : decode cX0_takeDigit 71 = .ok (.ireturn, 1) := by decide +kernel
theorem dX0_takeDigit_72 : decode cX0_takeDigit 72 = .ok (.aload_n 0, 1) := by decide +kernel
theorem dX0_takeDigit_73 : decode cX0_takeDigit 73 = .ok (.getfield 22, 3) := by decide +kernel
theorem dX0_takeDigit_76 : decode cX0_takeDigit 76 = .ok (.aload_n 0, 1) := by decide +kernel
theorem dX0_takeDigit_77 : decode cX0_takeDigit 77 = .ok (.getfield 40, 3) := by decide +kernel
theorem dX0_takeDigit_80 : decode cX0_takeDigit 80 = .ok (.iload_n 2, 1) := by decide +kernel
theorem dX0_takeDigit_81 : decode cX0_takeDigit 81 = .ok (.iastore, 1) := by decide +kernel
theorem dX0_takeDigit_82 : decode cX0_takeDigit 82 = .ok (.iload_n 2, 1) := by decide +kernel
theorem dX0_takeDigit_83 : decode cX0_takeDigit 83 = .ok (.aload_n 0, 1) := by decide +kernel
theorem dX0_takeDigit_84 : decode cX0_takeDigit 84 = .ok (.getfield 15, 3) := by decide +kernel
theorem dX0_takeDigit_87 : decode cX0_takeDigit 87 = .ok (.if_icmp .ge 7, 3) := by decide +kernel
theorem dX0_takeDigit_90 : decode cX0_takeDigit 90 = .ok (.iconst 1, 1) := by decide +kernel
theorem dX0_takeDigit_91 : decode cX0_takeDigit 91 = .ok (.goto 4, 3) := by decide +kernel
theorem dX0_takeDigit_94 : decode cX0_takeDigit 94 = .ok (.iconst 0, 1) := by decide +kernel
theorem dX0_takeDigit_95 : decode cX0_takeDigit 95 = .ok (.ireturn, 1) := by decide +kernel
theorem dX0_takeDigit_96 : decode cX0_takeDigit 96 = .ok (.aload_n 0, 1) := by decide +kernel
theorem dX0_takeDigit_97 : decode cX0_takeDigit 97 = .ok (.getfield 25, 3) := by decide +kernel
theorem dX0_takeDigit_100 : decode cX0_takeDigit 100 = .ok (.aload_n 0, 1) := by decide +kernel
theorem dX0_takeDigit_101 : decode cX0_takeDigit 101 = .ok (.getfield 40, 3) := by decide +kernel
theorem dX0_takeDigit_104 : decode cX0_takeDigit 104 = .ok (.iload_n 2, 1) := by decide +kernel
theorem dX0_takeDigit_105 : decode cX0_takeDigit 105 = .ok (.iastore, 1) := by decide +kernel
theorem dX0_takeDigit_106 : decode cX0_takeDigit 106 = .ok (.iload_n 2, 1) := by decide +kernel
theorem dX0_takeDigit_107 : decode cX0_takeDigit 107 = .ok (.iconst 1, 1) := by decide +kernel
theorem dX0_takeDigit_108 : decode cX0_takeDigit 108 = .ok (.if_icmp .lt 30, 3) := by decide +kernel
theorem dX0_takeDigit_111 : decode cX0_takeDigit 111 = .ok (.iload_n 2, 1) := by decide +kernel
theorem dX0_takeDigit_112 : decode cX0_takeDigit 112 = .ok (.iconst 3, 1) := by decide +kernel
theorem dX0_takeDigit_113 : decode cX0_takeDigit 113 = .ok (.if_icmp .gt 25, 3) := by decide +kernel
theorem dX0_takeDigit_116 : decode cX0_takeDigit 116 = .ok (.aload_n 0, 1) := by decide +kernel
theorem dX0_takeDigit_117 : decode cX0_takeDigit 117 = .ok (.getfield 18, 3) := by decide +kernel
theorem dX0_takeDigit_120 : decode cX0_takeDigit 120 = .ok (.aload_n 0, 1) := by decide +kernel
theorem dX0_takeDigit_121 : decode cX0_takeDigit 121 = .ok (.getfield 40, 3) := by decide +kernel
theorem dX0_takeDigit_124 : decode cX0_takeDigit 124 = .ok (.iaload, 1) := by decide +kernel
theorem dX0_takeDigit_125 : decode cX0_takeDigit 125 = .ok (.iload_n 2, 1) := by decide +kernel
theorem dX0_takeDigit_126 : decode cX0_takeDigit 126 = .ok (.iadd, 1) := by decide +kernel
theorem dX0_takeDigit_127 : decode cX0_takeDigit 127 = .ok (.aload_n 0, 1) := by decide +kernel
theorem dX0_takeDigit_128 : decode cX0_takeDigit 128 = .ok (.getfield 9, 3) := by decide +kernel
theorem dX0_takeDigit_131 : decode cX0_takeDigit 131 = .ok (.if_icmp .gt 7, 3) := by decide +kernel
theorem dX0_takeDigit_134 : decode cX0_takeDigit 134 = .ok (.iconst 1, 1) := by decide +kernel
theorem dX0_takeDigit_135 : decode cX0_takeDigit 135 = .ok (.goto 4, 3) := by decide +kernel
theorem dX0_takeDigit_138 : decode cX0_takeDigit 138 = .ok (.iconst 0, 1) := by decide +kernel
theorem dX0_takeDigit_139 : decode cX0_takeDigit 139 = .ok (.ireturn, 1) := by decide +kernel
theorem dX0_takeDigit_140 : decode cX0_takeDigit 140 = .ok (.aload_n 0, 1) := by decide +kernel
theorem dX0_takeDigit_141 : decode cX0_takeDigit 141 = .ok (.getfield 28, 3) := by decide +kernel
theorem dX0_takeDigit_144 : decode cX0_takeDigit 144 = .ok (.aload_n 0, 1) := by decide +kernel
theorem dX0_takeDigit_145 : decode cX0_takeDigit 145 = .ok (.getfield 40, 3) := by decide +kernel
theorem dX0_takeDigit_148 : decode cX0_takeDigit 148 = .ok (.iload_n 2, 1) := by decide +kernel
theorem dX0_takeDigit_149 : decode cX0_takeDigit 149 = .ok (.iastore, 1) := by decide +kernel
theorem dX0_takeDigit_150 : decode cX0_takeDigit 150 = .ok (.iload_n 2, 1) := by decide +kernel
theorem dX0_takeDigit_151 : decode cX0_takeDigit 151 = .ok (.iconst 1, 1) := by decide +kernel
theorem dX0_takeDigit_152 : decode cX0_takeDigit 152 = .ok (.if_icmp .lt 30, 3) := by decide +kernel
theorem dX0_takeDigit_155 : decode cX0_takeDigit 155 = .ok (.iload_n 2, 1) := by decide +kernel
theorem dX0_takeDigit_156 : decode cX0_takeDigit 156 = .ok (.iconst 3, 1) := by decide +kernel
theorem dX0_takeDigit_157 : decode cX0_takeDigit 157 = .ok (.if_icmp .gt 25, 3) := by decide +kernel
theorem dX0_takeDigit_160 : decode cX0_takeDigit 160 = .ok (.aload_n 0, 1) := by decide +kernel
theorem dX0_takeDigit_161 : decode cX0_takeDigit 161 = .ok (.getfield 22, 3) := by decide +kernel
theorem dX0_takeDigit_164 : decode cX0_takeDigit 164 = .ok (.aload_n 0, 1) := by decide +kernel
theorem dX0_takeDigit_165 : decode cX0_takeDigit 165 = .ok (.getfield 40, 3) := by decide +kernel
theorem dX0_takeDigit_168 : decode cX0_takeDigit 168 = .ok (.iaload, 1) := by decide +kernel
theorem dX0_takeDigit_169 : decode cX0_takeDigit 169 = .ok (.iload_n 2, 1) := by decide +kernel
theorem dX0_takeDigit_170 : decode cX0_takeDigit 170 = .ok (.iadd, 1) := by decide +kernel
theorem dX0_takeDigit_171 : decode cX0_takeDigit 171 = .ok (.aload_n 0, 1) := by decide +kernel
theorem dX0_takeDigit_172 : decode cX0_takeDigit 172 = .ok (.getfield 15, 3) := by decide +kernel
theorem dX0_takeDigit_175 : decode cX0_takeDigit 175 = .ok (.if_icmp .gt 7, 3) := by decide +kernel
theorem dX0_takeDigit_178 : decode cX0_takeDigit 178 = .ok (.iconst 1, 1) := by decide +kernel
theorem dX0_takeDigit_179 : decode cX0_takeDigit 179 = .ok (.goto 4, 3) := by decide +kernel
theorem dX0_takeDigit_182 : decode cX0_takeDigit 182 = .ok (.iconst 0, 1) := by decide +kernel
theorem dX0_takeDigit_183 : decode cX0_takeDigit 183 = .ok (.ireturn, 1) := by decide +kernel
theorem dX0_takeDigit_184 : decode cX0_takeDigit 184 = .ok (.aload_n 0, 1) := by decide +kernel
theorem dX0_takeDigit_185 : decode cX0_takeDigit 185 = .ok (.getfield 31, 3) := by decide +kernel
theorem dX0_takeDigit_188 : decode cX0_takeDigit 188 = .ok (.aload_n 0, 1) := by decide +kernel
theorem dX0_takeDigit_189 : decode cX0_takeDigit 189 = .ok (.getfield 40, 3) := by decide +kernel
theorem dX0_takeDigit_192 : decode cX0_takeDigit 192 = .ok (.iload_n 2, 1) := by decide +kernel
theorem dX0_takeDigit_193 : decode cX0_takeDigit 193 = .ok (.iastore, 1) := by decide +kernel
theorem dX0_takeDigit_194 : decode cX0_takeDigit 194 = .ok (.iload_n 2, 1) := by decide +kernel
theorem dX0_takeDigit_195 : decode cX0_takeDigit 195 = .ok (.iconst 1, 1) := by decide +kernel
theorem dX0_takeDigit_196 : decode cX0_takeDigit 196 = .ok (.if_icmp .lt 7, 3) := by decide +kernel
theorem dX0_takeDigit_199 : decode cX0_takeDigit 199 = .ok (.iconst 1, 1) := by decide +kernel
theorem dX0_takeDigit_200 : decode cX0_takeDigit 200 = .ok (.goto 4, 3) := by decide +kernel
theorem dX0_takeDigit_203 : decode cX0_takeDigit 203 = .ok (.iconst 0, 1) := by decide +kernel
theorem dX0_takeDigit_204 : decode cX0_takeDigit 204 = .ok (.ireturn, 1) := by decide +kernel
theorem dX0_takeDigit_205 : decode cX0_takeDigit 205 = .ok (.aload_n 0, 1) := by decide +kernel
theorem dX0_takeDigit_206 : decode cX0_takeDigit 206 = .ok (.getfield 34, 3) := by decide +kernel
theorem dX0_takeDigit_209 : decode cX0_takeDigit 209 = .ok (.aload_n 0, 1) := by decide +kernel
theorem dX0_takeDigit_210 : decode cX0_takeDigit 210 = .ok (.getfield 40, 3) := by decide +kernel
theorem dX0_takeDigit_213 : decode cX0_takeDigit 213 = .ok (.iload_n 2, 1) := by decide +kernel
theorem dX0_takeDigit_214 : decode cX0_takeDigit 214 = .ok (.iastore, 1) := by decide +kernel
theorem dX0_takeDigit_215 : decode cX0_takeDigit 215 = .ok (.iconst 1, 1) := by decide +kernel
theorem dX0_takeDigit_216 : decode cX0_takeDigit 216 = .ok (.ireturn, 1) := by decide +kernel
theorem dX1_init_0 : decode cX1_init 0 = .ok (.aload_n 0, 1) := by decide +kernel
theorem dX1_init_1 : decode cX1_init 1 = .ok (.invokespecial 1, 3) := by decide +kernel
theorem dX1_init_4 : decode cX1_init 4 = .ok (.aload_n 0, 1) := by decide +kernel
theorem dX1_init_5 : decode cX1_init 5 = .ok (.iload_n 1, 1) := by decide +kernel
theorem dX1_init_6 : decode cX1_init 6 = .ok (.putfield 7, 3) := by decide +kernel
theorem dX1_init_9 : decode cX1_init 9 = .ok (.return_, 1) := by decide +kernel
theorem dX1_of_0 : decode cX1_of 0 = .ok (.aload_n 0, 1) := by decide +kernel
theorem dX1_of_1 : decode cX1_of 1 = .ok (.aload_n 0, 1) := by decide +kernel
theorem dX1_of_2 : decode cX1_of 2 = .ok (.getfield 7, 3) := by decide +kernel
theorem dX1_of_5 : decode cX1_of 5 = .ok (.ldc 13, 2) := by decide +kernel
theorem dX1_of_7 : decode cX1_of 7 = .ok (.imul, 1) := by decide +kernel
theorem dX1_of_8 : decode cX1_of 8 = .ok (.sipush 12345, 3) := by decide +kernel
theorem dX1_of_11 : decode cX1_of 11 = .ok (.iadd, 1) := by decide +kernel
theorem dX1_of_12 : decode cX1_of 12 = .ok (.putfield 7, 3) := by decide +kernel
theorem dX1_of_15 : decode cX1_of 15 = .ok (.iload_n 1, 1) := by decide +kernel
theorem dX1_of_16 : decode cX1_of 16 = .ok (.ifCond .le 15, 3) := by decide +kernel
theorem dX1_of_19 : decode cX1_of 19 = .ok (.aload_n 0, 1) := by decide +kernel
theorem dX1_of_20 : decode cX1_of 20 = .ok (.getfield 7, 3) := by decide +kernel
theorem dX1_of_23 : decode cX1_of 23 = .ok (.bipush 16, 2) := by decide +kernel
theorem dX1_of_25 : decode cX1_of 25 = .ok (.iushr, 1) := by decide +kernel
theorem dX1_of_26 : decode cX1_of 26 = .ok (.iload_n 1, 1) := by decide +kernel
theorem dX1_of_27 : decode cX1_of 27 = .ok (.irem, 1) := by decide +kernel
theorem dX1_of_28 : decode cX1_of 28 = .ok (.goto 4, 3) := by decide +kernel
theorem dX1_of_31 : decode cX1_of 31 = .ok (.iconst 0, 1) := by decide +kernel
theorem dX1_of_32 : decode cX1_of 32 = .ok (.ireturn, 1) := by decide +kernel
theorem dX2_init_0 : decode cX2_init 0 = .ok (.aload_n 0, 1) := by decide +kernel
theorem dX2_init_1 : decode cX2_init 1 = .ok (.invokespecial 1, 3) := by decide +kernel
theorem dX2_init_4 : decode cX2_init 4 = .ok (.aload_n 0, 1) := by decide +kernel
theorem dX2_init_5 : decode cX2_init 5 = .ok (.iload_n 1, 1) := by decide +kernel
theorem dX2_init_6 : decode cX2_init 6 = .ok (.newarray .int, 2) := by decide +kernel
theorem dX2_init_8 : decode cX2_init 8 = .ok (.putfield 7, 3) := by decide +kernel
theorem dX2_init_11 : decode cX2_init 11 = .ok (.aload_n 0, 1) := by decide +kernel
theorem dX2_init_12 : decode cX2_init 12 = .ok (.iload_n 1, 1) := by decide +kernel
theorem dX2_init_13 : decode cX2_init 13 = .ok (.newarray .int, 2) := by decide +kernel
theorem dX2_init_15 : decode cX2_init 15 = .ok (.putfield 13, 3) := by decide +kernel
theorem dX2_init_18 : decode cX2_init 18 = .ok (.aload_n 0, 1) := by decide +kernel
theorem dX2_init_19 : decode cX2_init 19 = .ok (.iload_n 1, 1) := by decide +kernel
theorem dX2_init_20 : decode cX2_init 20 = .ok (.newarray .int, 2) := by decide +kernel
theorem dX2_init_22 : decode cX2_init 22 = .ok (.putfield 16, 3) := by decide +kernel
theorem dX2_init_25 : decode cX2_init 25 = .ok (.return_, 1) := by decide +kernel
theorem dX2_isFull_0 : decode cX2_isFull 0 = .ok (.aload_n 0, 1) := by decide +kernel
theorem dX2_isFull_1 : decode cX2_isFull 1 = .ok (.getfield 19, 3) := by decide +kernel
theorem dX2_isFull_4 : decode cX2_isFull 4 = .ok (.aload_n 0, 1) := by decide +kernel
theorem dX2_isFull_5 : decode cX2_isFull 5 = .ok (.getfield 7, 3) := by decide +kernel
theorem dX2_isFull_8 : decode cX2_isFull 8 = .ok (.arraylength, 1) := by decide +kernel
theorem dX2_isFull_9 : decode cX2_isFull 9 = .ok (.if_icmp .lt 7, 3) := by decide +kernel
theorem dX2_isFull_12 : decode cX2_isFull 12 = .ok (.iconst 1, 1) := by decide +kernel
theorem dX2_isFull_13 : decode cX2_isFull 13 = .ok (.goto 4, 3) := by decide +kernel
theorem dX2_isFull_16 : decode cX2_isFull 16 = .ok (.iconst 0, 1) := by decide +kernel
theorem dX2_isFull_17 : decode cX2_isFull 17 = .ok (.ireturn, 1) := by decide +kernel
theorem dX2_add_0 : decode cX2_add 0 = .ok (.aload_n 0, 1) := by decide +kernel
theorem dX2_add_1 : decode cX2_add 1 = .ok (.invokevirtual 23, 3) := by decide +kernel
theorem dX2_add_4 : decode cX2_add 4 = .ok (.ifCond .ne 43, 3) := by decide +kernel
theorem dX2_add_7 : decode cX2_add 7 = .ok (.aload_n 0, 1) := by decide +kernel
theorem dX2_add_8 : decode cX2_add 8 = .ok (.getfield 7, 3) := by decide +kernel
theorem dX2_add_11 : decode cX2_add 11 = .ok (.aload_n 0, 1) := by decide +kernel
theorem dX2_add_12 : decode cX2_add 12 = .ok (.getfield 19, 3) := by decide +kernel
theorem dX2_add_15 : decode cX2_add 15 = .ok (.iload_n 1, 1) := by decide +kernel
theorem dX2_add_16 : decode cX2_add 16 = .ok (.iastore, 1) := by decide +kernel
theorem dX2_add_17 : decode cX2_add 17 = .ok (.aload_n 0, 1) := by decide +kernel
theorem dX2_add_18 : decode cX2_add 18 = .ok (.getfield 13, 3) := by decide +kernel
theorem dX2_add_21 : decode cX2_add 21 = .ok (.aload_n 0, 1) := by decide +kernel
theorem dX2_add_22 : decode cX2_add 22 = .ok (.getfield 19, 3) := by decide +kernel
theorem dX2_add_25 : decode cX2_add 25 = .ok (.iload_n 2, 1) := by decide +kernel
theorem dX2_add_26 : decode cX2_add 26 = .ok (.iastore, 1) := by decide +kernel
theorem dX2_add_27 : decode cX2_add 27 = .ok (.aload_n 0, 1) := by decide +kernel
theorem dX2_add_28 : decode cX2_add 28 = .ok (.getfield 16, 3) := by decide +kernel
theorem dX2_add_31 : decode cX2_add 31 = .ok (.aload_n 0, 1) := by decide +kernel
theorem dX2_add_32 : decode cX2_add 32 = .ok (.getfield 19, 3) := by decide +kernel
theorem dX2_add_35 : decode cX2_add 35 = .ok (.iload_n 3, 1) := by decide +kernel
theorem dX2_add_36 : decode cX2_add 36 = .ok (.iastore, 1) := by decide +kernel
theorem dX2_add_37 : decode cX2_add 37 = .ok (.aload_n 0, 1) := by decide +kernel
theorem dX2_add_38 : decode cX2_add 38 = .ok (.dup, 1) := by decide +kernel
theorem dX2_add_39 : decode cX2_add 39 = .ok (.getfield 19, 3) := by decide +kernel
theorem dX2_add_42 : decode cX2_add 42 = .ok (.iconst 1, 1) := by decide +kernel
theorem dX2_add_43 : decode cX2_add 43 = .ok (.iadd, 1) := by decide +kernel
theorem dX2_add_44 : decode cX2_add 44 = .ok (.putfield 19, 3) := by decide +kernel
theorem dX2_add_47 : decode cX2_add 47 = .ok (.return_, 1) := by decide +kernel
theorem dX2_wipe_0 : decode cX2_wipe 0 = .ok (.aload_n 0, 1) := by decide +kernel
theorem dX2_wipe_1 : decode cX2_wipe 1 = .ok (.getfield 19, 3) := by decide +kernel
theorem dX2_wipe_4 : decode cX2_wipe 4 = .ok (.istore_n 1, 1) := by decide +kernel
theorem dX2_wipe_5 : decode cX2_wipe 5 = .ok (.aload_n 0, 1) := by decide +kernel
theorem dX2_wipe_6 : decode cX2_wipe 6 = .ok (.iconst 0, 1) := by decide +kernel
theorem dX2_wipe_7 : decode cX2_wipe 7 = .ok (.putfield 19, 3) := by decide +kernel
theorem dX2_wipe_10 : decode cX2_wipe 10 = .ok (.iload_n 1, 1) := by decide +kernel
theorem dX2_wipe_11 : decode cX2_wipe 11 = .ok (.ireturn, 1) := by decide +kernel
theorem dX3_init_0 : decode cX3_init 0 = .ok (.aload_n 0, 1) := by decide +kernel
theorem dX3_init_1 : decode cX3_init 1 = .ok (.invokespecial 1, 3) := by decide +kernel
theorem dX3_init_4 : decode cX3_init 4 = .ok (.aload_n 0, 1) := by decide +kernel
theorem dX3_init_5 : decode cX3_init 5 = .ok (.bipush 15, 2) := by decide +kernel
theorem dX3_init_7 : decode cX3_init 7 = .ok (.anewarray 9, 3) := by decide +kernel
theorem dX3_init_10 : decode cX3_init 10 = .ok (.putfield 11, 3) := by decide +kernel
theorem dX3_init_13 : decode cX3_init 13 = .ok (.iconst 0, 1) := by decide +kernel
theorem dX3_init_14 : decode cX3_init 14 = .ok (.istore_n 1, 1) := by decide +kernel
theorem dX3_init_15 : decode cX3_init 15 = .ok (.iload_n 1, 1) := by decide +kernel
theorem dX3_init_16 : decode cX3_init 16 = .ok (.bipush 15, 2) := by decide +kernel
theorem dX3_init_18 : decode cX3_init 18 = .ok (.if_icmp .ge 22, 3) := by decide +kernel
theorem dX3_init_21 : decode cX3_init 21 = .ok (.aload_n 0, 1) := by decide +kernel
theorem dX3_init_22 : decode cX3_init 22 = .ok (.getfield 11, 3) := by decide +kernel
theorem dX3_init_25 : decode cX3_init 25 = .ok (.iload_n 1, 1) := by decide +kernel
theorem dX3_init_26 : decode cX3_init 26 = .ok (.new 9, 3) := by decide +kernel
theorem dX3_init_29 : decode cX3_init 29 = .ok (.dup, 1) := by decide +kernel
theorem dX3_init_30 : decode cX3_init 30 = .ok (.invokespecial 15, 3) := by decide +kernel
theorem dX3_init_33 : decode cX3_init 33 = .ok (.aastore, 1) := by decide +kernel
theorem dX3_init_34 : decode cX3_init 34 = .ok (.iinc 1 1, 3) := by decide +kernel
theorem dX3_init_37 : decode cX3_init 37 = .ok (.goto (-22), 3) := by decide +kernel
theorem dX3_init_40 : decode cX3_init 40 = .ok (.return_, 1) := by decide +kernel
theorem dX3_wipe_0 : decode cX3_wipe 0 = .ok (.aload_n 0, 1) := by decide +kernel
theorem dX3_wipe_1 : decode cX3_wipe 1 = .ok (.iconst 0, 1) := by decide +kernel
theorem dX3_wipe_2 : decode cX3_wipe 2 = .ok (.putfield 16, 3) := by decide +kernel
theorem dX3_wipe_5 : decode cX3_wipe 5 = .ok (.aload_n 0, 1) := by decide +kernel
theorem dX3_wipe_6 : decode cX3_wipe 6 = .ok (.iconst 0, 1) := by decide +kernel
theorem dX3_wipe_7 : decode cX3_wipe 7 = .ok (.putfield 20, 3) := by decide +kernel
theorem dX3_wipe_10 : decode cX3_wipe 10 = .ok (.return_, 1) := by decide +kernel
theorem dX3_push_0 : decode cX3_push 0 = .ok (.aload_n 0, 1) := by decide +kernel
theorem dX3_push_1 : decode cX3_push 1 = .ok (.getfield 20, 3) := by decide +kernel
theorem dX3_push_4 : decode cX3_push 4 = .ok (.bipush 15, 2) := by decide +kernel
theorem dX3_push_6 : decode cX3_push 6 = .ok (.if_icmp .ne 26, 3) := by decide +kernel
theorem dX3_push_9 : decode cX3_push 9 = .ok (.aload_n 0, 1) := by decide +kernel
theorem dX3_push_10 : decode cX3_push 10 = .ok (.aload_n 0, 1) := by decide +kernel
theorem dX3_push_11 : decode cX3_push 11 = .ok (.getfield 16, 3) := by decide +kernel
theorem dX3_push_14 : decode cX3_push 14 = .ok (.iconst 1, 1) := by decide +kernel
theorem dX3_push_15 : decode cX3_push 15 = .ok (.iadd, 1) := by decide +kernel
theorem dX3_push_16 : decode cX3_push 16 = .ok (.bipush 15, 2) := by decide +kernel
theorem dX3_push_18 : decode cX3_push 18 = .ok (.irem, 1) := by decide +kernel
theorem dX3_push_19 : decode cX3_push 19 = .ok (.putfield 16, 3) := by decide +kernel
theorem dX3_push_22 : decode cX3_push 22 = .ok (.aload_n 0, 1) := by decide +kernel
theorem dX3_push_23 : decode cX3_push 23 = .ok (.dup, 1) := by decide +kernel
theorem dX3_push_24 : decode cX3_push 24 = .ok (.getfield 20, 3) := by decide +kernel
theorem dX3_push_27 : decode cX3_push 27 = .ok (.iconst 1, 1) := by decide +kernel
theorem dX3_push_28 : decode cX3_push 28 = .ok (.isub, 1) := by decide +kernel
theorem dX3_push_29 : decode cX3_push 29 = .ok (.putfield 20, 3) := by decide +kernel
theorem dX3_push_32 : decode cX3_push 32 = .ok (.aload_n 0, 1) := by decide +kernel
theorem dX3_push_33 : decode cX3_push 33 = .ok (.getfield 11, 3) := by decide +kernel
theorem dX3_push_36 : decode cX3_push 36 = .ok (.aload_n 0, 1) := by decide +kernel
theorem dX3_push_37 : decode cX3_push 37 = .ok (.getfield 16, 3) := by decide +kernel
theorem dX3_push_40 : decode cX3_push 40 = .ok (.aload_n 0, 1) := by decide +kernel
theorem dX3_push_41 : decode cX3_push 41 = .ok (.getfield 20, 3) := by decide +kernel
theorem dX3_push_44 : decode cX3_push 44 = .ok (.iadd, 1) := by decide +kernel
theorem dX3_push_45 : decode cX3_push 45 = .ok (.bipush 15, 2) := by decide +kernel
theorem dX3_push_47 : decode cX3_push 47 = .ok (.irem, 1) := by decide +kernel
theorem dX3_push_48 : decode cX3_push 48 = .ok (.aaload, 1) := by decide +kernel
theorem dX3_push_49 : decode cX3_push 49 = .ok (.aload_n 1, 1) := by decide +kernel
theorem dX3_push_50 : decode cX3_push 50 = .ok (.invokevirtual 23, 3) := by decide +kernel
theorem dX3_push_53 : decode cX3_push 53 = .ok (.aload_n 0, 1) := by decide +kernel
theorem dX3_push_54 : decode cX3_push 54 = .ok (.dup, 1) := by decide +kernel
theorem dX3_push_55 : decode cX3_push 55 = .ok (.getfield 20, 3) := by decide +kernel
theorem dX3_push_58 : decode cX3_push 58 = .ok (.iconst 1, 1) := by decide +kernel
theorem dX3_push_59 : decode cX3_push 59 = .ok (.iadd, 1) := by decide +kernel
theorem dX3_push_60 : decode cX3_push 60 = .ok (.putfield 20, 3) := by decide +kernel
theorem dX3_push_63 : decode cX3_push 63 = .ok (.return_, 1) := by decide +kernel
theorem dX3_pop_0 : decode cX3_pop 0 = .ok (.aload_n 0, 1) := by decide +kernel
theorem dX3_pop_1 : decode cX3_pop 1 = .ok (.getfield 20, 3) := by decide +kernel
theorem dX3_pop_4 : decode cX3_pop 4 = .ok (.ifCond .le 34, 3) := by decide +kernel
theorem dX3_pop_7 : decode cX3_pop 7 = .ok (.aload_n 0, 1) := by decide +kernel
theorem dX3_pop_8 : decode cX3_pop 8 = .ok (.dup, 1) := by decide +kernel
theorem dX3_pop_9 : decode cX3_pop 9 = .ok (.getfield 20, 3) := by decide +kernel
theorem dX3_pop_12 : decode cX3_pop 12 = .ok (.iconst 1, 1) := by decide +kernel
theorem dX3_pop_13 : decode cX3_pop 13 = .ok (.isub, 1) := by decide +kernel
theorem dX3_pop_14 : decode cX3_pop 14 = .ok (.putfield 20, 3) := by decide +kernel
theorem dX3_pop_17 : decode cX3_pop 17 = .ok (.aload_n 1, 1) := by decide +kernel
theorem dX3_pop_18 : decode cX3_pop 18 = .ok (.aload_n 0, 1) := by decide +kernel
theorem dX3_pop_19 : decode cX3_pop 19 = .ok (.getfield 11, 3) := by decide +kernel
theorem dX3_pop_22 : decode cX3_pop 22 = .ok (.aload_n 0, 1) := by decide +kernel
theorem dX3_pop_23 : decode cX3_pop 23 = .ok (.getfield 16, 3) := by decide +kernel
theorem dX3_pop_26 : decode cX3_pop 26 = .ok (.aload_n 0, 1) := by decide +kernel
theorem dX3_pop_27 : decode cX3_pop 27 = .ok (.getfield 20, 3) := by decide +kernel
theorem dX3_pop_30 : decode cX3_pop 30 = .ok (.iadd, 1) := by decide +kernel
theorem dX3_pop_31 : decode cX3_pop 31 = .ok (.bipush 15, 2) := by decide +kernel
theorem dX3_pop_33 : decode cX3_pop 33 = .ok (.irem, 1) := by decide +kernel
theorem dX3_pop_34 : decode cX3_pop 34 = .ok (.aaload, 1) := by decide +kernel
theorem dX3_pop_35 : decode cX3_pop 35 = .ok (.invokevirtual 23, 3) := by decide +kernel
theorem dX3_pop_38 : decode cX3_pop 38 = .ok (.return_, 1) := by decide +kernel
theorem dX4_init_0 : decode cX4_init 0 = .ok (.aload_n 0, 1) := by decide +kernel
theorem dX4_init_1 : decode cX4_init 1 = .ok (.invokespecial 3, 3) := by decide +kernel
theorem dX4_init_4 : decode cX4_init 4 = .ok (.aload_n 0, 1) := by decide +kernel
theorem dX4_init_5 : decode cX4_init 5 = .ok (.bipush 40, 2) := by decide +kernel
theorem dX4_init_7 : decode cX4_init 7 = .ok (.newarray .int, 2) := by decide +kernel
theorem dX4_init_9 : decode cX4_init 9 = .ok (.putfield 9, 3) := by decide +kernel
theorem dX4_init_12 : decode cX4_init 12 = .ok (.aload_n 0, 1) := by decide +kernel
theorem dX4_init_13 : decode cX4_init 13 = .ok (.bipush 40, 2) := by decide +kernel
theorem dX4_init_15 : decode cX4_init 15 = .ok (.newarray .int, 2) := by decide +kernel
theorem dX4_init_17 : decode cX4_init 17 = .ok (.putfield 15, 3) := by decide +kernel
theorem dX4_init_20 : decode cX4_init 20 = .ok (.aload_n 0, 1) := by decide +kernel
theorem dX4_init_21 : decode cX4_init 21 = .ok (.bipush 8, 2) := by decide +kernel
theorem dX4_init_23 : decode cX4_init 23 = .ok (.newarray .int, 2) := by decide +kernel
theorem dX4_init_25 : decode cX4_init 25 = .ok (.putfield 18, 3) := by decide +kernel
theorem dX4_init_28 : decode cX4_init 28 = .ok (.return_, 1) := by decide +kernel
theorem dX4_start_0 : decode cX4_start 0 = .ok (.aload_n 0, 1) := by decide +kernel
theorem dX4_start_1 : decode cX4_start 1 = .ok (.iconst 0, 1) := by decide +kernel
theorem dX4_start_2 : decode cX4_start 2 = .ok (.putfield 21, 3) := by decide +kernel
theorem dX4_start_5 : decode cX4_start 5 = .ok (.return_, 1) := by decide +kernel
theorem dX4_addNumber_0 : decode cX4_addNumber 0 = .ok (.aload_n 0, 1) := by decide +kernel
theorem dX4_addNumber_1 : decode cX4_addNumber 1 = .ok (.getfield 21, 3) := by decide +kernel
theorem dX4_addNumber_4 : decode cX4_addNumber 4 = .ok (.aload_n 0, 1) := by decide +kernel
theorem dX4_addNumber_5 : decode cX4_addNumber 5 = .ok (.getfield 9, 3) := by decide +kernel
theorem dX4_addNumber_8 : decode cX4_addNumber 8 = .ok (.arraylength, 1) := by decide +kernel
theorem dX4_addNumber_9 : decode cX4_addNumber 9 = .ok (.if_icmp .ge 23, 3) := by decide +kernel
theorem dX4_addNumber_12 : decode cX4_addNumber 12 = .ok (.aload_n 0, 1) := by decide +kernel
theorem dX4_addNumber_13 : decode cX4_addNumber 13 = .ok (.getfield 9, 3) := by decide +kernel
theorem dX4_addNumber_16 : decode cX4_addNumber 16 = .ok (.aload_n 0, 1) := by decide +kernel
theorem dX4_addNumber_17 : decode cX4_addNumber 17 = .ok (.getfield 21, 3) := by decide +kernel
theorem dX4_addNumber_20 : decode cX4_addNumber 20 = .ok (.iload_n 1, 1) := by decide +kernel
theorem dX4_addNumber_21 : decode cX4_addNumber 21 = .ok (.iastore, 1) := by decide +kernel
theorem dX4_addNumber_22 : decode cX4_addNumber 22 = .ok (.aload_n 0, 1) := by decide +kernel
theorem dX4_addNumber_23 : decode cX4_addNumber 23 = .ok (.dup, 1) := by decide +kernel
theorem dX4_addNumber_24 : decode cX4_addNumber 24 = .ok (.getfield 21, 3) := by decide +kernel
