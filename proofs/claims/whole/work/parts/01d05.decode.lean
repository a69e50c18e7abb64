theorem dX10_treads_5 : decode cX10_treads 5 = .ok (.aload_n 0, 1) := by decide +kernel
theorem dX10_treads_6 : decode cX10_treads 6 = .ok (.invokevirtual 333, 3) := by decide +kernel
theorem dX10_treads_9 : decode cX10_treads 9 = .ok (.aload_n 0, 1) := by decide +kernel
theorem dX10_treads_10 : decode cX10_treads 10 = .ok (.aload_n 0, 1) := by decide +kernel
theorem dX10_treads_11 : decode cX10_treads 11 = .ok (.iload_n 1, 1) := by decide +kernel
theorem dX10_treads_12 : decode cX10_treads 12 = .ok (.iload_n 2, 1) := by decide +kernel
theorem dX10_treads_13 : decode cX10_treads 13 = .ok (.invokevirtual 350, 3) := by decide +kernel
theorem dX10_treads_16 : decode cX10_treads 16 = .ok (.invokevirtual 347, 3) := by decide +kernel
theorem dX10_treads_19 : decode cX10_treads 19 = .ok (.ireturn, 1) := by decide +kernel
theorem dX10_sings_0 : decode cX10_sings 0 = .ok (.aload_n 0, 1) := by decide +kernel
theorem dX10_sings_1 : decode cX10_sings 1 = .ok (.iconst 0, 1) := by decide +kernel
theorem dX10_sings_2 : decode cX10_sings 2 = .ok (.putfield 103, 3) := by decide +kernel
theorem dX10_sings_5 : decode cX10_sings 5 = .ok (.aload_n 0, 1) := by decide +kernel
theorem dX10_sings_6 : decode cX10_sings 6 = .ok (.invokevirtual 333, 3) := by decide +kernel
theorem dX10_sings_9 : decode cX10_sings 9 = .ok (.aload_n 0, 1) := by decide +kernel
theorem dX10_sings_10 : decode cX10_sings 10 = .ok (.aload_n 0, 1) := by decide +kernel
theorem dX10_sings_11 : decode cX10_sings 11 = .ok (.iload_n 1, 1) := by decide +kernel
theorem dX10_sings_12 : decode cX10_sings 12 = .ok (.iload_n 2, 1) := by decide +kernel
theorem dX10_sings_13 : decode cX10_sings 13 = .ok (.invokevirtual 353, 3) := by decide +kernel
theorem dX10_sings_16 : decode cX10_sings 16 = .ok (.invokevirtual 347, 3) := by decide +kernel
theorem dX10_sings_19 : decode cX10_sings 19 = .ok (.ireturn, 1) := by decide +kernel
theorem dX10_moves_0 : decode cX10_moves 0 = .ok (.aload_n 0, 1) := by decide +kernel
theorem dX10_moves_1 : decode cX10_moves 1 = .ok (.iconst 0, 1) := by decide +kernel
theorem dX10_moves_2 : decode cX10_moves 2 = .ok (.putfield 103, 3) := by decide +kernel
theorem dX10_moves_5 : decode cX10_moves 5 = .ok (.aload_n 0, 1) := by decide +kernel
theorem dX10_moves_6 : decode cX10_moves 6 = .ok (.invokevirtual 333, 3) := by decide +kernel
theorem dX10_moves_9 : decode cX10_moves 9 = .ok (.aload_n 0, 1) := by decide +kernel
theorem dX10_moves_10 : decode cX10_moves 10 = .ok (.aload_n 0, 1) := by decide +kernel
theorem dX10_moves_11 : decode cX10_moves 11 = .ok (.aload_n 0, 1) := by decide +kernel
theorem dX10_moves_12 : decode cX10_moves 12 = .ok (.getfield 20, 3) := by decide +kernel
theorem dX10_moves_15 : decode cX10_moves 15 = .ok (.iload_n 1, 1) := by decide +kernel
theorem dX10_moves_16 : decode cX10_moves 16 = .ok (.iload_n 2, 1) := by decide +kernel
theorem dX10_moves_17 : decode cX10_moves 17 = .ok (.invokevirtual 356, 3) := by decide +kernel
theorem dX10_moves_20 : decode cX10_moves 20 = .ok (.invokevirtual 347, 3) := by decide +kernel
theorem dX10_moves_23 : decode cX10_moves 23 = .ok (.ireturn, 1) := by decide +kernel
theorem dX10_readsAct_0 : decode cX10_readsAct 0 = .ok (.aload_n 0, 1) := by decide +kernel
theorem dX10_readsAct_1 : decode cX10_readsAct 1 = .ok (.getfield 360, 3) := by decide +kernel
theorem dX10_readsAct_4 : decode cX10_readsAct 4 = .ok (.istore_n 1, 1) := by decide +kernel
theorem dX10_readsAct_5 : decode cX10_readsAct 5 = .ok (.aload_n 0, 1) := by decide +kernel
theorem dX10_readsAct_6 : decode cX10_readsAct 6 = .ok (.getfield 54, 3) := by decide +kernel
theorem dX10_readsAct_9 : decode cX10_readsAct 9 = .ok (.iload_n 1, 1) := by decide +kernel
theorem dX10_readsAct_10 : decode cX10_readsAct 10 = .ok (.aload_n 0, 1) := by decide +kernel
theorem dX10_readsAct_11 : decode cX10_readsAct 11 = .ok (.ldc_w 363, 3) := by decide +kernel
theorem dX10_readsAct_14 : decode cX10_readsAct 14 = .ok (.invokevirtual 233, 3) := by decide +kernel
theorem dX10_readsAct_17 : decode cX10_readsAct 17 = .ok (.iastore, 1) := by decide +kernel
theorem dX10_readsAct_18 : decode cX10_readsAct 18 = .ok (.aload_n 0, 1) := by decide +kernel
theorem dX10_readsAct_19 : decode cX10_readsAct 19 = .ok (.dup, 1) := by decide +kernel
theorem dX10_readsAct_20 : decode cX10_readsAct 20 = .ok (.getfield 360, 3) := by decide +kernel
theorem dX10_readsAct_23 : decode cX10_readsAct 23 = .ok (.iconst 1, 1) := by decide +kernel
theorem dX10_readsAct_24 : decode cX10_readsAct 24 = .ok (.iadd, 1) := by decide +kernel
theorem dX10_readsAct_25 : decode cX10_readsAct 25 = .ok (.putfield 360, 3) := by decide +kernel
theorem dX10_readsAct_28 : decode cX10_readsAct 28 = .ok (.aload_n 0, 1) := by decide +kernel
theorem dX10_readsAct_29 : decode cX10_readsAct 29 = .ok (.getfield 54, 3) := by decide +kernel
theorem dX10_readsAct_32 : decode cX10_readsAct 32 = .ok (.iload_n 1, 1) := by decide +kernel
theorem dX10_readsAct_33 : decode cX10_readsAct 33 = .ok (.iaload, 1) := by decide +kernel
theorem dX10_readsAct_34 : decode cX10_readsAct 34 = .ok (.ifCond .ge 5, 3) := by decide +kernel
theorem dX10_readsAct_37 : decode cX10_readsAct 37 = .ok (.iconst 0, 1) := by decide +kernel
theorem dX10_readsAct_38 : decode cX10_readsAct 38 = .ok (.ireturn, 1) := by decide +kernel
theorem dX10_readsAct_39 : decode cX10_readsAct 39 = .ok (.aload_n 0, 1) := by decide +kernel
theorem dX10_readsAct_40 : decode cX10_readsAct 40 = .ok (.getfield 54, 3) := by decide +kernel
theorem dX10_readsAct_43 : decode cX10_readsAct 43 = .ok (.iload_n 1, 1) := by decide +kernel
theorem dX10_readsAct_44 : decode cX10_readsAct 44 = .ok (.iaload, 1) := by decide +kernel
theorem dX10_readsAct_45 : decode cX10_readsAct 45 = .ok (.ifCond .ne 7, 3) := by decide +kernel
theorem dX10_readsAct_48 : decode cX10_readsAct 48 = .ok (.iconst 1, 1) := by decide +kernel
theorem dX10_readsAct_49 : decode cX10_readsAct 49 = .ok (.goto 19, 3) := by decide +kernel
theorem dX10_readsAct_52 : decode cX10_readsAct 52 = .ok (.aload_n 0, 1) := by decide +kernel
theorem dX10_readsAct_53 : decode cX10_readsAct 53 = .ok (.getfield 54, 3) := by decide +kernel
theorem dX10_readsAct_56 : decode cX10_readsAct 56 = .ok (.iload_n 1, 1) := by decide +kernel
theorem dX10_readsAct_57 : decode cX10_readsAct 57 = .ok (.iaload, 1) := by decide +kernel
theorem dX10_readsAct_58 : decode cX10_readsAct 58 = .ok (.iconst 4, 1) := by decide +kernel
theorem dX10_readsAct_59 : decode cX10_readsAct 59 = .ok (.if_icmp .ge 7, 3) := by decide +kernel
theorem dX10_readsAct_62 : decode cX10_readsAct 62 = .ok (.iconst 2, 1) := by decide +kernel
theorem dX10_readsAct_63 : decode cX10_readsAct 63 = .ok (.goto 5, 3) := by decide +kernel
theorem dX10_readsAct_66 : decode cX10_readsAct 66 = .ok (.bipush 6, 2) := by decide +kernel
theorem dX10_readsAct_68 : decode cX10_readsAct 68 = .ok (.istore_n 2, 1) := by decide +kernel
theorem dX10_readsAct_69 : decode cX10_readsAct 69 = .ok (.iconst 1, 1) := by decide +kernel
theorem dX10_readsAct_70 : decode cX10_readsAct 70 = .ok (.istore_n 3, 1) := by decide +kernel
theorem dX10_readsAct_71 : decode cX10_readsAct 71 = .ok (.iconst 0, 1) := by decide +kernel
theorem dX10_readsAct_72 : decode cX10_readsAct 72 = .ok (.istore 4, 2) := by decide +kernel
theorem dX10_readsAct_74 : decode cX10_readsAct 74 = .ok (.iload 4, 2) := by decide +kernel
theorem dX10_readsAct_76 : decode cX10_readsAct 76 = .ok (.iload_n 2, 1) := by decide +kernel
theorem dX10_readsAct_77 : decode cX10_readsAct 77 = .ok (.if_icmp .ge 85, 3) := by decide +kernel
theorem dX10_readsAct_80 : decode cX10_readsAct 80 = .ok (.iload_n 3, 1) := by decide +kernel
theorem dX10_readsAct_81 : decode cX10_readsAct 81 = .ok (.ifCond .eq 81, 3) := by decide +kernel
theorem dX10_readsAct_84 : decode cX10_readsAct 84 = .ok (.aload_n 0, 1) := by decide +kernel
theorem dX10_readsAct_85 : decode cX10_readsAct 85 = .ok (.getfield 57, 3) := by decide +kernel
theorem dX10_readsAct_88 : decode cX10_readsAct 88 = .ok (.bipush 6, 2) := by decide +kernel
theorem dX10_readsAct_90 : decode cX10_readsAct 90 = .ok (.iload_n 1, 1) := by decide +kernel
theorem dX10_readsAct_91 : decode cX10_readsAct 91 = .ok (.imul, 1) := by decide +kernel
theorem dX10_readsAct_92 : decode cX10_readsAct 92 = .ok (.iload 4, 2) := by decide +kernel
theorem dX10_readsAct_94 : decode cX10_readsAct 94 = .ok (.iadd, 1) := by decide +kernel
theorem dX10_readsAct_95 : decode cX10_readsAct 95 = .ok (.aload_n 0, 1) := by decide +kernel
theorem dX10_readsAct_96 : decode cX10_readsAct 96 = .ok (.iload 4, 2) := by decide +kernel
theorem dX10_readsAct_98 : decode cX10_readsAct 98 = .ok (.iconst 1, 1) := by decide +kernel
theorem dX10_readsAct_99 : decode cX10_readsAct 99 = .ok (.if_icmp .ne 26, 3) := by decide +kernel
theorem dX10_readsAct_102 : decode cX10_readsAct 102 = .ok (.aload_n 0, 1) := by decide +kernel
theorem dX10_readsAct_103 : decode cX10_readsAct 103 = .ok (.getfield 54, 3) := by decide +kernel
theorem dX10_readsAct_106 : decode cX10_readsAct 106 = .ok (.iload_n 1, 1) := by decide +kernel
theorem dX10_readsAct_107 : decode cX10_readsAct 107 = .ok (.iaload, 1) := by decide +kernel
theorem dX10_readsAct_108 : decode cX10_readsAct 108 = .ok (.i2l, 1) := by decide +kernel
theorem dX10_readsAct_109 : decode cX10_readsAct 109 = .ok (.ldc2_w 292, 3) := by decide +kernel
theorem dX10_readsAct_112 : decode cX10_readsAct 112 = .ok (.ldc2_w 303, 3) := by decide +kernel
theorem dX10_readsAct_115 : decode cX10_readsAct 115 = .ok (.invokestatic 117, 3) := by decide +kernel
theorem dX10_readsAct_118 : decode cX10_readsAct 118 = .ok (.ifCond .eq 7, 3) := by decide +kernel
theorem dX10_readsAct_121 : decode cX10_readsAct 121 = .ok (.iconst 1, 1) := by decide +kernel
theorem dX10_readsAct_122 : decode cX10_readsAct 122 = .ok (.goto 4, 3) := by decide +kernel
theorem dX10_readsAct_125 : decode cX10_readsAct 125 = .ok (.iconst 0, 1) := by decide +kernel
theorem dX10_readsAct_126 : decode cX10_readsAct 126 = .ok (.invokestatic 163, 3) := by decide +kernel
theorem dX10_readsAct_129 : decode cX10_readsAct 129 = .ok (.bipush 9, 2) := by decide +kernel
theorem dX10_readsAct_131 : decode cX10_readsAct 131 = .ok (.invokevirtual 188, 3) := by decide +kernel
theorem dX10_readsAct_134 : decode cX10_readsAct 134 = .ok (.iastore, 1) := by decide +kernel
theorem dX10_readsAct_135 : decode cX10_readsAct 135 = .ok (.aload_n 0, 1) := by decide +kernel
theorem dX10_readsAct_136 : decode cX10_readsAct 136 = .ok (.getfield 57, 3) := by decide +kernel
theorem dX10_readsAct_139 : decode cX10_readsAct 139 = .ok (.bipush 6, 2) := by decide +kernel
theorem dX10_readsAct_141 : decode cX10_readsAct 141 = .ok (.iload_n 1, 1) := by decide +kernel
theorem dX10_readsAct_142 : decode cX10_readsAct 142 = .ok (.imul, 1) := by decide +kernel
theorem dX10_readsAct_143 : decode cX10_readsAct 143 = .ok (.iload 4, 2) := by decide +kernel
theorem dX10_readsAct_145 : decode cX10_readsAct 145 = .ok (.iadd, 1) := by decide +kernel
theorem dX10_readsAct_146 : decode cX10_readsAct 146 = .ok (.iaload, 1) := by decide +kernel
theorem dX10_readsAct_147 : decode cX10_readsAct 147 = .ok (.ifCond .lt 7, 3) := by decide +kernel
theorem dX10_readsAct_150 : decode cX10_readsAct 150 = .ok (.iconst 1, 1) := by decide +kernel
theorem dX10_readsAct_151 : decode cX10_readsAct 151 = .ok (.goto 4, 3) := by decide +kernel
theorem dX10_readsAct_154 : decode cX10_readsAct 154 = .ok (.iconst 0, 1) := by decide +kernel
theorem dX10_readsAct_155 : decode cX10_readsAct 155 = .ok (.istore_n 3, 1) := by decide +kernel
theorem dX10_readsAct_156 : decode cX10_readsAct 156 = .ok (.iinc 4 1, 3) := by decide +kernel
theorem dX10_readsAct_159 : decode cX10_readsAct 159 = .ok (.goto (-85), 3) := by decide +kernel
theorem dX10_readsAct_162 : decode cX10_readsAct 162 = .ok (.iload_n 3, 1) := by decide +kernel
theorem dX10_readsAct_163 : decode cX10_readsAct 163 = .ok (.ireturn, 1) := by decide +kernel
theorem dX10_does_0 : decode cX10_does 0 = .ok (.bipush 6, 2) := by decide +kernel
theorem dX10_does_2 : decode cX10_does 2 = .ok (.iload_n 1, 1) := by decide +kernel
theorem dX10_does_3 : decode cX10_does 3 = .ok (.imul, 1) := by decide +kernel
theorem dX10_does_4 : decode cX10_does 4 = .ok (.istore_n 2, 1) := by decide +kernel
theorem dX10_does_5 : decode cX10_does 5 = .ok (.aload_n 0, 1) := by decide +kernel
theorem dX10_does_6 : decode cX10_does 6 = .ok (.getfield 57, 3) := by decide +kernel
theorem dX10_does_9 : decode cX10_does 9 = .ok (.iload_n 2, 1) := by decide +kernel
theorem dX10_does_10 : decode cX10_does 10 = .ok (.iaload, 1) := by decide +kernel
theorem dX10_does_11 : decode cX10_does 11 = .ok (.istore_n 3, 1) := by decide +kernel
theorem dX10_does_12 : decode cX10_does 12 = .ok (.aload_n 0, 1) := by decide +kernel
theorem dX10_does_13 : decode cX10_does 13 = .ok (.getfield 54, 3) := by decide +kernel
theorem dX10_does_16 : decode cX10_does 16 = .ok (.iload_n 1, 1) := by decide +kernel
theorem dX10_does_17 : decode cX10_does 17 = .ok (.iaload, 1) := by decide +kernel
theorem dX10_does_18 : decode cX10_does 18 = .ok (.tableswitch 125 0 3 #[30, 55, 81, 103], 30) := by decide +kernel
theorem dX10_does_48 : decode cX10_does 48 = .ok (.iconst 0, 1) := by decide +kernel
theorem dX10_does_49 : decode cX10_does 49 = .ok (.istore 4, 2) := by decide +kernel
theorem dX10_does_51 : decode cX10_does 51 = .ok (.iload 4, 2) := by decide +kernel
theorem dX10_does_53 : decode cX10_does 53 = .ok (.iload_n 3, 1) := by decide +kernel
theorem dX10_does_54 : decode cX10_does 54 = .ok (.if_icmp .ge 17, 3) := by decide +kernel
theorem dX10_does_57 : decode cX10_does 57 = .ok (.aload_n 0, 1) := by decide +kernel
theorem dX10_does_58 : decode cX10_does 58 = .ok (.aload_n 0, 1) := by decide +kernel
theorem dX10_does_59 : decode cX10_does 59 = .ok (.getfield 20, 3) := by decide +kernel
theorem dX10_does_62 : decode cX10_does 62 = .ok (.invokevirtual 318, 3) := by decide +kernel
theorem dX10_does_65 : decode cX10_does 65 = .ok (.iinc 4 1, 3) := by decide +kernel
theorem dX10_does_68 : decode cX10_does 68 = .ok (.goto (-17), 3) := by decide +kernel
theorem dX10_does_71 : decode cX10_does 71 = .ok (.iconst 1, 1) := by decide +kernel
theorem dX10_does_72 : decode cX10_does 72 = .ok (.ireturn, 1) := by decide +kernel
theorem dX10_does_73 : decode cX10_does 73 = .ok (.aload_n 0, 1) := by decide +kernel
theorem dX10_does_74 : decode cX10_does 74 = .ok (.aload_n 0, 1) := by decide +kernel
theorem dX10_does_75 : decode cX10_does 75 = .ok (.getfield 20, 3) := by decide +kernel
theorem dX10_does_78 : decode cX10_does 78 = .ok (.iload_n 3, 1) := by decide +kernel
theorem dX10_does_79 : decode cX10_does 79 = .ok (.aload_n 0, 1) := by decide +kernel
theorem dX10_does_80 : decode cX10_does 80 = .ok (.getfield 57, 3) := by decide +kernel
theorem dX10_does_83 : decode cX10_does 83 = .ok (.iload_n 2, 1) := by decide +kernel
theorem dX10_does_84 : decode cX10_does 84 = .ok (.iconst 1, 1) := by decide +kernel
theorem dX10_does_85 : decode cX10_does 85 = .ok (.iadd, 1) := by decide +kernel
theorem dX10_does_86 : decode cX10_does 86 = .ok (.iaload, 1) := by decide +kernel
theorem dX10_does_87 : decode cX10_does 87 = .ok (.invokevirtual 356, 3) := by decide +kernel
theorem dX10_does_90 : decode cX10_does 90 = .ok (.ifCond .lt 7, 3) := by decide +kernel
theorem dX10_does_93 : decode cX10_does 93 = .ok (.iconst 1, 1) := by decide +kernel
theorem dX10_does_94 : decode cX10_does 94 = .ok (.goto 4, 3) := by decide +kernel
theorem dX10_does_97 : decode cX10_does 97 = .ok (.iconst 0, 1) := by decide +kernel
theorem dX10_does_98 : decode cX10_does 98 = .ok (.ireturn, 1) := by decide +kernel
theorem dX10_does_99 : decode cX10_does 99 = .ok (.aload_n 0, 1) := by decide +kernel
theorem dX10_does_100 : decode cX10_does 100 = .ok (.iload_n 3, 1) := by decide +kernel
theorem dX10_does_101 : decode cX10_does 101 = .ok (.aload_n 0, 1) := by decide +kernel
theorem dX10_does_102 : decode cX10_does 102 = .ok (.getfield 57, 3) := by decide +kernel
theorem dX10_does_105 : decode cX10_does 105 = .ok (.iload_n 2, 1) := by decide +kernel
theorem dX10_does_106 : decode cX10_does 106 = .ok (.iconst 1, 1) := by decide +kernel
theorem dX10_does_107 : decode cX10_does 107 = .ok (.iadd, 1) := by decide +kernel
theorem dX10_does_108 : decode cX10_does 108 = .ok (.iaload, 1) := by decide +kernel
theorem dX10_does_109 : decode cX10_does 109 = .ok (.invokevirtual 350, 3) := by decide +kernel
theorem dX10_does_112 : decode cX10_does 112 = .ok (.ifCond .lt 7, 3) := by decide +kernel
theorem dX10_does_115 : decode cX10_does 115 = .ok (.iconst 1, 1) := by decide +kernel
theorem dX10_does_116 : decode cX10_does 116 = .ok (.goto 4, 3) := by decide +kernel
theorem dX10_does_119 : decode cX10_does 119 = .ok (.iconst 0, 1) := by decide +kernel
theorem dX10_does_120 : decode cX10_does 120 = .ok (.ireturn, 1) := by decide +kernel
theorem dX10_does_121 : decode cX10_does 121 = .ok (.aload_n 0, 1) := by decide +kernel
theorem dX10_does_122 : decode cX10_does 122 = .ok (.iload_n 3, 1) := by decide +kernel
theorem dX10_does_123 : decode cX10_does 123 = .ok (.aload_n 0, 1) := by decide +kernel
theorem dX10_does_124 : decode cX10_does 124 = .ok (.getfield 57, 3) := by decide +kernel
theorem dX10_does_127 : decode cX10_does 127 = .ok (.iload_n 2, 1) := by decide +kernel
theorem dX10_does_128 : decode cX10_does 128 = .ok (.iconst 1, 1) := by decide +kernel
theorem dX10_does_129 : decode cX10_does 129 = .ok (.iadd, 1) := by decide +kernel
theorem dX10_does_130 : decode cX10_does 130 = .ok (.iaload, 1) := by decide +kernel
theorem dX10_does_131 : decode cX10_does 131 = .ok (.invokevirtual 353, 3) := by decide +kernel
theorem dX10_does_134 : decode cX10_does 134 = .ok (.ifCond .lt 7, 3) := by decide +kernel
theorem dX10_does_137 : decode cX10_does 137 = .ok (.iconst 1, 1) := by decide +kernel
theorem dX10_does_138 : decode cX10_does 138 = .ok (.goto 4, 3) := by decide +kernel
theorem dX10_does_141 : decode cX10_does 141 = .ok (.iconst 0, 1) := by decide +kernel
theorem dX10_does_142 : decode cX10_does 142 = .ok (.ireturn, 1) := by decide +kernel
theorem dX10_does_143 : decode cX10_does 143 = .ok (.iload_n 3, 1) := by decide +kernel
theorem dX10_does_144 : decode cX10_does 144 = .ok (.aload_n 0, 1) := by decide +kernel
theorem dX10_does_145 : decode cX10_does 145 = .ok (.getfield 13, 3) := by decide +kernel
theorem dX10_does_148 : decode cX10_does 148 = .ok (.if_icmp .ge 22, 3) := by decide +kernel
theorem dX10_does_151 : decode cX10_does 151 = .ok (.aload_n 0, 1) := by decide +kernel
theorem dX10_does_152 : decode cX10_does 152 = .ok (.getfield 57, 3) := by decide +kernel
theorem dX10_does_155 : decode cX10_does 155 = .ok (.iload_n 2, 1) := by decide +kernel
theorem dX10_does_156 : decode cX10_does 156 = .ok (.iconst 1, 1) := by decide +kernel
theorem dX10_does_157 : decode cX10_does 157 = .ok (.iadd, 1) := by decide +kernel
theorem dX10_does_158 : decode cX10_does 158 = .ok (.iaload, 1) := by decide +kernel
theorem dX10_does_159 : decode cX10_does 159 = .ok (.aload_n 0, 1) := by decide +kernel
theorem dX10_does_160 : decode cX10_does 160 = .ok (.getfield 17, 3) := by decide +kernel
theorem dX10_does_163 : decode cX10_does 163 = .ok (.if_icmp .ge 7, 3) := by decide +kernel
theorem dX10_does_166 : decode cX10_does 166 = .ok (.iconst 1, 1) := by decide +kernel
theorem dX10_does_167 : decode cX10_does 167 = .ok (.goto 4, 3) := by decide +kernel
theorem dX10_does_170 : decode cX10_does 170 = .ok (.iconst 0, 1) := by decide +kernel
theorem dX10_does_171 : decode cX10_does 171 = .ok (.istore 4, 2) := by decide +kernel
theorem dX10_does_173 : decode cX10_does 173 = .ok (.iload 4, 2) := by decide +kernel
theorem dX10_does_175 : decode cX10_does 175 = .ok (.ifCond .eq 65, 3) := by decide +kernel
theorem dX10_does_178 : decode cX10_does 178 = .ok (.aload_n 0, 1) := by decide +kernel
theorem dX10_does_179 : decode cX10_does 179 = .ok (.aload_n 0, 1) := by decide +kernel
theorem dX10_does_180 : decode cX10_does 180 = .ok (.getfield 20, 3) := by decide +kernel
theorem dX10_does_183 : decode cX10_does 183 = .ok (.aload_n 0, 1) := by decide +kernel
theorem dX10_does_184 : decode cX10_does 184 = .ok (.getfield 17, 3) := by decide +kernel
theorem dX10_does_187 : decode cX10_does 187 = .ok (.iload_n 3, 1) := by decide +kernel
theorem dX10_does_188 : decode cX10_does 188 = .ok (.imul, 1) := by decide +kernel
theorem dX10_does_189 : decode cX10_does 189 = .ok (.aload_n 0, 1) := by decide +kernel
theorem dX10_does_190 : decode cX10_does 190 = .ok (.getfield 57, 3) := by decide +kernel
theorem dX10_does_193 : decode cX10_does 193 = .ok (.iload_n 2, 1) := by decide +kernel
theorem dX10_does_194 : decode cX10_does 194 = .ok (.iconst 1, 1) := by decide +kernel
theorem dX10_does_195 : decode cX10_does 195 = .ok (.iadd, 1) := by decide +kernel
theorem dX10_does_196 : decode cX10_does 196 = .ok (.iaload, 1) := by decide +kernel
theorem dX10_does_197 : decode cX10_does 197 = .ok (.iadd, 1) := by decide +kernel
theorem dX10_does_198 : decode cX10_does 198 = .ok (.aload_n 0, 1) := by decide +kernel
theorem dX10_does_199 : decode cX10_does 199 = .ok (.getfield 57, 3) := by decide +kernel
theorem dX10_does_202 : decode cX10_does 202 = .ok (.iload_n 2, 1) := by decide +kernel
theorem dX10_does_203 : decode cX10_does 203 = .ok (.iconst 2, 1) := by decide +kernel
theorem dX10_does_204 : decode cX10_does 204 = .ok (.iadd, 1) := by decide +kernel
theorem dX10_does_205 : decode cX10_does 205 = .ok (.iaload, 1) := by decide +kernel
theorem dX10_does_206 : decode cX10_does 206 = .ok (.aload_n 0, 1) := by decide +kernel
theorem dX10_does_207 : decode cX10_does 207 = .ok (.getfield 57, 3) := by decide +kernel
theorem dX10_does_210 : decode cX10_does 210 = .ok (.iload_n 2, 1) := by decide +kernel
theorem dX10_does_211 : decode cX10_does 211 = .ok (.iconst 3, 1) := by decide +kernel
theorem dX10_does_212 : decode cX10_does 212 = .ok (.iadd, 1) := by decide +kernel
theorem dX10_does_213 : decode cX10_does 213 = .ok (.iaload, 1) := by decide +kernel
theorem dX10_does_214 : decode cX10_does 214 = .ok (.aload_n 0, 1) := by decide +kernel
theorem dX10_does_215 : decode cX10_does 215 = .ok (.getfield 57, 3) := by decide +kernel
theorem dX10_does_218 : decode cX10_does 218 = .ok (.iload_n 2, 1) := by decide +kernel
theorem dX10_does_219 : decode cX10_does 219 = .ok (.iconst 4, 1) := by decide +kernel
theorem dX10_does_220 : decode cX10_does 220 = .ok (.iadd, 1) := by decide +kernel
theorem dX10_does_221 : decode cX10_does 221 = .ok (.iaload, 1) := by decide +kernel
theorem dX10_does_222 : decode cX10_does 222 = .ok (.aload_n 0, 1) := by decide +kernel
theorem dX10_does_223 : decode cX10_does 223 = .ok (.getfield 57, 3) := by decide +kernel
theorem dX10_does_226 : decode cX10_does 226 = .ok (.iload_n 2, 1) := by decide +kernel
theorem dX10_does_227 : decode cX10_does 227 = .ok (.iconst 5, 1) := by decide +kernel
theorem dX10_does_228 : decode cX10_does 228 = .ok (.iadd, 1) := by decide +kernel
theorem dX10_does_229 : decode cX10_does 229 = .ok (.iaload, 1) := by decide +kernel
theorem dX10_does_230 : decode cX10_does 230 = .ok (.invokevirtual 343, 3) := by decide +kernel
theorem dX10_does_233 : decode cX10_does 233 = .ok (.ifCond .lt 7, 3) := by decide +kernel
theorem dX10_does_236 : decode cX10_does 236 = .ok (.iconst 1, 1) := by decide +kernel
theorem dX10_does_237 : decode cX10_does 237 = .ok (.goto 4, 3) := by decide +kernel
theorem dX10_does_240 : decode cX10_does 240 = .ok (.iconst 0, 1) := by decide +kernel
theorem dX10_does_241 : decode cX10_does 241 = .ok (.ireturn, 1) := by decide +kernel
theorem dX10_story_0 : decode cX10_story 0 = .ok (.aload_n 0, 1) := by decide +kernel
theorem dX10_story_1 : decode cX10_story 1 = .ok (.iconst 0, 1) := by decide +kernel
theorem dX10_story_2 : decode cX10_story 2 = .ok (.putfield 103, 3) := by decide +kernel
theorem dX10_story_5 : decode cX10_story 5 = .ok (.aload_n 0, 1) := by decide +kernel
theorem dX10_story_6 : decode cX10_story 6 = .ok (.bipush 60, 2) := by decide +kernel
theorem dX10_story_8 : decode cX10_story 8 = .ok (.invokevirtual 184, 3) := by decide +kernel
theorem dX10_story_11 : decode cX10_story 11 = .ok (.istore_n 1, 1) := by decide +kernel
theorem dX10_story_12 : decode cX10_story 12 = .ok (.aload_n 0, 1) := by decide +kernel
theorem dX10_story_13 : decode cX10_story 13 = .ok (.iconst 0, 1) := by decide +kernel
theorem dX10_story_14 : decode cX10_story 14 = .ok (.putfield 360, 3) := by decide +kernel
theorem dX10_story_17 : decode cX10_story 17 = .ok (.iconst 1, 1) := by decide +kernel
theorem dX10_story_18 : decode cX10_story 18 = .ok (.istore_n 2, 1) := by decide +kernel
theorem dX10_story_19 : decode cX10_story 19 = .ok (.iload_n 2, 1) := by decide +kernel
theorem dX10_story_20 : decode cX10_story 20 = .ok (.ifCond .eq 22, 3) := by decide +kernel
theorem dX10_story_23 : decode cX10_story 23 = .ok (.aload_n 0, 1) := by decide +kernel
theorem dX10_story_24 : decode cX10_story 24 = .ok (.getfield 148, 3) := by decide +kernel
theorem dX10_story_27 : decode cX10_story 27 = .ok (.aload_n 0, 1) := by decide +kernel
theorem dX10_story_28 : decode cX10_story 28 = .ok (.getfield 160, 3) := by decide +kernel
theorem dX10_story_31 : decode cX10_story 31 = .ok (.if_icmp .ge 11, 3) := by decide +kernel
theorem dX10_story_34 : decode cX10_story 34 = .ok (.aload_n 0, 1) := by decide +kernel
theorem dX10_story_35 : decode cX10_story 35 = .ok (.invokevirtual 365, 3) := by decide +kernel
theorem dX10_story_38 : decode cX10_story 38 = .ok (.istore_n 2, 1) := by decide +kernel
theorem dX10_story_39 : decode cX10_story 39 = .ok (.goto (-20), 3) := by decide +kernel
theorem dX10_story_42 : decode cX10_story 42 = .ok (.aload_n 0, 1) := by decide +kernel
theorem dX10_story_43 : decode cX10_story 43 = .ok (.iload_n 1, 1) := by decide +kernel
theorem dX10_story_44 : decode cX10_story 44 = .ok (.bipush 60, 2) := by decide +kernel
theorem dX10_story_46 : decode cX10_story 46 = .ok (.iload_n 2, 1) := by decide +kernel
theorem dX10_story_47 : decode cX10_story 47 = .ok (.invokevirtual 210, 3) := by decide +kernel
theorem dX10_story_50 : decode cX10_story 50 = .ok (.istore_n 3, 1) := by decide +kernel
theorem dX10_story_51 : decode cX10_story 51 = .ok (.iload_n 3, 1) := by decide +kernel
theorem dX10_story_52 : decode cX10_story 52 = .ok (.ifCond .ge 5, 3) := by decide +kernel
theorem dX10_story_55 : decode cX10_story 55 = .ok (.iload_n 3, 1) := by decide +kernel
theorem dX10_story_56 : decode cX10_story 56 = .ok (.ireturn, 1) := by decide +kernel
theorem dX10_story_57 : decode cX10_story 57 = .ok (.aload_n 0, 1) := by decide +kernel
theorem dX10_story_58 : decode cX10_story 58 = .ok (.invokevirtual 333, 3) := by decide +kernel
theorem dX10_story_61 : decode cX10_story 61 = .ok (.iconst 0, 1) := by decide +kernel
theorem dX10_story_62 : decode cX10_story 62 = .ok (.istore 4, 2) := by decide +kernel
theorem dX10_story_64 : decode cX10_story 64 = .ok (.iload 4, 2) := by decide +kernel
theorem dX10_story_66 : decode cX10_story 66 = .ok (.aload_n 0, 1) := by decide +kernel
theorem dX10_story_67 : decode cX10_story 67 = .ok (.getfield 360, 3) := by decide +kernel
theorem dX10_story_70 : decode cX10_story 70 = .ok (.if_icmp .ge 18, 3) := by decide +kernel
theorem dX10_story_73 : decode cX10_story 73 = .ok (.aload_n 0, 1) := by decide +kernel
theorem dX10_story_74 : decode cX10_story 74 = .ok (.iload 4, 2) := by decide +kernel
theorem dX10_story_76 : decode cX10_story 76 = .ok (.invokevirtual 368, 3) := by decide +kernel
theorem dX10_story_79 : decode cX10_story 79 = .ok (.ifCond .eq 9, 3) := by decide +kernel
theorem dX10_story_82 : decode cX10_story 82 = .ok (.iinc 4 1, 3) := by decide +kernel
theorem dX10_story_85 : decode cX10_story 85 = .ok (.goto (-21), 3) := by decide +kernel
theorem dX10_story_88 : decode cX10_story 88 = .ok (.aload_n 0, 1) := by decide +kernel
theorem dX10_story_89 : decode cX10_story 89 = .ok (.iconst 0, 1) := by decide +kernel
theorem dX10_story_90 : decode cX10_story 90 = .ok (.putfield 110, 3) := by decide +kernel
theorem dX10_story_93 : decode cX10_story 93 = .ok (.aload_n 0, 1) := by decide +kernel
theorem dX10_story_94 : decode cX10_story 94 = .ok (.iload 4, 2) := by decide +kernel
theorem dX10_story_96 : decode cX10_story 96 = .ok (.aload_n 0, 1) := by decide +kernel
theorem dX10_story_97 : decode cX10_story 97 = .ok (.getfield 360, 3) := by decide +kernel
theorem dX10_story_100 : decode cX10_story 100 = .ok (.if_icmp .ge 7, 3) := by decide +kernel
theorem dX10_story_103 : decode cX10_story 103 = .ok (.iconst 1, 1) := by decide +kernel
theorem dX10_story_104 : decode cX10_story 104 = .ok (.goto 4, 3) := by decide +kernel
theorem dX10_story_107 : decode cX10_story 107 = .ok (.iconst 0, 1) := by decide +kernel
theorem dX10_story_108 : decode cX10_story 108 = .ok (.invokestatic 163, 3) := by decide +kernel
theorem dX10_story_111 : decode cX10_story 111 = .ok (.i2l, 1) := by decide +kernel
theorem dX10_story_112 : decode cX10_story 112 = .ok (.invokevirtual 339, 3) := by decide +kernel
theorem dX10_story_115 : decode cX10_story 115 = .ok (.aload_n 0, 1) := by decide +kernel
theorem dX10_story_116 : decode cX10_story 116 = .ok (.aload_n 0, 1) := by decide +kernel
theorem dX10_story_117 : decode cX10_story 117 = .ok (.getfield 20, 3) := by decide +kernel
theorem dX10_story_120 : decode cX10_story 120 = .ok (.bipush 49, 2) := by decide +kernel
theorem dX10_story_122 : decode cX10_story 122 = .ok (.iaload, 1) := by decide +kernel
theorem dX10_story_123 : decode cX10_story 123 = .ok (.i2l, 1) := by decide +kernel
theorem dX10_story_124 : decode cX10_story 124 = .ok (.invokevirtual 339, 3) := by decide +kernel
theorem dX10_story_127 : decode cX10_story 127 = .ok (.iload 4, 2) := by decide +kernel
theorem dX10_story_129 : decode cX10_story 129 = .ok (.ifCond .le 12, 3) := by decide +kernel
theorem dX10_story_132 : decode cX10_story 132 = .ok (.aload_n 0, 1) := by decide +kernel
theorem dX10_story_133 : decode cX10_story 133 = .ok (.iload 4, 2) := by decide +kernel
theorem dX10_story_135 : decode cX10_story 135 = .ok (.invokevirtual 308, 3) := by decide +kernel
theorem dX10_story_138 : decode cX10_story 138 = .ok (.goto 4, 3) := by decide +kernel
theorem dX10_story_141 : decode cX10_story 141 = .ok (.iconst 0, 1) := by decide +kernel
theorem dX10_story_142 : decode cX10_story 142 = .ok (.ireturn, 1) := by decide +kernel
theorem dX10_copies_0 : decode cX10_copies 0 = .ok (.iconst 0, 1) := by decide +kernel
theorem dX10_copies_1 : decode cX10_copies 1 = .ok (.istore_n 1, 1) := by decide +kernel
theorem dX10_copies_2 : decode cX10_copies 2 = .ok (.iload_n 1, 1) := by decide +kernel
theorem dX10_copies_3 : decode cX10_copies 3 = .ok (.bipush 51, 2) := by decide +kernel
theorem dX10_copies_5 : decode cX10_copies 5 = .ok (.if_icmp .ge 21, 3) := by decide +kernel
theorem dX10_copies_8 : decode cX10_copies 8 = .ok (.aload_n 0, 1) := by decide +kernel
theorem dX10_copies_9 : decode cX10_copies 9 = .ok (.getfield 24, 3) := by decide +kernel
theorem dX10_copies_12 : decode cX10_copies 12 = .ok (.iload_n 1, 1) := by decide +kernel
theorem dX10_copies_13 : decode cX10_copies 13 = .ok (.aload_n 0, 1) := by decide +kernel
theorem dX10_copies_14 : decode cX10_copies 14 = .ok (.getfield 20, 3) := by decide +kernel
theorem dX10_copies_17 : decode cX10_copies 17 = .ok (.iload_n 1, 1) := by decide +kernel
theorem dX10_copies_18 : decode cX10_copies 18 = .ok (.iaload, 1) := by decide +kernel
theorem dX10_copies_19 : decode cX10_copies 19 = .ok (.iastore, 1) := by decide +kernel
theorem dX10_copies_20 : decode cX10_copies 20 = .ok (.iinc 1 1, 3) := by decide +kernel
theorem dX10_copies_23 : decode cX10_copies 23 = .ok (.goto (-21), 3) := by decide +kernel
theorem dX10_copies_26 : decode cX10_copies 26 = .ok (.return_, 1) := by decide +kernel
theorem dX10_slept_0 : decode cX10_slept 0 = .ok (.aload_n 0, 1) := by decide +kernel
theorem dX10_slept_1 : decode cX10_slept 1 = .ok (.iconst 0, 1) := by decide +kernel
theorem dX10_slept_2 : decode cX10_slept 2 = .ok (.putfield 103, 3) := by decide +kernel
theorem dX10_slept_5 : decode cX10_slept 5 = .ok (.aload_n 0, 1) := by decide +kernel
theorem dX10_slept_6 : decode cX10_slept 6 = .ok (.aload_n 0, 1) := by decide +kernel
theorem dX10_slept_7 : decode cX10_slept 7 = .ok (.getfield 20, 3) := by decide +kernel
theorem dX10_slept_10 : decode cX10_slept 10 = .ok (.sipush 255, 3) := by decide +kernel
theorem dX10_slept_13 : decode cX10_slept 13 = .ok (.invokevirtual 328, 3) := by decide +kernel
theorem dX10_slept_16 : decode cX10_slept 16 = .ok (.lstore_n 1, 1) := by decide +kernel
theorem dX10_slept_17 : decode cX10_slept 17 = .ok (.iconst (-1), 1) := by decide +kernel
theorem dX10_slept_18 : decode cX10_slept 18 = .ok (.istore_n 3, 1) := by decide +kernel
theorem dX10_slept_19 : decode cX10_slept 19 = .ok (.iconst 0, 1) := by decide +kernel
theorem dX10_slept_20 : decode cX10_slept 20 = .ok (.istore 4, 2) := by decide +kernel
theorem dX10_slept_22 : decode cX10_slept 22 = .ok (.iconst 0, 1) := by decide +kernel
theorem dX10_slept_23 : decode cX10_slept 23 = .ok (.istore 5, 2) := by decide +kernel
theorem dX10_slept_25 : decode cX10_slept 25 = .ok (.iload 5, 2) := by decide +kernel
theorem dX10_slept_27 : decode cX10_slept 27 = .ok (.aload_n 0, 1) := by decide +kernel
theorem dX10_slept_28 : decode cX10_slept 28 = .ok (.invokevirtual 113, 3) := by decide +kernel
theorem dX10_slept_31 : decode cX10_slept 31 = .ok (.if_icmp .ge 47, 3) := by decide +kernel
theorem dX10_slept_34 : decode cX10_slept 34 = .ok (.aload_n 0, 1) := by decide +kernel
theorem dX10_slept_35 : decode cX10_slept 35 = .ok (.aload_n 0, 1) := by decide +kernel
theorem dX10_slept_36 : decode cX10_slept 36 = .ok (.getfield 20, 3) := by decide +kernel
theorem dX10_slept_39 : decode cX10_slept 39 = .ok (.iload 5, 2) := by decide +kernel
theorem dX10_slept_41 : decode cX10_slept 41 = .ok (.invokevirtual 294, 3) := by decide +kernel
theorem dX10_slept_44 : decode cX10_slept 44 = .ok (.invokestatic 264, 3) := by decide +kernel
theorem dX10_slept_47 : decode cX10_slept 47 = .ok (.istore 6, 2) := by decide +kernel
theorem dX10_slept_49 : decode cX10_slept 49 = .ok (.iload 6, 2) := by decide +kernel
theorem dX10_slept_51 : decode cX10_slept 51 = .ok (.iload 4, 2) := by decide +kernel
theorem dX10_slept_53 : decode cX10_slept 53 = .ok (.if_icmp .le 8, 3) := by decide +kernel
theorem dX10_slept_56 : decode cX10_slept 56 = .ok (.iload 5, 2) := by decide +kernel
theorem dX10_slept_58 : decode cX10_slept 58 = .ok (.goto 4, 3) := by decide +kernel
theorem dX10_slept_61 : decode cX10_slept 61 = .ok (.iload_n 3, 1) := by decide +kernel
theorem dX10_slept_62 : decode cX10_slept 62 = .ok (.istore_n 3, 1) := by decide +kernel
theorem dX10_slept_63 : decode cX10_slept 63 = .ok (.iload 4, 2) := by decide +kernel
theorem dX10_slept_65 : decode cX10_slept 65 = .ok (.iload 6, 2) := by decide +kernel
theorem dX10_slept_67 : decode cX10_slept 67 = .ok (.invokestatic 272, 3) := by decide +kernel
theorem dX10_slept_70 : decode cX10_slept 70 = .ok (.istore 4, 2) := by decide +kernel
theorem dX10_slept_72 : decode cX10_slept 72 = .ok (.iinc 5 1, 3) := by decide +kernel
theorem dX10_slept_75 : decode cX10_slept 75 = .ok (.goto (-50), 3) := by decide +kernel
theorem dX10_slept_78 : decode cX10_slept 78 = .ok (.aload_n 0, 1) := by decide +kernel
theorem dX10_slept_79 : decode cX10_slept 79 = .ok (.iconst 0, 1) := by decide +kernel
theorem dX10_slept_80 : decode cX10_slept 80 = .ok (.putfield 110, 3) := by decide +kernel
theorem dX10_slept_83 : decode cX10_slept 83 = .ok (.aload_n 0, 1) := by decide +kernel
theorem dX10_slept_84 : decode cX10_slept 84 = .ok (.lload_n 1, 1) := by decide +kernel
theorem dX10_slept_85 : decode cX10_slept 85 = .ok (.invokestatic 371, 3) := by decide +kernel
theorem dX10_slept_88 : decode cX10_slept 88 = .ok (.i2l, 1) := by decide +kernel
theorem dX10_slept_89 : decode cX10_slept 89 = .ok (.invokevirtual 339, 3) := by decide +kernel
theorem dX10_slept_92 : decode cX10_slept 92 = .ok (.aload_n 0, 1) := by decide +kernel
theorem dX10_slept_93 : decode cX10_slept 93 = .ok (.iload 4, 2) := by decide +kernel
theorem dX10_slept_95 : decode cX10_slept 95 = .ok (.i2l, 1) := by decide +kernel
theorem dX10_slept_96 : decode cX10_slept 96 = .ok (.invokevirtual 339, 3) := by decide +kernel
theorem dX10_slept_99 : decode cX10_slept 99 = .ok (.aload_n 0, 1) := by decide +kernel
theorem dX10_slept_100 : decode cX10_slept 100 = .ok (.iload_n 3, 1) := by decide +kernel
theorem dX10_slept_101 : decode cX10_slept 101 = .ok (.i2l, 1) := by decide +kernel
theorem dX10_slept_102 : decode cX10_slept 102 = .ok (.invokevirtual 339, 3) := by decide +kernel
theorem dX10_slept_105 : decode cX10_slept 105 = .ok (.lload_n 1, 1) := by decide +kernel
theorem dX10_slept_106 : decode cX10_slept 106 = .ok (.lreturn, 1) := by decide +kernel
theorem dX10_crosses_0 : decode cX10_crosses 0 = .ok (.aload_n 0, 1) := by decide +kernel
theorem dX10_crosses_1 : decode cX10_crosses 1 = .ok (.iconst 0, 1) := by decide +kernel
theorem dX10_crosses_2 : decode cX10_crosses 2 = .ok (.putfield 103, 3) := by decide +kernel
theorem dX10_crosses_5 : decode cX10_crosses 5 = .ok (.iconst 0, 1) := by decide +kernel
theorem dX10_crosses_6 : decode cX10_crosses 6 = .ok (.istore_n 1, 1) := by decide +kernel
theorem dX10_crosses_7 : decode cX10_crosses 7 = .ok (.iconst (-1), 1) := by decide +kernel
theorem dX10_crosses_8 : decode cX10_crosses 8 = .ok (.istore_n 2, 1) := by decide +kernel
theorem dX10_crosses_9 : decode cX10_crosses 9 = .ok (.iconst (-1), 1) := by decide +kernel
theorem dX10_crosses_10 : decode cX10_crosses 10 = .ok (.istore_n 3, 1) := by decide +kernel
theorem dX10_crosses_11 : decode cX10_crosses 11 = .ok (.iconst 0, 1) := by decide +kernel
theorem dX10_crosses_12 : decode cX10_crosses 12 = .ok (.istore 4, 2) := by decide +kernel
theorem dX10_crosses_14 : decode cX10_crosses 14 = .ok (.iload 4, 2) := by decide +kernel
theorem dX10_crosses_16 : decode cX10_crosses 16 = .ok (.aload_n 0, 1) := by decide +kernel
theorem dX10_crosses_17 : decode cX10_crosses 17 = .ok (.getfield 20, 3) := by decide +kernel
theorem dX10_crosses_20 : decode cX10_crosses 20 = .ok (.bipush 48, 2) := by decide +kernel
theorem dX10_crosses_22 : decode cX10_crosses 22 = .ok (.iaload, 1) := by decide +kernel
theorem dX10_crosses_23 : decode cX10_crosses 23 = .ok (.if_icmp .ge 72, 3) := by decide +kernel
theorem dX10_crosses_26 : decode cX10_crosses 26 = .ok (.aload_n 0, 1) := by decide +kernel
theorem dX10_crosses_27 : decode cX10_crosses 27 = .ok (.aload_n 0, 1) := by decide +kernel
theorem dX10_crosses_28 : decode cX10_crosses 28 = .ok (.getfield 20, 3) := by decide +kernel
theorem dX10_crosses_31 : decode cX10_crosses 31 = .ok (.iload 4, 2) := by decide +kernel
theorem dX10_crosses_33 : decode cX10_crosses 33 = .ok (.invokevirtual 260, 3) := by decide +kernel
theorem dX10_crosses_36 : decode cX10_crosses 36 = .ok (.iload 4, 2) := by decide +kernel
theorem dX10_crosses_38 : decode cX10_crosses 38 = .ok (.ishr, 1) := by decide +kernel
theorem dX10_crosses_39 : decode cX10_crosses 39 = .ok (.iload 4, 2) := by decide +kernel
theorem dX10_crosses_41 : decode cX10_crosses 41 = .ok (.ishl, 1) := by decide +kernel
theorem dX10_crosses_42 : decode cX10_crosses 42 = .ok (.istore 5, 2) := by decide +kernel
theorem dX10_crosses_44 : decode cX10_crosses 44 = .ok (.iload_n 2, 1) := by decide +kernel
theorem dX10_crosses_45 : decode cX10_crosses 45 = .ok (.ifCond .ge 13, 3) := by decide +kernel
theorem dX10_crosses_48 : decode cX10_crosses 48 = .ok (.iload 5, 2) := by decide +kernel
theorem dX10_crosses_50 : decode cX10_crosses 50 = .ok (.ifCond .eq 8, 3) := by decide +kernel
theorem dX10_crosses_53 : decode cX10_crosses 53 = .ok (.iload 4, 2) := by decide +kernel
theorem dX10_crosses_55 : decode cX10_crosses 55 = .ok (.goto 4, 3) := by decide +kernel
theorem dX10_crosses_58 : decode cX10_crosses 58 = .ok (.iload_n 2, 1) := by decide +kernel
theorem dX10_crosses_59 : decode cX10_crosses 59 = .ok (.istore_n 2, 1) := by decide +kernel
theorem dX10_crosses_60 : decode cX10_crosses 60 = .ok (.iload_n 2, 1) := by decide +kernel
theorem dX10_crosses_61 : decode cX10_crosses 61 = .ok (.iload 4, 2) := by decide +kernel
theorem dX10_crosses_63 : decode cX10_crosses 63 = .ok (.if_icmp .ne 16, 3) := by decide +kernel
theorem dX10_crosses_66 : decode cX10_crosses 66 = .ok (.iload 5, 2) := by decide +kernel
theorem dX10_crosses_68 : decode cX10_crosses 68 = .ok (.ifCond .eq 11, 3) := by decide +kernel
theorem dX10_crosses_71 : decode cX10_crosses 71 = .ok (.iload 5, 2) := by decide +kernel
theorem dX10_crosses_73 : decode cX10_crosses 73 = .ok (.invokestatic 376, 3) := by decide +kernel
theorem dX10_crosses_76 : decode cX10_crosses 76 = .ok (.goto 4, 3) := by decide +kernel
theorem dX10_crosses_79 : decode cX10_crosses 79 = .ok (.iload_n 3, 1) := by decide +kernel
theorem dX10_crosses_80 : decode cX10_crosses 80 = .ok (.istore_n 3, 1) := by decide +kernel
theorem dX10_crosses_81 : decode cX10_crosses 81 = .ok (.iload_n 1, 1) := by decide +kernel
theorem dX10_crosses_82 : decode cX10_crosses 82 = .ok (.iload 5, 2) := by decide +kernel
theorem dX10_crosses_84 : decode cX10_crosses 84 = .ok (.invokestatic 264, 3) := by decide +kernel
theorem dX10_crosses_87 : decode cX10_crosses 87 = .ok (.iadd, 1) := by decide +kernel
theorem dX10_crosses_88 : decode cX10_crosses 88 = .ok (.istore_n 1, 1) := by decide +kernel
theorem dX10_crosses_89 : decode cX10_crosses 89 = .ok (.iinc 4 1, 3) := by decide +kernel
theorem dX10_crosses_92 : decode cX10_crosses 92 = .ok (.goto (-78), 3) := by decide +kernel
theorem dX10_crosses_95 : decode cX10_crosses 95 = .ok (.iconst 0, 1) := by decide +kernel
theorem dX10_crosses_96 : decode cX10_crosses 96 = .ok (.istore 4, 2) := by decide +kernel
theorem dX10_crosses_98 : decode cX10_crosses 98 = .ok (.iconst 0, 1) := by decide +kernel
theorem dX10_crosses_99 : decode cX10_crosses 99 = .ok (.istore 5, 2) := by decide +kernel
theorem dX10_crosses_101 : decode cX10_crosses 101 = .ok (.iload 5, 2) := by decide +kernel
theorem dX10_crosses_103 : decode cX10_crosses 103 = .ok (.aload_n 0, 1) := by decide +kernel
theorem dX10_crosses_104 : decode cX10_crosses 104 = .ok (.invokevirtual 113, 3) := by decide +kernel
theorem dX10_crosses_107 : decode cX10_crosses 107 = .ok (.if_icmp .ge 39, 3) := by decide +kernel
theorem dX10_crosses_110 : decode cX10_crosses 110 = .ok (.iload 4, 2) := by decide +kernel
theorem dX10_crosses_112 : decode cX10_crosses 112 = .ok (.aload_n 0, 1) := by decide +kernel
theorem dX10_crosses_113 : decode cX10_crosses 113 = .ok (.aload_n 0, 1) := by decide +kernel
theorem dX10_crosses_114 : decode cX10_crosses 114 = .ok (.getfield 20, 3) := by decide +kernel
theorem dX10_crosses_117 : decode cX10_crosses 117 = .ok (.iload 5, 2) := by decide +kernel
theorem dX10_crosses_119 : decode cX10_crosses 119 = .ok (.invokevirtual 294, 3) := by decide +kernel
theorem dX10_crosses_122 : decode cX10_crosses 122 = .ok (.invokestatic 264, 3) := by decide +kernel
theorem dX10_crosses_125 : decode cX10_crosses 125 = .ok (.iconst 1, 1) := by decide +kernel
theorem dX10_crosses_126 : decode cX10_crosses 126 = .ok (.if_icmp .le 7, 3) := by decide +kernel
theorem dX10_crosses_129 : decode cX10_crosses 129 = .ok (.iconst 1, 1) := by decide +kernel
theorem dX10_crosses_130 : decode cX10_crosses 130 = .ok (.goto 4, 3) := by decide +kernel
theorem dX10_crosses_133 : decode cX10_crosses 133 = .ok (.iconst 0, 1) := by decide +kernel
theorem dX10_crosses_134 : decode cX10_crosses 134 = .ok (.invokestatic 163, 3) := by decide +kernel
theorem dX10_crosses_137 : decode cX10_crosses 137 = .ok (.iadd, 1) := by decide +kernel
theorem dX10_crosses_138 : decode cX10_crosses 138 = .ok (.istore 4, 2) := by decide +kernel
theorem dX10_crosses_140 : decode cX10_crosses 140 = .ok (.iinc 5 1, 3) := by decide +kernel
theorem dX10_crosses_143 : decode cX10_crosses 143 = .ok (.goto (-42), 3) := by decide +kernel
theorem dX10_crosses_146 : decode cX10_crosses 146 = .ok (.aload_n 0, 1) := by decide +kernel
theorem dX10_crosses_147 : decode cX10_crosses 147 = .ok (.iconst 0, 1) := by decide +kernel
theorem dX10_crosses_148 : decode cX10_crosses 148 = .ok (.putfield 110, 3) := by decide +kernel
theorem dX10_crosses_151 : decode cX10_crosses 151 = .ok (.aload_n 0, 1) := by decide +kernel
theorem dX10_crosses_152 : decode cX10_crosses 152 = .ok (.iload 4, 2) := by decide +kernel
theorem dX10_crosses_154 : decode cX10_crosses 154 = .ok (.i2l, 1) := by decide +kernel
theorem dX10_crosses_155 : decode cX10_crosses 155 = .ok (.invokevirtual 339, 3) := by decide +kernel
theorem dX10_crosses_158 : decode cX10_crosses 158 = .ok (.iload_n 1, 1) := by decide +kernel
theorem dX10_crosses_159 : decode cX10_crosses 159 = .ok (.ifCond .le 15, 3) := by decide +kernel
theorem dX10_crosses_162 : decode cX10_crosses 162 = .ok (.aload_n 0, 1) := by decide +kernel
theorem dX10_crosses_163 : decode cX10_crosses 163 = .ok (.iload_n 2, 1) := by decide +kernel
theorem dX10_crosses_164 : decode cX10_crosses 164 = .ok (.i2l, 1) := by decide +kernel
theorem dX10_crosses_165 : decode cX10_crosses 165 = .ok (.invokevirtual 339, 3) := by decide +kernel
theorem dX10_crosses_168 : decode cX10_crosses 168 = .ok (.aload_n 0, 1) := by decide +kernel
theorem dX10_crosses_169 : decode cX10_crosses 169 = .ok (.iload_n 3, 1) := by decide +kernel
theorem dX10_crosses_170 : decode cX10_crosses 170 = .ok (.i2l, 1) := by decide +kernel
theorem dX10_crosses_171 : decode cX10_crosses 171 = .ok (.invokevirtual 339, 3) := by decide +kernel
theorem dX10_crosses_174 : decode cX10_crosses 174 = .ok (.iload_n 1, 1) := by decide +kernel
theorem dX10_crosses_175 : decode cX10_crosses 175 = .ok (.ireturn, 1) := by decide +kernel
theorem dX10_heap_0 : decode cX10_heap 0 = .ok (.aload_n 0, 1) := by decide +kernel
theorem dX10_heap_1 : decode cX10_heap 1 = .ok (.iconst 0, 1) := by decide +kernel
theorem dX10_heap_2 : decode cX10_heap 2 = .ok (.putfield 103, 3) := by decide +kernel
theorem dX10_heap_5 : decode cX10_heap 5 = .ok (.aload_n 0, 1) := by decide +kernel
theorem dX10_heap_6 : decode cX10_heap 6 = .ok (.iload_n 1, 1) := by decide +kernel
theorem dX10_heap_7 : decode cX10_heap 7 = .ok (.invokevirtual 278, 3) := by decide +kernel
theorem dX10_heap_10 : decode cX10_heap 10 = .ok (.ifCond .ne 5, 3) := by decide +kernel
theorem dX10_heap_13 : decode cX10_heap 13 = .ok (.iconst (-1), 1) := by decide +kernel
theorem dX10_heap_14 : decode cX10_heap 14 = .ok (.ireturn, 1) := by decide +kernel
theorem dX10_heap_15 : decode cX10_heap 15 = .ok (.aload_n 0, 1) := by decide +kernel
theorem dX10_heap_16 : decode cX10_heap 16 = .ok (.getfield 20, 3) := by decide +kernel
theorem dX10_heap_19 : decode cX10_heap 19 = .ok (.iload_n 1, 1) := by decide +kernel
theorem dX10_heap_20 : decode cX10_heap 20 = .ok (.invokestatic 129, 3) := by decide +kernel
theorem dX10_heap_23 : decode cX10_heap 23 = .ok (.ifCond .ne 6, 3) := by decide +kernel
theorem dX10_heap_26 : decode cX10_heap 26 = .ok (.bipush (-2), 2) := by decide +kernel
theorem dX10_heap_28 : decode cX10_heap 28 = .ok (.ireturn, 1) := by decide +kernel
theorem dX10_heap_29 : decode cX10_heap 29 = .ok (.iconst 1, 1) := by decide +kernel
theorem dX10_heap_30 : decode cX10_heap 30 = .ok (.iload_n 1, 1) := by decide +kernel
theorem dX10_heap_31 : decode cX10_heap 31 = .ok (.ishl, 1) := by decide +kernel
theorem dX10_heap_32 : decode cX10_heap 32 = .ok (.istore_n 2, 1) := by decide +kernel
theorem dX10_heap_33 : decode cX10_heap 33 = .ok (.iconst 0, 1) := by decide +kernel
theorem dX10_heap_34 : decode cX10_heap 34 = .ok (.istore_n 3, 1) := by decide +kernel
theorem dX10_heap_35 : decode cX10_heap 35 = .ok (.iload_n 3, 1) := by decide +kernel
theorem dX10_heap_36 : decode cX10_heap 36 = .ok (.bipush 8, 2) := by decide +kernel
theorem dX10_heap_38 : decode cX10_heap 38 = .ok (.if_icmp .ge 65, 3) := by decide +kernel
theorem dX10_heap_41 : decode cX10_heap 41 = .ok (.iload_n 2, 1) := by decide +kernel
theorem dX10_heap_42 : decode cX10_heap 42 = .ok (.istore 4, 2) := by decide +kernel
theorem dX10_heap_44 : decode cX10_heap 44 = .ok (.iconst 0, 1) := by decide +kernel
theorem dX10_heap_45 : decode cX10_heap 45 = .ok (.istore 5, 2) := by decide +kernel
theorem dX10_heap_47 : decode cX10_heap 47 = .ok (.iload 5, 2) := by decide +kernel
theorem dX10_heap_49 : decode cX10_heap 49 = .ok (.aload_n 0, 1) := by decide +kernel
theorem dX10_heap_50 : decode cX10_heap 50 = .ok (.getfield 20, 3) := by decide +kernel
theorem dX10_heap_53 : decode cX10_heap 53 = .ok (.bipush 48, 2) := by decide +kernel
theorem dX10_heap_55 : decode cX10_heap 55 = .ok (.iaload, 1) := by decide +kernel
theorem dX10_heap_56 : decode cX10_heap 56 = .ok (.if_icmp .ge 38, 3) := by decide +kernel
theorem dX10_heap_59 : decode cX10_heap 59 = .ok (.iload 4, 2) := by decide +kernel
theorem dX10_heap_61 : decode cX10_heap 61 = .ok (.iload_n 2, 1) := by decide +kernel
theorem dX10_heap_62 : decode cX10_heap 62 = .ok (.i2l, 1) := by decide +kernel
theorem dX10_heap_63 : decode cX10_heap 63 = .ok (.iload 5, 2) := by decide +kernel
theorem dX10_heap_65 : decode cX10_heap 65 = .ok (.invokestatic 137, 3) := by decide +kernel
theorem dX10_heap_68 : decode cX10_heap 68 = .ok (.ifCond .eq 16, 3) := by decide +kernel
theorem dX10_heap_71 : decode cX10_heap 71 = .ok (.aload_n 0, 1) := by decide +kernel
theorem dX10_heap_72 : decode cX10_heap 72 = .ok (.aload_n 0, 1) := by decide +kernel
theorem dX10_heap_73 : decode cX10_heap 73 = .ok (.getfield 20, 3) := by decide +kernel
theorem dX10_heap_76 : decode cX10_heap 76 = .ok (.iload 5, 2) := by decide +kernel
theorem dX10_heap_78 : decode cX10_heap 78 = .ok (.invokevirtual 260, 3) := by decide +kernel
theorem dX10_heap_81 : decode cX10_heap 81 = .ok (.goto 4, 3) := by decide +kernel
theorem dX10_heap_84 : decode cX10_heap 84 = .ok (.iconst 0, 1) := by decide +kernel
theorem dX10_heap_85 : decode cX10_heap 85 = .ok (.ior, 1) := by decide +kernel
theorem dX10_heap_86 : decode cX10_heap 86 = .ok (.istore 4, 2) := by decide +kernel
theorem dX10_heap_88 : decode cX10_heap 88 = .ok (.iinc 5 1, 3) := by decide +kernel
theorem dX10_heap_91 : decode cX10_heap 91 = .ok (.goto (-44), 3) := by decide +kernel
theorem dX10_heap_94 : decode cX10_heap 94 = .ok (.iload 4, 2) := by decide +kernel
theorem dX10_heap_96 : decode cX10_heap 96 = .ok (.istore_n 2, 1) := by decide +kernel
theorem dX10_heap_97 : decode cX10_heap 97 = .ok (.iinc 3 1, 3) := by decide +kernel
theorem dX10_heap_100 : decode cX10_heap 100 = .ok (.goto (-65), 3) := by decide +kernel
theorem dX10_heap_103 : decode cX10_heap 103 = .ok (.aload_n 0, 1) := by decide +kernel
theorem dX10_heap_104 : decode cX10_heap 104 = .ok (.iconst 0, 1) := by decide +kernel
theorem dX10_heap_105 : decode cX10_heap 105 = .ok (.putfield 110, 3) := by decide +kernel
theorem dX10_heap_108 : decode cX10_heap 108 = .ok (.aload_n 0, 1) := by decide +kernel
theorem dX10_heap_109 : decode cX10_heap 109 = .ok (.iload_n 2, 1) := by decide +kernel
theorem dX10_heap_110 : decode cX10_heap 110 = .ok (.invokestatic 264, 3) := by decide +kernel
theorem dX10_heap_113 : decode cX10_heap 113 = .ok (.i2l, 1) := by decide +kernel
theorem dX10_heap_114 : decode cX10_heap 114 = .ok (.invokevirtual 339, 3) := by decide +kernel
theorem dX10_heap_117 : decode cX10_heap 117 = .ok (.aload_n 0, 1) := by decide +kernel
theorem dX10_heap_118 : decode cX10_heap 118 = .ok (.aload_n 0, 1) := by decide +kernel
theorem dX10_heap_119 : decode cX10_heap 119 = .ok (.aload_n 0, 1) := by decide +kernel
theorem dX10_heap_120 : decode cX10_heap 120 = .ok (.getfield 20, 3) := by decide +kernel
theorem dX10_heap_123 : decode cX10_heap 123 = .ok (.iload_n 2, 1) := by decide +kernel
theorem dX10_heap_124 : decode cX10_heap 124 = .ok (.invokevirtual 328, 3) := by decide +kernel
theorem dX10_heap_127 : decode cX10_heap 127 = .ok (.invokevirtual 339, 3) := by decide +kernel
theorem dX10_heap_130 : decode cX10_heap 130 = .ok (.iload_n 2, 1) := by decide +kernel
theorem dX10_heap_131 : decode cX10_heap 131 = .ok (.ireturn, 1) := by decide +kernel
theorem dX10_gone_0 : decode cX10_gone 0 = .ok (.aload_n 0, 1) := by decide +kernel
theorem dX10_gone_1 : decode cX10_gone 1 = .ok (.iconst 0, 1) := by decide +kernel
theorem dX10_gone_2 : decode cX10_gone 2 = .ok (.putfield 103, 3) := by decide +kernel
theorem dX10_gone_5 : decode cX10_gone 5 = .ok (.aload_n 0, 1) := by decide +kernel
theorem dX10_gone_6 : decode cX10_gone 6 = .ok (.iload_n 1, 1) := by decide +kernel
theorem dX10_gone_7 : decode cX10_gone 7 = .ok (.invokevirtual 278, 3) := by decide +kernel
theorem dX10_gone_10 : decode cX10_gone 10 = .ok (.ifCond .ne 5, 3) := by decide +kernel
theorem dX10_gone_13 : decode cX10_gone 13 = .ok (.iconst (-1), 1) := by decide +kernel
theorem dX10_gone_14 : decode cX10_gone 14 = .ok (.ireturn, 1) := by decide +kernel
theorem dX10_gone_15 : decode cX10_gone 15 = .ok (.aload_n 0, 1) := by decide +kernel
theorem dX10_gone_16 : decode cX10_gone 16 = .ok (.invokevirtual 379, 3) := by decide +kernel
theorem dX10_gone_19 : decode cX10_gone 19 = .ok (.iconst 0, 1) := by decide +kernel
theorem dX10_gone_20 : decode cX10_gone 20 = .ok (.istore_n 2, 1) := by decide +kernel
theorem dX10_gone_21 : decode cX10_gone 21 = .ok (.iload_n 2, 1) := by decide +kernel
theorem dX10_gone_22 : decode cX10_gone 22 = .ok (.bipush 99, 2) := by decide +kernel
theorem dX10_gone_24 : decode cX10_gone 24 = .ok (.if_icmp .gt 46, 3) := by decide +kernel
theorem dX10_gone_27 : decode cX10_gone 27 = .ok (.aload_n 0, 1) := by decide +kernel
theorem dX10_gone_28 : decode cX10_gone 28 = .ok (.getfield 24, 3) := by decide +kernel
theorem dX10_gone_31 : decode cX10_gone 31 = .ok (.iload_n 1, 1) := by decide +kernel
theorem dX10_gone_32 : decode cX10_gone 32 = .ok (.invokestatic 129, 3) := by decide +kernel
theorem dX10_gone_35 : decode cX10_gone 35 = .ok (.ifCond .ne 21, 3) := by decide +kernel
theorem dX10_gone_38 : decode cX10_gone 38 = .ok (.aload_n 0, 1) := by decide +kernel
theorem dX10_gone_39 : decode cX10_gone 39 = .ok (.iconst 0, 1) := by decide +kernel
theorem dX10_gone_40 : decode cX10_gone 40 = .ok (.putfield 110, 3) := by decide +kernel
theorem dX10_gone_43 : decode cX10_gone 43 = .ok (.aload_n 0, 1) := by decide +kernel
theorem dX10_gone_44 : decode cX10_gone 44 = .ok (.aload_n 0, 1) := by decide +kernel
theorem dX10_gone_45 : decode cX10_gone 45 = .ok (.getfield 24, 3) := by decide +kernel
theorem dX10_gone_48 : decode cX10_gone 48 = .ok (.iload_n 1, 1) := by decide +kernel
theorem dX10_gone_49 : decode cX10_gone 49 = .ok (.iaload, 1) := by decide +kernel
theorem dX10_gone_50 : decode cX10_gone 50 = .ok (.i2l, 1) := by decide +kernel
theorem dX10_gone_51 : decode cX10_gone 51 = .ok (.invokevirtual 339, 3) := by decide +kernel
theorem dX10_gone_54 : decode cX10_gone 54 = .ok (.iload_n 2, 1) := by decide +kernel
theorem dX10_gone_55 : decode cX10_gone 55 = .ok (.ireturn, 1) := by decide +kernel
theorem dX10_gone_56 : decode cX10_gone 56 = .ok (.aload_n 0, 1) := by decide +kernel
theorem dX10_gone_57 : decode cX10_gone 57 = .ok (.aload_n 0, 1) := by decide +kernel
theorem dX10_gone_58 : decode cX10_gone 58 = .ok (.getfield 24, 3) := by decide +kernel
theorem dX10_gone_61 : decode cX10_gone 61 = .ok (.invokevirtual 318, 3) := by decide +kernel
theorem dX10_gone_64 : decode cX10_gone 64 = .ok (.iinc 2 1, 3) := by decide +kernel
theorem dX10_gone_67 : decode cX10_gone 67 = .ok (.goto (-46), 3) := by decide +kernel
theorem dX10_gone_70 : decode cX10_gone 70 = .ok (.bipush (-2), 2) := by decide +kernel
theorem dX10_gone_72 : decode cX10_gone 72 = .ok (.ireturn, 1) := by decide +kernel
theorem dX10_lies_0 : decode cX10_lies 0 = .ok (.aload_n 0, 1) := by decide +kernel
theorem dX10_lies_1 : decode cX10_lies 1 = .ok (.iconst 0, 1) := by decide +kernel
theorem dX10_lies_2 : decode cX10_lies 2 = .ok (.putfield 103, 3) := by decide +kernel
theorem dX10_lies_5 : decode cX10_lies 5 = .ok (.aload_n 0, 1) := by decide +kernel
theorem dX10_lies_6 : decode cX10_lies 6 = .ok (.iload_n 1, 1) := by decide +kernel
theorem dX10_lies_7 : decode cX10_lies 7 = .ok (.invokevirtual 278, 3) := by decide +kernel
theorem dX10_lies_10 : decode cX10_lies 10 = .ok (.ifCond .eq 15, 3) := by decide +kernel
theorem dX10_lies_13 : decode cX10_lies 13 = .ok (.iload_n 2, 1) := by decide +kernel
theorem dX10_lies_14 : decode cX10_lies 14 = .ok (.i2l, 1) := by decide +kernel
theorem dX10_lies_15 : decode cX10_lies 15 = .ok (.lconst 0, 1) := by decide +kernel
theorem dX10_lies_16 : decode cX10_lies 16 = .ok (.ldc2_w 382, 3) := by decide +kernel
theorem dX10_lies_19 : decode cX10_lies 19 = .ok (.invokestatic 117, 3) := by decide +kernel
theorem dX10_lies_22 : decode cX10_lies 22 = .ok (.ifCond .ne 5, 3) := by decide +kernel
theorem dX10_lies_25 : decode cX10_lies 25 = .ok (.iconst (-1), 1) := by decide +kernel
theorem dX10_lies_26 : decode cX10_lies 26 = .ok (.ireturn, 1) := by decide +kernel
theorem dX10_lies_27 : decode cX10_lies 27 = .ok (.aload_n 0, 1) := by decide +kernel
theorem dX10_lies_28 : decode cX10_lies 28 = .ok (.invokevirtual 379, 3) := by decide +kernel
theorem dX10_lies_31 : decode cX10_lies 31 = .ok (.aload_n 0, 1) := by decide +kernel
theorem dX10_lies_32 : decode cX10_lies 32 = .ok (.aload_n 0, 1) := by decide +kernel
theorem dX10_lies_33 : decode cX10_lies 33 = .ok (.getfield 24, 3) := by decide +kernel
theorem dX10_lies_36 : decode cX10_lies 36 = .ok (.iload_n 2, 1) := by decide +kernel
theorem dX10_lies_37 : decode cX10_lies 37 = .ok (.invokevirtual 336, 3) := by decide +kernel
theorem dX10_lies_40 : decode cX10_lies 40 = .ok (.aload_n 0, 1) := by decide +kernel
theorem dX10_lies_41 : decode cX10_lies 41 = .ok (.iconst 0, 1) := by decide +kernel
theorem dX10_lies_42 : decode cX10_lies 42 = .ok (.putfield 110, 3) := by decide +kernel
theorem dX10_lies_45 : decode cX10_lies 45 = .ok (.aload_n 0, 1) := by decide +kernel
theorem dX10_lies_46 : decode cX10_lies 46 = .ok (.aload_n 0, 1) := by decide +kernel
theorem dX10_lies_47 : decode cX10_lies 47 = .ok (.getfield 24, 3) := by decide +kernel
theorem dX10_lies_50 : decode cX10_lies 50 = .ok (.bipush 24, 2) := by decide +kernel
theorem dX10_lies_52 : decode cX10_lies 52 = .ok (.iload_n 1, 1) := by decide +kernel
theorem dX10_lies_53 : decode cX10_lies 53 = .ok (.iadd, 1) := by decide +kernel
theorem dX10_lies_54 : decode cX10_lies 54 = .ok (.iaload, 1) := by decide +kernel
theorem dX10_lies_55 : decode cX10_lies 55 = .ok (.i2l, 1) := by decide +kernel
theorem dX10_lies_56 : decode cX10_lies 56 = .ok (.invokevirtual 339, 3) := by decide +kernel
theorem dX10_lies_59 : decode cX10_lies 59 = .ok (.aload_n 0, 1) := by decide +kernel
theorem dX10_lies_60 : decode cX10_lies 60 = .ok (.aload_n 0, 1) := by decide +kernel
theorem dX10_lies_61 : decode cX10_lies 61 = .ok (.getfield 24, 3) := by decide +kernel
theorem dX10_lies_64 : decode cX10_lies 64 = .ok (.invokestatic 311, 3) := by decide +kernel
theorem dX10_lies_67 : decode cX10_lies 67 = .ok (.i2l, 1) := by decide +kernel
theorem dX10_lies_68 : decode cX10_lies 68 = .ok (.invokevirtual 339, 3) := by decide +kernel
theorem dX10_lies_71 : decode cX10_lies 71 = .ok (.aload_n 0, 1) := by decide +kernel
theorem dX10_lies_72 : decode cX10_lies 72 = .ok (.getfield 24, 3) := by decide +kernel
theorem dX10_lies_75 : decode cX10_lies 75 = .ok (.iload_n 1, 1) := by decide +kernel
theorem dX10_lies_76 : decode cX10_lies 76 = .ok (.iaload, 1) := by decide +kernel
theorem dX10_lies_77 : decode cX10_lies 77 = .ok (.ireturn, 1) := by decide +kernel
theorem dX10_clears_0 : decode cX10_clears 0 = .ok (.aload_n 0, 1) := by decide +kernel
theorem dX10_clears_1 : decode cX10_clears 1 = .ok (.iconst 0, 1) := by decide +kernel
theorem dX10_clears_2 : decode cX10_clears 2 = .ok (.putfield 103, 3) := by decide +kernel
theorem dX10_clears_5 : decode cX10_clears 5 = .ok (.aload_n 0, 1) := by decide +kernel
theorem dX10_clears_6 : decode cX10_clears 6 = .ok (.iload_n 1, 1) := by decide +kernel
theorem dX10_clears_7 : decode cX10_clears 7 = .ok (.invokevirtual 289, 3) := by decide +kernel
theorem dX10_clears_10 : decode cX10_clears 10 = .ok (.ifCond .ne 5, 3) := by decide +kernel
theorem dX10_clears_13 : decode cX10_clears 13 = .ok (.iconst (-1), 1) := by decide +kernel
theorem dX10_clears_14 : decode cX10_clears 14 = .ok (.ireturn, 1) := by decide +kernel
theorem dX10_clears_15 : decode cX10_clears 15 = .ok (.aload_n 0, 1) := by decide +kernel
theorem dX10_clears_16 : decode cX10_clears 16 = .ok (.invokevirtual 379, 3) := by decide +kernel
theorem dX10_clears_19 : decode cX10_clears 19 = .ok (.bipush (-2), 2) := by decide +kernel
theorem dX10_clears_21 : decode cX10_clears 21 = .ok (.istore_n 2, 1) := by decide +kernel
theorem dX10_clears_22 : decode cX10_clears 22 = .ok (.iconst 0, 1) := by decide +kernel
theorem dX10_clears_23 : decode cX10_clears 23 = .ok (.istore_n 3, 1) := by decide +kernel
theorem dX10_clears_24 : decode cX10_clears 24 = .ok (.iconst 0, 1) := by decide +kernel
theorem dX10_clears_25 : decode cX10_clears 25 = .ok (.istore 4, 2) := by decide +kernel
theorem dX10_clears_27 : decode cX10_clears 27 = .ok (.iload 4, 2) := by decide +kernel
theorem dX10_clears_29 : decode cX10_clears 29 = .ok (.bipush 99, 2) := by decide +kernel
theorem dX10_clears_31 : decode cX10_clears 31 = .ok (.if_icmp .gt 60, 3) := by decide +kernel
theorem dX10_clears_34 : decode cX10_clears 34 = .ok (.aload_n 0, 1) := by decide +kernel
theorem dX10_clears_35 : decode cX10_clears 35 = .ok (.aload_n 0, 1) := by decide +kernel
theorem dX10_clears_36 : decode cX10_clears 36 = .ok (.getfield 24, 3) := by decide +kernel
theorem dX10_clears_39 : decode cX10_clears 39 = .ok (.iload_n 1, 1) := by decide +kernel
theorem dX10_clears_40 : decode cX10_clears 40 = .ok (.invokevirtual 294, 3) := by decide +kernel
theorem dX10_clears_43 : decode cX10_clears 43 = .ok (.ifCond .eq 7, 3) := by decide +kernel
theorem dX10_clears_46 : decode cX10_clears 46 = .ok (.iconst 1, 1) := by decide +kernel
theorem dX10_clears_47 : decode cX10_clears 47 = .ok (.goto 4, 3) := by decide +kernel
theorem dX10_clears_50 : decode cX10_clears 50 = .ok (.iconst 0, 1) := by decide +kernel
theorem dX10_clears_51 : decode cX10_clears 51 = .ok (.istore 5, 2) := by decide +kernel
theorem dX10_clears_53 : decode cX10_clears 53 = .ok (.iload 5, 2) := by decide +kernel
theorem dX10_clears_55 : decode cX10_clears 55 = .ok (.ifCond .ne 12, 3) := by decide +kernel
theorem dX10_clears_58 : decode cX10_clears 58 = .ok (.iload_n 2, 1) := by decide +kernel
theorem dX10_clears_59 : decode cX10_clears 59 = .ok (.ifCond .ge 8, 3) := by decide +kernel
theorem dX10_clears_62 : decode cX10_clears 62 = .ok (.iload 4, 2) := by decide +kernel
theorem dX10_clears_64 : decode cX10_clears 64 = .ok (.goto 4, 3) := by decide +kernel
theorem dX10_clears_67 : decode cX10_clears 67 = .ok (.iload_n 2, 1) := by decide +kernel
theorem dX10_clears_68 : decode cX10_clears 68 = .ok (.istore_n 2, 1) := by decide +kernel
theorem dX10_clears_69 : decode cX10_clears 69 = .ok (.iload_n 3, 1) := by decide +kernel
theorem dX10_clears_70 : decode cX10_clears 70 = .ok (.iload 5, 2) := by decide +kernel
theorem dX10_clears_72 : decode cX10_clears 72 = .ok (.invokestatic 163, 3) := by decide +kernel
theorem dX10_clears_75 : decode cX10_clears 75 = .ok (.iadd, 1) := by decide +kernel
theorem dX10_clears_76 : decode cX10_clears 76 = .ok (.istore_n 3, 1) := by decide +kernel
theorem dX10_clears_77 : decode cX10_clears 77 = .ok (.aload_n 0, 1) := by decide +kernel
theorem dX10_clears_78 : decode cX10_clears 78 = .ok (.aload_n 0, 1) := by decide +kernel
theorem dX10_clears_79 : decode cX10_clears 79 = .ok (.getfield 24, 3) := by decide +kernel
theorem dX10_clears_82 : decode cX10_clears 82 = .ok (.invokevirtual 318, 3) := by decide +kernel
theorem dX10_clears_85 : decode cX10_clears 85 = .ok (.iinc 4 1, 3) := by decide +kernel
theorem dX10_clears_88 : decode cX10_clears 88 = .ok (.goto (-61), 3) := by decide +kernel
theorem dX10_clears_91 : decode cX10_clears 91 = .ok (.iload_n 2, 1) := by decide +kernel
theorem dX10_clears_92 : decode cX10_clears 92 = .ok (.ifCond .lt 14, 3) := by decide +kernel
theorem dX10_clears_95 : decode cX10_clears 95 = .ok (.aload_n 0, 1) := by decide +kernel
theorem dX10_clears_96 : decode cX10_clears 96 = .ok (.iconst 0, 1) := by decide +kernel
theorem dX10_clears_97 : decode cX10_clears 97 = .ok (.putfield 110, 3) := by decide +kernel
theorem dX10_clears_100 : decode cX10_clears 100 = .ok (.aload_n 0, 1) := by decide +kernel
theorem dX10_clears_101 : decode cX10_clears 101 = .ok (.iload_n 3, 1) := by decide +kernel
theorem dX10_clears_102 : decode cX10_clears 102 = .ok (.i2l, 1) := by decide +kernel
theorem dX10_clears_103 : decode cX10_clears 103 = .ok (.invokevirtual 339, 3) := by decide +kernel
theorem dX10_clears_106 : decode cX10_clears 106 = .ok (.iload_n 2, 1) := by decide +kernel
theorem dX10_clears_107 : decode cX10_clears 107 = .ok (.ireturn, 1) := by decide +kernel
theorem dX10_isSize_0 : decode cX10_isSize 0 = .ok (.iload_n 0, 1) := by decide +kernel
theorem dX10_isSize_1 : decode cX10_isSize 1 = .ok (.i2l, 1) := by decide +kernel
theorem dX10_isSize_2 : decode cX10_isSize 2 = .ok (.lconst 1, 1) := by decide +kernel
theorem dX10_isSize_3 : decode cX10_isSize 3 = .ok (.ldc2_w 303, 3) := by decide +kernel
theorem dX10_isSize_6 : decode cX10_isSize 6 = .ok (.invokestatic 117, 3) := by decide +kernel
theorem dX10_isSize_9 : decode cX10_isSize 9 = .ok (.ifCond .eq 19, 3) := by decide +kernel
theorem dX10_isSize_12 : decode cX10_isSize 12 = .ok (.iload_n 1, 1) := by decide +kernel
theorem dX10_isSize_13 : decode cX10_isSize 13 = .ok (.i2l, 1) := by decide +kernel
theorem dX10_isSize_14 : decode cX10_isSize 14 = .ok (.lconst 1, 1) := by decide +kernel
theorem dX10_isSize_15 : decode cX10_isSize 15 = .ok (.ldc2_w 303, 3) := by decide +kernel
theorem dX10_isSize_18 : decode cX10_isSize 18 = .ok (.invokestatic 117, 3) := by decide +kernel
theorem dX10_isSize_21 : decode cX10_isSize 21 = .ok (.ifCond .eq 7, 3) := by decide +kernel
theorem dX10_isSize_24 : decode cX10_isSize 24 = .ok (.iconst 1, 1) := by decide +kernel
theorem dX10_isSize_25 : decode cX10_isSize 25 = .ok (.goto 4, 3) := by decide +kernel
theorem dX10_isSize_28 : decode cX10_isSize 28 = .ok (.iconst 0, 1) := by decide +kernel
theorem dX10_isSize_29 : decode cX10_isSize 29 = .ok (.ireturn, 1) := by decide +kernel
theorem dX10_roomOf_0 : decode cX10_roomOf 0 = .ok (.bipush (-2), 2) := by decide +kernel
theorem dX10_roomOf_2 : decode cX10_roomOf 2 = .ok (.istore 5, 2) := by decide +kernel
theorem dX10_roomOf_4 : decode cX10_roomOf 4 = .ok (.iconst 0, 1) := by decide +kernel
theorem dX10_roomOf_5 : decode cX10_roomOf 5 = .ok (.istore 6, 2) := by decide +kernel
theorem dX10_roomOf_7 : decode cX10_roomOf 7 = .ok (.aload_n 0, 1) := by decide +kernel
theorem dX10_roomOf_8 : decode cX10_roomOf 8 = .ok (.invokevirtual 113, 3) := by decide +kernel
theorem dX10_roomOf_11 : decode cX10_roomOf 11 = .ok (.iconst 1, 1) := by decide +kernel
theorem dX10_roomOf_12 : decode cX10_roomOf 12 = .ok (.isub, 1) := by decide +kernel
theorem dX10_roomOf_13 : decode cX10_roomOf 13 = .ok (.istore 7, 2) := by decide +kernel
theorem dX10_roomOf_15 : decode cX10_roomOf 15 = .ok (.iload 7, 2) := by decide +kernel
theorem dX10_roomOf_17 : decode cX10_roomOf 17 = .ok (.ifCond .lt 68, 3) := by decide +kernel
theorem dX10_roomOf_20 : decode cX10_roomOf 20 = .ok (.aload_n 0, 1) := by decide +kernel
theorem dX10_roomOf_21 : decode cX10_roomOf 21 = .ok (.iload 7, 2) := by decide +kernel
theorem dX10_roomOf_23 : decode cX10_roomOf 23 = .ok (.iload_n 3, 1) := by decide +kernel
theorem dX10_roomOf_24 : decode cX10_roomOf 24 = .ok (.iload 4, 2) := by decide +kernel
theorem dX10_roomOf_26 : decode cX10_roomOf 26 = .ok (.invokevirtual 324, 3) := by decide +kernel
theorem dX10_roomOf_29 : decode cX10_roomOf 29 = .ok (.ifCond .eq 23, 3) := by decide +kernel
theorem dX10_roomOf_32 : decode cX10_roomOf 32 = .ok (.aload_n 0, 1) := by decide +kernel
theorem dX10_roomOf_33 : decode cX10_roomOf 33 = .ok (.iload 7, 2) := by decide +kernel
theorem dX10_roomOf_35 : decode cX10_roomOf 35 = .ok (.iload_n 3, 1) := by decide +kernel
theorem dX10_roomOf_36 : decode cX10_roomOf 36 = .ok (.iload 4, 2) := by decide +kernel
theorem dX10_roomOf_38 : decode cX10_roomOf 38 = .ok (.invokevirtual 125, 3) := by decide +kernel
theorem dX10_roomOf_41 : decode cX10_roomOf 41 = .ok (.lload_n 1, 1) := by decide +kernel
theorem dX10_roomOf_42 : decode cX10_roomOf 42 = .ok (.land, 1) := by decide +kernel
theorem dX10_roomOf_43 : decode cX10_roomOf 43 = .ok (.lconst 0, 1) := by decide +kernel
theorem dX10_roomOf_44 : decode cX10_roomOf 44 = .ok (.lcmp, 1) := by decide +kernel
theorem dX10_roomOf_45 : decode cX10_roomOf 45 = .ok (.ifCond .ne 7, 3) := by decide +kernel
theorem dX10_roomOf_48 : decode cX10_roomOf 48 = .ok (.iconst 1, 1) := by decide +kernel
theorem dX10_roomOf_49 : decode cX10_roomOf 49 = .ok (.goto 4, 3) := by decide +kernel
theorem dX10_roomOf_52 : decode cX10_roomOf 52 = .ok (.iconst 0, 1) := by decide +kernel
theorem dX10_roomOf_53 : decode cX10_roomOf 53 = .ok (.istore 8, 2) := by decide +kernel
theorem dX10_roomOf_55 : decode cX10_roomOf 55 = .ok (.iload 8, 2) := by decide +kernel
theorem dX10_roomOf_57 : decode cX10_roomOf 57 = .ok (.ifCond .eq 8, 3) := by decide +kernel
theorem dX10_roomOf_60 : decode cX10_roomOf 60 = .ok (.iload 7, 2) := by decide +kernel
theorem dX10_roomOf_62 : decode cX10_roomOf 62 = .ok (.goto 5, 3) := by decide +kernel
theorem dX10_roomOf_65 : decode cX10_roomOf 65 = .ok (.iload 5, 2) := by decide +kernel
theorem dX10_roomOf_67 : decode cX10_roomOf 67 = .ok (.istore 5, 2) := by decide +kernel
theorem dX10_roomOf_69 : decode cX10_roomOf 69 = .ok (.iload 6, 2) := by decide +kernel
theorem dX10_roomOf_71 : decode cX10_roomOf 71 = .ok (.iload 8, 2) := by decide +kernel
theorem dX10_roomOf_73 : decode cX10_roomOf 73 = .ok (.invokestatic 163, 3) := by decide +kernel
theorem dX10_roomOf_76 : decode cX10_roomOf 76 = .ok (.iadd, 1) := by decide +kernel
theorem dX10_roomOf_77 : decode cX10_roomOf 77 = .ok (.istore 6, 2) := by decide +kernel
theorem dX10_roomOf_79 : decode cX10_roomOf 79 = .ok (.iinc 7 (-1), 3) := by decide +kernel
theorem dX10_roomOf_82 : decode cX10_roomOf 82 = .ok (.goto (-67), 3) := by decide +kernel
theorem dX10_roomOf_85 : decode cX10_roomOf 85 = .ok (.iload 5, 2) := by decide +kernel
theorem dX10_roomOf_87 : decode cX10_roomOf 87 = .ok (.ifCond .lt 15, 3) := by decide +kernel
theorem dX10_roomOf_90 : decode cX10_roomOf 90 = .ok (.aload_n 0, 1) := by decide +kernel
theorem dX10_roomOf_91 : decode cX10_roomOf 91 = .ok (.iconst 0, 1) := by decide +kernel
theorem dX10_roomOf_92 : decode cX10_roomOf 92 = .ok (.putfield 110, 3) := by decide +kernel
theorem dX10_roomOf_95 : decode cX10_roomOf 95 = .ok (.aload_n 0, 1) := by decide +kernel
theorem dX10_roomOf_96 : decode cX10_roomOf 96 = .ok (.iload 6, 2) := by decide +kernel
theorem dX10_roomOf_98 : decode cX10_roomOf 98 = .ok (.i2l, 1) := by decide +kernel
theorem dX10_roomOf_99 : decode cX10_roomOf 99 = .ok (.invokevirtual 339, 3) := by decide +kernel
theorem dX10_roomOf_102 : decode cX10_roomOf 102 = .ok (.iload 5, 2) := by decide +kernel
theorem dX10_roomOf_104 : decode cX10_roomOf 104 = .ok (.ireturn, 1) := by decide +kernel
theorem dX10_room_0 : decode cX10_room 0 = .ok (.aload_n 0, 1) := by decide +kernel
theorem dX10_room_1 : decode cX10_room 1 = .ok (.iconst 0, 1) := by decide +kernel
theorem dX10_room_2 : decode cX10_room 2 = .ok (.putfield 103, 3) := by decide +kernel
theorem dX10_room_5 : decode cX10_room 5 = .ok (.iload_n 1, 1) := by decide +kernel
theorem dX10_room_6 : decode cX10_room 6 = .ok (.iload_n 2, 1) := by decide +kernel
theorem dX10_room_7 : decode cX10_room 7 = .ok (.invokestatic 384, 3) := by decide +kernel
theorem dX10_room_10 : decode cX10_room 10 = .ok (.ifCond .eq 23, 3) := by decide +kernel
theorem dX10_room_13 : decode cX10_room 13 = .ok (.aload_n 0, 1) := by decide +kernel
theorem dX10_room_14 : decode cX10_room 14 = .ok (.aload_n 0, 1) := by decide +kernel
theorem dX10_room_15 : decode cX10_room 15 = .ok (.aload_n 0, 1) := by decide +kernel
theorem dX10_room_16 : decode cX10_room 16 = .ok (.getfield 20, 3) := by decide +kernel
theorem dX10_room_19 : decode cX10_room 19 = .ok (.sipush 255, 3) := by decide +kernel
theorem dX10_room_22 : decode cX10_room 22 = .ok (.invokevirtual 328, 3) := by decide +kernel
theorem dX10_room_25 : decode cX10_room 25 = .ok (.iload_n 1, 1) := by decide +kernel
theorem dX10_room_26 : decode cX10_room 26 = .ok (.iload_n 2, 1) := by decide +kernel
theorem dX10_room_27 : decode cX10_room 27 = .ok (.invokevirtual 388, 3) := by decide +kernel
theorem dX10_room_30 : decode cX10_room 30 = .ok (.goto 4, 3) := by decide +kernel
theorem dX10_room_33 : decode cX10_room 33 = .ok (.iconst (-1), 1) := by decide +kernel
theorem dX10_room_34 : decode cX10_room 34 = .ok (.ireturn, 1) := by decide +kernel
theorem dX10_when_0 : decode cX10_when 0 = .ok (.aload_n 0, 1) := by decide +kernel
theorem dX10_when_1 : decode cX10_when 1 = .ok (.iconst 0, 1) := by decide +kernel
theorem dX10_when_2 : decode cX10_when 2 = .ok (.putfield 103, 3) := by decide +kernel
theorem dX10_when_5 : decode cX10_when 5 = .ok (.iload_n 1, 1) := by decide +kernel
theorem dX10_when_6 : decode cX10_when 6 = .ok (.iload_n 2, 1) := by decide +kernel
theorem dX10_when_7 : decode cX10_when 7 = .ok (.invokestatic 384, 3) := by decide +kernel
theorem dX10_when_10 : decode cX10_when 10 = .ok (.ifCond .ne 5, 3) := by decide +kernel
theorem dX10_when_13 : decode cX10_when 13 = .ok (.iconst (-1), 1) := by decide +kernel
theorem dX10_when_14 : decode cX10_when 14 = .ok (.ireturn, 1) := by decide +kernel
theorem dX10_when_15 : decode cX10_when 15 = .ok (.aload_n 0, 1) := by decide +kernel
theorem dX10_when_16 : decode cX10_when 16 = .ok (.invokevirtual 379, 3) := by decide +kernel
theorem dX10_when_19 : decode cX10_when 19 = .ok (.iconst 0, 1) := by decide +kernel
theorem dX10_when_20 : decode cX10_when 20 = .ok (.istore_n 3, 1) := by decide +kernel
theorem dX10_when_21 : decode cX10_when 21 = .ok (.iload_n 3, 1) := by decide +kernel
theorem dX10_when_22 : decode cX10_when 22 = .ok (.bipush 99, 2) := by decide +kernel
theorem dX10_when_24 : decode cX10_when 24 = .ok (.if_icmp .gt 55, 3) := by decide +kernel
theorem dX10_when_27 : decode cX10_when 27 = .ok (.aload_n 0, 1) := by decide +kernel
theorem dX10_when_28 : decode cX10_when 28 = .ok (.aload_n 0, 1) := by decide +kernel
theorem dX10_when_29 : decode cX10_when 29 = .ok (.aload_n 0, 1) := by decide +kernel
theorem dX10_when_30 : decode cX10_when 30 = .ok (.getfield 24, 3) := by decide +kernel
theorem dX10_when_33 : decode cX10_when 33 = .ok (.sipush 255, 3) := by decide +kernel
theorem dX10_when_36 : decode cX10_when 36 = .ok (.invokevirtual 328, 3) := by decide +kernel
theorem dX10_when_39 : decode cX10_when 39 = .ok (.iload_n 1, 1) := by decide +kernel
theorem dX10_when_40 : decode cX10_when 40 = .ok (.iload_n 2, 1) := by decide +kernel
theorem dX10_when_41 : decode cX10_when 41 = .ok (.invokevirtual 388, 3) := by decide +kernel
theorem dX10_when_44 : decode cX10_when 44 = .ok (.istore 4, 2) := by decide +kernel
theorem dX10_when_46 : decode cX10_when 46 = .ok (.iload 4, 2) := by decide +kernel
theorem dX10_when_48 : decode cX10_when 48 = .ok (.ifCond .lt 17, 3) := by decide +kernel
theorem dX10_when_51 : decode cX10_when 51 = .ok (.aload_n 0, 1) := by decide +kernel
theorem dX10_when_52 : decode cX10_when 52 = .ok (.iconst 0, 1) := by decide +kernel
theorem dX10_when_53 : decode cX10_when 53 = .ok (.putfield 110, 3) := by decide +kernel
theorem dX10_when_56 : decode cX10_when 56 = .ok (.aload_n 0, 1) := by decide +kernel
theorem dX10_when_57 : decode cX10_when 57 = .ok (.iload 4, 2) := by decide +kernel
theorem dX10_when_59 : decode cX10_when 59 = .ok (.i2l, 1) := by decide +kernel
theorem dX10_when_60 : decode cX10_when 60 = .ok (.invokevirtual 339, 3) := by decide +kernel
theorem dX10_when_63 : decode cX10_when 63 = .ok (.iload_n 3, 1) := by decide +kernel
theorem dX10_when_64 : decode cX10_when 64 = .ok (.ireturn, 1) := by decide +kernel
theorem dX10_when_65 : decode cX10_when 65 = .ok (.aload_n 0, 1) := by decide +kernel
theorem dX10_when_66 : decode cX10_when 66 = .ok (.aload_n 0, 1) := by decide +kernel
theorem dX10_when_67 : decode cX10_when 67 = .ok (.getfield 24, 3) := by decide +kernel
theorem dX10_when_70 : decode cX10_when 70 = .ok (.invokevirtual 318, 3) := by decide +kernel
theorem dX10_when_73 : decode cX10_when 73 = .ok (.iinc 3 1, 3) := by decide +kernel
theorem dX10_when_76 : decode cX10_when 76 = .ok (.goto (-55), 3) := by decide +kernel
theorem dX10_when_79 : decode cX10_when 79 = .ok (.bipush (-2), 2) := by decide +kernel
theorem dX10_when_81 : decode cX10_when 81 = .ok (.ireturn, 1) := by decide +kernel
theorem dX10_least_0 : decode cX10_least 0 = .ok (.aload_n 0, 1) := by decide +kernel
theorem dX10_least_1 : decode cX10_least 1 = .ok (.iconst 0, 1) := by decide +kernel
theorem dX10_least_2 : decode cX10_least 2 = .ok (.putfield 103, 3) := by decide +kernel
theorem dX10_least_5 : decode cX10_least 5 = .ok (.iload_n 1, 1) := by decide +kernel
theorem dX10_least_6 : decode cX10_least 6 = .ok (.iload_n 2, 1) := by decide +kernel
theorem dX10_least_7 : decode cX10_least 7 = .ok (.invokestatic 384, 3) := by decide +kernel
theorem dX10_least_10 : decode cX10_least 10 = .ok (.ifCond .ne 5, 3) := by decide +kernel
theorem dX10_least_13 : decode cX10_least 13 = .ok (.iconst (-1), 1) := by decide +kernel
theorem dX10_least_14 : decode cX10_least 14 = .ok (.ireturn, 1) := by decide +kernel
theorem dX10_least_15 : decode cX10_least 15 = .ok (.bipush (-2), 2) := by decide +kernel
theorem dX10_least_17 : decode cX10_least 17 = .ok (.istore_n 3, 1) := by decide +kernel
theorem dX10_least_18 : decode cX10_least 18 = .ok (.ldc_w 392, 3) := by decide +kernel
theorem dX10_least_21 : decode cX10_least 21 = .ok (.istore 4, 2) := by decide +kernel
theorem dX10_least_23 : decode cX10_least 23 = .ok (.iconst 0, 1) := by decide +kernel
theorem dX10_least_24 : decode cX10_least 24 = .ok (.istore 5, 2) := by decide +kernel
theorem dX10_least_26 : decode cX10_least 26 = .ok (.iload 5, 2) := by decide +kernel
theorem dX10_least_28 : decode cX10_least 28 = .ok (.aload_n 0, 1) := by decide +kernel
theorem dX10_least_29 : decode cX10_least 29 = .ok (.invokevirtual 113, 3) := by decide +kernel
theorem dX10_least_32 : decode cX10_least 32 = .ok (.if_icmp .ge 96, 3) := by decide +kernel
theorem dX10_least_35 : decode cX10_least 35 = .ok (.aload_n 0, 1) := by decide +kernel
theorem dX10_least_36 : decode cX10_least 36 = .ok (.iload 5, 2) := by decide +kernel
theorem dX10_least_38 : decode cX10_least 38 = .ok (.iload_n 1, 1) := by decide +kernel
theorem dX10_least_39 : decode cX10_least 39 = .ok (.iload_n 2, 1) := by decide +kernel
theorem dX10_least_40 : decode cX10_least 40 = .ok (.invokevirtual 324, 3) := by decide +kernel
theorem dX10_least_43 : decode cX10_least 43 = .ok (.ifCond .eq 79, 3) := by decide +kernel
theorem dX10_least_46 : decode cX10_least 46 = .ok (.iconst 0, 1) := by decide +kernel
theorem dX10_least_47 : decode cX10_least 47 = .ok (.istore 6, 2) := by decide +kernel
theorem dX10_least_49 : decode cX10_least 49 = .ok (.iconst 0, 1) := by decide +kernel
theorem dX10_least_50 : decode cX10_least 50 = .ok (.istore 7, 2) := by decide +kernel
theorem dX10_least_52 : decode cX10_least 52 = .ok (.iload 7, 2) := by decide +kernel
theorem dX10_least_54 : decode cX10_least 54 = .ok (.aload_n 0, 1) := by decide +kernel
theorem dX10_least_55 : decode cX10_least 55 = .ok (.invokevirtual 113, 3) := by decide +kernel
theorem dX10_least_58 : decode cX10_least 58 = .ok (.if_icmp .ge 41, 3) := by decide +kernel
theorem dX10_least_61 : decode cX10_least 61 = .ok (.iload 6, 2) := by decide +kernel
theorem dX10_least_63 : decode cX10_least 63 = .ok (.aload_n 0, 1) := by decide +kernel
theorem dX10_least_64 : decode cX10_least 64 = .ok (.iload 5, 2) := by decide +kernel
theorem dX10_least_66 : decode cX10_least 66 = .ok (.iload_n 1, 1) := by decide +kernel
theorem dX10_least_67 : decode cX10_least 67 = .ok (.iload_n 2, 1) := by decide +kernel
theorem dX10_least_68 : decode cX10_least 68 = .ok (.iload 7, 2) := by decide +kernel
theorem dX10_least_70 : decode cX10_least 70 = .ok (.invokevirtual 121, 3) := by decide +kernel
theorem dX10_least_73 : decode cX10_least 73 = .ok (.ifCond .eq 16, 3) := by decide +kernel
theorem dX10_least_76 : decode cX10_least 76 = .ok (.aload_n 0, 1) := by decide +kernel
theorem dX10_least_77 : decode cX10_least 77 = .ok (.aload_n 0, 1) := by decide +kernel
theorem dX10_least_78 : decode cX10_least 78 = .ok (.getfield 20, 3) := by decide +kernel
theorem dX10_least_81 : decode cX10_least 81 = .ok (.iload 7, 2) := by decide +kernel
theorem dX10_least_83 : decode cX10_least 83 = .ok (.invokevirtual 297, 3) := by decide +kernel
theorem dX10_least_86 : decode cX10_least 86 = .ok (.goto 4, 3) := by decide +kernel
theorem dX10_least_89 : decode cX10_least 89 = .ok (.iconst 0, 1) := by decide +kernel
theorem dX10_least_90 : decode cX10_least 90 = .ok (.iadd, 1) := by decide +kernel
theorem dX10_least_91 : decode cX10_least 91 = .ok (.istore 6, 2) := by decide +kernel
theorem dX10_least_93 : decode cX10_least 93 = .ok (.iinc 7 1, 3) := by decide +kernel
theorem dX10_least_96 : decode cX10_least 96 = .ok (.goto (-44), 3) := by decide +kernel
theorem dX10_least_99 : decode cX10_least 99 = .ok (.iload 6, 2) := by decide +kernel
theorem dX10_least_101 : decode cX10_least 101 = .ok (.iload 4, 2) := by decide +kernel
theorem dX10_least_103 : decode cX10_least 103 = .ok (.if_icmp .ge 8, 3) := by decide +kernel
theorem dX10_least_106 : decode cX10_least 106 = .ok (.iload 5, 2) := by decide +kernel
theorem dX10_least_108 : decode cX10_least 108 = .ok (.goto 4, 3) := by decide +kernel
theorem dX10_least_111 : decode cX10_least 111 = .ok (.iload_n 3, 1) := by decide +kernel
theorem dX10_least_112 : decode cX10_least 112 = .ok (.istore_n 3, 1) := by decide +kernel
theorem dX10_least_113 : decode cX10_least 113 = .ok (.iload 4, 2) := by decide +kernel
theorem dX10_least_115 : decode cX10_least 115 = .ok (.iload 6, 2) := by decide +kernel
theorem dX10_least_117 : decode cX10_least 117 = .ok (.invokestatic 154, 3) := by decide +kernel
theorem dX10_least_120 : decode cX10_least 120 = .ok (.istore 4, 2) := by decide +kernel
theorem dX10_least_122 : decode cX10_least 122 = .ok (.iinc 5 1, 3) := by decide +kernel
theorem dX10_least_125 : decode cX10_least 125 = .ok (.goto (-99), 3) := by decide +kernel
theorem dX10_least_128 : decode cX10_least 128 = .ok (.iload_n 3, 1) := by decide +kernel
theorem dX10_least_129 : decode cX10_least 129 = .ok (.ifCond .ge 6, 3) := by decide +kernel
theorem dX10_least_132 : decode cX10_least 132 = .ok (.bipush (-2), 2) := by decide +kernel
theorem dX10_least_134 : decode cX10_least 134 = .ok (.ireturn, 1) := by decide +kernel
theorem dX10_least_135 : decode cX10_least 135 = .ok (.iconst 0, 1) := by decide +kernel
theorem dX10_least_136 : decode cX10_least 136 = .ok (.istore 5, 2) := by decide +kernel
theorem dX10_least_138 : decode cX10_least 138 = .ok (.iconst 0, 1) := by decide +kernel
theorem dX10_least_139 : decode cX10_least 139 = .ok (.istore 6, 2) := by decide +kernel
theorem dX10_least_141 : decode cX10_least 141 = .ok (.iload 6, 2) := by decide +kernel
theorem dX10_least_143 : decode cX10_least 143 = .ok (.aload_n 0, 1) := by decide +kernel
theorem dX10_least_144 : decode cX10_least 144 = .ok (.getfield 20, 3) := by decide +kernel
theorem dX10_least_147 : decode cX10_least 147 = .ok (.bipush 48, 2) := by decide +kernel
theorem dX10_least_149 : decode cX10_least 149 = .ok (.iaload, 1) := by decide +kernel
theorem dX10_least_150 : decode cX10_least 150 = .ok (.if_icmp .ge 57, 3) := by decide +kernel
theorem dX10_least_153 : decode cX10_least 153 = .ok (.iload 5, 2) := by decide +kernel
theorem dX10_least_155 : decode cX10_least 155 = .ok (.aload_n 0, 1) := by decide +kernel
theorem dX10_least_156 : decode cX10_least 156 = .ok (.getfield 20, 3) := by decide +kernel
theorem dX10_least_159 : decode cX10_least 159 = .ok (.iload 6, 2) := by decide +kernel
theorem dX10_least_161 : decode cX10_least 161 = .ok (.invokestatic 129, 3) := by decide +kernel
theorem dX10_least_164 : decode cX10_least 164 = .ok (.ifCond .eq 33, 3) := by decide +kernel
theorem dX10_least_167 : decode cX10_least 167 = .ok (.aload_n 0, 1) := by decide +kernel
theorem dX10_least_168 : decode cX10_least 168 = .ok (.aload_n 0, 1) := by decide +kernel
theorem dX10_least_169 : decode cX10_least 169 = .ok (.getfield 20, 3) := by decide +kernel
theorem dX10_least_172 : decode cX10_least 172 = .ok (.iload 6, 2) := by decide +kernel
theorem dX10_least_174 : decode cX10_least 174 = .ok (.invokevirtual 141, 3) := by decide +kernel
theorem dX10_least_177 : decode cX10_least 177 = .ok (.aload_n 0, 1) := by decide +kernel
theorem dX10_least_178 : decode cX10_least 178 = .ok (.iload_n 3, 1) := by decide +kernel
theorem dX10_least_179 : decode cX10_least 179 = .ok (.iload_n 1, 1) := by decide +kernel
theorem dX10_least_180 : decode cX10_least 180 = .ok (.iload_n 2, 1) := by decide +kernel
theorem dX10_least_181 : decode cX10_least 181 = .ok (.invokevirtual 125, 3) := by decide +kernel
theorem dX10_least_184 : decode cX10_least 184 = .ok (.land, 1) := by decide +kernel
theorem dX10_least_185 : decode cX10_least 185 = .ok (.lconst 0, 1) := by decide +kernel
theorem dX10_least_186 : decode cX10_least 186 = .ok (.lcmp, 1) := by decide +kernel
theorem dX10_least_187 : decode cX10_least 187 = .ok (.ifCond .eq 10, 3) := by decide +kernel
theorem dX10_least_190 : decode cX10_least 190 = .ok (.iconst 1, 1) := by decide +kernel
theorem dX10_least_191 : decode cX10_least 191 = .ok (.iload 6, 2) := by decide +kernel
theorem dX10_least_193 : decode cX10_least 193 = .ok (.ishl, 1) := by decide +kernel
theorem dX10_least_194 : decode cX10_least 194 = .ok (.goto 4, 3) := by decide +kernel
theorem dX10_least_197 : decode cX10_least 197 = .ok (.iconst 0, 1) := by decide +kernel
theorem dX10_least_198 : decode cX10_least 198 = .ok (.ior, 1) := by decide +kernel
theorem dX10_least_199 : decode cX10_least 199 = .ok (.istore 5, 2) := by decide +kernel
theorem dX10_least_201 : decode cX10_least 201 = .ok (.iinc 6 1, 3) := by decide +kernel
theorem dX10_least_204 : decode cX10_least 204 = .ok (.goto (-63), 3) := by decide +kernel
theorem dX10_least_207 : decode cX10_least 207 = .ok (.aload_n 0, 1) := by decide +kernel
theorem dX10_least_208 : decode cX10_least 208 = .ok (.iconst 0, 1) := by decide +kernel
theorem dX10_least_209 : decode cX10_least 209 = .ok (.putfield 110, 3) := by decide +kernel
theorem dX10_least_212 : decode cX10_least 212 = .ok (.aload_n 0, 1) := by decide +kernel
theorem dX10_least_213 : decode cX10_least 213 = .ok (.iload 4, 2) := by decide +kernel
theorem dX10_least_215 : decode cX10_least 215 = .ok (.i2l, 1) := by decide +kernel
theorem dX10_least_216 : decode cX10_least 216 = .ok (.invokevirtual 339, 3) := by decide +kernel
theorem dX10_least_219 : decode cX10_least 219 = .ok (.aload_n 0, 1) := by decide +kernel
theorem dX10_least_220 : decode cX10_least 220 = .ok (.iload 5, 2) := by decide +kernel
theorem dX10_least_222 : decode cX10_least 222 = .ok (.i2l, 1) := by decide +kernel
theorem dX10_least_223 : decode cX10_least 223 = .ok (.invokevirtual 339, 3) := by decide +kernel
theorem dX10_least_226 : decode cX10_least 226 = .ok (.iload_n 3, 1) := by decide +kernel
theorem dX10_least_227 : decode cX10_least 227 = .ok (.ireturn, 1) := by decide +kernel
theorem dX10_largest_0 : decode cX10_largest 0 = .ok (.aload_n 0, 1) := by decide +kernel
theorem dX10_largest_1 : decode cX10_largest 1 = .ok (.iconst 0, 1) := by decide +kernel
theorem dX10_largest_2 : decode cX10_largest 2 = .ok (.putfield 103, 3) := by decide +kernel
theorem dX10_largest_5 : decode cX10_largest 5 = .ok (.aload_n 0, 1) := by decide +kernel
theorem dX10_largest_6 : decode cX10_largest 6 = .ok (.aload_n 0, 1) := by decide +kernel
theorem dX10_largest_7 : decode cX10_largest 7 = .ok (.getfield 20, 3) := by decide +kernel
theorem dX10_largest_10 : decode cX10_largest 10 = .ok (.sipush 255, 3) := by decide +kernel
theorem dX10_largest_13 : decode cX10_largest 13 = .ok (.invokevirtual 328, 3) := by decide +kernel
theorem dX10_largest_16 : decode cX10_largest 16 = .ok (.lstore_n 1, 1) := by decide +kernel
theorem dX10_largest_17 : decode cX10_largest 17 = .ok (.iconst 0, 1) := by decide +kernel
theorem dX10_largest_18 : decode cX10_largest 18 = .ok (.istore_n 3, 1) := by decide +kernel
theorem dX10_largest_19 : decode cX10_largest 19 = .ok (.aload_n 0, 1) := by decide +kernel
theorem dX10_largest_20 : decode cX10_largest 20 = .ok (.iconst 0, 1) := by decide +kernel
theorem dX10_largest_21 : decode cX10_largest 21 = .ok (.putfield 110, 3) := by decide +kernel
theorem dX10_largest_24 : decode cX10_largest 24 = .ok (.iconst 0, 1) := by decide +kernel
theorem dX10_largest_25 : decode cX10_largest 25 = .ok (.istore 4, 2) := by decide +kernel
theorem dX10_largest_27 : decode cX10_largest 27 = .ok (.iload 4, 2) := by decide +kernel
theorem dX10_largest_29 : decode cX10_largest 29 = .ok (.aload_n 0, 1) := by decide +kernel
theorem dX10_largest_30 : decode cX10_largest 30 = .ok (.invokevirtual 113, 3) := by decide +kernel
theorem dX10_largest_33 : decode cX10_largest 33 = .ok (.if_icmp .ge 116, 3) := by decide +kernel
theorem dX10_largest_36 : decode cX10_largest 36 = .ok (.iconst 1, 1) := by decide +kernel
theorem dX10_largest_37 : decode cX10_largest 37 = .ok (.istore 5, 2) := by decide +kernel
theorem dX10_largest_39 : decode cX10_largest 39 = .ok (.iload 5, 2) := by decide +kernel
theorem dX10_largest_41 : decode cX10_largest 41 = .ok (.aload_n 0, 1) := by decide +kernel
theorem dX10_largest_42 : decode cX10_largest 42 = .ok (.getfield 13, 3) := by decide +kernel
theorem dX10_largest_45 : decode cX10_largest 45 = .ok (.if_icmp .gt 98, 3) := by decide +kernel
theorem dX10_largest_48 : decode cX10_largest 48 = .ok (.iconst 1, 1) := by decide +kernel
theorem dX10_largest_49 : decode cX10_largest 49 = .ok (.istore 6, 2) := by decide +kernel
theorem dX10_largest_51 : decode cX10_largest 51 = .ok (.iload 6, 2) := by decide +kernel
theorem dX10_largest_53 : decode cX10_largest 53 = .ok (.aload_n 0, 1) := by decide +kernel
theorem dX10_largest_54 : decode cX10_largest 54 = .ok (.getfield 17, 3) := by decide +kernel
theorem dX10_largest_57 : decode cX10_largest 57 = .ok (.if_icmp .gt 80, 3) := by decide +kernel
theorem dX10_largest_60 : decode cX10_largest 60 = .ok (.iload 5, 2) := by decide +kernel
theorem dX10_largest_62 : decode cX10_largest 62 = .ok (.iload 6, 2) := by decide +kernel
theorem dX10_largest_64 : decode cX10_largest 64 = .ok (.imul, 1) := by decide +kernel
theorem dX10_largest_65 : decode cX10_largest 65 = .ok (.iload_n 3, 1) := by decide +kernel
theorem dX10_largest_66 : decode cX10_largest 66 = .ok (.if_icmp .le 65, 3) := by decide +kernel
theorem dX10_largest_69 : decode cX10_largest 69 = .ok (.aload_n 0, 1) := by decide +kernel
theorem dX10_largest_70 : decode cX10_largest 70 = .ok (.iload 4, 2) := by decide +kernel
theorem dX10_largest_72 : decode cX10_largest 72 = .ok (.iload 5, 2) := by decide +kernel
theorem dX10_largest_74 : decode cX10_largest 74 = .ok (.iload 6, 2) := by decide +kernel
theorem dX10_largest_76 : decode cX10_largest 76 = .ok (.invokevirtual 324, 3) := by decide +kernel
theorem dX10_largest_79 : decode cX10_largest 79 = .ok (.ifCond .eq 52, 3) := by decide +kernel
theorem dX10_largest_82 : decode cX10_largest 82 = .ok (.aload_n 0, 1) := by decide +kernel
theorem dX10_largest_83 : decode cX10_largest 83 = .ok (.iload 4, 2) := by decide +kernel
theorem dX10_largest_85 : decode cX10_largest 85 = .ok (.iload 5, 2) := by decide +kernel
theorem dX10_largest_87 : decode cX10_largest 87 = .ok (.iload 6, 2) := by decide +kernel
theorem dX10_largest_89 : decode cX10_largest 89 = .ok (.invokevirtual 125, 3) := by decide +kernel
theorem dX10_largest_92 : decode cX10_largest 92 = .ok (.lload_n 1, 1) := by decide +kernel
theorem dX10_largest_93 : decode cX10_largest 93 = .ok (.land, 1) := by decide +kernel
theorem dX10_largest_94 : decode cX10_largest 94 = .ok (.lconst 0, 1) := by decide +kernel
theorem dX10_largest_95 : decode cX10_largest 95 = .ok (.lcmp, 1) := by decide +kernel
theorem dX10_largest_96 : decode cX10_largest 96 = .ok (.ifCond .ne 35, 3) := by decide +kernel
theorem dX10_largest_99 : decode cX10_largest 99 = .ok (.iload 5, 2) := by decide +kernel
theorem dX10_largest_101 : decode cX10_largest 101 = .ok (.iload 6, 2) := by decide +kernel
theorem dX10_largest_103 : decode cX10_largest 103 = .ok (.imul, 1) := by decide +kernel
theorem dX10_largest_104 : decode cX10_largest 104 = .ok (.istore_n 3, 1) := by decide +kernel
theorem dX10_largest_105 : decode cX10_largest 105 = .ok (.aload_n 0, 1) := by decide +kernel
theorem dX10_largest_106 : decode cX10_largest 106 = .ok (.iconst 0, 1) := by decide +kernel
theorem dX10_largest_107 : decode cX10_largest 107 = .ok (.putfield 110, 3) := by decide +kernel
theorem dX10_largest_110 : decode cX10_largest 110 = .ok (.aload_n 0, 1) := by decide +kernel
theorem dX10_largest_111 : decode cX10_largest 111 = .ok (.iload 4, 2) := by decide +kernel
theorem dX10_largest_113 : decode cX10_largest 113 = .ok (.i2l, 1) := by decide +kernel
theorem dX10_largest_114 : decode cX10_largest 114 = .ok (.invokevirtual 339, 3) := by decide +kernel
theorem dX10_largest_117 : decode cX10_largest 117 = .ok (.aload_n 0, 1) := by decide +kernel
theorem dX10_largest_118 : decode cX10_largest 118 = .ok (.iload 5, 2) := by decide +kernel
theorem dX10_largest_120 : decode cX10_largest 120 = .ok (.i2l, 1) := by decide +kernel
theorem dX10_largest_121 : decode cX10_largest 121 = .ok (.invokevirtual 339, 3) := by decide +kernel
theorem dX10_largest_124 : decode cX10_largest 124 = .ok (.aload_n 0, 1) := by decide +kernel
theorem dX10_largest_125 : decode cX10_largest 125 = .ok (.iload 6, 2) := by decide +kernel
theorem dX10_largest_127 : decode cX10_largest 127 = .ok (.i2l, 1) := by decide +kernel
theorem dX10_largest_128 : decode cX10_largest 128 = .ok (.invokevirtual 339, 3) := by decide +kernel
theorem dX10_largest_131 : decode cX10_largest 131 = .ok (.iinc 6 1, 3) := by decide +kernel
theorem dX10_largest_134 : decode cX10_largest 134 = .ok (.goto (-83), 3) := by decide +kernel
theorem dX10_largest_137 : decode cX10_largest 137 = .ok (.iinc 5 1, 3) := by decide +kernel
theorem dX10_largest_140 : decode cX10_largest 140 = .ok (.goto (-101), 3) := by decide +kernel
theorem dX10_largest_143 : decode cX10_largest 143 = .ok (.iinc 4 1, 3) := by decide +kernel
theorem dX10_largest_146 : decode cX10_largest 146 = .ok (.goto (-119), 3) := by decide +kernel
theorem dX10_largest_149 : decode cX10_largest 149 = .ok (.iload_n 3, 1) := by decide +kernel
theorem dX10_largest_150 : decode cX10_largest 150 = .ok (.ireturn, 1) := by decide +kernel
theorem dX10_isFewer_0 : decode cX10_isFewer 0 = .ok (.iload_n 1, 1) := by decide +kernel
theorem dX10_isFewer_1 : decode cX10_isFewer 1 = .ok (.ifCond .lt 14, 3) := by decide +kernel
theorem dX10_isFewer_4 : decode cX10_isFewer 4 = .ok (.iload_n 0, 1) := by decide +kernel
theorem dX10_isFewer_5 : decode cX10_isFewer 5 = .ok (.invokestatic 264, 3) := by decide +kernel
theorem dX10_isFewer_8 : decode cX10_isFewer 8 = .ok (.iload_n 1, 1) := by decide +kernel
theorem dX10_isFewer_9 : decode cX10_isFewer 9 = .ok (.invokestatic 264, 3) := by decide +kernel
theorem dX10_isFewer_12 : decode cX10_isFewer 12 = .ok (.if_icmp .ge 7, 3) := by decide +kernel
theorem dX10_isFewer_15 : decode cX10_isFewer 15 = .ok (.iconst 1, 1) := by decide +kernel
theorem dX10_isFewer_16 : decode cX10_isFewer 16 = .ok (.goto 4, 3) := by decide +kernel
theorem dX10_isFewer_19 : decode cX10_isFewer 19 = .ok (.iconst 0, 1) := by decide +kernel
theorem dX10_isFewer_20 : decode cX10_isFewer 20 = .ok (.ireturn, 1) := by decide +kernel
theorem dX10_makes_0 : decode cX10_makes 0 = .ok (.aload_n 0, 1) := by decide +kernel
theorem dX10_makes_1 : decode cX10_makes 1 = .ok (.iconst 0, 1) := by decide +kernel
theorem dX10_makes_2 : decode cX10_makes 2 = .ok (.putfield 103, 3) := by decide +kernel
theorem dX10_makes_5 : decode cX10_makes 5 = .ok (.iload_n 1, 1) := by decide +kernel
theorem dX10_makes_6 : decode cX10_makes 6 = .ok (.iload_n 2, 1) := by decide +kernel
theorem dX10_makes_7 : decode cX10_makes 7 = .ok (.invokestatic 384, 3) := by decide +kernel
theorem dX10_makes_10 : decode cX10_makes 10 = .ok (.ifCond .ne 5, 3) := by decide +kernel
theorem dX10_makes_13 : decode cX10_makes 13 = .ok (.iconst (-1), 1) := by decide +kernel
theorem dX10_makes_14 : decode cX10_makes 14 = .ok (.ireturn, 1) := by decide +kernel
theorem dX10_makes_15 : decode cX10_makes 15 = .ok (.iconst (-1), 1) := by decide +kernel
theorem dX10_makes_16 : decode cX10_makes 16 = .ok (.istore_n 3, 1) := by decide +kernel
theorem dX10_makes_17 : decode cX10_makes 17 = .ok (.iconst 0, 1) := by decide +kernel
theorem dX10_makes_18 : decode cX10_makes 18 = .ok (.istore 4, 2) := by decide +kernel
theorem dX10_makes_20 : decode cX10_makes 20 = .ok (.iload 4, 2) := by decide +kernel
theorem dX10_makes_22 : decode cX10_makes 22 = .ok (.iconst 1, 1) := by decide +kernel
theorem dX10_makes_23 : decode cX10_makes 23 = .ok (.aload_n 0, 1) := by decide +kernel
theorem dX10_makes_24 : decode cX10_makes 24 = .ok (.getfield 20, 3) := by decide +kernel
theorem dX10_makes_27 : decode cX10_makes 27 = .ok (.bipush 48, 2) := by decide +kernel
theorem dX10_makes_29 : decode cX10_makes 29 = .ok (.iaload, 1) := by decide +kernel
theorem dX10_makes_30 : decode cX10_makes 30 = .ok (.ishl, 1) := by decide +kernel
theorem dX10_makes_31 : decode cX10_makes 31 = .ok (.if_icmp .ge 50, 3) := by decide +kernel
theorem dX10_makes_34 : decode cX10_makes 34 = .ok (.iload 4, 2) := by decide +kernel
theorem dX10_makes_36 : decode cX10_makes 36 = .ok (.iload_n 3, 1) := by decide +kernel
theorem dX10_makes_37 : decode cX10_makes 37 = .ok (.invokestatic 393, 3) := by decide +kernel
theorem dX10_makes_40 : decode cX10_makes 40 = .ok (.ifCond .eq 33, 3) := by decide +kernel
theorem dX10_makes_43 : decode cX10_makes 43 = .ok (.aload_n 0, 1) := by decide +kernel
theorem dX10_makes_44 : decode cX10_makes 44 = .ok (.aload_n 0, 1) := by decide +kernel
theorem dX10_makes_45 : decode cX10_makes 45 = .ok (.aload_n 0, 1) := by decide +kernel
theorem dX10_makes_46 : decode cX10_makes 46 = .ok (.getfield 20, 3) := by decide +kernel
theorem dX10_makes_49 : decode cX10_makes 49 = .ok (.sipush 255, 3) := by decide +kernel
theorem dX10_makes_52 : decode cX10_makes 52 = .ok (.iload 4, 2) := by decide +kernel
theorem dX10_makes_54 : decode cX10_makes 54 = .ok (.iconst (-1), 1) := by decide +kernel
theorem dX10_makes_55 : decode cX10_makes 55 = .ok (.ixor, 1) := by decide +kernel
theorem dX10_makes_56 : decode cX10_makes 56 = .ok (.iand, 1) := by decide +kernel
theorem dX10_makes_57 : decode cX10_makes 57 = .ok (.invokevirtual 328, 3) := by decide +kernel
theorem dX10_makes_60 : decode cX10_makes 60 = .ok (.iload_n 1, 1) := by decide +kernel
theorem dX10_makes_61 : decode cX10_makes 61 = .ok (.iload_n 2, 1) := by decide +kernel
theorem dX10_makes_62 : decode cX10_makes 62 = .ok (.invokevirtual 388, 3) := by decide +kernel
theorem dX10_makes_65 : decode cX10_makes 65 = .ok (.ifCond .lt 8, 3) := by decide +kernel
theorem dX10_makes_68 : decode cX10_makes 68 = .ok (.iload 4, 2) := by decide +kernel
theorem dX10_makes_70 : decode cX10_makes 70 = .ok (.goto 4, 3) := by decide +kernel
theorem dX10_makes_73 : decode cX10_makes 73 = .ok (.iload_n 3, 1) := by decide +kernel
theorem dX10_makes_74 : decode cX10_makes 74 = .ok (.istore_n 3, 1) := by decide +kernel
theorem dX10_makes_75 : decode cX10_makes 75 = .ok (.iinc 4 1, 3) := by decide +kernel
theorem dX10_makes_78 : decode cX10_makes 78 = .ok (.goto (-58), 3) := by decide +kernel
theorem dX10_makes_81 : decode cX10_makes 81 = .ok (.iload_n 3, 1) := by decide +kernel
theorem dX10_makes_82 : decode cX10_makes 82 = .ok (.ifCond .ge 6, 3) := by decide +kernel
theorem dX10_makes_85 : decode cX10_makes 85 = .ok (.bipush (-2), 2) := by decide +kernel
theorem dX10_makes_87 : decode cX10_makes 87 = .ok (.ireturn, 1) := by decide +kernel
theorem dX10_makes_88 : decode cX10_makes 88 = .ok (.aload_n 0, 1) := by decide +kernel
theorem dX10_makes_89 : decode cX10_makes 89 = .ok (.iconst 0, 1) := by decide +kernel
theorem dX10_makes_90 : decode cX10_makes 90 = .ok (.putfield 110, 3) := by decide +kernel
theorem dX10_makes_93 : decode cX10_makes 93 = .ok (.aload_n 0, 1) := by decide +kernel
theorem dX10_makes_94 : decode cX10_makes 94 = .ok (.iload_n 3, 1) := by decide +kernel
theorem dX10_makes_95 : decode cX10_makes 95 = .ok (.i2l, 1) := by decide +kernel
theorem dX10_makes_96 : decode cX10_makes 96 = .ok (.invokevirtual 339, 3) := by decide +kernel
theorem dX10_makes_99 : decode cX10_makes 99 = .ok (.iload_n 3, 1) := by decide +kernel
theorem dX10_makes_100 : decode cX10_makes 100 = .ok (.invokestatic 264, 3) := by decide +kernel
theorem dX10_makes_103 : decode cX10_makes 103 = .ok (.ireturn, 1) := by decide +kernel
theorem dX10_beside_0 : decode cX10_beside 0 = .ok (.iload_n 1, 1) := by decide +kernel
theorem dX10_beside_1 : decode cX10_beside 1 = .ok (.aload_n 0, 1) := by decide +kernel
theorem dX10_beside_2 : decode cX10_beside 2 = .ok (.getfield 17, 3) := by decide +kernel
theorem dX10_beside_5 : decode cX10_beside 5 = .ok (.idiv, 1) := by decide +kernel
theorem dX10_beside_6 : decode cX10_beside 6 = .ok (.iload_n 2, 1) := by decide +kernel
theorem dX10_beside_7 : decode cX10_beside 7 = .ok (.iconst 2, 1) := by decide +kernel
theorem dX10_beside_8 : decode cX10_beside 8 = .ok (.if_icmp .ne 7, 3) := by decide +kernel
theorem dX10_beside_11 : decode cX10_beside 11 = .ok (.iconst 1, 1) := by decide +kernel
theorem dX10_beside_12 : decode cX10_beside 12 = .ok (.goto 12, 3) := by decide +kernel
theorem dX10_beside_15 : decode cX10_beside 15 = .ok (.iload_n 2, 1) := by decide +kernel
theorem dX10_beside_16 : decode cX10_beside 16 = .ok (.ifCond .ne 7, 3) := by decide +kernel
theorem dX10_beside_19 : decode cX10_beside 19 = .ok (.iconst (-1), 1) := by decide +kernel
theorem dX10_beside_20 : decode cX10_beside 20 = .ok (.goto 4, 3) := by decide +kernel
theorem dX10_beside_23 : decode cX10_beside 23 = .ok (.iconst 0, 1) := by decide +kernel
theorem dX10_beside_24 : decode cX10_beside 24 = .ok (.iadd, 1) := by decide +kernel
theorem dX10_beside_25 : decode cX10_beside 25 = .ok (.istore_n 3, 1) := by decide +kernel
theorem dX10_beside_26 : decode cX10_beside 26 = .ok (.iload_n 1, 1) := by decide +kernel
theorem dX10_beside_27 : decode cX10_beside 27 = .ok (.aload_n 0, 1) := by decide +kernel
theorem dX10_beside_28 : decode cX10_beside 28 = .ok (.getfield 17, 3) := by decide +kernel
theorem dX10_beside_31 : decode cX10_beside 31 = .ok (.irem, 1) := by decide +kernel
theorem dX10_beside_32 : decode cX10_beside 32 = .ok (.iload_n 2, 1) := by decide +kernel
theorem dX10_beside_33 : decode cX10_beside 33 = .ok (.iconst 1, 1) := by decide +kernel
theorem dX10_beside_34 : decode cX10_beside 34 = .ok (.if_icmp .ne 7, 3) := by decide +kernel
theorem dX10_beside_37 : decode cX10_beside 37 = .ok (.iconst 1, 1) := by decide +kernel
theorem dX10_beside_38 : decode cX10_beside 38 = .ok (.goto 13, 3) := by decide +kernel
theorem dX10_beside_41 : decode cX10_beside 41 = .ok (.iload_n 2, 1) := by decide +kernel
theorem dX10_beside_42 : decode cX10_beside 42 = .ok (.iconst 3, 1) := by decide +kernel
theorem dX10_beside_43 : decode cX10_beside 43 = .ok (.if_icmp .ne 7, 3) := by decide +kernel
theorem dX10_beside_46 : decode cX10_beside 46 = .ok (.iconst (-1), 1) := by decide +kernel
theorem dX10_beside_47 : decode cX10_beside 47 = .ok (.goto 4, 3) := by decide +kernel
theorem dX10_beside_50 : decode cX10_beside 50 = .ok (.iconst 0, 1) := by decide +kernel
theorem dX10_beside_51 : decode cX10_beside 51 = .ok (.iadd, 1) := by decide +kernel
theorem dX10_beside_52 : decode cX10_beside 52 = .ok (.istore 4, 2) := by decide +kernel
theorem dX10_beside_54 : decode cX10_beside 54 = .ok (.iload_n 3, 1) := by decide +kernel
theorem dX10_beside_55 : decode cX10_beside 55 = .ok (.i2l, 1) := by decide +kernel
theorem dX10_beside_56 : decode cX10_beside 56 = .ok (.lconst 0, 1) := by decide +kernel
theorem dX10_beside_57 : decode cX10_beside 57 = .ok (.aload_n 0, 1) := by decide +kernel
theorem dX10_beside_58 : decode cX10_beside 58 = .ok (.getfield 13, 3) := by decide +kernel
theorem dX10_beside_61 : decode cX10_beside 61 = .ok (.iconst 1, 1) := by decide +kernel
theorem dX10_beside_62 : decode cX10_beside 62 = .ok (.isub, 1) := by decide +kernel
theorem dX10_beside_63 : decode cX10_beside 63 = .ok (.i2l, 1) := by decide +kernel
theorem dX10_beside_64 : decode cX10_beside 64 = .ok (.invokestatic 117, 3) := by decide +kernel
theorem dX10_beside_67 : decode cX10_beside 67 = .ok (.ifCond .eq 32, 3) := by decide +kernel
theorem dX10_beside_70 : decode cX10_beside 70 = .ok (.iload 4, 2) := by decide +kernel
theorem dX10_beside_72 : decode cX10_beside 72 = .ok (.i2l, 1) := by decide +kernel
theorem dX10_beside_73 : decode cX10_beside 73 = .ok (.lconst 0, 1) := by decide +kernel
theorem dX10_beside_74 : decode cX10_beside 74 = .ok (.aload_n 0, 1) := by decide +kernel
theorem dX10_beside_75 : decode cX10_beside 75 = .ok (.getfield 17, 3) := by decide +kernel
theorem dX10_beside_78 : decode cX10_beside 78 = .ok (.iconst 1, 1) := by decide +kernel
theorem dX10_beside_79 : decode cX10_beside 79 = .ok (.isub, 1) := by decide +kernel
theorem dX10_beside_80 : decode cX10_beside 80 = .ok (.i2l, 1) := by decide +kernel
theorem dX10_beside_81 : decode cX10_beside 81 = .ok (.invokestatic 117, 3) := by decide +kernel
theorem dX10_beside_84 : decode cX10_beside 84 = .ok (.ifCond .eq 15, 3) := by decide +kernel
theorem dX10_beside_87 : decode cX10_beside 87 = .ok (.aload_n 0, 1) := by decide +kernel
theorem dX10_beside_88 : decode cX10_beside 88 = .ok (.getfield 17, 3) := by decide +kernel
theorem dX10_beside_91 : decode cX10_beside 91 = .ok (.iload_n 3, 1) := by decide +kernel
theorem dX10_beside_92 : decode cX10_beside 92 = .ok (.imul, 1) := by decide +kernel
theorem dX10_beside_93 : decode cX10_beside 93 = .ok (.iload 4, 2) := by decide +kernel
theorem dX10_beside_95 : decode cX10_beside 95 = .ok (.iadd, 1) := by decide +kernel
theorem dX10_beside_96 : decode cX10_beside 96 = .ok (.goto 4, 3) := by decide +kernel
theorem dX10_beside_99 : decode cX10_beside 99 = .ok (.iconst (-1), 1) := by decide +kernel
theorem dX10_beside_100 : decode cX10_beside 100 = .ok (.ireturn, 1) := by decide +kernel
theorem dX10_state_0 : decode cX10_state 0 = .ok (.iload_n 0, 1) := by decide +kernel
theorem dX10_state_1 : decode cX10_state 1 = .ok (.bipush 8, 2) := by decide +kernel
theorem dX10_state_3 : decode cX10_state 3 = .ok (.ishl, 1) := by decide +kernel
theorem dX10_state_4 : decode cX10_state 4 = .ok (.iload_n 1, 1) := by decide +kernel
theorem dX10_state_5 : decode cX10_state 5 = .ok (.ior, 1) := by decide +kernel
theorem dX10_state_6 : decode cX10_state 6 = .ok (.ireturn, 1) := by decide +kernel
theorem dX10_laysYet_0 : decode cX10_laysYet 0 = .ok (.iconst 0, 1) := by decide +kernel
theorem dX10_laysYet_1 : decode cX10_laysYet 1 = .ok (.istore_n 3, 1) := by decide +kernel
theorem dX10_laysYet_2 : decode cX10_laysYet 2 = .ok (.iload_n 3, 1) := by decide +kernel
theorem dX10_laysYet_3 : decode cX10_laysYet 3 = .ok (.aload_n 0, 1) := by decide +kernel
theorem dX10_laysYet_4 : decode cX10_laysYet 4 = .ok (.invokevirtual 113, 3) := by decide +kernel
theorem dX10_laysYet_7 : decode cX10_laysYet 7 = .ok (.if_icmp .ge 53, 3) := by decide +kernel
theorem dX10_laysYet_10 : decode cX10_laysYet 10 = .ok (.iconst 0, 1) := by decide +kernel
theorem dX10_laysYet_11 : decode cX10_laysYet 11 = .ok (.istore 4, 2) := by decide +kernel
theorem dX10_laysYet_13 : decode cX10_laysYet 13 = .ok (.iload 4, 2) := by decide +kernel
theorem dX10_laysYet_15 : decode cX10_laysYet 15 = .ok (.iload_n 2, 1) := by decide +kernel
theorem dX10_laysYet_16 : decode cX10_laysYet 16 = .ok (.if_icmp .gt 38, 3) := by decide +kernel
theorem dX10_laysYet_19 : decode cX10_laysYet 19 = .ok (.aload_n 0, 1) := by decide +kernel
theorem dX10_laysYet_20 : decode cX10_laysYet 20 = .ok (.getfield 60, 3) := by decide +kernel
theorem dX10_laysYet_23 : decode cX10_laysYet 23 = .ok (.iload_n 3, 1) := by decide +kernel
theorem dX10_laysYet_24 : decode cX10_laysYet 24 = .ok (.iload 4, 2) := by decide +kernel
theorem dX10_laysYet_26 : decode cX10_laysYet 26 = .ok (.invokestatic 396, 3) := by decide +kernel
theorem dX10_laysYet_29 : decode cX10_laysYet 29 = .ok (.iload_n 3, 1) := by decide +kernel
theorem dX10_laysYet_30 : decode cX10_laysYet 30 = .ok (.iload_n 1, 1) := by decide +kernel
theorem dX10_laysYet_31 : decode cX10_laysYet 31 = .ok (.if_icmp .ne 13, 3) := by decide +kernel
theorem dX10_laysYet_34 : decode cX10_laysYet 34 = .ok (.iload 4, 2) := by decide +kernel
theorem dX10_laysYet_36 : decode cX10_laysYet 36 = .ok (.iload_n 2, 1) := by decide +kernel
theorem dX10_laysYet_37 : decode cX10_laysYet 37 = .ok (.if_icmp .ne 7, 3) := by decide +kernel
theorem dX10_laysYet_40 : decode cX10_laysYet 40 = .ok (.iconst 0, 1) := by decide +kernel
theorem dX10_laysYet_41 : decode cX10_laysYet 41 = .ok (.goto 6, 3) := by decide +kernel
theorem dX10_laysYet_44 : decode cX10_laysYet 44 = .ok (.ldc_w 392, 3) := by decide +kernel
theorem dX10_laysYet_47 : decode cX10_laysYet 47 = .ok (.iastore, 1) := by decide +kernel
theorem dX10_laysYet_48 : decode cX10_laysYet 48 = .ok (.iinc 4 1, 3) := by decide +kernel
theorem dX10_laysYet_51 : decode cX10_laysYet 51 = .ok (.goto (-38), 3) := by decide +kernel
theorem dX10_laysYet_54 : decode cX10_laysYet 54 = .ok (.iinc 3 1, 3) := by decide +kernel
theorem dX10_laysYet_57 : decode cX10_laysYet 57 = .ok (.goto (-55), 3) := by decide +kernel
theorem dX10_laysYet_60 : decode cX10_laysYet 60 = .ok (.iconst 1, 1) := by decide +kernel
theorem dX10_laysYet_61 : decode cX10_laysYet 61 = .ok (.istore_n 3, 1) := by decide +kernel
theorem dX10_laysYet_62 : decode cX10_laysYet 62 = .ok (.iload_n 3, 1) := by decide +kernel
theorem dX10_laysYet_63 : decode cX10_laysYet 63 = .ok (.ifCond .eq 154, 3) := by decide +kernel
theorem dX10_laysYet_66 : decode cX10_laysYet 66 = .ok (.iconst 0, 1) := by decide +kernel
theorem dX10_laysYet_67 : decode cX10_laysYet 67 = .ok (.istore_n 3, 1) := by decide +kernel
theorem dX10_laysYet_68 : decode cX10_laysYet 68 = .ok (.iconst 0, 1) := by decide +kernel
theorem dX10_laysYet_69 : decode cX10_laysYet 69 = .ok (.istore 4, 2) := by decide +kernel
theorem dX10_laysYet_71 : decode cX10_laysYet 71 = .ok (.iload 4, 2) := by decide +kernel
theorem dX10_laysYet_73 : decode cX10_laysYet 73 = .ok (.aload_n 0, 1) := by decide +kernel
theorem dX10_laysYet_74 : decode cX10_laysYet 74 = .ok (.invokevirtual 113, 3) := by decide +kernel
theorem dX10_laysYet_77 : decode cX10_laysYet 77 = .ok (.if_icmp .ge 137, 3) := by decide +kernel
theorem dX10_laysYet_80 : decode cX10_laysYet 80 = .ok (.iconst 0, 1) := by decide +kernel
theorem dX10_laysYet_81 : decode cX10_laysYet 81 = .ok (.istore 5, 2) := by decide +kernel
theorem dX10_laysYet_83 : decode cX10_laysYet 83 = .ok (.iload 5, 2) := by decide +kernel
theorem dX10_laysYet_85 : decode cX10_laysYet 85 = .ok (.iload_n 2, 1) := by decide +kernel
theorem dX10_laysYet_86 : decode cX10_laysYet 86 = .ok (.if_icmp .gt 122, 3) := by decide +kernel
theorem dX10_laysYet_89 : decode cX10_laysYet 89 = .ok (.iconst 0, 1) := by decide +kernel
theorem dX10_laysYet_90 : decode cX10_laysYet 90 = .ok (.istore 6, 2) := by decide +kernel
theorem dX10_laysYet_92 : decode cX10_laysYet 92 = .ok (.iload 6, 2) := by decide +kernel
theorem dX10_laysYet_94 : decode cX10_laysYet 94 = .ok (.iconst 4, 1) := by decide +kernel
theorem dX10_laysYet_95 : decode cX10_laysYet 95 = .ok (.if_icmp .ge 107, 3) := by decide +kernel
theorem dX10_laysYet_98 : decode cX10_laysYet 98 = .ok (.iload 5, 2) := by decide +kernel
theorem dX10_laysYet_100 : decode cX10_laysYet 100 = .ok (.iload_n 2, 1) := by decide +kernel
theorem dX10_laysYet_101 : decode cX10_laysYet 101 = .ok (.iconst (-1), 1) := by decide +kernel
theorem dX10_laysYet_102 : decode cX10_laysYet 102 = .ok (.ixor, 1) := by decide +kernel
theorem dX10_laysYet_103 : decode cX10_laysYet 103 = .ok (.iand, 1) := by decide +kernel
theorem dX10_laysYet_104 : decode cX10_laysYet 104 = .ok (.ifCond .ne 98, 3) := by decide +kernel
theorem dX10_laysYet_107 : decode cX10_laysYet 107 = .ok (.aload_n 0, 1) := by decide +kernel
theorem dX10_laysYet_108 : decode cX10_laysYet 108 = .ok (.iload 4, 2) := by decide +kernel
theorem dX10_laysYet_110 : decode cX10_laysYet 110 = .ok (.iload 6, 2) := by decide +kernel
theorem dX10_laysYet_112 : decode cX10_laysYet 112 = .ok (.invokevirtual 399, 3) := by decide +kernel
theorem dX10_laysYet_115 : decode cX10_laysYet 115 = .ok (.istore 7, 2) := by decide +kernel
theorem dX10_laysYet_117 : decode cX10_laysYet 117 = .ok (.iload 7, 2) := by decide +kernel
theorem dX10_laysYet_119 : decode cX10_laysYet 119 = .ok (.ifCond .ge 9, 3) := by decide +kernel
theorem dX10_laysYet_122 : decode cX10_laysYet 122 = .ok (.ldc_w 392, 3) := by decide +kernel
theorem dX10_laysYet_125 : decode cX10_laysYet 125 = .ok (.goto 36, 3) := by decide +kernel
theorem dX10_laysYet_128 : decode cX10_laysYet 128 = .ok (.aload_n 0, 1) := by decide +kernel
theorem dX10_laysYet_129 : decode cX10_laysYet 129 = .ok (.getfield 60, 3) := by decide +kernel
theorem dX10_laysYet_132 : decode cX10_laysYet 132 = .ok (.iload 7, 2) := by decide +kernel
theorem dX10_laysYet_134 : decode cX10_laysYet 134 = .ok (.iload 5, 2) := by decide +kernel
theorem dX10_laysYet_136 : decode cX10_laysYet 136 = .ok (.aload_n 0, 1) := by decide +kernel
theorem dX10_laysYet_137 : decode cX10_laysYet 137 = .ok (.aload_n 0, 1) := by decide +kernel
theorem dX10_laysYet_138 : decode cX10_laysYet 138 = .ok (.getfield 20, 3) := by decide +kernel
theorem dX10_laysYet_141 : decode cX10_laysYet 141 = .ok (.iload 7, 2) := by decide +kernel
theorem dX10_laysYet_143 : decode cX10_laysYet 143 = .ok (.invokevirtual 294, 3) := by decide +kernel
theorem dX10_laysYet_146 : decode cX10_laysYet 146 = .ok (.iload_n 2, 1) := by decide +kernel
theorem dX10_laysYet_147 : decode cX10_laysYet 147 = .ok (.iand, 1) := by decide +kernel
theorem dX10_laysYet_148 : decode cX10_laysYet 148 = .ok (.ior, 1) := by decide +kernel
theorem dX10_laysYet_149 : decode cX10_laysYet 149 = .ok (.invokestatic 396, 3) := by decide +kernel
theorem dX10_laysYet_152 : decode cX10_laysYet 152 = .ok (.iaload, 1) := by decide +kernel
theorem dX10_laysYet_153 : decode cX10_laysYet 153 = .ok (.aload_n 0, 1) := by decide +kernel
theorem dX10_laysYet_154 : decode cX10_laysYet 154 = .ok (.getfield 63, 3) := by decide +kernel
theorem dX10_laysYet_157 : decode cX10_laysYet 157 = .ok (.iload 7, 2) := by decide +kernel
theorem dX10_laysYet_159 : decode cX10_laysYet 159 = .ok (.iaload, 1) := by decide +kernel
theorem dX10_laysYet_160 : decode cX10_laysYet 160 = .ok (.iadd, 1) := by decide +kernel
theorem dX10_laysYet_161 : decode cX10_laysYet 161 = .ok (.istore 8, 2) := by decide +kernel
theorem dX10_laysYet_163 : decode cX10_laysYet 163 = .ok (.iload 8, 2) := by decide +kernel
theorem dX10_laysYet_165 : decode cX10_laysYet 165 = .ok (.aload_n 0, 1) := by decide +kernel
theorem dX10_laysYet_166 : decode cX10_laysYet 166 = .ok (.getfield 60, 3) := by decide +kernel
theorem dX10_laysYet_169 : decode cX10_laysYet 169 = .ok (.iload 4, 2) := by decide +kernel
theorem dX10_laysYet_171 : decode cX10_laysYet 171 = .ok (.iload 5, 2) := by decide +kernel
theorem dX10_laysYet_173 : decode cX10_laysYet 173 = .ok (.invokestatic 396, 3) := by decide +kernel
theorem dX10_laysYet_176 : decode cX10_laysYet 176 = .ok (.iaload, 1) := by decide +kernel
theorem dX10_laysYet_177 : decode cX10_laysYet 177 = .ok (.if_icmp .ge 19, 3) := by decide +kernel
theorem dX10_laysYet_180 : decode cX10_laysYet 180 = .ok (.aload_n 0, 1) := by decide +kernel
theorem dX10_laysYet_181 : decode cX10_laysYet 181 = .ok (.getfield 60, 3) := by decide +kernel
theorem dX10_laysYet_184 : decode cX10_laysYet 184 = .ok (.iload 4, 2) := by decide +kernel
theorem dX10_laysYet_186 : decode cX10_laysYet 186 = .ok (.iload 5, 2) := by decide +kernel
theorem dX10_laysYet_188 : decode cX10_laysYet 188 = .ok (.invokestatic 396, 3) := by decide +kernel
theorem dX10_laysYet_191 : decode cX10_laysYet 191 = .ok (.iload 8, 2) := by decide +kernel
theorem dX10_laysYet_193 : decode cX10_laysYet 193 = .ok (.iastore, 1) := by decide +kernel
theorem dX10_laysYet_194 : decode cX10_laysYet 194 = .ok (.iconst 1, 1) := by decide +kernel
theorem dX10_laysYet_195 : decode cX10_laysYet 195 = .ok (.istore_n 3, 1) := by decide +kernel
theorem dX10_laysYet_196 : decode cX10_laysYet 196 = .ok (.iinc 6 1, 3) := by decide +kernel
theorem dX10_laysYet_199 : decode cX10_laysYet 199 = .ok (.goto (-107), 3) := by decide +kernel
theorem dX10_laysYet_202 : decode cX10_laysYet 202 = .ok (.iinc 5 1, 3) := by decide +kernel
theorem dX10_laysYet_205 : decode cX10_laysYet 205 = .ok (.goto (-122), 3) := by decide +kernel
theorem dX10_laysYet_208 : decode cX10_laysYet 208 = .ok (.iinc 4 1, 3) := by decide +kernel
theorem dX10_laysYet_211 : decode cX10_laysYet 211 = .ok (.goto (-140), 3) := by decide +kernel
theorem dX10_laysYet_214 : decode cX10_laysYet 214 = .ok (.goto (-152), 3) := by decide +kernel
theorem dX10_laysYet_217 : decode cX10_laysYet 217 = .ok (.return_, 1) := by decide +kernel
theorem dX10_tellsWay_0 : decode cX10_tellsWay 0 = .ok (.iload_n 1, 1) := by decide +kernel
theorem dX10_tellsWay_1 : decode cX10_tellsWay 1 = .ok (.istore_n 3, 1) := by decide +kernel
theorem dX10_tellsWay_2 : decode cX10_tellsWay 2 = .ok (.aload_n 0, 1) := by decide +kernel
theorem dX10_tellsWay_3 : decode cX10_tellsWay 3 = .ok (.aload_n 0, 1) := by decide +kernel
theorem dX10_tellsWay_4 : decode cX10_tellsWay 4 = .ok (.getfield 20, 3) := by decide +kernel
theorem dX10_tellsWay_7 : decode cX10_tellsWay 7 = .ok (.iload_n 1, 1) := by decide +kernel
theorem dX10_tellsWay_8 : decode cX10_tellsWay 8 = .ok (.invokevirtual 294, 3) := by decide +kernel
theorem dX10_tellsWay_11 : decode cX10_tellsWay 11 = .ok (.iload_n 2, 1) := by decide +kernel
theorem dX10_tellsWay_12 : decode cX10_tellsWay 12 = .ok (.iand, 1) := by decide +kernel
theorem dX10_tellsWay_13 : decode cX10_tellsWay 13 = .ok (.istore 4, 2) := by decide +kernel
theorem dX10_tellsWay_15 : decode cX10_tellsWay 15 = .ok (.aload_n 0, 1) := by decide +kernel
theorem dX10_tellsWay_16 : decode cX10_tellsWay 16 = .ok (.iconst 0, 1) := by decide +kernel
theorem dX10_tellsWay_17 : decode cX10_tellsWay 17 = .ok (.putfield 110, 3) := by decide +kernel
theorem dX10_tellsWay_20 : decode cX10_tellsWay 20 = .ok (.aload_n 0, 1) := by decide +kernel
theorem dX10_tellsWay_21 : decode cX10_tellsWay 21 = .ok (.iload_n 3, 1) := by decide +kernel
theorem dX10_tellsWay_22 : decode cX10_tellsWay 22 = .ok (.i2l, 1) := by decide +kernel
theorem dX10_tellsWay_23 : decode cX10_tellsWay 23 = .ok (.invokevirtual 339, 3) := by decide +kernel
theorem dX10_tellsWay_26 : decode cX10_tellsWay 26 = .ok (.aload_n 0, 1) := by decide +kernel
theorem dX10_tellsWay_27 : decode cX10_tellsWay 27 = .ok (.getfield 60, 3) := by decide +kernel
theorem dX10_tellsWay_30 : decode cX10_tellsWay 30 = .ok (.iload_n 3, 1) := by decide +kernel
theorem dX10_tellsWay_31 : decode cX10_tellsWay 31 = .ok (.iload 4, 2) := by decide +kernel
theorem dX10_tellsWay_33 : decode cX10_tellsWay 33 = .ok (.invokestatic 396, 3) := by decide +kernel
theorem dX10_tellsWay_36 : decode cX10_tellsWay 36 = .ok (.iaload, 1) := by decide +kernel
theorem dX10_tellsWay_37 : decode cX10_tellsWay 37 = .ok (.ifCond .le 143, 3) := by decide +kernel
theorem dX10_tellsWay_40 : decode cX10_tellsWay 40 = .ok (.iconst (-1), 1) := by decide +kernel
theorem dX10_tellsWay_41 : decode cX10_tellsWay 41 = .ok (.istore 5, 2) := by decide +kernel
theorem dX10_tellsWay_43 : decode cX10_tellsWay 43 = .ok (.iconst 0, 1) := by decide +kernel
theorem dX10_tellsWay_44 : decode cX10_tellsWay 44 = .ok (.istore 6, 2) := by decide +kernel
theorem dX10_tellsWay_46 : decode cX10_tellsWay 46 = .ok (.iload 6, 2) := by decide +kernel
theorem dX10_tellsWay_48 : decode cX10_tellsWay 48 = .ok (.iconst 4, 1) := by decide +kernel
theorem dX10_tellsWay_49 : decode cX10_tellsWay 49 = .ok (.if_icmp .ge 103, 3) := by decide +kernel
theorem dX10_tellsWay_52 : decode cX10_tellsWay 52 = .ok (.aload_n 0, 1) := by decide +kernel
theorem dX10_tellsWay_53 : decode cX10_tellsWay 53 = .ok (.iload_n 3, 1) := by decide +kernel
theorem dX10_tellsWay_54 : decode cX10_tellsWay 54 = .ok (.iload 6, 2) := by decide +kernel
theorem dX10_tellsWay_56 : decode cX10_tellsWay 56 = .ok (.invokevirtual 399, 3) := by decide +kernel
theorem dX10_tellsWay_59 : decode cX10_tellsWay 59 = .ok (.istore 7, 2) := by decide +kernel
theorem dX10_tellsWay_61 : decode cX10_tellsWay 61 = .ok (.iload 7, 2) := by decide +kernel
theorem dX10_tellsWay_63 : decode cX10_tellsWay 63 = .ok (.ifCond .lt 54, 3) := by decide +kernel
theorem dX10_tellsWay_66 : decode cX10_tellsWay 66 = .ok (.aload_n 0, 1) := by decide +kernel
theorem dX10_tellsWay_67 : decode cX10_tellsWay 67 = .ok (.getfield 60, 3) := by decide +kernel
theorem dX10_tellsWay_70 : decode cX10_tellsWay 70 = .ok (.iload 7, 2) := by decide +kernel
theorem dX10_tellsWay_72 : decode cX10_tellsWay 72 = .ok (.iload 4, 2) := by decide +kernel
theorem dX10_tellsWay_74 : decode cX10_tellsWay 74 = .ok (.aload_n 0, 1) := by decide +kernel
theorem dX10_tellsWay_75 : decode cX10_tellsWay 75 = .ok (.aload_n 0, 1) := by decide +kernel
theorem dX10_tellsWay_76 : decode cX10_tellsWay 76 = .ok (.getfield 20, 3) := by decide +kernel
theorem dX10_tellsWay_79 : decode cX10_tellsWay 79 = .ok (.iload 7, 2) := by decide +kernel
theorem dX10_tellsWay_81 : decode cX10_tellsWay 81 = .ok (.invokevirtual 294, 3) := by decide +kernel
theorem dX10_tellsWay_84 : decode cX10_tellsWay 84 = .ok (.iload_n 2, 1) := by decide +kernel
theorem dX10_tellsWay_85 : decode cX10_tellsWay 85 = .ok (.iand, 1) := by decide +kernel
theorem dX10_tellsWay_86 : decode cX10_tellsWay 86 = .ok (.ior, 1) := by decide +kernel
theorem dX10_tellsWay_87 : decode cX10_tellsWay 87 = .ok (.invokestatic 396, 3) := by decide +kernel
theorem dX10_tellsWay_90 : decode cX10_tellsWay 90 = .ok (.iaload, 1) := by decide +kernel
theorem dX10_tellsWay_91 : decode cX10_tellsWay 91 = .ok (.aload_n 0, 1) := by decide +kernel
theorem dX10_tellsWay_92 : decode cX10_tellsWay 92 = .ok (.getfield 63, 3) := by decide +kernel
theorem dX10_tellsWay_95 : decode cX10_tellsWay 95 = .ok (.iload 7, 2) := by decide +kernel
theorem dX10_tellsWay_97 : decode cX10_tellsWay 97 = .ok (.iaload, 1) := by decide +kernel
theorem dX10_tellsWay_98 : decode cX10_tellsWay 98 = .ok (.iadd, 1) := by decide +kernel
theorem dX10_tellsWay_99 : decode cX10_tellsWay 99 = .ok (.aload_n 0, 1) := by decide +kernel
theorem dX10_tellsWay_100 : decode cX10_tellsWay 100 = .ok (.getfield 60, 3) := by decide +kernel
theorem dX10_tellsWay_103 : decode cX10_tellsWay 103 = .ok (.iload_n 3, 1) := by decide +kernel
theorem dX10_tellsWay_104 : decode cX10_tellsWay 104 = .ok (.iload 4, 2) := by decide +kernel
theorem dX10_tellsWay_106 : decode cX10_tellsWay 106 = .ok (.invokestatic 396, 3) := by decide +kernel
theorem dX10_tellsWay_109 : decode cX10_tellsWay 109 = .ok (.iaload, 1) := by decide +kernel
theorem dX10_tellsWay_110 : decode cX10_tellsWay 110 = .ok (.if_icmp .ne 7, 3) := by decide +kernel
theorem dX10_tellsWay_113 : decode cX10_tellsWay 113 = .ok (.iconst 1, 1) := by decide +kernel
theorem dX10_tellsWay_114 : decode cX10_tellsWay 114 = .ok (.goto 4, 3) := by decide +kernel
theorem dX10_tellsWay_117 : decode cX10_tellsWay 117 = .ok (.iconst 0, 1) := by decide +kernel
theorem dX10_tellsWay_118 : decode cX10_tellsWay 118 = .ok (.istore 8, 2) := by decide +kernel
theorem dX10_tellsWay_120 : decode cX10_tellsWay 120 = .ok (.iload 8, 2) := by decide +kernel
theorem dX10_tellsWay_122 : decode cX10_tellsWay 122 = .ok (.ifCond .eq 20, 3) := by decide +kernel
theorem dX10_tellsWay_125 : decode cX10_tellsWay 125 = .ok (.iload 5, 2) := by decide +kernel
theorem dX10_tellsWay_127 : decode cX10_tellsWay 127 = .ok (.ifCond .lt 10, 3) := by decide +kernel
theorem dX10_tellsWay_130 : decode cX10_tellsWay 130 = .ok (.iload 7, 2) := by decide +kernel
theorem dX10_tellsWay_132 : decode cX10_tellsWay 132 = .ok (.iload 5, 2) := by decide +kernel
theorem dX10_tellsWay_134 : decode cX10_tellsWay 134 = .ok (.if_icmp .ge 8, 3) := by decide +kernel
theorem dX10_tellsWay_137 : decode cX10_tellsWay 137 = .ok (.iload 7, 2) := by decide +kernel
theorem dX10_tellsWay_139 : decode cX10_tellsWay 139 = .ok (.goto 5, 3) := by decide +kernel
theorem dX10_tellsWay_142 : decode cX10_tellsWay 142 = .ok (.iload 5, 2) := by decide +kernel
theorem dX10_tellsWay_144 : decode cX10_tellsWay 144 = .ok (.istore 5, 2) := by decide +kernel
theorem dX10_tellsWay_146 : decode cX10_tellsWay 146 = .ok (.iinc 6 1, 3) := by decide +kernel
theorem dX10_tellsWay_149 : decode cX10_tellsWay 149 = .ok (.goto (-103), 3) := by decide +kernel
theorem dX10_tellsWay_152 : decode cX10_tellsWay 152 = .ok (.iload 5, 2) := by decide +kernel
theorem dX10_tellsWay_154 : decode cX10_tellsWay 154 = .ok (.istore_n 3, 1) := by decide +kernel
theorem dX10_tellsWay_155 : decode cX10_tellsWay 155 = .ok (.iload 4, 2) := by decide +kernel
theorem dX10_tellsWay_157 : decode cX10_tellsWay 157 = .ok (.aload_n 0, 1) := by decide +kernel
theorem dX10_tellsWay_158 : decode cX10_tellsWay 158 = .ok (.aload_n 0, 1) := by decide +kernel
theorem dX10_tellsWay_159 : decode cX10_tellsWay 159 = .ok (.getfield 20, 3) := by decide +kernel
theorem dX10_tellsWay_162 : decode cX10_tellsWay 162 = .ok (.iload_n 3, 1) := by decide +kernel
theorem dX10_tellsWay_163 : decode cX10_tellsWay 163 = .ok (.invokevirtual 294, 3) := by decide +kernel
theorem dX10_tellsWay_166 : decode cX10_tellsWay 166 = .ok (.iload_n 2, 1) := by decide +kernel
theorem dX10_tellsWay_167 : decode cX10_tellsWay 167 = .ok (.iand, 1) := by decide +kernel
theorem dX10_tellsWay_168 : decode cX10_tellsWay 168 = .ok (.ior, 1) := by decide +kernel
theorem dX10_tellsWay_169 : decode cX10_tellsWay 169 = .ok (.istore 4, 2) := by decide +kernel
theorem dX10_tellsWay_171 : decode cX10_tellsWay 171 = .ok (.aload_n 0, 1) := by decide +kernel
theorem dX10_tellsWay_172 : decode cX10_tellsWay 172 = .ok (.iload_n 3, 1) := by decide +kernel
theorem dX10_tellsWay_173 : decode cX10_tellsWay 173 = .ok (.i2l, 1) := by decide +kernel
theorem dX10_tellsWay_174 : decode cX10_tellsWay 174 = .ok (.invokevirtual 339, 3) := by decide +kernel
theorem dX10_tellsWay_177 : decode cX10_tellsWay 177 = .ok (.goto (-151), 3) := by decide +kernel
theorem dX10_tellsWay_180 : decode cX10_tellsWay 180 = .ok (.aload_n 0, 1) := by decide +kernel
theorem dX10_tellsWay_181 : decode cX10_tellsWay 181 = .ok (.getfield 110, 3) := by decide +kernel
theorem dX10_tellsWay_184 : decode cX10_tellsWay 184 = .ok (.ireturn, 1) := by decide +kernel
theorem dX10_meets_0 : decode cX10_meets 0 = .ok (.aload_n 0, 1) := by decide +kernel
theorem dX10_meets_1 : decode cX10_meets 1 = .ok (.iconst 0, 1) := by decide +kernel
theorem dX10_meets_2 : decode cX10_meets 2 = .ok (.putfield 103, 3) := by decide +kernel
theorem dX10_meets_5 : decode cX10_meets 5 = .ok (.aload_n 0, 1) := by decide +kernel
theorem dX10_meets_6 : decode cX10_meets 6 = .ok (.iload_n 1, 1) := by decide +kernel
theorem dX10_meets_7 : decode cX10_meets 7 = .ok (.invokevirtual 289, 3) := by decide +kernel
theorem dX10_meets_10 : decode cX10_meets 10 = .ok (.ifCond .eq 32, 3) := by decide +kernel
theorem dX10_meets_13 : decode cX10_meets 13 = .ok (.aload_n 0, 1) := by decide +kernel
theorem dX10_meets_14 : decode cX10_meets 14 = .ok (.iload_n 2, 1) := by decide +kernel
theorem dX10_meets_15 : decode cX10_meets 15 = .ok (.invokevirtual 289, 3) := by decide +kernel
theorem dX10_meets_18 : decode cX10_meets 18 = .ok (.ifCond .eq 24, 3) := by decide +kernel
theorem dX10_meets_21 : decode cX10_meets 21 = .ok (.iload_n 3, 1) := by decide +kernel
theorem dX10_meets_22 : decode cX10_meets 22 = .ok (.i2l, 1) := by decide +kernel
theorem dX10_meets_23 : decode cX10_meets 23 = .ok (.lconst 0, 1) := by decide +kernel
theorem dX10_meets_24 : decode cX10_meets 24 = .ok (.iconst 1, 1) := by decide +kernel
theorem dX10_meets_25 : decode cX10_meets 25 = .ok (.aload_n 0, 1) := by decide +kernel
theorem dX10_meets_26 : decode cX10_meets 26 = .ok (.getfield 20, 3) := by decide +kernel
theorem dX10_meets_29 : decode cX10_meets 29 = .ok (.bipush 48, 2) := by decide +kernel
theorem dX10_meets_31 : decode cX10_meets 31 = .ok (.iaload, 1) := by decide +kernel
theorem dX10_meets_32 : decode cX10_meets 32 = .ok (.ishl, 1) := by decide +kernel
theorem dX10_meets_33 : decode cX10_meets 33 = .ok (.iconst 1, 1) := by decide +kernel
theorem dX10_meets_34 : decode cX10_meets 34 = .ok (.isub, 1) := by decide +kernel
theorem dX10_meets_35 : decode cX10_meets 35 = .ok (.i2l, 1) := by decide +kernel
theorem dX10_meets_36 : decode cX10_meets 36 = .ok (.invokestatic 117, 3) := by decide +kernel
theorem dX10_meets_39 : decode cX10_meets 39 = .ok (.ifCond .ne 5, 3) := by decide +kernel
theorem dX10_meets_42 : decode cX10_meets 42 = .ok (.iconst (-1), 1) := by decide +kernel
theorem dX10_meets_43 : decode cX10_meets 43 = .ok (.ireturn, 1) := by decide +kernel
theorem dX10_meets_44 : decode cX10_meets 44 = .ok (.iload_n 3, 1) := by decide +kernel
theorem dX10_meets_45 : decode cX10_meets 45 = .ok (.aload_n 0, 1) := by decide +kernel
theorem dX10_meets_46 : decode cX10_meets 46 = .ok (.getfield 20, 3) := by decide +kernel
theorem dX10_meets_49 : decode cX10_meets 49 = .ok (.invokestatic 311, 3) := by decide +kernel
theorem dX10_meets_52 : decode cX10_meets 52 = .ok (.iconst (-1), 1) := by decide +kernel
theorem dX10_meets_53 : decode cX10_meets 53 = .ok (.ixor, 1) := by decide +kernel
theorem dX10_meets_54 : decode cX10_meets 54 = .ok (.iand, 1) := by decide +kernel
theorem dX10_meets_55 : decode cX10_meets 55 = .ok (.ifCond .eq 6, 3) := by decide +kernel
theorem dX10_meets_58 : decode cX10_meets 58 = .ok (.bipush (-2), 2) := by decide +kernel
theorem dX10_meets_60 : decode cX10_meets 60 = .ok (.ireturn, 1) := by decide +kernel
theorem dX10_meets_61 : decode cX10_meets 61 = .ok (.iconst 0, 1) := by decide +kernel
theorem dX10_meets_62 : decode cX10_meets 62 = .ok (.istore 4, 2) := by decide +kernel
theorem dX10_meets_64 : decode cX10_meets 64 = .ok (.iload 4, 2) := by decide +kernel
theorem dX10_meets_66 : decode cX10_meets 66 = .ok (.aload_n 0, 1) := by decide +kernel
theorem dX10_meets_67 : decode cX10_meets 67 = .ok (.invokevirtual 113, 3) := by decide +kernel
theorem dX10_meets_70 : decode cX10_meets 70 = .ok (.if_icmp .ge 17, 3) := by decide +kernel
theorem dX10_meets_73 : decode cX10_meets 73 = .ok (.aload_n 0, 1) := by decide +kernel
theorem dX10_meets_74 : decode cX10_meets 74 = .ok (.getfield 63, 3) := by decide +kernel
theorem dX10_meets_77 : decode cX10_meets 77 = .ok (.iload 4, 2) := by decide +kernel
theorem dX10_meets_79 : decode cX10_meets 79 = .ok (.iconst 1, 1) := by decide +kernel
theorem dX10_meets_80 : decode cX10_meets 80 = .ok (.iastore, 1) := by decide +kernel
theorem dX10_meets_81 : decode cX10_meets 81 = .ok (.iinc 4 1, 3) := by decide +kernel
theorem dX10_meets_84 : decode cX10_meets 84 = .ok (.goto (-20), 3) := by decide +kernel
theorem dX10_meets_87 : decode cX10_meets 87 = .ok (.aload_n 0, 1) := by decide +kernel
theorem dX10_meets_88 : decode cX10_meets 88 = .ok (.iload_n 2, 1) := by decide +kernel
theorem dX10_meets_89 : decode cX10_meets 89 = .ok (.iload_n 3, 1) := by decide +kernel
theorem dX10_meets_90 : decode cX10_meets 90 = .ok (.invokevirtual 402, 3) := by decide +kernel
theorem dX10_meets_93 : decode cX10_meets 93 = .ok (.aload_n 0, 1) := by decide +kernel
theorem dX10_meets_94 : decode cX10_meets 94 = .ok (.iload_n 1, 1) := by decide +kernel
theorem dX10_meets_95 : decode cX10_meets 95 = .ok (.iload_n 3, 1) := by decide +kernel
theorem dX10_meets_96 : decode cX10_meets 96 = .ok (.invokevirtual 406, 3) := by decide +kernel
theorem dX10_meets_99 : decode cX10_meets 99 = .ok (.iconst 1, 1) := by decide +kernel
theorem dX10_meets_100 : decode cX10_meets 100 = .ok (.isub, 1) := by decide +kernel
theorem dX10_meets_101 : decode cX10_meets 101 = .ok (.ireturn, 1) := by decide +kernel
theorem dX10_quiet_0 : decode cX10_quiet 0 = .ok (.aload_n 0, 1) := by decide +kernel
theorem dX10_quiet_1 : decode cX10_quiet 1 = .ok (.iconst 0, 1) := by decide +kernel
theorem dX10_quiet_2 : decode cX10_quiet 2 = .ok (.putfield 103, 3) := by decide +kernel
theorem dX10_quiet_5 : decode cX10_quiet 5 = .ok (.aload_n 0, 1) := by decide +kernel
theorem dX10_quiet_6 : decode cX10_quiet 6 = .ok (.iload_n 1, 1) := by decide +kernel
theorem dX10_quiet_7 : decode cX10_quiet 7 = .ok (.invokevirtual 289, 3) := by decide +kernel
theorem dX10_quiet_10 : decode cX10_quiet 10 = .ok (.ifCond .eq 11, 3) := by decide +kernel
theorem dX10_quiet_13 : decode cX10_quiet 13 = .ok (.aload_n 0, 1) := by decide +kernel
theorem dX10_quiet_14 : decode cX10_quiet 14 = .ok (.iload_n 2, 1) := by decide +kernel
theorem dX10_quiet_15 : decode cX10_quiet 15 = .ok (.invokevirtual 289, 3) := by decide +kernel
theorem dX10_quiet_18 : decode cX10_quiet 18 = .ok (.ifCond .ne 5, 3) := by decide +kernel
theorem dX10_quiet_21 : decode cX10_quiet 21 = .ok (.iconst (-1), 1) := by decide +kernel
theorem dX10_quiet_22 : decode cX10_quiet 22 = .ok (.ireturn, 1) := by decide +kernel
theorem dX10_quiet_23 : decode cX10_quiet 23 = .ok (.iconst 0, 1) := by decide +kernel
theorem dX10_quiet_24 : decode cX10_quiet 24 = .ok (.istore_n 3, 1) := by decide +kernel
theorem dX10_quiet_25 : decode cX10_quiet 25 = .ok (.iload_n 3, 1) := by decide +kernel
theorem dX10_quiet_26 : decode cX10_quiet 26 = .ok (.aload_n 0, 1) := by decide +kernel
theorem dX10_quiet_27 : decode cX10_quiet 27 = .ok (.invokevirtual 113, 3) := by decide +kernel
theorem dX10_quiet_30 : decode cX10_quiet 30 = .ok (.if_icmp .ge 39, 3) := by decide +kernel
theorem dX10_quiet_33 : decode cX10_quiet 33 = .ok (.aload_n 0, 1) := by decide +kernel
theorem dX10_quiet_34 : decode cX10_quiet 34 = .ok (.getfield 63, 3) := by decide +kernel
theorem dX10_quiet_37 : decode cX10_quiet 37 = .ok (.iload_n 3, 1) := by decide +kernel
theorem dX10_quiet_38 : decode cX10_quiet 38 = .ok (.iload_n 3, 1) := by decide +kernel
theorem dX10_quiet_39 : decode cX10_quiet 39 = .ok (.iload_n 2, 1) := by decide +kernel
theorem dX10_quiet_40 : decode cX10_quiet 40 = .ok (.if_icmp .eq 21, 3) := by decide +kernel
theorem dX10_quiet_43 : decode cX10_quiet 43 = .ok (.aload_n 0, 1) := by decide +kernel
theorem dX10_quiet_44 : decode cX10_quiet 44 = .ok (.aload_n 0, 1) := by decide +kernel
theorem dX10_quiet_45 : decode cX10_quiet 45 = .ok (.getfield 20, 3) := by decide +kernel
theorem dX10_quiet_48 : decode cX10_quiet 48 = .ok (.iload_n 3, 1) := by decide +kernel
theorem dX10_quiet_49 : decode cX10_quiet 49 = .ok (.invokevirtual 294, 3) := by decide +kernel
theorem dX10_quiet_52 : decode cX10_quiet 52 = .ok (.ifCond .eq 9, 3) := by decide +kernel
theorem dX10_quiet_55 : decode cX10_quiet 55 = .ok (.ldc_w 392, 3) := by decide +kernel
theorem dX10_quiet_58 : decode cX10_quiet 58 = .ok (.goto 4, 3) := by decide +kernel
theorem dX10_quiet_61 : decode cX10_quiet 61 = .ok (.iconst 1, 1) := by decide +kernel
theorem dX10_quiet_62 : decode cX10_quiet 62 = .ok (.iastore, 1) := by decide +kernel
theorem dX10_quiet_63 : decode cX10_quiet 63 = .ok (.iinc 3 1, 3) := by decide +kernel
theorem dX10_quiet_66 : decode cX10_quiet 66 = .ok (.goto (-41), 3) := by decide +kernel
theorem dX10_quiet_69 : decode cX10_quiet 69 = .ok (.aload_n 0, 1) := by decide +kernel
theorem dX10_quiet_70 : decode cX10_quiet 70 = .ok (.iload_n 2, 1) := by decide +kernel
theorem dX10_quiet_71 : decode cX10_quiet 71 = .ok (.iconst 0, 1) := by decide +kernel
theorem dX10_quiet_72 : decode cX10_quiet 72 = .ok (.invokevirtual 402, 3) := by decide +kernel
theorem dX10_quiet_75 : decode cX10_quiet 75 = .ok (.aload_n 0, 1) := by decide +kernel
theorem dX10_quiet_76 : decode cX10_quiet 76 = .ok (.getfield 60, 3) := by decide +kernel
theorem dX10_quiet_79 : decode cX10_quiet 79 = .ok (.iload_n 1, 1) := by decide +kernel
theorem dX10_quiet_80 : decode cX10_quiet 80 = .ok (.iconst 0, 1) := by decide +kernel
theorem dX10_quiet_81 : decode cX10_quiet 81 = .ok (.invokestatic 396, 3) := by decide +kernel
theorem dX10_quiet_84 : decode cX10_quiet 84 = .ok (.iaload, 1) := by decide +kernel
theorem dX10_quiet_85 : decode cX10_quiet 85 = .ok (.ldc_w 392, 3) := by decide +kernel
theorem dX10_quiet_88 : decode cX10_quiet 88 = .ok (.if_icmp .lt 8, 3) := by decide +kernel
theorem dX10_quiet_91 : decode cX10_quiet 91 = .ok (.bipush (-2), 2) := by decide +kernel
theorem dX10_quiet_93 : decode cX10_quiet 93 = .ok (.goto 11, 3) := by decide +kernel
theorem dX10_quiet_96 : decode cX10_quiet 96 = .ok (.aload_n 0, 1) := by decide +kernel
theorem dX10_quiet_97 : decode cX10_quiet 97 = .ok (.iload_n 1, 1) := by decide +kernel
theorem dX10_quiet_98 : decode cX10_quiet 98 = .ok (.iconst 0, 1) := by decide +kernel
theorem dX10_quiet_99 : decode cX10_quiet 99 = .ok (.invokevirtual 406, 3) := by decide +kernel
theorem dX10_quiet_102 : decode cX10_quiet 102 = .ok (.iconst 1, 1) := by decide +kernel
theorem dX10_quiet_103 : decode cX10_quiet 103 = .ok (.isub, 1) := by decide +kernel
theorem dX10_quiet_104 : decode cX10_quiet 104 = .ok (.ireturn, 1) := by decide +kernel
theorem dX10_soft_0 : decode cX10_soft 0 = .ok (.aload_n 0, 1) := by decide +kernel
theorem dX10_soft_1 : decode cX10_soft 1 = .ok (.iconst 0, 1) := by decide +kernel
theorem dX10_soft_2 : decode cX10_soft 2 = .ok (.putfield 103, 3) := by decide +kernel
theorem dX10_soft_5 : decode cX10_soft 5 = .ok (.aload_n 0, 1) := by decide +kernel
theorem dX10_soft_6 : decode cX10_soft 6 = .ok (.iload_n 1, 1) := by decide +kernel
theorem dX10_soft_7 : decode cX10_soft 7 = .ok (.invokevirtual 289, 3) := by decide +kernel
theorem dX10_soft_10 : decode cX10_soft 10 = .ok (.ifCond .eq 11, 3) := by decide +kernel
theorem dX10_soft_13 : decode cX10_soft 13 = .ok (.aload_n 0, 1) := by decide +kernel
theorem dX10_soft_14 : decode cX10_soft 14 = .ok (.iload_n 2, 1) := by decide +kernel
theorem dX10_soft_15 : decode cX10_soft 15 = .ok (.invokevirtual 289, 3) := by decide +kernel
theorem dX10_soft_18 : decode cX10_soft 18 = .ok (.ifCond .ne 5, 3) := by decide +kernel
theorem dX10_soft_21 : decode cX10_soft 21 = .ok (.iconst (-1), 1) := by decide +kernel
theorem dX10_soft_22 : decode cX10_soft 22 = .ok (.ireturn, 1) := by decide +kernel
theorem dX10_soft_23 : decode cX10_soft 23 = .ok (.iconst 0, 1) := by decide +kernel
theorem dX10_soft_24 : decode cX10_soft 24 = .ok (.istore_n 3, 1) := by decide +kernel
theorem dX10_soft_25 : decode cX10_soft 25 = .ok (.iload_n 3, 1) := by decide +kernel
theorem dX10_soft_26 : decode cX10_soft 26 = .ok (.aload_n 0, 1) := by decide +kernel
theorem dX10_soft_27 : decode cX10_soft 27 = .ok (.invokevirtual 113, 3) := by decide +kernel
theorem dX10_soft_30 : decode cX10_soft 30 = .ok (.if_icmp .ge 29, 3) := by decide +kernel
theorem dX10_soft_33 : decode cX10_soft 33 = .ok (.aload_n 0, 1) := by decide +kernel
theorem dX10_soft_34 : decode cX10_soft 34 = .ok (.getfield 63, 3) := by decide +kernel
theorem dX10_soft_37 : decode cX10_soft 37 = .ok (.iload_n 3, 1) := by decide +kernel
theorem dX10_soft_38 : decode cX10_soft 38 = .ok (.bipush 100, 2) := by decide +kernel
theorem dX10_soft_40 : decode cX10_soft 40 = .ok (.aload_n 0, 1) := by decide +kernel
theorem dX10_soft_41 : decode cX10_soft 41 = .ok (.aload_n 0, 1) := by decide +kernel
theorem dX10_soft_42 : decode cX10_soft 42 = .ok (.getfield 20, 3) := by decide +kernel
theorem dX10_soft_45 : decode cX10_soft 45 = .ok (.iload_n 3, 1) := by decide +kernel
theorem dX10_soft_46 : decode cX10_soft 46 = .ok (.invokevirtual 297, 3) := by decide +kernel
theorem dX10_soft_49 : decode cX10_soft 49 = .ok (.imul, 1) := by decide +kernel
theorem dX10_soft_50 : decode cX10_soft 50 = .ok (.iconst 1, 1) := by decide +kernel
theorem dX10_soft_51 : decode cX10_soft 51 = .ok (.iadd, 1) := by decide +kernel
theorem dX10_soft_52 : decode cX10_soft 52 = .ok (.iastore, 1) := by decide +kernel
theorem dX10_soft_53 : decode cX10_soft 53 = .ok (.iinc 3 1, 3) := by decide +kernel
theorem dX10_soft_56 : decode cX10_soft 56 = .ok (.goto (-31), 3) := by decide +kernel
theorem dX10_soft_59 : decode cX10_soft 59 = .ok (.aload_n 0, 1) := by decide +kernel
theorem dX10_soft_60 : decode cX10_soft 60 = .ok (.iload_n 2, 1) := by decide +kernel
theorem dX10_soft_61 : decode cX10_soft 61 = .ok (.iconst 0, 1) := by decide +kernel
theorem dX10_soft_62 : decode cX10_soft 62 = .ok (.invokevirtual 402, 3) := by decide +kernel
theorem dX10_soft_65 : decode cX10_soft 65 = .ok (.aload_n 0, 1) := by decide +kernel
theorem dX10_soft_66 : decode cX10_soft 66 = .ok (.aload_n 0, 1) := by decide +kernel
theorem dX10_soft_67 : decode cX10_soft 67 = .ok (.getfield 20, 3) := by decide +kernel
theorem dX10_soft_70 : decode cX10_soft 70 = .ok (.iload_n 1, 1) := by decide +kernel
theorem dX10_soft_71 : decode cX10_soft 71 = .ok (.invokevirtual 297, 3) := by decide +kernel
theorem dX10_soft_74 : decode cX10_soft 74 = .ok (.aload_n 0, 1) := by decide +kernel
theorem dX10_soft_75 : decode cX10_soft 75 = .ok (.getfield 60, 3) := by decide +kernel
theorem dX10_soft_78 : decode cX10_soft 78 = .ok (.iload_n 1, 1) := by decide +kernel
theorem dX10_soft_79 : decode cX10_soft 79 = .ok (.iconst 0, 1) := by decide +kernel
theorem dX10_soft_80 : decode cX10_soft 80 = .ok (.invokestatic 396, 3) := by decide +kernel
theorem dX10_soft_83 : decode cX10_soft 83 = .ok (.iaload, 1) := by decide +kernel
theorem dX10_soft_84 : decode cX10_soft 84 = .ok (.bipush 100, 2) := by decide +kernel
theorem dX10_soft_86 : decode cX10_soft 86 = .ok (.idiv, 1) := by decide +kernel
theorem dX10_soft_87 : decode cX10_soft 87 = .ok (.iadd, 1) := by decide +kernel
theorem dX10_soft_88 : decode cX10_soft 88 = .ok (.istore_n 3, 1) := by decide +kernel
theorem dX10_soft_89 : decode cX10_soft 89 = .ok (.aload_n 0, 1) := by decide +kernel
theorem dX10_soft_90 : decode cX10_soft 90 = .ok (.iload_n 1, 1) := by decide +kernel
theorem dX10_soft_91 : decode cX10_soft 91 = .ok (.iconst 0, 1) := by decide +kernel
theorem dX10_soft_92 : decode cX10_soft 92 = .ok (.invokevirtual 406, 3) := by decide +kernel
theorem dX10_soft_95 : decode cX10_soft 95 = .ok (.pop, 1) := by decide +kernel
theorem dX10_soft_96 : decode cX10_soft 96 = .ok (.iload_n 3, 1) := by decide +kernel
theorem dX10_soft_97 : decode cX10_soft 97 = .ok (.ireturn, 1) := by decide +kernel
theorem dX10_seenFrom_0 : decode cX10_seenFrom 0 = .ok (.iconst 0, 1) := by decide +kernel
theorem dX10_seenFrom_1 : decode cX10_seenFrom 1 = .ok (.istore_n 2, 1) := by decide +kernel
theorem dX10_seenFrom_2 : decode cX10_seenFrom 2 = .ok (.iconst 0, 1) := by decide +kernel
theorem dX10_seenFrom_3 : decode cX10_seenFrom 3 = .ok (.istore_n 3, 1) := by decide +kernel
theorem dX10_seenFrom_4 : decode cX10_seenFrom 4 = .ok (.iconst 0, 1) := by decide +kernel
theorem dX10_seenFrom_5 : decode cX10_seenFrom 5 = .ok (.istore 4, 2) := by decide +kernel
theorem dX10_seenFrom_7 : decode cX10_seenFrom 7 = .ok (.iload 4, 2) := by decide +kernel
theorem dX10_seenFrom_9 : decode cX10_seenFrom 9 = .ok (.aload_n 0, 1) := by decide +kernel
