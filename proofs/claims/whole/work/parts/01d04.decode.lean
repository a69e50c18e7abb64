theorem dX10_faultOf_58 : decode cX10_faultOf 58 = .ok (.isub, 1) := by decide +kernel
theorem dX10_faultOf_59 : decode cX10_faultOf 59 = .ok (.ireturn, 1) := by decide +kernel
theorem dX10_field_0 : decode cX10_field 0 = .ok (.aload_n 0, 1) := by decide +kernel
theorem dX10_field_1 : decode cX10_field 1 = .ok (.iconst 0, 1) := by decide +kernel
theorem dX10_field_2 : decode cX10_field 2 = .ok (.putfield 103, 3) := by decide +kernel
theorem dX10_field_5 : decode cX10_field 5 = .ok (.aload_n 0, 1) := by decide +kernel
theorem dX10_field_6 : decode cX10_field 6 = .ok (.bipush 80, 2) := by decide +kernel
theorem dX10_field_8 : decode cX10_field 8 = .ok (.invokevirtual 184, 3) := by decide +kernel
theorem dX10_field_11 : decode cX10_field 11 = .ok (.pop, 1) := by decide +kernel
theorem dX10_field_12 : decode cX10_field 12 = .ok (.aload_n 0, 1) := by decide +kernel
theorem dX10_field_13 : decode cX10_field 13 = .ok (.iconst 3, 1) := by decide +kernel
theorem dX10_field_14 : decode cX10_field 14 = .ok (.bipush 6, 2) := by decide +kernel
theorem dX10_field_16 : decode cX10_field 16 = .ok (.invokevirtual 188, 3) := by decide +kernel
theorem dX10_field_19 : decode cX10_field 19 = .ok (.istore_n 1, 1) := by decide +kernel
theorem dX10_field_20 : decode cX10_field 20 = .ok (.iload_n 1, 1) := by decide +kernel
theorem dX10_field_21 : decode cX10_field 21 = .ok (.ifCond .ge 7, 3) := by decide +kernel
theorem dX10_field_24 : decode cX10_field 24 = .ok (.iconst (-1), 1) := by decide +kernel
theorem dX10_field_25 : decode cX10_field 25 = .ok (.goto 10, 3) := by decide +kernel
theorem dX10_field_28 : decode cX10_field 28 = .ok (.aload_n 0, 1) := by decide +kernel
theorem dX10_field_29 : decode cX10_field 29 = .ok (.iconst 3, 1) := by decide +kernel
theorem dX10_field_30 : decode cX10_field 30 = .ok (.bipush 6, 2) := by decide +kernel
theorem dX10_field_32 : decode cX10_field 32 = .ok (.invokevirtual 188, 3) := by decide +kernel
theorem dX10_field_35 : decode cX10_field 35 = .ok (.istore_n 2, 1) := by decide +kernel
theorem dX10_field_36 : decode cX10_field 36 = .ok (.iload_n 2, 1) := by decide +kernel
theorem dX10_field_37 : decode cX10_field 37 = .ok (.ifCond .lt 14, 3) := by decide +kernel
theorem dX10_field_40 : decode cX10_field 40 = .ok (.aload_n 0, 1) := by decide +kernel
theorem dX10_field_41 : decode cX10_field 41 = .ok (.getfield 148, 3) := by decide +kernel
theorem dX10_field_44 : decode cX10_field 44 = .ok (.aload_n 0, 1) := by decide +kernel
theorem dX10_field_45 : decode cX10_field 45 = .ok (.getfield 160, 3) := by decide +kernel
theorem dX10_field_48 : decode cX10_field 48 = .ok (.if_icmp .ge 10, 3) := by decide +kernel
theorem dX10_field_51 : decode cX10_field 51 = .ok (.iconst (-1), 1) := by decide +kernel
theorem dX10_field_52 : decode cX10_field 52 = .ok (.aload_n 0, 1) := by decide +kernel
theorem dX10_field_53 : decode cX10_field 53 = .ok (.getfield 148, 3) := by decide +kernel
theorem dX10_field_56 : decode cX10_field 56 = .ok (.isub, 1) := by decide +kernel
theorem dX10_field_57 : decode cX10_field 57 = .ok (.ireturn, 1) := by decide +kernel
theorem dX10_field_58 : decode cX10_field 58 = .ok (.aload_n 0, 1) := by decide +kernel
theorem dX10_field_59 : decode cX10_field 59 = .ok (.iload_n 1, 1) := by decide +kernel
theorem dX10_field_60 : decode cX10_field 60 = .ok (.putfield 13, 3) := by decide +kernel
theorem dX10_field_63 : decode cX10_field 63 = .ok (.aload_n 0, 1) := by decide +kernel
theorem dX10_field_64 : decode cX10_field 64 = .ok (.iload_n 2, 1) := by decide +kernel
theorem dX10_field_65 : decode cX10_field 65 = .ok (.putfield 17, 3) := by decide +kernel
theorem dX10_field_68 : decode cX10_field 68 = .ok (.aload_n 0, 1) := by decide +kernel
theorem dX10_field_69 : decode cX10_field 69 = .ok (.getfield 20, 3) := by decide +kernel
theorem dX10_field_72 : decode cX10_field 72 = .ok (.bipush 48, 2) := by decide +kernel
theorem dX10_field_74 : decode cX10_field 74 = .ok (.iconst 0, 1) := by decide +kernel
theorem dX10_field_75 : decode cX10_field 75 = .ok (.iastore, 1) := by decide +kernel
theorem dX10_field_76 : decode cX10_field 76 = .ok (.aload_n 0, 1) := by decide +kernel
theorem dX10_field_77 : decode cX10_field 77 = .ok (.getfield 20, 3) := by decide +kernel
theorem dX10_field_80 : decode cX10_field 80 = .ok (.bipush 49, 2) := by decide +kernel
theorem dX10_field_82 : decode cX10_field 82 = .ok (.iconst 0, 1) := by decide +kernel
theorem dX10_field_83 : decode cX10_field 83 = .ok (.iastore, 1) := by decide +kernel
theorem dX10_field_84 : decode cX10_field 84 = .ok (.aload_n 0, 1) := by decide +kernel
theorem dX10_field_85 : decode cX10_field 85 = .ok (.getfield 20, 3) := by decide +kernel
theorem dX10_field_88 : decode cX10_field 88 = .ok (.bipush 50, 2) := by decide +kernel
theorem dX10_field_90 : decode cX10_field 90 = .ok (.iconst 0, 1) := by decide +kernel
theorem dX10_field_91 : decode cX10_field 91 = .ok (.iastore, 1) := by decide +kernel
theorem dX10_field_92 : decode cX10_field 92 = .ok (.aload_n 0, 1) := by decide +kernel
theorem dX10_field_93 : decode cX10_field 93 = .ok (.iconst 0, 1) := by decide +kernel
theorem dX10_field_94 : decode cX10_field 94 = .ok (.putfield 191, 3) := by decide +kernel
theorem dX10_field_97 : decode cX10_field 97 = .ok (.aload_n 0, 1) := by decide +kernel
theorem dX10_field_98 : decode cX10_field 98 = .ok (.dup, 1) := by decide +kernel
theorem dX10_field_99 : decode cX10_field 99 = .ok (.getfield 194, 3) := by decide +kernel
theorem dX10_field_102 : decode cX10_field 102 = .ok (.iconst 1, 1) := by decide +kernel
theorem dX10_field_103 : decode cX10_field 103 = .ok (.iadd, 1) := by decide +kernel
theorem dX10_field_104 : decode cX10_field 104 = .ok (.putfield 194, 3) := by decide +kernel
theorem dX10_field_107 : decode cX10_field 107 = .ok (.aload_n 0, 1) := by decide +kernel
theorem dX10_field_108 : decode cX10_field 108 = .ok (.iconst 0, 1) := by decide +kernel
theorem dX10_field_109 : decode cX10_field 109 = .ok (.putfield 197, 3) := by decide +kernel
theorem dX10_field_112 : decode cX10_field 112 = .ok (.aload_n 0, 1) := by decide +kernel
theorem dX10_field_113 : decode cX10_field 113 = .ok (.invokevirtual 113, 3) := by decide +kernel
theorem dX10_field_116 : decode cX10_field 116 = .ok (.ireturn, 1) := by decide +kernel
theorem dX10_readsCamp_0 : decode cX10_readsCamp 0 = .ok (.aload_n 0, 1) := by decide +kernel
theorem dX10_readsCamp_1 : decode cX10_readsCamp 1 = .ok (.getfield 20, 3) := by decide +kernel
theorem dX10_readsCamp_4 : decode cX10_readsCamp 4 = .ok (.bipush 48, 2) := by decide +kernel
theorem dX10_readsCamp_6 : decode cX10_readsCamp 6 = .ok (.iaload, 1) := by decide +kernel
theorem dX10_readsCamp_7 : decode cX10_readsCamp 7 = .ok (.aload_n 0, 1) := by decide +kernel
theorem dX10_readsCamp_8 : decode cX10_readsCamp 8 = .ok (.getfield 200, 3) := by decide +kernel
theorem dX10_readsCamp_11 : decode cX10_readsCamp 11 = .ok (.iadd, 1) := by decide +kernel
theorem dX10_readsCamp_12 : decode cX10_readsCamp 12 = .ok (.bipush 8, 2) := by decide +kernel
theorem dX10_readsCamp_14 : decode cX10_readsCamp 14 = .ok (.if_icmp .ne 5, 3) := by decide +kernel
theorem dX10_readsCamp_17 : decode cX10_readsCamp 17 = .ok (.iconst 0, 1) := by decide +kernel
theorem dX10_readsCamp_18 : decode cX10_readsCamp 18 = .ok (.ireturn, 1) := by decide +kernel
theorem dX10_readsCamp_19 : decode cX10_readsCamp 19 = .ok (.bipush 6, 2) := by decide +kernel
theorem dX10_readsCamp_21 : decode cX10_readsCamp 21 = .ok (.aload_n 0, 1) := by decide +kernel
theorem dX10_readsCamp_22 : decode cX10_readsCamp 22 = .ok (.getfield 200, 3) := by decide +kernel
theorem dX10_readsCamp_25 : decode cX10_readsCamp 25 = .ok (.imul, 1) := by decide +kernel
theorem dX10_readsCamp_26 : decode cX10_readsCamp 26 = .ok (.istore_n 1, 1) := by decide +kernel
theorem dX10_readsCamp_27 : decode cX10_readsCamp 27 = .ok (.iconst 1, 1) := by decide +kernel
theorem dX10_readsCamp_28 : decode cX10_readsCamp 28 = .ok (.istore_n 2, 1) := by decide +kernel
theorem dX10_readsCamp_29 : decode cX10_readsCamp 29 = .ok (.iconst 0, 1) := by decide +kernel
theorem dX10_readsCamp_30 : decode cX10_readsCamp 30 = .ok (.istore_n 3, 1) := by decide +kernel
theorem dX10_readsCamp_31 : decode cX10_readsCamp 31 = .ok (.iload_n 3, 1) := by decide +kernel
theorem dX10_readsCamp_32 : decode cX10_readsCamp 32 = .ok (.bipush 6, 2) := by decide +kernel
theorem dX10_readsCamp_34 : decode cX10_readsCamp 34 = .ok (.if_icmp .ge 145, 3) := by decide +kernel
theorem dX10_readsCamp_37 : decode cX10_readsCamp 37 = .ok (.iload_n 2, 1) := by decide +kernel
theorem dX10_readsCamp_38 : decode cX10_readsCamp 38 = .ok (.ifCond .eq 141, 3) := by decide +kernel
theorem dX10_readsCamp_41 : decode cX10_readsCamp 41 = .ok (.iload_n 3, 1) := by decide +kernel
theorem dX10_readsCamp_42 : decode cX10_readsCamp 42 = .ok (.iconst 1, 1) := by decide +kernel
theorem dX10_readsCamp_43 : decode cX10_readsCamp 43 = .ok (.if_icmp .le 12, 3) := by decide +kernel
theorem dX10_readsCamp_46 : decode cX10_readsCamp 46 = .ok (.iload_n 3, 1) := by decide +kernel
theorem dX10_readsCamp_47 : decode cX10_readsCamp 47 = .ok (.iconst 5, 1) := by decide +kernel
theorem dX10_readsCamp_48 : decode cX10_readsCamp 48 = .ok (.if_icmp .ge 7, 3) := by decide +kernel
theorem dX10_readsCamp_51 : decode cX10_readsCamp 51 = .ok (.iconst 1, 1) := by decide +kernel
theorem dX10_readsCamp_52 : decode cX10_readsCamp 52 = .ok (.goto 4, 3) := by decide +kernel
theorem dX10_readsCamp_55 : decode cX10_readsCamp 55 = .ok (.iconst 0, 1) := by decide +kernel
theorem dX10_readsCamp_56 : decode cX10_readsCamp 56 = .ok (.invokestatic 163, 3) := by decide +kernel
theorem dX10_readsCamp_59 : decode cX10_readsCamp 59 = .ok (.istore 4, 2) := by decide +kernel
theorem dX10_readsCamp_61 : decode cX10_readsCamp 61 = .ok (.iload_n 3, 1) := by decide +kernel
theorem dX10_readsCamp_62 : decode cX10_readsCamp 62 = .ok (.ifCond .ne 12, 3) := by decide +kernel
theorem dX10_readsCamp_65 : decode cX10_readsCamp 65 = .ok (.aload_n 0, 1) := by decide +kernel
theorem dX10_readsCamp_66 : decode cX10_readsCamp 66 = .ok (.getfield 13, 3) := by decide +kernel
theorem dX10_readsCamp_69 : decode cX10_readsCamp 69 = .ok (.iconst 1, 1) := by decide +kernel
theorem dX10_readsCamp_70 : decode cX10_readsCamp 70 = .ok (.isub, 1) := by decide +kernel
theorem dX10_readsCamp_71 : decode cX10_readsCamp 71 = .ok (.goto 67, 3) := by decide +kernel
theorem dX10_readsCamp_74 : decode cX10_readsCamp 74 = .ok (.iload_n 3, 1) := by decide +kernel
theorem dX10_readsCamp_75 : decode cX10_readsCamp 75 = .ok (.iconst 1, 1) := by decide +kernel
theorem dX10_readsCamp_76 : decode cX10_readsCamp 76 = .ok (.if_icmp .ne 12, 3) := by decide +kernel
theorem dX10_readsCamp_79 : decode cX10_readsCamp 79 = .ok (.aload_n 0, 1) := by decide +kernel
theorem dX10_readsCamp_80 : decode cX10_readsCamp 80 = .ok (.getfield 17, 3) := by decide +kernel
theorem dX10_readsCamp_83 : decode cX10_readsCamp 83 = .ok (.iconst 1, 1) := by decide +kernel
theorem dX10_readsCamp_84 : decode cX10_readsCamp 84 = .ok (.isub, 1) := by decide +kernel
theorem dX10_readsCamp_85 : decode cX10_readsCamp 85 = .ok (.goto 53, 3) := by decide +kernel
theorem dX10_readsCamp_88 : decode cX10_readsCamp 88 = .ok (.iload_n 3, 1) := by decide +kernel
theorem dX10_readsCamp_89 : decode cX10_readsCamp 89 = .ok (.iconst 2, 1) := by decide +kernel
theorem dX10_readsCamp_90 : decode cX10_readsCamp 90 = .ok (.if_icmp .ne 21, 3) := by decide +kernel
theorem dX10_readsCamp_93 : decode cX10_readsCamp 93 = .ok (.iconst 3, 1) := by decide +kernel
theorem dX10_readsCamp_94 : decode cX10_readsCamp 94 = .ok (.aload_n 0, 1) := by decide +kernel
theorem dX10_readsCamp_95 : decode cX10_readsCamp 95 = .ok (.getfield 13, 3) := by decide +kernel
theorem dX10_readsCamp_98 : decode cX10_readsCamp 98 = .ok (.aload_n 0, 1) := by decide +kernel
theorem dX10_readsCamp_99 : decode cX10_readsCamp 99 = .ok (.getfield 30, 3) := by decide +kernel
theorem dX10_readsCamp_102 : decode cX10_readsCamp 102 = .ok (.iload_n 1, 1) := by decide +kernel
theorem dX10_readsCamp_103 : decode cX10_readsCamp 103 = .ok (.iaload, 1) := by decide +kernel
theorem dX10_readsCamp_104 : decode cX10_readsCamp 104 = .ok (.isub, 1) := by decide +kernel
theorem dX10_readsCamp_105 : decode cX10_readsCamp 105 = .ok (.invokestatic 154, 3) := by decide +kernel
theorem dX10_readsCamp_108 : decode cX10_readsCamp 108 = .ok (.goto 30, 3) := by decide +kernel
theorem dX10_readsCamp_111 : decode cX10_readsCamp 111 = .ok (.iload_n 3, 1) := by decide +kernel
theorem dX10_readsCamp_112 : decode cX10_readsCamp 112 = .ok (.iconst 3, 1) := by decide +kernel
theorem dX10_readsCamp_113 : decode cX10_readsCamp 113 = .ok (.if_icmp .ne 23, 3) := by decide +kernel
theorem dX10_readsCamp_116 : decode cX10_readsCamp 116 = .ok (.iconst 3, 1) := by decide +kernel
theorem dX10_readsCamp_117 : decode cX10_readsCamp 117 = .ok (.aload_n 0, 1) := by decide +kernel
theorem dX10_readsCamp_118 : decode cX10_readsCamp 118 = .ok (.getfield 17, 3) := by decide +kernel
theorem dX10_readsCamp_121 : decode cX10_readsCamp 121 = .ok (.aload_n 0, 1) := by decide +kernel
theorem dX10_readsCamp_122 : decode cX10_readsCamp 122 = .ok (.getfield 30, 3) := by decide +kernel
theorem dX10_readsCamp_125 : decode cX10_readsCamp 125 = .ok (.iload_n 1, 1) := by decide +kernel
theorem dX10_readsCamp_126 : decode cX10_readsCamp 126 = .ok (.iconst 1, 1) := by decide +kernel
theorem dX10_readsCamp_127 : decode cX10_readsCamp 127 = .ok (.iadd, 1) := by decide +kernel
theorem dX10_readsCamp_128 : decode cX10_readsCamp 128 = .ok (.iaload, 1) := by decide +kernel
theorem dX10_readsCamp_129 : decode cX10_readsCamp 129 = .ok (.isub, 1) := by decide +kernel
theorem dX10_readsCamp_130 : decode cX10_readsCamp 130 = .ok (.invokestatic 154, 3) := by decide +kernel
theorem dX10_readsCamp_133 : decode cX10_readsCamp 133 = .ok (.goto 5, 3) := by decide +kernel
theorem dX10_readsCamp_136 : decode cX10_readsCamp 136 = .ok (.bipush 9, 2) := by decide +kernel
theorem dX10_readsCamp_138 : decode cX10_readsCamp 138 = .ok (.istore 5, 2) := by decide +kernel
theorem dX10_readsCamp_140 : decode cX10_readsCamp 140 = .ok (.aload_n 0, 1) := by decide +kernel
theorem dX10_readsCamp_141 : decode cX10_readsCamp 141 = .ok (.getfield 30, 3) := by decide +kernel
theorem dX10_readsCamp_144 : decode cX10_readsCamp 144 = .ok (.iload_n 1, 1) := by decide +kernel
theorem dX10_readsCamp_145 : decode cX10_readsCamp 145 = .ok (.iload_n 3, 1) := by decide +kernel
theorem dX10_readsCamp_146 : decode cX10_readsCamp 146 = .ok (.iadd, 1) := by decide +kernel
theorem dX10_readsCamp_147 : decode cX10_readsCamp 147 = .ok (.aload_n 0, 1) := by decide +kernel
theorem dX10_readsCamp_148 : decode cX10_readsCamp 148 = .ok (.iload 4, 2) := by decide +kernel
theorem dX10_readsCamp_150 : decode cX10_readsCamp 150 = .ok (.iload 5, 2) := by decide +kernel
theorem dX10_readsCamp_152 : decode cX10_readsCamp 152 = .ok (.invokevirtual 188, 3) := by decide +kernel
theorem dX10_readsCamp_155 : decode cX10_readsCamp 155 = .ok (.iastore, 1) := by decide +kernel
theorem dX10_readsCamp_156 : decode cX10_readsCamp 156 = .ok (.aload_n 0, 1) := by decide +kernel
theorem dX10_readsCamp_157 : decode cX10_readsCamp 157 = .ok (.getfield 30, 3) := by decide +kernel
theorem dX10_readsCamp_160 : decode cX10_readsCamp 160 = .ok (.iload_n 1, 1) := by decide +kernel
theorem dX10_readsCamp_161 : decode cX10_readsCamp 161 = .ok (.iload_n 3, 1) := by decide +kernel
theorem dX10_readsCamp_162 : decode cX10_readsCamp 162 = .ok (.iadd, 1) := by decide +kernel
theorem dX10_readsCamp_163 : decode cX10_readsCamp 163 = .ok (.iaload, 1) := by decide +kernel
theorem dX10_readsCamp_164 : decode cX10_readsCamp 164 = .ok (.ifCond .lt 7, 3) := by decide +kernel
theorem dX10_readsCamp_167 : decode cX10_readsCamp 167 = .ok (.iconst 1, 1) := by decide +kernel
theorem dX10_readsCamp_168 : decode cX10_readsCamp 168 = .ok (.goto 4, 3) := by decide +kernel
theorem dX10_readsCamp_171 : decode cX10_readsCamp 171 = .ok (.iconst 0, 1) := by decide +kernel
theorem dX10_readsCamp_172 : decode cX10_readsCamp 172 = .ok (.istore_n 2, 1) := by decide +kernel
theorem dX10_readsCamp_173 : decode cX10_readsCamp 173 = .ok (.iinc 3 1, 3) := by decide +kernel
theorem dX10_readsCamp_176 : decode cX10_readsCamp 176 = .ok (.goto (-145), 3) := by decide +kernel
theorem dX10_readsCamp_179 : decode cX10_readsCamp 179 = .ok (.aload_n 0, 1) := by decide +kernel
theorem dX10_readsCamp_180 : decode cX10_readsCamp 180 = .ok (.dup, 1) := by decide +kernel
theorem dX10_readsCamp_181 : decode cX10_readsCamp 181 = .ok (.getfield 200, 3) := by decide +kernel
theorem dX10_readsCamp_184 : decode cX10_readsCamp 184 = .ok (.iconst 1, 1) := by decide +kernel
theorem dX10_readsCamp_185 : decode cX10_readsCamp 185 = .ok (.iadd, 1) := by decide +kernel
theorem dX10_readsCamp_186 : decode cX10_readsCamp 186 = .ok (.putfield 200, 3) := by decide +kernel
theorem dX10_readsCamp_189 : decode cX10_readsCamp 189 = .ok (.iload_n 2, 1) := by decide +kernel
theorem dX10_readsCamp_190 : decode cX10_readsCamp 190 = .ok (.ireturn, 1) := by decide +kernel
theorem dX10_comes_0 : decode cX10_comes 0 = .ok (.aload_n 0, 1) := by decide +kernel
theorem dX10_comes_1 : decode cX10_comes 1 = .ok (.bipush 48, 2) := by decide +kernel
theorem dX10_comes_3 : decode cX10_comes 3 = .ok (.iaload, 1) := by decide +kernel
theorem dX10_comes_4 : decode cX10_comes 4 = .ok (.istore 6, 2) := by decide +kernel
theorem dX10_comes_6 : decode cX10_comes 6 = .ok (.aload_n 0, 1) := by decide +kernel
theorem dX10_comes_7 : decode cX10_comes 7 = .ok (.iload 6, 2) := by decide +kernel
theorem dX10_comes_9 : decode cX10_comes 9 = .ok (.iload_n 1, 1) := by decide +kernel
theorem dX10_comes_10 : decode cX10_comes 10 = .ok (.iastore, 1) := by decide +kernel
theorem dX10_comes_11 : decode cX10_comes 11 = .ok (.aload_n 0, 1) := by decide +kernel
theorem dX10_comes_12 : decode cX10_comes 12 = .ok (.bipush 8, 2) := by decide +kernel
theorem dX10_comes_14 : decode cX10_comes 14 = .ok (.iload 6, 2) := by decide +kernel
theorem dX10_comes_16 : decode cX10_comes 16 = .ok (.iadd, 1) := by decide +kernel
theorem dX10_comes_17 : decode cX10_comes 17 = .ok (.iload_n 2, 1) := by decide +kernel
theorem dX10_comes_18 : decode cX10_comes 18 = .ok (.iastore, 1) := by decide +kernel
theorem dX10_comes_19 : decode cX10_comes 19 = .ok (.aload_n 0, 1) := by decide +kernel
theorem dX10_comes_20 : decode cX10_comes 20 = .ok (.bipush 16, 2) := by decide +kernel
theorem dX10_comes_22 : decode cX10_comes 22 = .ok (.iload 6, 2) := by decide +kernel
theorem dX10_comes_24 : decode cX10_comes 24 = .ok (.iadd, 1) := by decide +kernel
theorem dX10_comes_25 : decode cX10_comes 25 = .ok (.iload_n 3, 1) := by decide +kernel
theorem dX10_comes_26 : decode cX10_comes 26 = .ok (.iastore, 1) := by decide +kernel
theorem dX10_comes_27 : decode cX10_comes 27 = .ok (.aload_n 0, 1) := by decide +kernel
theorem dX10_comes_28 : decode cX10_comes 28 = .ok (.bipush 24, 2) := by decide +kernel
theorem dX10_comes_30 : decode cX10_comes 30 = .ok (.iload 6, 2) := by decide +kernel
theorem dX10_comes_32 : decode cX10_comes 32 = .ok (.iadd, 1) := by decide +kernel
theorem dX10_comes_33 : decode cX10_comes 33 = .ok (.iload 4, 2) := by decide +kernel
theorem dX10_comes_35 : decode cX10_comes 35 = .ok (.iastore, 1) := by decide +kernel
theorem dX10_comes_36 : decode cX10_comes 36 = .ok (.aload_n 0, 1) := by decide +kernel
theorem dX10_comes_37 : decode cX10_comes 37 = .ok (.bipush 32, 2) := by decide +kernel
theorem dX10_comes_39 : decode cX10_comes 39 = .ok (.iload 6, 2) := by decide +kernel
theorem dX10_comes_41 : decode cX10_comes 41 = .ok (.iadd, 1) := by decide +kernel
theorem dX10_comes_42 : decode cX10_comes 42 = .ok (.iload 5, 2) := by decide +kernel
theorem dX10_comes_44 : decode cX10_comes 44 = .ok (.iastore, 1) := by decide +kernel
theorem dX10_comes_45 : decode cX10_comes 45 = .ok (.aload_n 0, 1) := by decide +kernel
theorem dX10_comes_46 : decode cX10_comes 46 = .ok (.bipush 40, 2) := by decide +kernel
theorem dX10_comes_48 : decode cX10_comes 48 = .ok (.iload 6, 2) := by decide +kernel
theorem dX10_comes_50 : decode cX10_comes 50 = .ok (.iadd, 1) := by decide +kernel
theorem dX10_comes_51 : decode cX10_comes 51 = .ok (.iconst 0, 1) := by decide +kernel
theorem dX10_comes_52 : decode cX10_comes 52 = .ok (.iastore, 1) := by decide +kernel
theorem dX10_comes_53 : decode cX10_comes 53 = .ok (.aload_n 0, 1) := by decide +kernel
theorem dX10_comes_54 : decode cX10_comes 54 = .ok (.bipush 48, 2) := by decide +kernel
theorem dX10_comes_56 : decode cX10_comes 56 = .ok (.dup2, 1) := by decide +kernel
theorem dX10_comes_57 : decode cX10_comes 57 = .ok (.iaload, 1) := by decide +kernel
theorem dX10_comes_58 : decode cX10_comes 58 = .ok (.iconst 1, 1) := by decide +kernel
theorem dX10_comes_59 : decode cX10_comes 59 = .ok (.iadd, 1) := by decide +kernel
theorem dX10_comes_60 : decode cX10_comes 60 = .ok (.iastore, 1) := by decide +kernel
theorem dX10_comes_61 : decode cX10_comes 61 = .ok (.return_, 1) := by decide +kernel
theorem dX10_camps_0 : decode cX10_camps 0 = .ok (.aload_n 0, 1) := by decide +kernel
theorem dX10_camps_1 : decode cX10_camps 1 = .ok (.iconst 0, 1) := by decide +kernel
theorem dX10_camps_2 : decode cX10_camps 2 = .ok (.putfield 103, 3) := by decide +kernel
theorem dX10_camps_5 : decode cX10_camps 5 = .ok (.aload_n 0, 1) := by decide +kernel
theorem dX10_camps_6 : decode cX10_camps 6 = .ok (.bipush 55, 2) := by decide +kernel
theorem dX10_camps_8 : decode cX10_camps 8 = .ok (.invokevirtual 184, 3) := by decide +kernel
theorem dX10_camps_11 : decode cX10_camps 11 = .ok (.istore_n 1, 1) := by decide +kernel
theorem dX10_camps_12 : decode cX10_camps 12 = .ok (.aload_n 0, 1) := by decide +kernel
theorem dX10_camps_13 : decode cX10_camps 13 = .ok (.iconst 0, 1) := by decide +kernel
theorem dX10_camps_14 : decode cX10_camps 14 = .ok (.putfield 200, 3) := by decide +kernel
theorem dX10_camps_17 : decode cX10_camps 17 = .ok (.iconst 1, 1) := by decide +kernel
theorem dX10_camps_18 : decode cX10_camps 18 = .ok (.istore_n 2, 1) := by decide +kernel
theorem dX10_camps_19 : decode cX10_camps 19 = .ok (.iload_n 1, 1) := by decide +kernel
theorem dX10_camps_20 : decode cX10_camps 20 = .ok (.ifCond .le 7, 3) := by decide +kernel
theorem dX10_camps_23 : decode cX10_camps 23 = .ok (.iconst 1, 1) := by decide +kernel
theorem dX10_camps_24 : decode cX10_camps 24 = .ok (.goto 4, 3) := by decide +kernel
theorem dX10_camps_27 : decode cX10_camps 27 = .ok (.iconst 0, 1) := by decide +kernel
theorem dX10_camps_28 : decode cX10_camps 28 = .ok (.istore_n 3, 1) := by decide +kernel
theorem dX10_camps_29 : decode cX10_camps 29 = .ok (.iload_n 3, 1) := by decide +kernel
theorem dX10_camps_30 : decode cX10_camps 30 = .ok (.ifCond .eq 30, 3) := by decide +kernel
theorem dX10_camps_33 : decode cX10_camps 33 = .ok (.aload_n 0, 1) := by decide +kernel
theorem dX10_camps_34 : decode cX10_camps 34 = .ok (.invokevirtual 203, 3) := by decide +kernel
theorem dX10_camps_37 : decode cX10_camps 37 = .ok (.istore_n 2, 1) := by decide +kernel
theorem dX10_camps_38 : decode cX10_camps 38 = .ok (.iload_n 2, 1) := by decide +kernel
theorem dX10_camps_39 : decode cX10_camps 39 = .ok (.ifCond .eq 16, 3) := by decide +kernel
theorem dX10_camps_42 : decode cX10_camps 42 = .ok (.aload_n 0, 1) := by decide +kernel
theorem dX10_camps_43 : decode cX10_camps 43 = .ok (.bipush 59, 2) := by decide +kernel
theorem dX10_camps_45 : decode cX10_camps 45 = .ok (.invokevirtual 206, 3) := by decide +kernel
theorem dX10_camps_48 : decode cX10_camps 48 = .ok (.ifCond .eq 7, 3) := by decide +kernel
theorem dX10_camps_51 : decode cX10_camps 51 = .ok (.iconst 1, 1) := by decide +kernel
theorem dX10_camps_52 : decode cX10_camps 52 = .ok (.goto 4, 3) := by decide +kernel
theorem dX10_camps_55 : decode cX10_camps 55 = .ok (.iconst 0, 1) := by decide +kernel
theorem dX10_camps_56 : decode cX10_camps 56 = .ok (.istore_n 3, 1) := by decide +kernel
theorem dX10_camps_57 : decode cX10_camps 57 = .ok (.goto (-28), 3) := by decide +kernel
theorem dX10_camps_60 : decode cX10_camps 60 = .ok (.aload_n 0, 1) := by decide +kernel
theorem dX10_camps_61 : decode cX10_camps 61 = .ok (.iload_n 1, 1) := by decide +kernel
theorem dX10_camps_62 : decode cX10_camps 62 = .ok (.bipush 55, 2) := by decide +kernel
theorem dX10_camps_64 : decode cX10_camps 64 = .ok (.iload_n 2, 1) := by decide +kernel
theorem dX10_camps_65 : decode cX10_camps 65 = .ok (.invokevirtual 210, 3) := by decide +kernel
theorem dX10_camps_68 : decode cX10_camps 68 = .ok (.istore 4, 2) := by decide +kernel
theorem dX10_camps_70 : decode cX10_camps 70 = .ok (.iload 4, 2) := by decide +kernel
theorem dX10_camps_72 : decode cX10_camps 72 = .ok (.ifCond .ge 6, 3) := by decide +kernel
theorem dX10_camps_75 : decode cX10_camps 75 = .ok (.iload 4, 2) := by decide +kernel
theorem dX10_camps_77 : decode cX10_camps 77 = .ok (.ireturn, 1) := by decide +kernel
theorem dX10_camps_78 : decode cX10_camps 78 = .ok (.iconst 0, 1) := by decide +kernel
theorem dX10_camps_79 : decode cX10_camps 79 = .ok (.istore 5, 2) := by decide +kernel
theorem dX10_camps_81 : decode cX10_camps 81 = .ok (.iload 5, 2) := by decide +kernel
theorem dX10_camps_83 : decode cX10_camps 83 = .ok (.aload_n 0, 1) := by decide +kernel
theorem dX10_camps_84 : decode cX10_camps 84 = .ok (.getfield 200, 3) := by decide +kernel
theorem dX10_camps_87 : decode cX10_camps 87 = .ok (.if_icmp .ge 81, 3) := by decide +kernel
theorem dX10_camps_90 : decode cX10_camps 90 = .ok (.bipush 6, 2) := by decide +kernel
theorem dX10_camps_92 : decode cX10_camps 92 = .ok (.iload 5, 2) := by decide +kernel
theorem dX10_camps_94 : decode cX10_camps 94 = .ok (.imul, 1) := by decide +kernel
theorem dX10_camps_95 : decode cX10_camps 95 = .ok (.istore 6, 2) := by decide +kernel
theorem dX10_camps_97 : decode cX10_camps 97 = .ok (.aload_n 0, 1) := by decide +kernel
theorem dX10_camps_98 : decode cX10_camps 98 = .ok (.getfield 20, 3) := by decide +kernel
theorem dX10_camps_101 : decode cX10_camps 101 = .ok (.aload_n 0, 1) := by decide +kernel
theorem dX10_camps_102 : decode cX10_camps 102 = .ok (.getfield 17, 3) := by decide +kernel
theorem dX10_camps_105 : decode cX10_camps 105 = .ok (.aload_n 0, 1) := by decide +kernel
theorem dX10_camps_106 : decode cX10_camps 106 = .ok (.getfield 30, 3) := by decide +kernel
theorem dX10_camps_109 : decode cX10_camps 109 = .ok (.iload 6, 2) := by decide +kernel
theorem dX10_camps_111 : decode cX10_camps 111 = .ok (.iaload, 1) := by decide +kernel
theorem dX10_camps_112 : decode cX10_camps 112 = .ok (.imul, 1) := by decide +kernel
theorem dX10_camps_113 : decode cX10_camps 113 = .ok (.aload_n 0, 1) := by decide +kernel
theorem dX10_camps_114 : decode cX10_camps 114 = .ok (.getfield 30, 3) := by decide +kernel
theorem dX10_camps_117 : decode cX10_camps 117 = .ok (.iload 6, 2) := by decide +kernel
theorem dX10_camps_119 : decode cX10_camps 119 = .ok (.iconst 1, 1) := by decide +kernel
theorem dX10_camps_120 : decode cX10_camps 120 = .ok (.iadd, 1) := by decide +kernel
theorem dX10_camps_121 : decode cX10_camps 121 = .ok (.iaload, 1) := by decide +kernel
theorem dX10_camps_122 : decode cX10_camps 122 = .ok (.iadd, 1) := by decide +kernel
theorem dX10_camps_123 : decode cX10_camps 123 = .ok (.aload_n 0, 1) := by decide +kernel
theorem dX10_camps_124 : decode cX10_camps 124 = .ok (.getfield 30, 3) := by decide +kernel
theorem dX10_camps_127 : decode cX10_camps 127 = .ok (.iload 6, 2) := by decide +kernel
theorem dX10_camps_129 : decode cX10_camps 129 = .ok (.iconst 2, 1) := by decide +kernel
theorem dX10_camps_130 : decode cX10_camps 130 = .ok (.iadd, 1) := by decide +kernel
theorem dX10_camps_131 : decode cX10_camps 131 = .ok (.iaload, 1) := by decide +kernel
theorem dX10_camps_132 : decode cX10_camps 132 = .ok (.aload_n 0, 1) := by decide +kernel
theorem dX10_camps_133 : decode cX10_camps 133 = .ok (.getfield 30, 3) := by decide +kernel
theorem dX10_camps_136 : decode cX10_camps 136 = .ok (.iload 6, 2) := by decide +kernel
theorem dX10_camps_138 : decode cX10_camps 138 = .ok (.iconst 3, 1) := by decide +kernel
theorem dX10_camps_139 : decode cX10_camps 139 = .ok (.iadd, 1) := by decide +kernel
theorem dX10_camps_140 : decode cX10_camps 140 = .ok (.iaload, 1) := by decide +kernel
theorem dX10_camps_141 : decode cX10_camps 141 = .ok (.aload_n 0, 1) := by decide +kernel
theorem dX10_camps_142 : decode cX10_camps 142 = .ok (.getfield 30, 3) := by decide +kernel
theorem dX10_camps_145 : decode cX10_camps 145 = .ok (.iload 6, 2) := by decide +kernel
theorem dX10_camps_147 : decode cX10_camps 147 = .ok (.iconst 4, 1) := by decide +kernel
theorem dX10_camps_148 : decode cX10_camps 148 = .ok (.iadd, 1) := by decide +kernel
theorem dX10_camps_149 : decode cX10_camps 149 = .ok (.iaload, 1) := by decide +kernel
theorem dX10_camps_150 : decode cX10_camps 150 = .ok (.aload_n 0, 1) := by decide +kernel
theorem dX10_camps_151 : decode cX10_camps 151 = .ok (.getfield 30, 3) := by decide +kernel
theorem dX10_camps_154 : decode cX10_camps 154 = .ok (.iload 6, 2) := by decide +kernel
theorem dX10_camps_156 : decode cX10_camps 156 = .ok (.iconst 5, 1) := by decide +kernel
theorem dX10_camps_157 : decode cX10_camps 157 = .ok (.iadd, 1) := by decide +kernel
theorem dX10_camps_158 : decode cX10_camps 158 = .ok (.iaload, 1) := by decide +kernel
theorem dX10_camps_159 : decode cX10_camps 159 = .ok (.invokestatic 214, 3) := by decide +kernel
theorem dX10_camps_162 : decode cX10_camps 162 = .ok (.iinc 5 1, 3) := by decide +kernel
theorem dX10_camps_165 : decode cX10_camps 165 = .ok (.goto (-84), 3) := by decide +kernel
theorem dX10_camps_168 : decode cX10_camps 168 = .ok (.aload_n 0, 1) := by decide +kernel
theorem dX10_camps_169 : decode cX10_camps 169 = .ok (.aload_n 0, 1) := by decide +kernel
theorem dX10_camps_170 : decode cX10_camps 170 = .ok (.getfield 200, 3) := by decide +kernel
theorem dX10_camps_173 : decode cX10_camps 173 = .ok (.ifCond .le 7, 3) := by decide +kernel
theorem dX10_camps_176 : decode cX10_camps 176 = .ok (.iconst 0, 1) := by decide +kernel
theorem dX10_camps_177 : decode cX10_camps 177 = .ok (.goto 7, 3) := by decide +kernel
theorem dX10_camps_180 : decode cX10_camps 180 = .ok (.aload_n 0, 1) := by decide +kernel
theorem dX10_camps_181 : decode cX10_camps 181 = .ok (.getfield 191, 3) := by decide +kernel
theorem dX10_camps_184 : decode cX10_camps 184 = .ok (.putfield 191, 3) := by decide +kernel
theorem dX10_camps_187 : decode cX10_camps 187 = .ok (.aload_n 0, 1) := by decide +kernel
theorem dX10_camps_188 : decode cX10_camps 188 = .ok (.dup, 1) := by decide +kernel
theorem dX10_camps_189 : decode cX10_camps 189 = .ok (.getfield 194, 3) := by decide +kernel
theorem dX10_camps_192 : decode cX10_camps 192 = .ok (.aload_n 0, 1) := by decide +kernel
theorem dX10_camps_193 : decode cX10_camps 193 = .ok (.getfield 200, 3) := by decide +kernel
theorem dX10_camps_196 : decode cX10_camps 196 = .ok (.ifCond .le 7, 3) := by decide +kernel
theorem dX10_camps_199 : decode cX10_camps 199 = .ok (.iconst 1, 1) := by decide +kernel
theorem dX10_camps_200 : decode cX10_camps 200 = .ok (.goto 4, 3) := by decide +kernel
theorem dX10_camps_203 : decode cX10_camps 203 = .ok (.iconst 0, 1) := by decide +kernel
theorem dX10_camps_204 : decode cX10_camps 204 = .ok (.invokestatic 163, 3) := by decide +kernel
theorem dX10_camps_207 : decode cX10_camps 207 = .ok (.iadd, 1) := by decide +kernel
theorem dX10_camps_208 : decode cX10_camps 208 = .ok (.putfield 194, 3) := by decide +kernel
theorem dX10_camps_211 : decode cX10_camps 211 = .ok (.aload_n 0, 1) := by decide +kernel
theorem dX10_camps_212 : decode cX10_camps 212 = .ok (.getfield 200, 3) := by decide +kernel
theorem dX10_camps_215 : decode cX10_camps 215 = .ok (.ireturn, 1) := by decide +kernel
theorem dX10_codes_0 : decode cX10_codes 0 = .ok (.aload_n 0, 1) := by decide +kernel
theorem dX10_codes_1 : decode cX10_codes 1 = .ok (.getfield 36, 3) := by decide +kernel
theorem dX10_codes_4 : decode cX10_codes 4 = .ok (.aload_n 0, 1) := by decide +kernel
theorem dX10_codes_5 : decode cX10_codes 5 = .ok (.getfield 218, 3) := by decide +kernel
theorem dX10_codes_8 : decode cX10_codes 8 = .ok (.iload_n 1, 1) := by decide +kernel
theorem dX10_codes_9 : decode cX10_codes 9 = .ok (.iastore, 1) := by decide +kernel
theorem dX10_codes_10 : decode cX10_codes 10 = .ok (.aload_n 0, 1) := by decide +kernel
theorem dX10_codes_11 : decode cX10_codes 11 = .ok (.dup, 1) := by decide +kernel
theorem dX10_codes_12 : decode cX10_codes 12 = .ok (.getfield 218, 3) := by decide +kernel
theorem dX10_codes_15 : decode cX10_codes 15 = .ok (.iconst 1, 1) := by decide +kernel
theorem dX10_codes_16 : decode cX10_codes 16 = .ok (.iadd, 1) := by decide +kernel
theorem dX10_codes_17 : decode cX10_codes 17 = .ok (.putfield 218, 3) := by decide +kernel
theorem dX10_codes_20 : decode cX10_codes 20 = .ok (.return_, 1) := by decide +kernel
theorem dX10_readsThing_0 : decode cX10_readsThing 0 = .ok (.aload_n 0, 1) := by decide +kernel
theorem dX10_readsThing_1 : decode cX10_readsThing 1 = .ok (.bipush 45, 2) := by decide +kernel
theorem dX10_readsThing_3 : decode cX10_readsThing 3 = .ok (.invokevirtual 206, 3) := by decide +kernel
theorem dX10_readsThing_6 : decode cX10_readsThing 6 = .ok (.ifCond .eq 17, 3) := by decide +kernel
theorem dX10_readsThing_9 : decode cX10_readsThing 9 = .ok (.aload_n 0, 1) := by decide +kernel
theorem dX10_readsThing_10 : decode cX10_readsThing 10 = .ok (.invokevirtual 221, 3) := by decide +kernel
theorem dX10_readsThing_13 : decode cX10_readsThing 13 = .ok (.istore_n 1, 1) := by decide +kernel
theorem dX10_readsThing_14 : decode cX10_readsThing 14 = .ok (.aload_n 0, 1) := by decide +kernel
theorem dX10_readsThing_15 : decode cX10_readsThing 15 = .ok (.sipush 3000, 3) := by decide +kernel
theorem dX10_readsThing_18 : decode cX10_readsThing 18 = .ok (.invokevirtual 224, 3) := by decide +kernel
theorem dX10_readsThing_21 : decode cX10_readsThing 21 = .ok (.iload_n 1, 1) := by decide +kernel
theorem dX10_readsThing_22 : decode cX10_readsThing 22 = .ok (.ireturn, 1) := by decide +kernel
theorem dX10_readsThing_23 : decode cX10_readsThing 23 = .ok (.aload_n 0, 1) := by decide +kernel
theorem dX10_readsThing_24 : decode cX10_readsThing 24 = .ok (.invokevirtual 180, 3) := by decide +kernel
theorem dX10_readsThing_27 : decode cX10_readsThing 27 = .ok (.ifCond .eq 14, 3) := by decide +kernel
theorem dX10_readsThing_30 : decode cX10_readsThing 30 = .ok (.aload_n 0, 1) := by decide +kernel
theorem dX10_readsThing_31 : decode cX10_readsThing 31 = .ok (.aload_n 0, 1) := by decide +kernel
theorem dX10_readsThing_32 : decode cX10_readsThing 32 = .ok (.iconst 3, 1) := by decide +kernel
theorem dX10_readsThing_33 : decode cX10_readsThing 33 = .ok (.invokevirtual 228, 3) := by decide +kernel
theorem dX10_readsThing_36 : decode cX10_readsThing 36 = .ok (.invokevirtual 224, 3) := by decide +kernel
theorem dX10_readsThing_39 : decode cX10_readsThing 39 = .ok (.iconst 1, 1) := by decide +kernel
theorem dX10_readsThing_40 : decode cX10_readsThing 40 = .ok (.ireturn, 1) := by decide +kernel
theorem dX10_readsThing_41 : decode cX10_readsThing 41 = .ok (.aload_n 0, 1) := by decide +kernel
theorem dX10_readsThing_42 : decode cX10_readsThing 42 = .ok (.ldc 231, 2) := by decide +kernel
theorem dX10_readsThing_44 : decode cX10_readsThing 44 = .ok (.invokevirtual 233, 3) := by decide +kernel
theorem dX10_readsThing_47 : decode cX10_readsThing 47 = .ok (.istore_n 1, 1) := by decide +kernel
theorem dX10_readsThing_48 : decode cX10_readsThing 48 = .ok (.iload_n 1, 1) := by decide +kernel
theorem dX10_readsThing_49 : decode cX10_readsThing 49 = .ok (.ifCond .lt 14, 3) := by decide +kernel
theorem dX10_readsThing_52 : decode cX10_readsThing 52 = .ok (.aload_n 0, 1) := by decide +kernel
theorem dX10_readsThing_53 : decode cX10_readsThing 53 = .ok (.sipush 1000, 3) := by decide +kernel
theorem dX10_readsThing_56 : decode cX10_readsThing 56 = .ok (.iload_n 1, 1) := by decide +kernel
theorem dX10_readsThing_57 : decode cX10_readsThing 57 = .ok (.iadd, 1) := by decide +kernel
theorem dX10_readsThing_58 : decode cX10_readsThing 58 = .ok (.invokevirtual 224, 3) := by decide +kernel
theorem dX10_readsThing_61 : decode cX10_readsThing 61 = .ok (.iconst 1, 1) := by decide +kernel
theorem dX10_readsThing_62 : decode cX10_readsThing 62 = .ok (.ireturn, 1) := by decide +kernel
theorem dX10_readsThing_63 : decode cX10_readsThing 63 = .ok (.aload_n 0, 1) := by decide +kernel
theorem dX10_readsThing_64 : decode cX10_readsThing 64 = .ok (.getfield 151, 3) := by decide +kernel
theorem dX10_readsThing_67 : decode cX10_readsThing 67 = .ok (.iconst 4, 1) := by decide +kernel
theorem dX10_readsThing_68 : decode cX10_readsThing 68 = .ok (.if_icmp .eq 12, 3) := by decide +kernel
theorem dX10_readsThing_71 : decode cX10_readsThing 71 = .ok (.aload_n 0, 1) := by decide +kernel
theorem dX10_readsThing_72 : decode cX10_readsThing 72 = .ok (.bipush 40, 2) := by decide +kernel
theorem dX10_readsThing_74 : decode cX10_readsThing 74 = .ok (.invokevirtual 206, 3) := by decide +kernel
theorem dX10_readsThing_77 : decode cX10_readsThing 77 = .ok (.ifCond .ne 5, 3) := by decide +kernel
theorem dX10_readsThing_80 : decode cX10_readsThing 80 = .ok (.iconst 0, 1) := by decide +kernel
theorem dX10_readsThing_81 : decode cX10_readsThing 81 = .ok (.ireturn, 1) := by decide +kernel
theorem dX10_readsThing_82 : decode cX10_readsThing 82 = .ok (.aload_n 0, 1) := by decide +kernel
theorem dX10_readsThing_83 : decode cX10_readsThing 83 = .ok (.dup, 1) := by decide +kernel
theorem dX10_readsThing_84 : decode cX10_readsThing 84 = .ok (.getfield 151, 3) := by decide +kernel
theorem dX10_readsThing_87 : decode cX10_readsThing 87 = .ok (.iconst 1, 1) := by decide +kernel
theorem dX10_readsThing_88 : decode cX10_readsThing 88 = .ok (.iadd, 1) := by decide +kernel
theorem dX10_readsThing_89 : decode cX10_readsThing 89 = .ok (.putfield 151, 3) := by decide +kernel
theorem dX10_readsThing_92 : decode cX10_readsThing 92 = .ok (.aload_n 0, 1) := by decide +kernel
theorem dX10_readsThing_93 : decode cX10_readsThing 93 = .ok (.iconst 0, 1) := by decide +kernel
theorem dX10_readsThing_94 : decode cX10_readsThing 94 = .ok (.invokevirtual 237, 3) := by decide +kernel
theorem dX10_readsThing_97 : decode cX10_readsThing 97 = .ok (.ifCond .eq 12, 3) := by decide +kernel
theorem dX10_readsThing_100 : decode cX10_readsThing 100 = .ok (.aload_n 0, 1) := by decide +kernel
theorem dX10_readsThing_101 : decode cX10_readsThing 101 = .ok (.bipush 41, 2) := by decide +kernel
theorem dX10_readsThing_103 : decode cX10_readsThing 103 = .ok (.invokevirtual 206, 3) := by decide +kernel
theorem dX10_readsThing_106 : decode cX10_readsThing 106 = .ok (.ifCond .ne 5, 3) := by decide +kernel
theorem dX10_readsThing_109 : decode cX10_readsThing 109 = .ok (.iconst 0, 1) := by decide +kernel
theorem dX10_readsThing_110 : decode cX10_readsThing 110 = .ok (.ireturn, 1) := by decide +kernel
theorem dX10_readsThing_111 : decode cX10_readsThing 111 = .ok (.aload_n 0, 1) := by decide +kernel
theorem dX10_readsThing_112 : decode cX10_readsThing 112 = .ok (.dup, 1) := by decide +kernel
theorem dX10_readsThing_113 : decode cX10_readsThing 113 = .ok (.getfield 151, 3) := by decide +kernel
theorem dX10_readsThing_116 : decode cX10_readsThing 116 = .ok (.iconst 1, 1) := by decide +kernel
theorem dX10_readsThing_117 : decode cX10_readsThing 117 = .ok (.isub, 1) := by decide +kernel
theorem dX10_readsThing_118 : decode cX10_readsThing 118 = .ok (.putfield 151, 3) := by decide +kernel
theorem dX10_readsThing_121 : decode cX10_readsThing 121 = .ok (.iconst 1, 1) := by decide +kernel
theorem dX10_readsThing_122 : decode cX10_readsThing 122 = .ok (.ireturn, 1) := by decide +kernel
theorem dX10_readsRank_0 : decode cX10_readsRank 0 = .ok (.iload_n 1, 1) := by decide +kernel
theorem dX10_readsRank_1 : decode cX10_readsRank 1 = .ok (.iconst 3, 1) := by decide +kernel
theorem dX10_readsRank_2 : decode cX10_readsRank 2 = .ok (.if_icmp .ne 8, 3) := by decide +kernel
theorem dX10_readsRank_5 : decode cX10_readsRank 5 = .ok (.aload_n 0, 1) := by decide +kernel
theorem dX10_readsRank_6 : decode cX10_readsRank 6 = .ok (.invokevirtual 221, 3) := by decide +kernel
theorem dX10_readsRank_9 : decode cX10_readsRank 9 = .ok (.ireturn, 1) := by decide +kernel
theorem dX10_readsRank_10 : decode cX10_readsRank 10 = .ok (.aload_n 0, 1) := by decide +kernel
theorem dX10_readsRank_11 : decode cX10_readsRank 11 = .ok (.iload_n 1, 1) := by decide +kernel
theorem dX10_readsRank_12 : decode cX10_readsRank 12 = .ok (.iconst 1, 1) := by decide +kernel
theorem dX10_readsRank_13 : decode cX10_readsRank 13 = .ok (.iadd, 1) := by decide +kernel
theorem dX10_readsRank_14 : decode cX10_readsRank 14 = .ok (.invokevirtual 237, 3) := by decide +kernel
theorem dX10_readsRank_17 : decode cX10_readsRank 17 = .ok (.ifCond .ne 5, 3) := by decide +kernel
theorem dX10_readsRank_20 : decode cX10_readsRank 20 = .ok (.iconst 0, 1) := by decide +kernel
theorem dX10_readsRank_21 : decode cX10_readsRank 21 = .ok (.ireturn, 1) := by decide +kernel
theorem dX10_readsRank_22 : decode cX10_readsRank 22 = .ok (.iconst 1, 1) := by decide +kernel
theorem dX10_readsRank_23 : decode cX10_readsRank 23 = .ok (.istore_n 2, 1) := by decide +kernel
theorem dX10_readsRank_24 : decode cX10_readsRank 24 = .ok (.iload_n 2, 1) := by decide +kernel
theorem dX10_readsRank_25 : decode cX10_readsRank 25 = .ok (.ifCond .eq 88, 3) := by decide +kernel
theorem dX10_readsRank_28 : decode cX10_readsRank 28 = .ok (.aload_n 0, 1) := by decide +kernel
theorem dX10_readsRank_29 : decode cX10_readsRank 29 = .ok (.iload_n 1, 1) := by decide +kernel
theorem dX10_readsRank_30 : decode cX10_readsRank 30 = .ok (.ifCond .ne 8, 3) := by decide +kernel
theorem dX10_readsRank_33 : decode cX10_readsRank 33 = .ok (.ldc 240, 2) := by decide +kernel
theorem dX10_readsRank_35 : decode cX10_readsRank 35 = .ok (.goto 15, 3) := by decide +kernel
theorem dX10_readsRank_38 : decode cX10_readsRank 38 = .ok (.iload_n 1, 1) := by decide +kernel
theorem dX10_readsRank_39 : decode cX10_readsRank 39 = .ok (.iconst 1, 1) := by decide +kernel
theorem dX10_readsRank_40 : decode cX10_readsRank 40 = .ok (.if_icmp .ne 8, 3) := by decide +kernel
theorem dX10_readsRank_43 : decode cX10_readsRank 43 = .ok (.ldc 242, 2) := by decide +kernel
theorem dX10_readsRank_45 : decode cX10_readsRank 45 = .ok (.goto 5, 3) := by decide +kernel
theorem dX10_readsRank_48 : decode cX10_readsRank 48 = .ok (.ldc 244, 2) := by decide +kernel
theorem dX10_readsRank_50 : decode cX10_readsRank 50 = .ok (.invokevirtual 233, 3) := by decide +kernel
theorem dX10_readsRank_53 : decode cX10_readsRank 53 = .ok (.istore_n 3, 1) := by decide +kernel
theorem dX10_readsRank_54 : decode cX10_readsRank 54 = .ok (.iload_n 3, 1) := by decide +kernel
theorem dX10_readsRank_55 : decode cX10_readsRank 55 = .ok (.ifCond .ge 5, 3) := by decide +kernel
theorem dX10_readsRank_58 : decode cX10_readsRank 58 = .ok (.iconst 1, 1) := by decide +kernel
theorem dX10_readsRank_59 : decode cX10_readsRank 59 = .ok (.ireturn, 1) := by decide +kernel
theorem dX10_readsRank_60 : decode cX10_readsRank 60 = .ok (.aload_n 0, 1) := by decide +kernel
theorem dX10_readsRank_61 : decode cX10_readsRank 61 = .ok (.iload_n 1, 1) := by decide +kernel
theorem dX10_readsRank_62 : decode cX10_readsRank 62 = .ok (.iconst 1, 1) := by decide +kernel
theorem dX10_readsRank_63 : decode cX10_readsRank 63 = .ok (.iadd, 1) := by decide +kernel
theorem dX10_readsRank_64 : decode cX10_readsRank 64 = .ok (.invokevirtual 237, 3) := by decide +kernel
theorem dX10_readsRank_67 : decode cX10_readsRank 67 = .ok (.ifCond .ne 5, 3) := by decide +kernel
theorem dX10_readsRank_70 : decode cX10_readsRank 70 = .ok (.iconst 0, 1) := by decide +kernel
theorem dX10_readsRank_71 : decode cX10_readsRank 71 = .ok (.ireturn, 1) := by decide +kernel
theorem dX10_readsRank_72 : decode cX10_readsRank 72 = .ok (.aload_n 0, 1) := by decide +kernel
theorem dX10_readsRank_73 : decode cX10_readsRank 73 = .ok (.sipush 2000, 3) := by decide +kernel
theorem dX10_readsRank_76 : decode cX10_readsRank 76 = .ok (.iload_n 3, 1) := by decide +kernel
theorem dX10_readsRank_77 : decode cX10_readsRank 77 = .ok (.iadd, 1) := by decide +kernel
theorem dX10_readsRank_78 : decode cX10_readsRank 78 = .ok (.iload_n 1, 1) := by decide +kernel
theorem dX10_readsRank_79 : decode cX10_readsRank 79 = .ok (.ifCond .ne 7, 3) := by decide +kernel
theorem dX10_readsRank_82 : decode cX10_readsRank 82 = .ok (.iconst 0, 1) := by decide +kernel
theorem dX10_readsRank_83 : decode cX10_readsRank 83 = .ok (.goto 13, 3) := by decide +kernel
theorem dX10_readsRank_86 : decode cX10_readsRank 86 = .ok (.iload_n 1, 1) := by decide +kernel
theorem dX10_readsRank_87 : decode cX10_readsRank 87 = .ok (.iconst 1, 1) := by decide +kernel
theorem dX10_readsRank_88 : decode cX10_readsRank 88 = .ok (.if_icmp .ne 7, 3) := by decide +kernel
theorem dX10_readsRank_91 : decode cX10_readsRank 91 = .ok (.iconst 3, 1) := by decide +kernel
theorem dX10_readsRank_92 : decode cX10_readsRank 92 = .ok (.goto 4, 3) := by decide +kernel
theorem dX10_readsRank_95 : decode cX10_readsRank 95 = .ok (.iconst 5, 1) := by decide +kernel
theorem dX10_readsRank_96 : decode cX10_readsRank 96 = .ok (.iadd, 1) := by decide +kernel
theorem dX10_readsRank_97 : decode cX10_readsRank 97 = .ok (.invokevirtual 224, 3) := by decide +kernel
theorem dX10_readsRank_100 : decode cX10_readsRank 100 = .ok (.iload_n 1, 1) := by decide +kernel
theorem dX10_readsRank_101 : decode cX10_readsRank 101 = .ok (.ifCond .le 7, 3) := by decide +kernel
theorem dX10_readsRank_104 : decode cX10_readsRank 104 = .ok (.iconst 1, 1) := by decide +kernel
theorem dX10_readsRank_105 : decode cX10_readsRank 105 = .ok (.goto 4, 3) := by decide +kernel
theorem dX10_readsRank_108 : decode cX10_readsRank 108 = .ok (.iconst 0, 1) := by decide +kernel
theorem dX10_readsRank_109 : decode cX10_readsRank 109 = .ok (.istore_n 2, 1) := by decide +kernel
theorem dX10_readsRank_110 : decode cX10_readsRank 110 = .ok (.goto (-86), 3) := by decide +kernel
theorem dX10_readsRank_113 : decode cX10_readsRank 113 = .ok (.iconst 1, 1) := by decide +kernel
theorem dX10_readsRank_114 : decode cX10_readsRank 114 = .ok (.ireturn, 1) := by decide +kernel
theorem dX10_readsRule_0 : decode cX10_readsRule 0 = .ok (.aload_n 0, 1) := by decide +kernel
theorem dX10_readsRule_1 : decode cX10_readsRule 1 = .ok (.bipush 40, 2) := by decide +kernel
theorem dX10_readsRule_3 : decode cX10_readsRule 3 = .ok (.invokevirtual 184, 3) := by decide +kernel
theorem dX10_readsRule_6 : decode cX10_readsRule 6 = .ok (.istore_n 1, 1) := by decide +kernel
theorem dX10_readsRule_7 : decode cX10_readsRule 7 = .ok (.aload_n 0, 1) := by decide +kernel
theorem dX10_readsRule_8 : decode cX10_readsRule 8 = .ok (.iconst 0, 1) := by decide +kernel
theorem dX10_readsRule_9 : decode cX10_readsRule 9 = .ok (.putfield 218, 3) := by decide +kernel
theorem dX10_readsRule_12 : decode cX10_readsRule 12 = .ok (.iload_n 1, 1) := by decide +kernel
theorem dX10_readsRule_13 : decode cX10_readsRule 13 = .ok (.ifCond .eq 11, 3) := by decide +kernel
theorem dX10_readsRule_16 : decode cX10_readsRule 16 = .ok (.aload_n 0, 1) := by decide +kernel
theorem dX10_readsRule_17 : decode cX10_readsRule 17 = .ok (.iconst 0, 1) := by decide +kernel
theorem dX10_readsRule_18 : decode cX10_readsRule 18 = .ok (.invokevirtual 237, 3) := by decide +kernel
theorem dX10_readsRule_21 : decode cX10_readsRule 21 = .ok (.ifCond .eq 7, 3) := by decide +kernel
theorem dX10_readsRule_24 : decode cX10_readsRule 24 = .ok (.iconst 1, 1) := by decide +kernel
theorem dX10_readsRule_25 : decode cX10_readsRule 25 = .ok (.goto 4, 3) := by decide +kernel
theorem dX10_readsRule_28 : decode cX10_readsRule 28 = .ok (.iconst 0, 1) := by decide +kernel
theorem dX10_readsRule_29 : decode cX10_readsRule 29 = .ok (.istore_n 2, 1) := by decide +kernel
theorem dX10_readsRule_30 : decode cX10_readsRule 30 = .ok (.aload_n 0, 1) := by decide +kernel
theorem dX10_readsRule_31 : decode cX10_readsRule 31 = .ok (.iload_n 1, 1) := by decide +kernel
theorem dX10_readsRule_32 : decode cX10_readsRule 32 = .ok (.bipush 40, 2) := by decide +kernel
theorem dX10_readsRule_34 : decode cX10_readsRule 34 = .ok (.iload_n 2, 1) := by decide +kernel
theorem dX10_readsRule_35 : decode cX10_readsRule 35 = .ok (.invokevirtual 210, 3) := by decide +kernel
theorem dX10_readsRule_38 : decode cX10_readsRule 38 = .ok (.ireturn, 1) := by decide +kernel
theorem dX10_laysCode_0 : decode cX10_laysCode 0 = .ok (.aload_n 0, 1) := by decide +kernel
theorem dX10_laysCode_1 : decode cX10_laysCode 1 = .ok (.iload_n 2, 1) := by decide +kernel
theorem dX10_laysCode_2 : decode cX10_laysCode 2 = .ok (.putfield 246, 3) := by decide +kernel
theorem dX10_laysCode_5 : decode cX10_laysCode 5 = .ok (.iconst 0, 1) := by decide +kernel
theorem dX10_laysCode_6 : decode cX10_laysCode 6 = .ok (.istore_n 3, 1) := by decide +kernel
theorem dX10_laysCode_7 : decode cX10_laysCode 7 = .ok (.iload_n 3, 1) := by decide +kernel
theorem dX10_laysCode_8 : decode cX10_laysCode 8 = .ok (.iload_n 2, 1) := by decide +kernel
theorem dX10_laysCode_9 : decode cX10_laysCode 9 = .ok (.if_icmp .ge 18, 3) := by decide +kernel
theorem dX10_laysCode_12 : decode cX10_laysCode 12 = .ok (.aload_n 0, 1) := by decide +kernel
theorem dX10_laysCode_13 : decode cX10_laysCode 13 = .ok (.getfield 33, 3) := by decide +kernel
theorem dX10_laysCode_16 : decode cX10_laysCode 16 = .ok (.iload_n 3, 1) := by decide +kernel
theorem dX10_laysCode_17 : decode cX10_laysCode 17 = .ok (.aload_n 1, 1) := by decide +kernel
theorem dX10_laysCode_18 : decode cX10_laysCode 18 = .ok (.iload_n 3, 1) := by decide +kernel
theorem dX10_laysCode_19 : decode cX10_laysCode 19 = .ok (.iaload, 1) := by decide +kernel
theorem dX10_laysCode_20 : decode cX10_laysCode 20 = .ok (.iastore, 1) := by decide +kernel
theorem dX10_laysCode_21 : decode cX10_laysCode 21 = .ok (.iinc 3 1, 3) := by decide +kernel
theorem dX10_laysCode_24 : decode cX10_laysCode 24 = .ok (.goto (-17), 3) := by decide +kernel
theorem dX10_laysCode_27 : decode cX10_laysCode 27 = .ok (.return_, 1) := by decide +kernel
theorem dX10_rule_0 : decode cX10_rule 0 = .ok (.aload_n 0, 1) := by decide +kernel
theorem dX10_rule_1 : decode cX10_rule 1 = .ok (.iconst 0, 1) := by decide +kernel
theorem dX10_rule_2 : decode cX10_rule 2 = .ok (.putfield 103, 3) := by decide +kernel
theorem dX10_rule_5 : decode cX10_rule 5 = .ok (.aload_n 0, 1) := by decide +kernel
theorem dX10_rule_6 : decode cX10_rule 6 = .ok (.invokevirtual 249, 3) := by decide +kernel
theorem dX10_rule_9 : decode cX10_rule 9 = .ok (.istore_n 1, 1) := by decide +kernel
theorem dX10_rule_10 : decode cX10_rule 10 = .ok (.iload_n 1, 1) := by decide +kernel
theorem dX10_rule_11 : decode cX10_rule 11 = .ok (.ifCond .ne 15, 3) := by decide +kernel
theorem dX10_rule_14 : decode cX10_rule 14 = .ok (.aload_n 0, 1) := by decide +kernel
theorem dX10_rule_15 : decode cX10_rule 15 = .ok (.aload_n 0, 1) := by decide +kernel
theorem dX10_rule_16 : decode cX10_rule 16 = .ok (.getfield 36, 3) := by decide +kernel
theorem dX10_rule_19 : decode cX10_rule 19 = .ok (.aload_n 0, 1) := by decide +kernel
theorem dX10_rule_20 : decode cX10_rule 20 = .ok (.getfield 218, 3) := by decide +kernel
theorem dX10_rule_23 : decode cX10_rule 23 = .ok (.invokevirtual 252, 3) := by decide +kernel
theorem dX10_rule_26 : decode cX10_rule 26 = .ok (.iload_n 1, 1) := by decide +kernel
theorem dX10_rule_27 : decode cX10_rule 27 = .ok (.ireturn, 1) := by decide +kernel
theorem dX10_worked_0 : decode cX10_worked 0 = .ok (.iload_n 0, 1) := by decide +kernel
theorem dX10_worked_1 : decode cX10_worked 1 = .ok (.tableswitch 93 0 5 #[39, 53, 67, 81, 85, 89], 39) := by decide +kernel
theorem dX10_worked_40 : decode cX10_worked 40 = .ok (.iload_n 1, 1) := by decide +kernel
theorem dX10_worked_41 : decode cX10_worked 41 = .ok (.iload_n 2, 1) := by decide +kernel
theorem dX10_worked_42 : decode cX10_worked 42 = .ok (.if_icmp .ge 7, 3) := by decide +kernel
theorem dX10_worked_45 : decode cX10_worked 45 = .ok (.iconst 1, 1) := by decide +kernel
theorem dX10_worked_46 : decode cX10_worked 46 = .ok (.goto 4, 3) := by decide +kernel
theorem dX10_worked_49 : decode cX10_worked 49 = .ok (.iconst 0, 1) := by decide +kernel
theorem dX10_worked_50 : decode cX10_worked 50 = .ok (.invokestatic 163, 3) := by decide +kernel
theorem dX10_worked_53 : decode cX10_worked 53 = .ok (.ireturn, 1) := by decide +kernel
theorem dX10_worked_54 : decode cX10_worked 54 = .ok (.iload_n 1, 1) := by decide +kernel
theorem dX10_worked_55 : decode cX10_worked 55 = .ok (.iload_n 2, 1) := by decide +kernel
theorem dX10_worked_56 : decode cX10_worked 56 = .ok (.if_icmp .le 7, 3) := by decide +kernel
theorem dX10_worked_59 : decode cX10_worked 59 = .ok (.iconst 1, 1) := by decide +kernel
theorem dX10_worked_60 : decode cX10_worked 60 = .ok (.goto 4, 3) := by decide +kernel
theorem dX10_worked_63 : decode cX10_worked 63 = .ok (.iconst 0, 1) := by decide +kernel
theorem dX10_worked_64 : decode cX10_worked 64 = .ok (.invokestatic 163, 3) := by decide +kernel
theorem dX10_worked_67 : decode cX10_worked 67 = .ok (.ireturn, 1) := by decide +kernel
theorem dX10_worked_68 : decode cX10_worked 68 = .ok (.iload_n 1, 1) := by decide +kernel
theorem dX10_worked_69 : decode cX10_worked 69 = .ok (.iload_n 2, 1) := by decide +kernel
theorem dX10_worked_70 : decode cX10_worked 70 = .ok (.if_icmp .ne 7, 3) := by decide +kernel
theorem dX10_worked_73 : decode cX10_worked 73 = .ok (.iconst 1, 1) := by decide +kernel
theorem dX10_worked_74 : decode cX10_worked 74 = .ok (.goto 4, 3) := by decide +kernel
theorem dX10_worked_77 : decode cX10_worked 77 = .ok (.iconst 0, 1) := by decide +kernel
theorem dX10_worked_78 : decode cX10_worked 78 = .ok (.invokestatic 163, 3) := by decide +kernel
theorem dX10_worked_81 : decode cX10_worked 81 = .ok (.ireturn, 1) := by decide +kernel
theorem dX10_worked_82 : decode cX10_worked 82 = .ok (.iload_n 1, 1) := by decide +kernel
theorem dX10_worked_83 : decode cX10_worked 83 = .ok (.iload_n 2, 1) := by decide +kernel
theorem dX10_worked_84 : decode cX10_worked 84 = .ok (.iadd, 1) := by decide +kernel
theorem dX10_worked_85 : decode cX10_worked 85 = .ok (.ireturn, 1) := by decide +kernel
theorem dX10_worked_86 : decode cX10_worked 86 = .ok (.iload_n 1, 1) := by decide +kernel
theorem dX10_worked_87 : decode cX10_worked 87 = .ok (.iload_n 2, 1) := by decide +kernel
theorem dX10_worked_88 : decode cX10_worked 88 = .ok (.isub, 1) := by decide +kernel
theorem dX10_worked_89 : decode cX10_worked 89 = .ok (.ireturn, 1) := by decide +kernel
theorem dX10_worked_90 : decode cX10_worked 90 = .ok (.iload_n 1, 1) := by decide +kernel
theorem dX10_worked_91 : decode cX10_worked 91 = .ok (.iload_n 2, 1) := by decide +kernel
theorem dX10_worked_92 : decode cX10_worked 92 = .ok (.imul, 1) := by decide +kernel
theorem dX10_worked_93 : decode cX10_worked 93 = .ok (.ireturn, 1) := by decide +kernel
theorem dX10_worked_94 : decode cX10_worked 94 = .ok (.iload_n 2, 1) := by decide +kernel
theorem dX10_worked_95 : decode cX10_worked 95 = .ok (.ifCond .ne 7, 3) := by decide +kernel
theorem dX10_worked_98 : decode cX10_worked 98 = .ok (.iconst 0, 1) := by decide +kernel
theorem dX10_worked_99 : decode cX10_worked 99 = .ok (.goto 6, 3) := by decide +kernel
theorem dX10_worked_102 : decode cX10_worked 102 = .ok (.iload_n 1, 1) := by decide +kernel
theorem dX10_worked_103 : decode cX10_worked 103 = .ok (.iload_n 2, 1) := by decide +kernel
theorem dX10_worked_104 : decode cX10_worked 104 = .ok (.idiv, 1) := by decide +kernel
theorem dX10_worked_105 : decode cX10_worked 105 = .ok (.ireturn, 1) := by decide +kernel
theorem dX10_ruled_0 : decode cX10_ruled 0 = .ok (.iconst 0, 1) := by decide +kernel
theorem dX10_ruled_1 : decode cX10_ruled 1 = .ok (.istore_n 1, 1) := by decide +kernel
theorem dX10_ruled_2 : decode cX10_ruled 2 = .ok (.iconst 0, 1) := by decide +kernel
theorem dX10_ruled_3 : decode cX10_ruled 3 = .ok (.istore_n 2, 1) := by decide +kernel
theorem dX10_ruled_4 : decode cX10_ruled 4 = .ok (.iload_n 2, 1) := by decide +kernel
theorem dX10_ruled_5 : decode cX10_ruled 5 = .ok (.aload_n 0, 1) := by decide +kernel
theorem dX10_ruled_6 : decode cX10_ruled 6 = .ok (.getfield 246, 3) := by decide +kernel
theorem dX10_ruled_9 : decode cX10_ruled 9 = .ok (.if_icmp .ge 116, 3) := by decide +kernel
theorem dX10_ruled_12 : decode cX10_ruled 12 = .ok (.aload_n 0, 1) := by decide +kernel
theorem dX10_ruled_13 : decode cX10_ruled 13 = .ok (.getfield 33, 3) := by decide +kernel
theorem dX10_ruled_16 : decode cX10_ruled 16 = .ok (.iload_n 2, 1) := by decide +kernel
theorem dX10_ruled_17 : decode cX10_ruled 17 = .ok (.iaload, 1) := by decide +kernel
theorem dX10_ruled_18 : decode cX10_ruled 18 = .ok (.istore_n 3, 1) := by decide +kernel
theorem dX10_ruled_19 : decode cX10_ruled 19 = .ok (.iload_n 3, 1) := by decide +kernel
theorem dX10_ruled_20 : decode cX10_ruled 20 = .ok (.sipush 3000, 3) := by decide +kernel
theorem dX10_ruled_23 : decode cX10_ruled 23 = .ok (.if_icmp .ne 23, 3) := by decide +kernel
theorem dX10_ruled_26 : decode cX10_ruled 26 = .ok (.aload_n 0, 1) := by decide +kernel
theorem dX10_ruled_27 : decode cX10_ruled 27 = .ok (.getfield 39, 3) := by decide +kernel
theorem dX10_ruled_30 : decode cX10_ruled 30 = .ok (.iload_n 1, 1) := by decide +kernel
theorem dX10_ruled_31 : decode cX10_ruled 31 = .ok (.iconst 1, 1) := by decide +kernel
theorem dX10_ruled_32 : decode cX10_ruled 32 = .ok (.isub, 1) := by decide +kernel
theorem dX10_ruled_33 : decode cX10_ruled 33 = .ok (.aload_n 0, 1) := by decide +kernel
theorem dX10_ruled_34 : decode cX10_ruled 34 = .ok (.getfield 39, 3) := by decide +kernel
theorem dX10_ruled_37 : decode cX10_ruled 37 = .ok (.iload_n 1, 1) := by decide +kernel
theorem dX10_ruled_38 : decode cX10_ruled 38 = .ok (.iconst 1, 1) := by decide +kernel
theorem dX10_ruled_39 : decode cX10_ruled 39 = .ok (.isub, 1) := by decide +kernel
theorem dX10_ruled_40 : decode cX10_ruled 40 = .ok (.iaload, 1) := by decide +kernel
theorem dX10_ruled_41 : decode cX10_ruled 41 = .ok (.ineg, 1) := by decide +kernel
theorem dX10_ruled_42 : decode cX10_ruled 42 = .ok (.iastore, 1) := by decide +kernel
theorem dX10_ruled_43 : decode cX10_ruled 43 = .ok (.goto 76, 3) := by decide +kernel
theorem dX10_ruled_46 : decode cX10_ruled 46 = .ok (.iload_n 3, 1) := by decide +kernel
theorem dX10_ruled_47 : decode cX10_ruled 47 = .ok (.sipush 2000, 3) := by decide +kernel
theorem dX10_ruled_50 : decode cX10_ruled 50 = .ok (.if_icmp .lt 39, 3) := by decide +kernel
theorem dX10_ruled_53 : decode cX10_ruled 53 = .ok (.iinc 1 (-1), 3) := by decide +kernel
theorem dX10_ruled_56 : decode cX10_ruled 56 = .ok (.aload_n 0, 1) := by decide +kernel
theorem dX10_ruled_57 : decode cX10_ruled 57 = .ok (.getfield 39, 3) := by decide +kernel
theorem dX10_ruled_60 : decode cX10_ruled 60 = .ok (.iload_n 1, 1) := by decide +kernel
theorem dX10_ruled_61 : decode cX10_ruled 61 = .ok (.iconst 1, 1) := by decide +kernel
theorem dX10_ruled_62 : decode cX10_ruled 62 = .ok (.isub, 1) := by decide +kernel
theorem dX10_ruled_63 : decode cX10_ruled 63 = .ok (.iload_n 3, 1) := by decide +kernel
theorem dX10_ruled_64 : decode cX10_ruled 64 = .ok (.sipush 2000, 3) := by decide +kernel
theorem dX10_ruled_67 : decode cX10_ruled 67 = .ok (.isub, 1) := by decide +kernel
theorem dX10_ruled_68 : decode cX10_ruled 68 = .ok (.aload_n 0, 1) := by decide +kernel
theorem dX10_ruled_69 : decode cX10_ruled 69 = .ok (.getfield 39, 3) := by decide +kernel
theorem dX10_ruled_72 : decode cX10_ruled 72 = .ok (.iload_n 1, 1) := by decide +kernel
theorem dX10_ruled_73 : decode cX10_ruled 73 = .ok (.iconst 1, 1) := by decide +kernel
theorem dX10_ruled_74 : decode cX10_ruled 74 = .ok (.isub, 1) := by decide +kernel
theorem dX10_ruled_75 : decode cX10_ruled 75 = .ok (.iaload, 1) := by decide +kernel
theorem dX10_ruled_76 : decode cX10_ruled 76 = .ok (.aload_n 0, 1) := by decide +kernel
theorem dX10_ruled_77 : decode cX10_ruled 77 = .ok (.getfield 39, 3) := by decide +kernel
theorem dX10_ruled_80 : decode cX10_ruled 80 = .ok (.iload_n 1, 1) := by decide +kernel
theorem dX10_ruled_81 : decode cX10_ruled 81 = .ok (.iaload, 1) := by decide +kernel
theorem dX10_ruled_82 : decode cX10_ruled 82 = .ok (.invokestatic 256, 3) := by decide +kernel
theorem dX10_ruled_85 : decode cX10_ruled 85 = .ok (.iastore, 1) := by decide +kernel
theorem dX10_ruled_86 : decode cX10_ruled 86 = .ok (.goto 33, 3) := by decide +kernel
theorem dX10_ruled_89 : decode cX10_ruled 89 = .ok (.aload_n 0, 1) := by decide +kernel
theorem dX10_ruled_90 : decode cX10_ruled 90 = .ok (.getfield 39, 3) := by decide +kernel
theorem dX10_ruled_93 : decode cX10_ruled 93 = .ok (.iload_n 1, 1) := by decide +kernel
theorem dX10_ruled_94 : decode cX10_ruled 94 = .ok (.iload_n 3, 1) := by decide +kernel
theorem dX10_ruled_95 : decode cX10_ruled 95 = .ok (.sipush 1000, 3) := by decide +kernel
theorem dX10_ruled_98 : decode cX10_ruled 98 = .ok (.if_icmp .lt 16, 3) := by decide +kernel
theorem dX10_ruled_101 : decode cX10_ruled 101 = .ok (.aload_n 0, 1) := by decide +kernel
theorem dX10_ruled_102 : decode cX10_ruled 102 = .ok (.getfield 42, 3) := by decide +kernel
theorem dX10_ruled_105 : decode cX10_ruled 105 = .ok (.iload_n 3, 1) := by decide +kernel
theorem dX10_ruled_106 : decode cX10_ruled 106 = .ok (.sipush 1000, 3) := by decide +kernel
theorem dX10_ruled_109 : decode cX10_ruled 109 = .ok (.isub, 1) := by decide +kernel
theorem dX10_ruled_110 : decode cX10_ruled 110 = .ok (.iaload, 1) := by decide +kernel
theorem dX10_ruled_111 : decode cX10_ruled 111 = .ok (.goto 4, 3) := by decide +kernel
theorem dX10_ruled_114 : decode cX10_ruled 114 = .ok (.iload_n 3, 1) := by decide +kernel
theorem dX10_ruled_115 : decode cX10_ruled 115 = .ok (.iastore, 1) := by decide +kernel
theorem dX10_ruled_116 : decode cX10_ruled 116 = .ok (.iinc 1 1, 3) := by decide +kernel
theorem dX10_ruled_119 : decode cX10_ruled 119 = .ok (.iinc 2 1, 3) := by decide +kernel
theorem dX10_ruled_122 : decode cX10_ruled 122 = .ok (.goto (-118), 3) := by decide +kernel
theorem dX10_ruled_125 : decode cX10_ruled 125 = .ok (.aload_n 0, 1) := by decide +kernel
theorem dX10_ruled_126 : decode cX10_ruled 126 = .ok (.getfield 246, 3) := by decide +kernel
theorem dX10_ruled_129 : decode cX10_ruled 129 = .ok (.ifCond .ne 26, 3) := by decide +kernel
theorem dX10_ruled_132 : decode cX10_ruled 132 = .ok (.iconst 1, 1) := by decide +kernel
theorem dX10_ruled_133 : decode cX10_ruled 133 = .ok (.aload_n 0, 1) := by decide +kernel
theorem dX10_ruled_134 : decode cX10_ruled 134 = .ok (.getfield 42, 3) := by decide +kernel
theorem dX10_ruled_137 : decode cX10_ruled 137 = .ok (.iconst 2, 1) := by decide +kernel
theorem dX10_ruled_138 : decode cX10_ruled 138 = .ok (.iaload, 1) := by decide +kernel
theorem dX10_ruled_139 : decode cX10_ruled 139 = .ok (.iconst 1, 1) := by decide +kernel
theorem dX10_ruled_140 : decode cX10_ruled 140 = .ok (.if_icmp .le 7, 3) := by decide +kernel
theorem dX10_ruled_143 : decode cX10_ruled 143 = .ok (.iconst 1, 1) := by decide +kernel
theorem dX10_ruled_144 : decode cX10_ruled 144 = .ok (.goto 4, 3) := by decide +kernel
theorem dX10_ruled_147 : decode cX10_ruled 147 = .ok (.iconst 0, 1) := by decide +kernel
theorem dX10_ruled_148 : decode cX10_ruled 148 = .ok (.invokestatic 163, 3) := by decide +kernel
theorem dX10_ruled_151 : decode cX10_ruled 151 = .ok (.iadd, 1) := by decide +kernel
theorem dX10_ruled_152 : decode cX10_ruled 152 = .ok (.goto 9, 3) := by decide +kernel
theorem dX10_ruled_155 : decode cX10_ruled 155 = .ok (.aload_n 0, 1) := by decide +kernel
theorem dX10_ruled_156 : decode cX10_ruled 156 = .ok (.getfield 39, 3) := by decide +kernel
theorem dX10_ruled_159 : decode cX10_ruled 159 = .ok (.iconst 0, 1) := by decide +kernel
theorem dX10_ruled_160 : decode cX10_ruled 160 = .ok (.iaload, 1) := by decide +kernel
theorem dX10_ruled_161 : decode cX10_ruled 161 = .ok (.ireturn, 1) := by decide +kernel
theorem dX10_loss_0 : decode cX10_loss 0 = .ok (.aload_n 0, 1) := by decide +kernel
theorem dX10_loss_1 : decode cX10_loss 1 = .ok (.getfield 42, 3) := by decide +kernel
theorem dX10_loss_4 : decode cX10_loss 4 = .ok (.iconst 0, 1) := by decide +kernel
theorem dX10_loss_5 : decode cX10_loss 5 = .ok (.aload_n 1, 1) := by decide +kernel
theorem dX10_loss_6 : decode cX10_loss 6 = .ok (.bipush 24, 2) := by decide +kernel
theorem dX10_loss_8 : decode cX10_loss 8 = .ok (.iload_n 2, 1) := by decide +kernel
theorem dX10_loss_9 : decode cX10_loss 9 = .ok (.iadd, 1) := by decide +kernel
theorem dX10_loss_10 : decode cX10_loss 10 = .ok (.iaload, 1) := by decide +kernel
theorem dX10_loss_11 : decode cX10_loss 11 = .ok (.iastore, 1) := by decide +kernel
theorem dX10_loss_12 : decode cX10_loss 12 = .ok (.aload_n 0, 1) := by decide +kernel
theorem dX10_loss_13 : decode cX10_loss 13 = .ok (.getfield 42, 3) := by decide +kernel
theorem dX10_loss_16 : decode cX10_loss 16 = .ok (.iconst 1, 1) := by decide +kernel
theorem dX10_loss_17 : decode cX10_loss 17 = .ok (.aload_n 1, 1) := by decide +kernel
theorem dX10_loss_18 : decode cX10_loss 18 = .ok (.bipush 40, 2) := by decide +kernel
theorem dX10_loss_20 : decode cX10_loss 20 = .ok (.iload_n 2, 1) := by decide +kernel
theorem dX10_loss_21 : decode cX10_loss 21 = .ok (.iadd, 1) := by decide +kernel
theorem dX10_loss_22 : decode cX10_loss 22 = .ok (.iaload, 1) := by decide +kernel
theorem dX10_loss_23 : decode cX10_loss 23 = .ok (.iastore, 1) := by decide +kernel
theorem dX10_loss_24 : decode cX10_loss 24 = .ok (.aload_n 0, 1) := by decide +kernel
theorem dX10_loss_25 : decode cX10_loss 25 = .ok (.getfield 42, 3) := by decide +kernel
theorem dX10_loss_28 : decode cX10_loss 28 = .ok (.iconst 2, 1) := by decide +kernel
theorem dX10_loss_29 : decode cX10_loss 29 = .ok (.aload_n 0, 1) := by decide +kernel
theorem dX10_loss_30 : decode cX10_loss 30 = .ok (.aload_n 1, 1) := by decide +kernel
theorem dX10_loss_31 : decode cX10_loss 31 = .ok (.iload_n 2, 1) := by decide +kernel
theorem dX10_loss_32 : decode cX10_loss 32 = .ok (.invokevirtual 260, 3) := by decide +kernel
theorem dX10_loss_35 : decode cX10_loss 35 = .ok (.invokestatic 264, 3) := by decide +kernel
theorem dX10_loss_38 : decode cX10_loss 38 = .ok (.iastore, 1) := by decide +kernel
theorem dX10_loss_39 : decode cX10_loss 39 = .ok (.aload_n 0, 1) := by decide +kernel
theorem dX10_loss_40 : decode cX10_loss 40 = .ok (.getfield 42, 3) := by decide +kernel
theorem dX10_loss_43 : decode cX10_loss 43 = .ok (.iconst 3, 1) := by decide +kernel
theorem dX10_loss_44 : decode cX10_loss 44 = .ok (.aload_n 1, 1) := by decide +kernel
theorem dX10_loss_45 : decode cX10_loss 45 = .ok (.bipush 8, 2) := by decide +kernel
theorem dX10_loss_47 : decode cX10_loss 47 = .ok (.iload_n 2, 1) := by decide +kernel
theorem dX10_loss_48 : decode cX10_loss 48 = .ok (.iadd, 1) := by decide +kernel
theorem dX10_loss_49 : decode cX10_loss 49 = .ok (.iaload, 1) := by decide +kernel
theorem dX10_loss_50 : decode cX10_loss 50 = .ok (.iastore, 1) := by decide +kernel
theorem dX10_loss_51 : decode cX10_loss 51 = .ok (.aload_n 0, 1) := by decide +kernel
theorem dX10_loss_52 : decode cX10_loss 52 = .ok (.getfield 42, 3) := by decide +kernel
theorem dX10_loss_55 : decode cX10_loss 55 = .ok (.iconst 4, 1) := by decide +kernel
theorem dX10_loss_56 : decode cX10_loss 56 = .ok (.aload_n 1, 1) := by decide +kernel
theorem dX10_loss_57 : decode cX10_loss 57 = .ok (.bipush 16, 2) := by decide +kernel
theorem dX10_loss_59 : decode cX10_loss 59 = .ok (.iload_n 2, 1) := by decide +kernel
theorem dX10_loss_60 : decode cX10_loss 60 = .ok (.iadd, 1) := by decide +kernel
theorem dX10_loss_61 : decode cX10_loss 61 = .ok (.iaload, 1) := by decide +kernel
theorem dX10_loss_62 : decode cX10_loss 62 = .ok (.iastore, 1) := by decide +kernel
theorem dX10_loss_63 : decode cX10_loss 63 = .ok (.aload_n 0, 1) := by decide +kernel
theorem dX10_loss_64 : decode cX10_loss 64 = .ok (.getfield 42, 3) := by decide +kernel
theorem dX10_loss_67 : decode cX10_loss 67 = .ok (.iconst 5, 1) := by decide +kernel
theorem dX10_loss_68 : decode cX10_loss 68 = .ok (.aload_n 1, 1) := by decide +kernel
theorem dX10_loss_69 : decode cX10_loss 69 = .ok (.iload_n 2, 1) := by decide +kernel
theorem dX10_loss_70 : decode cX10_loss 70 = .ok (.iaload, 1) := by decide +kernel
theorem dX10_loss_71 : decode cX10_loss 71 = .ok (.aload_n 0, 1) := by decide +kernel
theorem dX10_loss_72 : decode cX10_loss 72 = .ok (.getfield 17, 3) := by decide +kernel
theorem dX10_loss_75 : decode cX10_loss 75 = .ok (.irem, 1) := by decide +kernel
theorem dX10_loss_76 : decode cX10_loss 76 = .ok (.iastore, 1) := by decide +kernel
theorem dX10_loss_77 : decode cX10_loss 77 = .ok (.aload_n 0, 1) := by decide +kernel
theorem dX10_loss_78 : decode cX10_loss 78 = .ok (.getfield 42, 3) := by decide +kernel
theorem dX10_loss_81 : decode cX10_loss 81 = .ok (.bipush 6, 2) := by decide +kernel
theorem dX10_loss_83 : decode cX10_loss 83 = .ok (.aload_n 1, 1) := by decide +kernel
theorem dX10_loss_84 : decode cX10_loss 84 = .ok (.iload_n 2, 1) := by decide +kernel
theorem dX10_loss_85 : decode cX10_loss 85 = .ok (.iaload, 1) := by decide +kernel
theorem dX10_loss_86 : decode cX10_loss 86 = .ok (.aload_n 0, 1) := by decide +kernel
theorem dX10_loss_87 : decode cX10_loss 87 = .ok (.getfield 17, 3) := by decide +kernel
theorem dX10_loss_90 : decode cX10_loss 90 = .ok (.idiv, 1) := by decide +kernel
theorem dX10_loss_91 : decode cX10_loss 91 = .ok (.iastore, 1) := by decide +kernel
theorem dX10_loss_92 : decode cX10_loss 92 = .ok (.aload_n 0, 1) := by decide +kernel
theorem dX10_loss_93 : decode cX10_loss 93 = .ok (.getfield 42, 3) := by decide +kernel
theorem dX10_loss_96 : decode cX10_loss 96 = .ok (.bipush 7, 2) := by decide +kernel
theorem dX10_loss_98 : decode cX10_loss 98 = .ok (.aload_n 1, 1) := by decide +kernel
theorem dX10_loss_99 : decode cX10_loss 99 = .ok (.bipush 49, 2) := by decide +kernel
theorem dX10_loss_101 : decode cX10_loss 101 = .ok (.iaload, 1) := by decide +kernel
theorem dX10_loss_102 : decode cX10_loss 102 = .ok (.bipush 7, 2) := by decide +kernel
theorem dX10_loss_104 : decode cX10_loss 104 = .ok (.irem, 1) := by decide +kernel
theorem dX10_loss_105 : decode cX10_loss 105 = .ok (.iastore, 1) := by decide +kernel
theorem dX10_loss_106 : decode cX10_loss 106 = .ok (.aload_n 0, 1) := by decide +kernel
theorem dX10_loss_107 : decode cX10_loss 107 = .ok (.getfield 45, 3) := by decide +kernel
theorem dX10_loss_110 : decode cX10_loss 110 = .ok (.ifCond .lt 26, 3) := by decide +kernel
theorem dX10_loss_113 : decode cX10_loss 113 = .ok (.aload_n 0, 1) := by decide +kernel
theorem dX10_loss_114 : decode cX10_loss 114 = .ok (.getfield 45, 3) := by decide +kernel
theorem dX10_loss_117 : decode cX10_loss 117 = .ok (.iconst 4, 1) := by decide +kernel
theorem dX10_loss_118 : decode cX10_loss 118 = .ok (.idiv, 1) := by decide +kernel
theorem dX10_loss_119 : decode cX10_loss 119 = .ok (.aload_n 0, 1) := by decide +kernel
theorem dX10_loss_120 : decode cX10_loss 120 = .ok (.getfield 45, 3) := by decide +kernel
theorem dX10_loss_123 : decode cX10_loss 123 = .ok (.iconst 4, 1) := by decide +kernel
theorem dX10_loss_124 : decode cX10_loss 124 = .ok (.irem, 1) := by decide +kernel
theorem dX10_loss_125 : decode cX10_loss 125 = .ok (.aload_n 0, 1) := by decide +kernel
theorem dX10_loss_126 : decode cX10_loss 126 = .ok (.getfield 42, 3) := by decide +kernel
theorem dX10_loss_129 : decode cX10_loss 129 = .ok (.iconst 2, 1) := by decide +kernel
theorem dX10_loss_130 : decode cX10_loss 130 = .ok (.iaload, 1) := by decide +kernel
theorem dX10_loss_131 : decode cX10_loss 131 = .ok (.imul, 1) := by decide +kernel
theorem dX10_loss_132 : decode cX10_loss 132 = .ok (.iadd, 1) := by decide +kernel
theorem dX10_loss_133 : decode cX10_loss 133 = .ok (.goto 7, 3) := by decide +kernel
theorem dX10_loss_136 : decode cX10_loss 136 = .ok (.aload_n 0, 1) := by decide +kernel
theorem dX10_loss_137 : decode cX10_loss 137 = .ok (.invokevirtual 269, 3) := by decide +kernel
theorem dX10_loss_140 : decode cX10_loss 140 = .ok (.istore_n 3, 1) := by decide +kernel
theorem dX10_loss_141 : decode cX10_loss 141 = .ok (.iconst 0, 1) := by decide +kernel
theorem dX10_loss_142 : decode cX10_loss 142 = .ok (.bipush 9, 2) := by decide +kernel
theorem dX10_loss_144 : decode cX10_loss 144 = .ok (.iload_n 3, 1) := by decide +kernel
theorem dX10_loss_145 : decode cX10_loss 145 = .ok (.invokestatic 154, 3) := by decide +kernel
theorem dX10_loss_148 : decode cX10_loss 148 = .ok (.invokestatic 272, 3) := by decide +kernel
theorem dX10_loss_151 : decode cX10_loss 151 = .ok (.ireturn, 1) := by decide +kernel
theorem dX10_lossOn_0 : decode cX10_lossOn 0 = .ok (.aload_n 0, 1) := by decide +kernel
theorem dX10_lossOn_1 : decode cX10_lossOn 1 = .ok (.getfield 20, 3) := by decide +kernel
theorem dX10_lossOn_4 : decode cX10_lossOn 4 = .ok (.iload_n 1, 1) := by decide +kernel
theorem dX10_lossOn_5 : decode cX10_lossOn 5 = .ok (.invokestatic 129, 3) := by decide +kernel
theorem dX10_lossOn_8 : decode cX10_lossOn 8 = .ok (.ifCond .eq 15, 3) := by decide +kernel
theorem dX10_lossOn_11 : decode cX10_lossOn 11 = .ok (.aload_n 0, 1) := by decide +kernel
theorem dX10_lossOn_12 : decode cX10_lossOn 12 = .ok (.aload_n 0, 1) := by decide +kernel
theorem dX10_lossOn_13 : decode cX10_lossOn 13 = .ok (.getfield 20, 3) := by decide +kernel
theorem dX10_lossOn_16 : decode cX10_lossOn 16 = .ok (.iload_n 1, 1) := by decide +kernel
theorem dX10_lossOn_17 : decode cX10_lossOn 17 = .ok (.invokevirtual 275, 3) := by decide +kernel
theorem dX10_lossOn_20 : decode cX10_lossOn 20 = .ok (.goto 4, 3) := by decide +kernel
theorem dX10_lossOn_23 : decode cX10_lossOn 23 = .ok (.iconst 0, 1) := by decide +kernel
theorem dX10_lossOn_24 : decode cX10_lossOn 24 = .ok (.ireturn, 1) := by decide +kernel
theorem dX10_camp_0 : decode cX10_camp 0 = .ok (.aload_n 0, 1) := by decide +kernel
theorem dX10_camp_1 : decode cX10_camp 1 = .ok (.iconst 0, 1) := by decide +kernel
theorem dX10_camp_2 : decode cX10_camp 2 = .ok (.putfield 103, 3) := by decide +kernel
theorem dX10_camp_5 : decode cX10_camp 5 = .ok (.aload_n 0, 1) := by decide +kernel
theorem dX10_camp_6 : decode cX10_camp 6 = .ok (.iload_n 1, 1) := by decide +kernel
theorem dX10_camp_7 : decode cX10_camp 7 = .ok (.invokevirtual 278, 3) := by decide +kernel
theorem dX10_camp_10 : decode cX10_camp 10 = .ok (.ifCond .eq 15, 3) := by decide +kernel
theorem dX10_camp_13 : decode cX10_camp 13 = .ok (.iload_n 2, 1) := by decide +kernel
theorem dX10_camp_14 : decode cX10_camp 14 = .ok (.i2l, 1) := by decide +kernel
theorem dX10_camp_15 : decode cX10_camp 15 = .ok (.lconst 0, 1) := by decide +kernel
theorem dX10_camp_16 : decode cX10_camp 16 = .ok (.ldc2_w 281, 3) := by decide +kernel
theorem dX10_camp_19 : decode cX10_camp 19 = .ok (.invokestatic 117, 3) := by decide +kernel
theorem dX10_camp_22 : decode cX10_camp 22 = .ok (.ifCond .ne 8, 3) := by decide +kernel
theorem dX10_camp_25 : decode cX10_camp 25 = .ok (.aload_n 0, 1) := by decide +kernel
theorem dX10_camp_26 : decode cX10_camp 26 = .ok (.invokevirtual 283, 3) := by decide +kernel
theorem dX10_camp_29 : decode cX10_camp 29 = .ok (.ireturn, 1) := by decide +kernel
theorem dX10_camp_30 : decode cX10_camp 30 = .ok (.iload_n 2, 1) := by decide +kernel
theorem dX10_camp_31 : decode cX10_camp 31 = .ok (.bipush 6, 2) := by decide +kernel
theorem dX10_camp_33 : decode cX10_camp 33 = .ok (.if_icmp .ge 17, 3) := by decide +kernel
theorem dX10_camp_36 : decode cX10_camp 36 = .ok (.aload_n 0, 1) := by decide +kernel
theorem dX10_camp_37 : decode cX10_camp 37 = .ok (.getfield 20, 3) := by decide +kernel
theorem dX10_camp_40 : decode cX10_camp 40 = .ok (.bipush 8, 2) := by decide +kernel
theorem dX10_camp_42 : decode cX10_camp 42 = .ok (.iload_n 2, 1) := by decide +kernel
theorem dX10_camp_43 : decode cX10_camp 43 = .ok (.imul, 1) := by decide +kernel
theorem dX10_camp_44 : decode cX10_camp 44 = .ok (.iload_n 1, 1) := by decide +kernel
theorem dX10_camp_45 : decode cX10_camp 45 = .ok (.iadd, 1) := by decide +kernel
theorem dX10_camp_46 : decode cX10_camp 46 = .ok (.iaload, 1) := by decide +kernel
theorem dX10_camp_47 : decode cX10_camp 47 = .ok (.goto 26, 3) := by decide +kernel
theorem dX10_camp_50 : decode cX10_camp 50 = .ok (.iload_n 2, 1) := by decide +kernel
theorem dX10_camp_51 : decode cX10_camp 51 = .ok (.bipush 6, 2) := by decide +kernel
theorem dX10_camp_53 : decode cX10_camp 53 = .ok (.if_icmp .ne 11, 3) := by decide +kernel
theorem dX10_camp_56 : decode cX10_camp 56 = .ok (.aload_n 0, 1) := by decide +kernel
theorem dX10_camp_57 : decode cX10_camp 57 = .ok (.iload_n 1, 1) := by decide +kernel
theorem dX10_camp_58 : decode cX10_camp 58 = .ok (.invokevirtual 286, 3) := by decide +kernel
theorem dX10_camp_61 : decode cX10_camp 61 = .ok (.goto 12, 3) := by decide +kernel
theorem dX10_camp_64 : decode cX10_camp 64 = .ok (.aload_n 0, 1) := by decide +kernel
theorem dX10_camp_65 : decode cX10_camp 65 = .ok (.aload_n 0, 1) := by decide +kernel
theorem dX10_camp_66 : decode cX10_camp 66 = .ok (.getfield 20, 3) := by decide +kernel
theorem dX10_camp_69 : decode cX10_camp 69 = .ok (.iload_n 1, 1) := by decide +kernel
theorem dX10_camp_70 : decode cX10_camp 70 = .ok (.invokevirtual 260, 3) := by decide +kernel
theorem dX10_camp_73 : decode cX10_camp 73 = .ok (.ireturn, 1) := by decide +kernel
theorem dX10_strongest_0 : decode cX10_strongest 0 = .ok (.iconst (-1), 1) := by decide +kernel
theorem dX10_strongest_1 : decode cX10_strongest 1 = .ok (.istore_n 2, 1) := by decide +kernel
theorem dX10_strongest_2 : decode cX10_strongest 2 = .ok (.iconst 0, 1) := by decide +kernel
theorem dX10_strongest_3 : decode cX10_strongest 3 = .ok (.istore_n 3, 1) := by decide +kernel
theorem dX10_strongest_4 : decode cX10_strongest 4 = .ok (.iload_n 3, 1) := by decide +kernel
theorem dX10_strongest_5 : decode cX10_strongest 5 = .ok (.bipush 8, 2) := by decide +kernel
theorem dX10_strongest_7 : decode cX10_strongest 7 = .ok (.if_icmp .ge 43, 3) := by decide +kernel
theorem dX10_strongest_10 : decode cX10_strongest 10 = .ok (.iload_n 1, 1) := by decide +kernel
theorem dX10_strongest_11 : decode cX10_strongest 11 = .ok (.i2l, 1) := by decide +kernel
theorem dX10_strongest_12 : decode cX10_strongest 12 = .ok (.iload_n 3, 1) := by decide +kernel
theorem dX10_strongest_13 : decode cX10_strongest 13 = .ok (.invokestatic 137, 3) := by decide +kernel
theorem dX10_strongest_16 : decode cX10_strongest 16 = .ok (.ifCond .eq 26, 3) := by decide +kernel
theorem dX10_strongest_19 : decode cX10_strongest 19 = .ok (.iload_n 2, 1) := by decide +kernel
theorem dX10_strongest_20 : decode cX10_strongest 20 = .ok (.ifCond .lt 18, 3) := by decide +kernel
theorem dX10_strongest_23 : decode cX10_strongest 23 = .ok (.aload_n 0, 1) := by decide +kernel
theorem dX10_strongest_24 : decode cX10_strongest 24 = .ok (.bipush 24, 2) := by decide +kernel
theorem dX10_strongest_26 : decode cX10_strongest 26 = .ok (.iload_n 3, 1) := by decide +kernel
theorem dX10_strongest_27 : decode cX10_strongest 27 = .ok (.iadd, 1) := by decide +kernel
theorem dX10_strongest_28 : decode cX10_strongest 28 = .ok (.iaload, 1) := by decide +kernel
theorem dX10_strongest_29 : decode cX10_strongest 29 = .ok (.aload_n 0, 1) := by decide +kernel
theorem dX10_strongest_30 : decode cX10_strongest 30 = .ok (.bipush 24, 2) := by decide +kernel
theorem dX10_strongest_32 : decode cX10_strongest 32 = .ok (.iload_n 2, 1) := by decide +kernel
theorem dX10_strongest_33 : decode cX10_strongest 33 = .ok (.iadd, 1) := by decide +kernel
theorem dX10_strongest_34 : decode cX10_strongest 34 = .ok (.iaload, 1) := by decide +kernel
theorem dX10_strongest_35 : decode cX10_strongest 35 = .ok (.if_icmp .le 7, 3) := by decide +kernel
theorem dX10_strongest_38 : decode cX10_strongest 38 = .ok (.iload_n 3, 1) := by decide +kernel
theorem dX10_strongest_39 : decode cX10_strongest 39 = .ok (.goto 4, 3) := by decide +kernel
theorem dX10_strongest_42 : decode cX10_strongest 42 = .ok (.iload_n 2, 1) := by decide +kernel
theorem dX10_strongest_43 : decode cX10_strongest 43 = .ok (.istore_n 2, 1) := by decide +kernel
theorem dX10_strongest_44 : decode cX10_strongest 44 = .ok (.iinc 3 1, 3) := by decide +kernel
theorem dX10_strongest_47 : decode cX10_strongest 47 = .ok (.goto (-43), 3) := by decide +kernel
theorem dX10_strongest_50 : decode cX10_strongest 50 = .ok (.iload_n 2, 1) := by decide +kernel
theorem dX10_strongest_51 : decode cX10_strongest 51 = .ok (.ireturn, 1) := by decide +kernel
theorem dX10_cell_0 : decode cX10_cell 0 = .ok (.aload_n 0, 1) := by decide +kernel
theorem dX10_cell_1 : decode cX10_cell 1 = .ok (.iconst 0, 1) := by decide +kernel
theorem dX10_cell_2 : decode cX10_cell 2 = .ok (.putfield 103, 3) := by decide +kernel
theorem dX10_cell_5 : decode cX10_cell 5 = .ok (.aload_n 0, 1) := by decide +kernel
theorem dX10_cell_6 : decode cX10_cell 6 = .ok (.iload_n 1, 1) := by decide +kernel
theorem dX10_cell_7 : decode cX10_cell 7 = .ok (.invokevirtual 289, 3) := by decide +kernel
theorem dX10_cell_10 : decode cX10_cell 10 = .ok (.ifCond .eq 15, 3) := by decide +kernel
theorem dX10_cell_13 : decode cX10_cell 13 = .ok (.iload_n 2, 1) := by decide +kernel
theorem dX10_cell_14 : decode cX10_cell 14 = .ok (.i2l, 1) := by decide +kernel
theorem dX10_cell_15 : decode cX10_cell 15 = .ok (.lconst 0, 1) := by decide +kernel
theorem dX10_cell_16 : decode cX10_cell 16 = .ok (.ldc2_w 292, 3) := by decide +kernel
theorem dX10_cell_19 : decode cX10_cell 19 = .ok (.invokestatic 117, 3) := by decide +kernel
theorem dX10_cell_22 : decode cX10_cell 22 = .ok (.ifCond .ne 8, 3) := by decide +kernel
theorem dX10_cell_25 : decode cX10_cell 25 = .ok (.aload_n 0, 1) := by decide +kernel
theorem dX10_cell_26 : decode cX10_cell 26 = .ok (.invokevirtual 283, 3) := by decide +kernel
theorem dX10_cell_29 : decode cX10_cell 29 = .ok (.ireturn, 1) := by decide +kernel
theorem dX10_cell_30 : decode cX10_cell 30 = .ok (.aload_n 0, 1) := by decide +kernel
theorem dX10_cell_31 : decode cX10_cell 31 = .ok (.aload_n 0, 1) := by decide +kernel
theorem dX10_cell_32 : decode cX10_cell 32 = .ok (.getfield 20, 3) := by decide +kernel
theorem dX10_cell_35 : decode cX10_cell 35 = .ok (.iload_n 1, 1) := by decide +kernel
theorem dX10_cell_36 : decode cX10_cell 36 = .ok (.invokevirtual 294, 3) := by decide +kernel
theorem dX10_cell_39 : decode cX10_cell 39 = .ok (.istore_n 3, 1) := by decide +kernel
theorem dX10_cell_40 : decode cX10_cell 40 = .ok (.iload_n 2, 1) := by decide +kernel
theorem dX10_cell_41 : decode cX10_cell 41 = .ok (.ifCond .ne 7, 3) := by decide +kernel
theorem dX10_cell_44 : decode cX10_cell 44 = .ok (.iload_n 3, 1) := by decide +kernel
theorem dX10_cell_45 : decode cX10_cell 45 = .ok (.goto 28, 3) := by decide +kernel
theorem dX10_cell_48 : decode cX10_cell 48 = .ok (.iload_n 2, 1) := by decide +kernel
theorem dX10_cell_49 : decode cX10_cell 49 = .ok (.iconst 1, 1) := by decide +kernel
theorem dX10_cell_50 : decode cX10_cell 50 = .ok (.if_icmp .ne 15, 3) := by decide +kernel
theorem dX10_cell_53 : decode cX10_cell 53 = .ok (.aload_n 0, 1) := by decide +kernel
theorem dX10_cell_54 : decode cX10_cell 54 = .ok (.aload_n 0, 1) := by decide +kernel
theorem dX10_cell_55 : decode cX10_cell 55 = .ok (.getfield 20, 3) := by decide +kernel
theorem dX10_cell_58 : decode cX10_cell 58 = .ok (.iload_n 1, 1) := by decide +kernel
theorem dX10_cell_59 : decode cX10_cell 59 = .ok (.invokevirtual 297, 3) := by decide +kernel
theorem dX10_cell_62 : decode cX10_cell 62 = .ok (.goto 11, 3) := by decide +kernel
theorem dX10_cell_65 : decode cX10_cell 65 = .ok (.aload_n 0, 1) := by decide +kernel
theorem dX10_cell_66 : decode cX10_cell 66 = .ok (.getfield 20, 3) := by decide +kernel
theorem dX10_cell_69 : decode cX10_cell 69 = .ok (.iload_n 3, 1) := by decide +kernel
theorem dX10_cell_70 : decode cX10_cell 70 = .ok (.invokestatic 300, 3) := by decide +kernel
theorem dX10_cell_73 : decode cX10_cell 73 = .ok (.ireturn, 1) := by decide +kernel
theorem dX10_sheet_0 : decode cX10_sheet 0 = .ok (.aload_n 0, 1) := by decide +kernel
theorem dX10_sheet_1 : decode cX10_sheet 1 = .ok (.iconst 0, 1) := by decide +kernel
theorem dX10_sheet_2 : decode cX10_sheet 2 = .ok (.putfield 103, 3) := by decide +kernel
theorem dX10_sheet_5 : decode cX10_sheet 5 = .ok (.iload_n 1, 1) := by decide +kernel
theorem dX10_sheet_6 : decode cX10_sheet 6 = .ok (.i2l, 1) := by decide +kernel
theorem dX10_sheet_7 : decode cX10_sheet 7 = .ok (.lconst 0, 1) := by decide +kernel
theorem dX10_sheet_8 : decode cX10_sheet 8 = .ok (.ldc2_w 303, 3) := by decide +kernel
theorem dX10_sheet_11 : decode cX10_sheet 11 = .ok (.invokestatic 117, 3) := by decide +kernel
theorem dX10_sheet_14 : decode cX10_sheet 14 = .ok (.ifCond .eq 9, 3) := by decide +kernel
theorem dX10_sheet_17 : decode cX10_sheet 17 = .ok (.iload_n 2, 1) := by decide +kernel
theorem dX10_sheet_18 : decode cX10_sheet 18 = .ok (.bipush 8, 2) := by decide +kernel
theorem dX10_sheet_20 : decode cX10_sheet 20 = .ok (.if_icmp .le 5, 3) := by decide +kernel
theorem dX10_sheet_23 : decode cX10_sheet 23 = .ok (.iconst (-1), 1) := by decide +kernel
theorem dX10_sheet_24 : decode cX10_sheet 24 = .ok (.ireturn, 1) := by decide +kernel
theorem dX10_sheet_25 : decode cX10_sheet 25 = .ok (.iload_n 1, 1) := by decide +kernel
theorem dX10_sheet_26 : decode cX10_sheet 26 = .ok (.iconst 3, 1) := by decide +kernel
theorem dX10_sheet_27 : decode cX10_sheet 27 = .ok (.if_icmp .eq 10, 3) := by decide +kernel
theorem dX10_sheet_30 : decode cX10_sheet 30 = .ok (.iload_n 2, 1) := by decide +kernel
theorem dX10_sheet_31 : decode cX10_sheet 31 = .ok (.ifCond .ge 6, 3) := by decide +kernel
theorem dX10_sheet_34 : decode cX10_sheet 34 = .ok (.bipush (-2), 2) := by decide +kernel
theorem dX10_sheet_36 : decode cX10_sheet 36 = .ok (.ireturn, 1) := by decide +kernel
theorem dX10_sheet_37 : decode cX10_sheet 37 = .ok (.iload_n 3, 1) := by decide +kernel
theorem dX10_sheet_38 : decode cX10_sheet 38 = .ok (.istore 5, 2) := by decide +kernel
theorem dX10_sheet_40 : decode cX10_sheet 40 = .ok (.iconst 0, 1) := by decide +kernel
theorem dX10_sheet_41 : decode cX10_sheet 41 = .ok (.istore 6, 2) := by decide +kernel
theorem dX10_sheet_43 : decode cX10_sheet 43 = .ok (.iload 6, 2) := by decide +kernel
theorem dX10_sheet_45 : decode cX10_sheet 45 = .ok (.aload_n 0, 1) := by decide +kernel
theorem dX10_sheet_46 : decode cX10_sheet 46 = .ok (.getfield 20, 3) := by decide +kernel
theorem dX10_sheet_49 : decode cX10_sheet 49 = .ok (.bipush 48, 2) := by decide +kernel
theorem dX10_sheet_51 : decode cX10_sheet 51 = .ok (.iaload, 1) := by decide +kernel
theorem dX10_sheet_52 : decode cX10_sheet 52 = .ok (.if_icmp .ge 77, 3) := by decide +kernel
theorem dX10_sheet_55 : decode cX10_sheet 55 = .ok (.iload_n 1, 1) := by decide +kernel
theorem dX10_sheet_56 : decode cX10_sheet 56 = .ok (.ifCond .ne 9, 3) := by decide +kernel
theorem dX10_sheet_59 : decode cX10_sheet 59 = .ok (.iload 5, 2) := by decide +kernel
theorem dX10_sheet_61 : decode cX10_sheet 61 = .ok (.i2b, 1) := by decide +kernel
theorem dX10_sheet_62 : decode cX10_sheet 62 = .ok (.goto 16, 3) := by decide +kernel
theorem dX10_sheet_65 : decode cX10_sheet 65 = .ok (.iload_n 1, 1) := by decide +kernel
theorem dX10_sheet_66 : decode cX10_sheet 66 = .ok (.iconst 1, 1) := by decide +kernel
theorem dX10_sheet_67 : decode cX10_sheet 67 = .ok (.if_icmp .ne 9, 3) := by decide +kernel
theorem dX10_sheet_70 : decode cX10_sheet 70 = .ok (.iload 5, 2) := by decide +kernel
theorem dX10_sheet_72 : decode cX10_sheet 72 = .ok (.i2s, 1) := by decide +kernel
theorem dX10_sheet_73 : decode cX10_sheet 73 = .ok (.goto 5, 3) := by decide +kernel
theorem dX10_sheet_76 : decode cX10_sheet 76 = .ok (.iload 5, 2) := by decide +kernel
theorem dX10_sheet_78 : decode cX10_sheet 78 = .ok (.istore 7, 2) := by decide +kernel
theorem dX10_sheet_80 : decode cX10_sheet 80 = .ok (.aload_n 0, 1) := by decide +kernel
theorem dX10_sheet_81 : decode cX10_sheet 81 = .ok (.getfield 20, 3) := by decide +kernel
theorem dX10_sheet_84 : decode cX10_sheet 84 = .ok (.bipush 24, 2) := by decide +kernel
theorem dX10_sheet_86 : decode cX10_sheet 86 = .ok (.iload 6, 2) := by decide +kernel
theorem dX10_sheet_88 : decode cX10_sheet 88 = .ok (.iadd, 1) := by decide +kernel
theorem dX10_sheet_89 : decode cX10_sheet 89 = .ok (.iload_n 1, 1) := by decide +kernel
theorem dX10_sheet_90 : decode cX10_sheet 90 = .ok (.iconst 3, 1) := by decide +kernel
theorem dX10_sheet_91 : decode cX10_sheet 91 = .ok (.if_icmp .eq 9, 3) := by decide +kernel
theorem dX10_sheet_94 : decode cX10_sheet 94 = .ok (.iload 6, 2) := by decide +kernel
theorem dX10_sheet_96 : decode cX10_sheet 96 = .ok (.iload_n 2, 1) := by decide +kernel
theorem dX10_sheet_97 : decode cX10_sheet 97 = .ok (.if_icmp .lt 7, 3) := by decide +kernel
theorem dX10_sheet_100 : decode cX10_sheet 100 = .ok (.iconst 0, 1) := by decide +kernel
theorem dX10_sheet_101 : decode cX10_sheet 101 = .ok (.goto 14, 3) := by decide +kernel
theorem dX10_sheet_104 : decode cX10_sheet 104 = .ok (.iconst 0, 1) := by decide +kernel
theorem dX10_sheet_105 : decode cX10_sheet 105 = .ok (.bipush 9, 2) := by decide +kernel
theorem dX10_sheet_107 : decode cX10_sheet 107 = .ok (.iload 7, 2) := by decide +kernel
theorem dX10_sheet_109 : decode cX10_sheet 109 = .ok (.invokestatic 154, 3) := by decide +kernel
theorem dX10_sheet_112 : decode cX10_sheet 112 = .ok (.invokestatic 272, 3) := by decide +kernel
theorem dX10_sheet_115 : decode cX10_sheet 115 = .ok (.iastore, 1) := by decide +kernel
theorem dX10_sheet_116 : decode cX10_sheet 116 = .ok (.iload 5, 2) := by decide +kernel
theorem dX10_sheet_118 : decode cX10_sheet 118 = .ok (.iload 4, 2) := by decide +kernel
theorem dX10_sheet_120 : decode cX10_sheet 120 = .ok (.iadd, 1) := by decide +kernel
theorem dX10_sheet_121 : decode cX10_sheet 121 = .ok (.istore 5, 2) := by decide +kernel
theorem dX10_sheet_123 : decode cX10_sheet 123 = .ok (.iinc 6 1, 3) := by decide +kernel
theorem dX10_sheet_126 : decode cX10_sheet 126 = .ok (.goto (-83), 3) := by decide +kernel
theorem dX10_sheet_129 : decode cX10_sheet 129 = .ok (.iload_n 1, 1) := by decide +kernel
theorem dX10_sheet_130 : decode cX10_sheet 130 = .ok (.iconst 3, 1) := by decide +kernel
theorem dX10_sheet_131 : decode cX10_sheet 131 = .ok (.if_icmp .ne 8, 3) := by decide +kernel
theorem dX10_sheet_134 : decode cX10_sheet 134 = .ok (.bipush (-3), 2) := by decide +kernel
theorem dX10_sheet_136 : decode cX10_sheet 136 = .ok (.goto 12, 3) := by decide +kernel
theorem dX10_sheet_139 : decode cX10_sheet 139 = .ok (.aload_n 0, 1) := by decide +kernel
theorem dX10_sheet_140 : decode cX10_sheet 140 = .ok (.getfield 20, 3) := by decide +kernel
theorem dX10_sheet_143 : decode cX10_sheet 143 = .ok (.bipush 24, 2) := by decide +kernel
theorem dX10_sheet_145 : decode cX10_sheet 145 = .ok (.invokestatic 305, 3) := by decide +kernel
theorem dX10_sheet_148 : decode cX10_sheet 148 = .ok (.ireturn, 1) := by decide +kernel
theorem dX10_putsBy_0 : decode cX10_putsBy 0 = .ok (.iconst 0, 1) := by decide +kernel
theorem dX10_putsBy_1 : decode cX10_putsBy 1 = .ok (.istore_n 1, 1) := by decide +kernel
theorem dX10_putsBy_2 : decode cX10_putsBy 2 = .ok (.iload_n 1, 1) := by decide +kernel
theorem dX10_putsBy_3 : decode cX10_putsBy 3 = .ok (.bipush 51, 2) := by decide +kernel
theorem dX10_putsBy_5 : decode cX10_putsBy 5 = .ok (.if_icmp .ge 29, 3) := by decide +kernel
theorem dX10_putsBy_8 : decode cX10_putsBy 8 = .ok (.aload_n 0, 1) := by decide +kernel
theorem dX10_putsBy_9 : decode cX10_putsBy 9 = .ok (.getfield 48, 3) := by decide +kernel
theorem dX10_putsBy_12 : decode cX10_putsBy 12 = .ok (.bipush 51, 2) := by decide +kernel
theorem dX10_putsBy_14 : decode cX10_putsBy 14 = .ok (.aload_n 0, 1) := by decide +kernel
theorem dX10_putsBy_15 : decode cX10_putsBy 15 = .ok (.getfield 191, 3) := by decide +kernel
theorem dX10_putsBy_18 : decode cX10_putsBy 18 = .ok (.imul, 1) := by decide +kernel
theorem dX10_putsBy_19 : decode cX10_putsBy 19 = .ok (.iload_n 1, 1) := by decide +kernel
theorem dX10_putsBy_20 : decode cX10_putsBy 20 = .ok (.iadd, 1) := by decide +kernel
theorem dX10_putsBy_21 : decode cX10_putsBy 21 = .ok (.aload_n 0, 1) := by decide +kernel
theorem dX10_putsBy_22 : decode cX10_putsBy 22 = .ok (.getfield 20, 3) := by decide +kernel
theorem dX10_putsBy_25 : decode cX10_putsBy 25 = .ok (.iload_n 1, 1) := by decide +kernel
theorem dX10_putsBy_26 : decode cX10_putsBy 26 = .ok (.iaload, 1) := by decide +kernel
theorem dX10_putsBy_27 : decode cX10_putsBy 27 = .ok (.iastore, 1) := by decide +kernel
theorem dX10_putsBy_28 : decode cX10_putsBy 28 = .ok (.iinc 1 1, 3) := by decide +kernel
theorem dX10_putsBy_31 : decode cX10_putsBy 31 = .ok (.goto (-29), 3) := by decide +kernel
theorem dX10_putsBy_34 : decode cX10_putsBy 34 = .ok (.return_, 1) := by decide +kernel
theorem dX10_adds_0 : decode cX10_adds 0 = .ok (.aload_n 0, 1) := by decide +kernel
theorem dX10_adds_1 : decode cX10_adds 1 = .ok (.dup, 1) := by decide +kernel
theorem dX10_adds_2 : decode cX10_adds 2 = .ok (.getfield 191, 3) := by decide +kernel
theorem dX10_adds_5 : decode cX10_adds 5 = .ok (.iconst 1, 1) := by decide +kernel
theorem dX10_adds_6 : decode cX10_adds 6 = .ok (.iadd, 1) := by decide +kernel
theorem dX10_adds_7 : decode cX10_adds 7 = .ok (.putfield 191, 3) := by decide +kernel
theorem dX10_adds_10 : decode cX10_adds 10 = .ok (.aload_n 0, 1) := by decide +kernel
theorem dX10_adds_11 : decode cX10_adds 11 = .ok (.getfield 191, 3) := by decide +kernel
theorem dX10_adds_14 : decode cX10_adds 14 = .ok (.bipush 15, 2) := by decide +kernel
theorem dX10_adds_16 : decode cX10_adds 16 = .ok (.if_icmp .le 43, 3) := by decide +kernel
theorem dX10_adds_19 : decode cX10_adds 19 = .ok (.iconst 0, 1) := by decide +kernel
theorem dX10_adds_20 : decode cX10_adds 20 = .ok (.istore_n 2, 1) := by decide +kernel
theorem dX10_adds_21 : decode cX10_adds 21 = .ok (.iload_n 2, 1) := by decide +kernel
theorem dX10_adds_22 : decode cX10_adds 22 = .ok (.sipush 765, 3) := by decide +kernel
theorem dX10_adds_25 : decode cX10_adds 25 = .ok (.if_icmp .ge 24, 3) := by decide +kernel
theorem dX10_adds_28 : decode cX10_adds 28 = .ok (.aload_n 0, 1) := by decide +kernel
theorem dX10_adds_29 : decode cX10_adds 29 = .ok (.getfield 48, 3) := by decide +kernel
theorem dX10_adds_32 : decode cX10_adds 32 = .ok (.iload_n 2, 1) := by decide +kernel
theorem dX10_adds_33 : decode cX10_adds 33 = .ok (.aload_n 0, 1) := by decide +kernel
theorem dX10_adds_34 : decode cX10_adds 34 = .ok (.getfield 48, 3) := by decide +kernel
theorem dX10_adds_37 : decode cX10_adds 37 = .ok (.iload_n 2, 1) := by decide +kernel
theorem dX10_adds_38 : decode cX10_adds 38 = .ok (.bipush 51, 2) := by decide +kernel
theorem dX10_adds_40 : decode cX10_adds 40 = .ok (.iadd, 1) := by decide +kernel
theorem dX10_adds_41 : decode cX10_adds 41 = .ok (.iaload, 1) := by decide +kernel
theorem dX10_adds_42 : decode cX10_adds 42 = .ok (.iastore, 1) := by decide +kernel
theorem dX10_adds_43 : decode cX10_adds 43 = .ok (.iinc 2 1, 3) := by decide +kernel
theorem dX10_adds_46 : decode cX10_adds 46 = .ok (.goto (-25), 3) := by decide +kernel
theorem dX10_adds_49 : decode cX10_adds 49 = .ok (.aload_n 0, 1) := by decide +kernel
theorem dX10_adds_50 : decode cX10_adds 50 = .ok (.dup, 1) := by decide +kernel
theorem dX10_adds_51 : decode cX10_adds 51 = .ok (.getfield 191, 3) := by decide +kernel
theorem dX10_adds_54 : decode cX10_adds 54 = .ok (.iconst 1, 1) := by decide +kernel
theorem dX10_adds_55 : decode cX10_adds 55 = .ok (.isub, 1) := by decide +kernel
theorem dX10_adds_56 : decode cX10_adds 56 = .ok (.putfield 191, 3) := by decide +kernel
theorem dX10_adds_59 : decode cX10_adds 59 = .ok (.iload_n 1, 1) := by decide +kernel
theorem dX10_adds_60 : decode cX10_adds 60 = .ok (.ireturn, 1) := by decide +kernel
theorem dX10_counted_0 : decode cX10_counted 0 = .ok (.iload_n 1, 1) := by decide +kernel
theorem dX10_counted_1 : decode cX10_counted 1 = .ok (.ifCond .ge 7, 3) := by decide +kernel
theorem dX10_counted_4 : decode cX10_counted 4 = .ok (.iload_n 1, 1) := by decide +kernel
theorem dX10_counted_5 : decode cX10_counted 5 = .ok (.goto 8, 3) := by decide +kernel
theorem dX10_counted_8 : decode cX10_counted 8 = .ok (.aload_n 0, 1) := by decide +kernel
theorem dX10_counted_9 : decode cX10_counted 9 = .ok (.iload_n 1, 1) := by decide +kernel
theorem dX10_counted_10 : decode cX10_counted 10 = .ok (.invokevirtual 308, 3) := by decide +kernel
theorem dX10_counted_13 : decode cX10_counted 13 = .ok (.ireturn, 1) := by decide +kernel
theorem dX10_undo_0 : decode cX10_undo 0 = .ok (.aload_n 0, 1) := by decide +kernel
theorem dX10_undo_1 : decode cX10_undo 1 = .ok (.iconst 0, 1) := by decide +kernel
theorem dX10_undo_2 : decode cX10_undo 2 = .ok (.putfield 103, 3) := by decide +kernel
theorem dX10_undo_5 : decode cX10_undo 5 = .ok (.aload_n 0, 1) := by decide +kernel
theorem dX10_undo_6 : decode cX10_undo 6 = .ok (.getfield 191, 3) := by decide +kernel
theorem dX10_undo_9 : decode cX10_undo 9 = .ok (.ifCond .ne 5, 3) := by decide +kernel
theorem dX10_undo_12 : decode cX10_undo 12 = .ok (.iconst (-1), 1) := by decide +kernel
theorem dX10_undo_13 : decode cX10_undo 13 = .ok (.ireturn, 1) := by decide +kernel
theorem dX10_undo_14 : decode cX10_undo 14 = .ok (.aload_n 0, 1) := by decide +kernel
theorem dX10_undo_15 : decode cX10_undo 15 = .ok (.dup, 1) := by decide +kernel
theorem dX10_undo_16 : decode cX10_undo 16 = .ok (.getfield 191, 3) := by decide +kernel
theorem dX10_undo_19 : decode cX10_undo 19 = .ok (.iconst 1, 1) := by decide +kernel
theorem dX10_undo_20 : decode cX10_undo 20 = .ok (.isub, 1) := by decide +kernel
theorem dX10_undo_21 : decode cX10_undo 21 = .ok (.putfield 191, 3) := by decide +kernel
theorem dX10_undo_24 : decode cX10_undo 24 = .ok (.iconst 0, 1) := by decide +kernel
theorem dX10_undo_25 : decode cX10_undo 25 = .ok (.istore_n 1, 1) := by decide +kernel
theorem dX10_undo_26 : decode cX10_undo 26 = .ok (.iload_n 1, 1) := by decide +kernel
theorem dX10_undo_27 : decode cX10_undo 27 = .ok (.bipush 51, 2) := by decide +kernel
theorem dX10_undo_29 : decode cX10_undo 29 = .ok (.if_icmp .ge 29, 3) := by decide +kernel
theorem dX10_undo_32 : decode cX10_undo 32 = .ok (.aload_n 0, 1) := by decide +kernel
theorem dX10_undo_33 : decode cX10_undo 33 = .ok (.getfield 20, 3) := by decide +kernel
theorem dX10_undo_36 : decode cX10_undo 36 = .ok (.iload_n 1, 1) := by decide +kernel
theorem dX10_undo_37 : decode cX10_undo 37 = .ok (.aload_n 0, 1) := by decide +kernel
theorem dX10_undo_38 : decode cX10_undo 38 = .ok (.getfield 48, 3) := by decide +kernel
theorem dX10_undo_41 : decode cX10_undo 41 = .ok (.bipush 51, 2) := by decide +kernel
theorem dX10_undo_43 : decode cX10_undo 43 = .ok (.aload_n 0, 1) := by decide +kernel
theorem dX10_undo_44 : decode cX10_undo 44 = .ok (.getfield 191, 3) := by decide +kernel
theorem dX10_undo_47 : decode cX10_undo 47 = .ok (.imul, 1) := by decide +kernel
theorem dX10_undo_48 : decode cX10_undo 48 = .ok (.iload_n 1, 1) := by decide +kernel
theorem dX10_undo_49 : decode cX10_undo 49 = .ok (.iadd, 1) := by decide +kernel
theorem dX10_undo_50 : decode cX10_undo 50 = .ok (.iaload, 1) := by decide +kernel
theorem dX10_undo_51 : decode cX10_undo 51 = .ok (.iastore, 1) := by decide +kernel
theorem dX10_undo_52 : decode cX10_undo 52 = .ok (.iinc 1 1, 3) := by decide +kernel
theorem dX10_undo_55 : decode cX10_undo 55 = .ok (.goto (-29), 3) := by decide +kernel
theorem dX10_undo_58 : decode cX10_undo 58 = .ok (.aload_n 0, 1) := by decide +kernel
theorem dX10_undo_59 : decode cX10_undo 59 = .ok (.getfield 191, 3) := by decide +kernel
theorem dX10_undo_62 : decode cX10_undo 62 = .ok (.ireturn, 1) := by decide +kernel
theorem dX10_yearGoes_0 : decode cX10_yearGoes 0 = .ok (.aload_n 1, 1) := by decide +kernel
theorem dX10_yearGoes_1 : decode cX10_yearGoes 1 = .ok (.invokestatic 311, 3) := by decide +kernel
theorem dX10_yearGoes_4 : decode cX10_yearGoes 4 = .ok (.istore_n 2, 1) := by decide +kernel
theorem dX10_yearGoes_5 : decode cX10_yearGoes 5 = .ok (.iconst 0, 1) := by decide +kernel
theorem dX10_yearGoes_6 : decode cX10_yearGoes 6 = .ok (.istore_n 3, 1) := by decide +kernel
theorem dX10_yearGoes_7 : decode cX10_yearGoes 7 = .ok (.iload_n 3, 1) := by decide +kernel
theorem dX10_yearGoes_8 : decode cX10_yearGoes 8 = .ok (.aload_n 1, 1) := by decide +kernel
theorem dX10_yearGoes_9 : decode cX10_yearGoes 9 = .ok (.bipush 48, 2) := by decide +kernel
theorem dX10_yearGoes_11 : decode cX10_yearGoes 11 = .ok (.iaload, 1) := by decide +kernel
theorem dX10_yearGoes_12 : decode cX10_yearGoes 12 = .ok (.if_icmp .ge 34, 3) := by decide +kernel
theorem dX10_yearGoes_15 : decode cX10_yearGoes 15 = .ok (.aload_n 0, 1) := by decide +kernel
theorem dX10_yearGoes_16 : decode cX10_yearGoes 16 = .ok (.getfield 51, 3) := by decide +kernel
theorem dX10_yearGoes_19 : decode cX10_yearGoes 19 = .ok (.iload_n 3, 1) := by decide +kernel
theorem dX10_yearGoes_20 : decode cX10_yearGoes 20 = .ok (.iload_n 2, 1) := by decide +kernel
theorem dX10_yearGoes_21 : decode cX10_yearGoes 21 = .ok (.i2l, 1) := by decide +kernel
theorem dX10_yearGoes_22 : decode cX10_yearGoes 22 = .ok (.iload_n 3, 1) := by decide +kernel
theorem dX10_yearGoes_23 : decode cX10_yearGoes 23 = .ok (.invokestatic 137, 3) := by decide +kernel
theorem dX10_yearGoes_26 : decode cX10_yearGoes 26 = .ok (.ifCond .eq 12, 3) := by decide +kernel
theorem dX10_yearGoes_29 : decode cX10_yearGoes 29 = .ok (.aload_n 0, 1) := by decide +kernel
theorem dX10_yearGoes_30 : decode cX10_yearGoes 30 = .ok (.aload_n 1, 1) := by decide +kernel
theorem dX10_yearGoes_31 : decode cX10_yearGoes 31 = .ok (.iload_n 3, 1) := by decide +kernel
theorem dX10_yearGoes_32 : decode cX10_yearGoes 32 = .ok (.invokevirtual 275, 3) := by decide +kernel
theorem dX10_yearGoes_35 : decode cX10_yearGoes 35 = .ok (.goto 4, 3) := by decide +kernel
theorem dX10_yearGoes_38 : decode cX10_yearGoes 38 = .ok (.iconst 0, 1) := by decide +kernel
theorem dX10_yearGoes_39 : decode cX10_yearGoes 39 = .ok (.iastore, 1) := by decide +kernel
theorem dX10_yearGoes_40 : decode cX10_yearGoes 40 = .ok (.iinc 3 1, 3) := by decide +kernel
theorem dX10_yearGoes_43 : decode cX10_yearGoes 43 = .ok (.goto (-36), 3) := by decide +kernel
theorem dX10_yearGoes_46 : decode cX10_yearGoes 46 = .ok (.iconst 0, 1) := by decide +kernel
theorem dX10_yearGoes_47 : decode cX10_yearGoes 47 = .ok (.istore_n 3, 1) := by decide +kernel
theorem dX10_yearGoes_48 : decode cX10_yearGoes 48 = .ok (.iload_n 3, 1) := by decide +kernel
theorem dX10_yearGoes_49 : decode cX10_yearGoes 49 = .ok (.aload_n 1, 1) := by decide +kernel
theorem dX10_yearGoes_50 : decode cX10_yearGoes 50 = .ok (.bipush 48, 2) := by decide +kernel
theorem dX10_yearGoes_52 : decode cX10_yearGoes 52 = .ok (.iaload, 1) := by decide +kernel
theorem dX10_yearGoes_53 : decode cX10_yearGoes 53 = .ok (.if_icmp .ge 200, 3) := by decide +kernel
theorem dX10_yearGoes_56 : decode cX10_yearGoes 56 = .ok (.iload_n 2, 1) := by decide +kernel
theorem dX10_yearGoes_57 : decode cX10_yearGoes 57 = .ok (.i2l, 1) := by decide +kernel
theorem dX10_yearGoes_58 : decode cX10_yearGoes 58 = .ok (.iload_n 3, 1) := by decide +kernel
theorem dX10_yearGoes_59 : decode cX10_yearGoes 59 = .ok (.invokestatic 137, 3) := by decide +kernel
theorem dX10_yearGoes_62 : decode cX10_yearGoes 62 = .ok (.ifCond .eq 185, 3) := by decide +kernel
theorem dX10_yearGoes_65 : decode cX10_yearGoes 65 = .ok (.aload_n 1, 1) := by decide +kernel
theorem dX10_yearGoes_66 : decode cX10_yearGoes 66 = .ok (.bipush 24, 2) := by decide +kernel
theorem dX10_yearGoes_68 : decode cX10_yearGoes 68 = .ok (.iload_n 3, 1) := by decide +kernel
theorem dX10_yearGoes_69 : decode cX10_yearGoes 69 = .ok (.iadd, 1) := by decide +kernel
theorem dX10_yearGoes_70 : decode cX10_yearGoes 70 = .ok (.iconst 0, 1) := by decide +kernel
theorem dX10_yearGoes_71 : decode cX10_yearGoes 71 = .ok (.aload_n 1, 1) := by decide +kernel
theorem dX10_yearGoes_72 : decode cX10_yearGoes 72 = .ok (.bipush 24, 2) := by decide +kernel
theorem dX10_yearGoes_74 : decode cX10_yearGoes 74 = .ok (.iload_n 3, 1) := by decide +kernel
theorem dX10_yearGoes_75 : decode cX10_yearGoes 75 = .ok (.iadd, 1) := by decide +kernel
theorem dX10_yearGoes_76 : decode cX10_yearGoes 76 = .ok (.iaload, 1) := by decide +kernel
theorem dX10_yearGoes_77 : decode cX10_yearGoes 77 = .ok (.aload_n 0, 1) := by decide +kernel
theorem dX10_yearGoes_78 : decode cX10_yearGoes 78 = .ok (.getfield 51, 3) := by decide +kernel
theorem dX10_yearGoes_81 : decode cX10_yearGoes 81 = .ok (.iload_n 3, 1) := by decide +kernel
theorem dX10_yearGoes_82 : decode cX10_yearGoes 82 = .ok (.iaload, 1) := by decide +kernel
theorem dX10_yearGoes_83 : decode cX10_yearGoes 83 = .ok (.isub, 1) := by decide +kernel
theorem dX10_yearGoes_84 : decode cX10_yearGoes 84 = .ok (.invokestatic 272, 3) := by decide +kernel
theorem dX10_yearGoes_87 : decode cX10_yearGoes 87 = .ok (.iastore, 1) := by decide +kernel
theorem dX10_yearGoes_88 : decode cX10_yearGoes 88 = .ok (.aload_n 0, 1) := by decide +kernel
theorem dX10_yearGoes_89 : decode cX10_yearGoes 89 = .ok (.dup, 1) := by decide +kernel
theorem dX10_yearGoes_90 : decode cX10_yearGoes 90 = .ok (.getfield 315, 3) := by decide +kernel
theorem dX10_yearGoes_93 : decode cX10_yearGoes 93 = .ok (.aload_n 1, 1) := by decide +kernel
theorem dX10_yearGoes_94 : decode cX10_yearGoes 94 = .ok (.bipush 24, 2) := by decide +kernel
theorem dX10_yearGoes_96 : decode cX10_yearGoes 96 = .ok (.iload_n 3, 1) := by decide +kernel
theorem dX10_yearGoes_97 : decode cX10_yearGoes 97 = .ok (.iadd, 1) := by decide +kernel
theorem dX10_yearGoes_98 : decode cX10_yearGoes 98 = .ok (.iaload, 1) := by decide +kernel
theorem dX10_yearGoes_99 : decode cX10_yearGoes 99 = .ok (.ifCond .ne 7, 3) := by decide +kernel
theorem dX10_yearGoes_102 : decode cX10_yearGoes 102 = .ok (.iconst 1, 1) := by decide +kernel
theorem dX10_yearGoes_103 : decode cX10_yearGoes 103 = .ok (.goto 4, 3) := by decide +kernel
theorem dX10_yearGoes_106 : decode cX10_yearGoes 106 = .ok (.iconst 0, 1) := by decide +kernel
theorem dX10_yearGoes_107 : decode cX10_yearGoes 107 = .ok (.invokestatic 163, 3) := by decide +kernel
theorem dX10_yearGoes_110 : decode cX10_yearGoes 110 = .ok (.iadd, 1) := by decide +kernel
theorem dX10_yearGoes_111 : decode cX10_yearGoes 111 = .ok (.putfield 315, 3) := by decide +kernel
theorem dX10_yearGoes_114 : decode cX10_yearGoes 114 = .ok (.aload_n 1, 1) := by decide +kernel
theorem dX10_yearGoes_115 : decode cX10_yearGoes 115 = .ok (.bipush 50, 2) := by decide +kernel
theorem dX10_yearGoes_117 : decode cX10_yearGoes 117 = .ok (.sipush 999, 3) := by decide +kernel
theorem dX10_yearGoes_120 : decode cX10_yearGoes 120 = .ok (.aload_n 1, 1) := by decide +kernel
theorem dX10_yearGoes_121 : decode cX10_yearGoes 121 = .ok (.bipush 50, 2) := by decide +kernel
theorem dX10_yearGoes_123 : decode cX10_yearGoes 123 = .ok (.iaload, 1) := by decide +kernel
theorem dX10_yearGoes_124 : decode cX10_yearGoes 124 = .ok (.aload_n 1, 1) := by decide +kernel
theorem dX10_yearGoes_125 : decode cX10_yearGoes 125 = .ok (.bipush 24, 2) := by decide +kernel
theorem dX10_yearGoes_127 : decode cX10_yearGoes 127 = .ok (.iload_n 3, 1) := by decide +kernel
theorem dX10_yearGoes_128 : decode cX10_yearGoes 128 = .ok (.iadd, 1) := by decide +kernel
theorem dX10_yearGoes_129 : decode cX10_yearGoes 129 = .ok (.iaload, 1) := by decide +kernel
theorem dX10_yearGoes_130 : decode cX10_yearGoes 130 = .ok (.ifCond .ne 7, 3) := by decide +kernel
theorem dX10_yearGoes_133 : decode cX10_yearGoes 133 = .ok (.iconst 1, 1) := by decide +kernel
theorem dX10_yearGoes_134 : decode cX10_yearGoes 134 = .ok (.goto 4, 3) := by decide +kernel
theorem dX10_yearGoes_137 : decode cX10_yearGoes 137 = .ok (.iconst 0, 1) := by decide +kernel
theorem dX10_yearGoes_138 : decode cX10_yearGoes 138 = .ok (.invokestatic 163, 3) := by decide +kernel
theorem dX10_yearGoes_141 : decode cX10_yearGoes 141 = .ok (.iadd, 1) := by decide +kernel
theorem dX10_yearGoes_142 : decode cX10_yearGoes 142 = .ok (.invokestatic 154, 3) := by decide +kernel
theorem dX10_yearGoes_145 : decode cX10_yearGoes 145 = .ok (.iastore, 1) := by decide +kernel
theorem dX10_yearGoes_146 : decode cX10_yearGoes 146 = .ok (.aload_n 1, 1) := by decide +kernel
theorem dX10_yearGoes_147 : decode cX10_yearGoes 147 = .ok (.bipush 40, 2) := by decide +kernel
theorem dX10_yearGoes_149 : decode cX10_yearGoes 149 = .ok (.iload_n 3, 1) := by decide +kernel
theorem dX10_yearGoes_150 : decode cX10_yearGoes 150 = .ok (.iadd, 1) := by decide +kernel
theorem dX10_yearGoes_151 : decode cX10_yearGoes 151 = .ok (.bipush 99, 2) := by decide +kernel
theorem dX10_yearGoes_153 : decode cX10_yearGoes 153 = .ok (.aload_n 1, 1) := by decide +kernel
theorem dX10_yearGoes_154 : decode cX10_yearGoes 154 = .ok (.bipush 40, 2) := by decide +kernel
theorem dX10_yearGoes_156 : decode cX10_yearGoes 156 = .ok (.iload_n 3, 1) := by decide +kernel
theorem dX10_yearGoes_157 : decode cX10_yearGoes 157 = .ok (.iadd, 1) := by decide +kernel
theorem dX10_yearGoes_158 : decode cX10_yearGoes 158 = .ok (.iaload, 1) := by decide +kernel
theorem dX10_yearGoes_159 : decode cX10_yearGoes 159 = .ok (.iconst 1, 1) := by decide +kernel
theorem dX10_yearGoes_160 : decode cX10_yearGoes 160 = .ok (.iadd, 1) := by decide +kernel
theorem dX10_yearGoes_161 : decode cX10_yearGoes 161 = .ok (.invokestatic 154, 3) := by decide +kernel
theorem dX10_yearGoes_164 : decode cX10_yearGoes 164 = .ok (.iastore, 1) := by decide +kernel
theorem dX10_yearGoes_165 : decode cX10_yearGoes 165 = .ok (.aload_n 1, 1) := by decide +kernel
theorem dX10_yearGoes_166 : decode cX10_yearGoes 166 = .ok (.bipush 32, 2) := by decide +kernel
theorem dX10_yearGoes_168 : decode cX10_yearGoes 168 = .ok (.iload_n 3, 1) := by decide +kernel
theorem dX10_yearGoes_169 : decode cX10_yearGoes 169 = .ok (.iadd, 1) := by decide +kernel
theorem dX10_yearGoes_170 : decode cX10_yearGoes 170 = .ok (.iaload, 1) := by decide +kernel
theorem dX10_yearGoes_171 : decode cX10_yearGoes 171 = .ok (.ifCond .le 76, 3) := by decide +kernel
theorem dX10_yearGoes_174 : decode cX10_yearGoes 174 = .ok (.aload_n 1, 1) := by decide +kernel
theorem dX10_yearGoes_175 : decode cX10_yearGoes 175 = .ok (.bipush 40, 2) := by decide +kernel
theorem dX10_yearGoes_177 : decode cX10_yearGoes 177 = .ok (.iload_n 3, 1) := by decide +kernel
theorem dX10_yearGoes_178 : decode cX10_yearGoes 178 = .ok (.iadd, 1) := by decide +kernel
theorem dX10_yearGoes_179 : decode cX10_yearGoes 179 = .ok (.iaload, 1) := by decide +kernel
theorem dX10_yearGoes_180 : decode cX10_yearGoes 180 = .ok (.aload_n 1, 1) := by decide +kernel
theorem dX10_yearGoes_181 : decode cX10_yearGoes 181 = .ok (.bipush 32, 2) := by decide +kernel
theorem dX10_yearGoes_183 : decode cX10_yearGoes 183 = .ok (.iload_n 3, 1) := by decide +kernel
theorem dX10_yearGoes_184 : decode cX10_yearGoes 184 = .ok (.iadd, 1) := by decide +kernel
theorem dX10_yearGoes_185 : decode cX10_yearGoes 185 = .ok (.iaload, 1) := by decide +kernel
theorem dX10_yearGoes_186 : decode cX10_yearGoes 186 = .ok (.irem, 1) := by decide +kernel
theorem dX10_yearGoes_187 : decode cX10_yearGoes 187 = .ok (.ifCond .ne 60, 3) := by decide +kernel
theorem dX10_yearGoes_190 : decode cX10_yearGoes 190 = .ok (.aload_n 1, 1) := by decide +kernel
theorem dX10_yearGoes_191 : decode cX10_yearGoes 191 = .ok (.iload_n 3, 1) := by decide +kernel
theorem dX10_yearGoes_192 : decode cX10_yearGoes 192 = .ok (.iaload, 1) := by decide +kernel
theorem dX10_yearGoes_193 : decode cX10_yearGoes 193 = .ok (.aload_n 0, 1) := by decide +kernel
theorem dX10_yearGoes_194 : decode cX10_yearGoes 194 = .ok (.getfield 17, 3) := by decide +kernel
theorem dX10_yearGoes_197 : decode cX10_yearGoes 197 = .ok (.irem, 1) := by decide +kernel
theorem dX10_yearGoes_198 : decode cX10_yearGoes 198 = .ok (.aload_n 1, 1) := by decide +kernel
theorem dX10_yearGoes_199 : decode cX10_yearGoes 199 = .ok (.bipush 16, 2) := by decide +kernel
theorem dX10_yearGoes_201 : decode cX10_yearGoes 201 = .ok (.iload_n 3, 1) := by decide +kernel
theorem dX10_yearGoes_202 : decode cX10_yearGoes 202 = .ok (.iadd, 1) := by decide +kernel
theorem dX10_yearGoes_203 : decode cX10_yearGoes 203 = .ok (.iaload, 1) := by decide +kernel
theorem dX10_yearGoes_204 : decode cX10_yearGoes 204 = .ok (.iadd, 1) := by decide +kernel
theorem dX10_yearGoes_205 : decode cX10_yearGoes 205 = .ok (.aload_n 0, 1) := by decide +kernel
theorem dX10_yearGoes_206 : decode cX10_yearGoes 206 = .ok (.getfield 17, 3) := by decide +kernel
theorem dX10_yearGoes_209 : decode cX10_yearGoes 209 = .ok (.if_icmp .ge 7, 3) := by decide +kernel
theorem dX10_yearGoes_212 : decode cX10_yearGoes 212 = .ok (.iconst 1, 1) := by decide +kernel
theorem dX10_yearGoes_213 : decode cX10_yearGoes 213 = .ok (.goto 4, 3) := by decide +kernel
theorem dX10_yearGoes_216 : decode cX10_yearGoes 216 = .ok (.iconst 0, 1) := by decide +kernel
theorem dX10_yearGoes_217 : decode cX10_yearGoes 217 = .ok (.istore 4, 2) := by decide +kernel
theorem dX10_yearGoes_219 : decode cX10_yearGoes 219 = .ok (.aload_n 1, 1) := by decide +kernel
theorem dX10_yearGoes_220 : decode cX10_yearGoes 220 = .ok (.iload_n 3, 1) := by decide +kernel
theorem dX10_yearGoes_221 : decode cX10_yearGoes 221 = .ok (.iload 4, 2) := by decide +kernel
theorem dX10_yearGoes_223 : decode cX10_yearGoes 223 = .ok (.ifCond .eq 11, 3) := by decide +kernel
theorem dX10_yearGoes_226 : decode cX10_yearGoes 226 = .ok (.aload_n 1, 1) := by decide +kernel
theorem dX10_yearGoes_227 : decode cX10_yearGoes 227 = .ok (.iload_n 3, 1) := by decide +kernel
theorem dX10_yearGoes_228 : decode cX10_yearGoes 228 = .ok (.iaload, 1) := by decide +kernel
theorem dX10_yearGoes_229 : decode cX10_yearGoes 229 = .ok (.iconst 1, 1) := by decide +kernel
theorem dX10_yearGoes_230 : decode cX10_yearGoes 230 = .ok (.iadd, 1) := by decide +kernel
theorem dX10_yearGoes_231 : decode cX10_yearGoes 231 = .ok (.goto 15, 3) := by decide +kernel
theorem dX10_yearGoes_234 : decode cX10_yearGoes 234 = .ok (.aload_n 1, 1) := by decide +kernel
theorem dX10_yearGoes_235 : decode cX10_yearGoes 235 = .ok (.iload_n 3, 1) := by decide +kernel
theorem dX10_yearGoes_236 : decode cX10_yearGoes 236 = .ok (.iaload, 1) := by decide +kernel
theorem dX10_yearGoes_237 : decode cX10_yearGoes 237 = .ok (.aload_n 1, 1) := by decide +kernel
theorem dX10_yearGoes_238 : decode cX10_yearGoes 238 = .ok (.iload_n 3, 1) := by decide +kernel
theorem dX10_yearGoes_239 : decode cX10_yearGoes 239 = .ok (.iaload, 1) := by decide +kernel
theorem dX10_yearGoes_240 : decode cX10_yearGoes 240 = .ok (.aload_n 0, 1) := by decide +kernel
theorem dX10_yearGoes_241 : decode cX10_yearGoes 241 = .ok (.getfield 17, 3) := by decide +kernel
theorem dX10_yearGoes_244 : decode cX10_yearGoes 244 = .ok (.irem, 1) := by decide +kernel
theorem dX10_yearGoes_245 : decode cX10_yearGoes 245 = .ok (.isub, 1) := by decide +kernel
theorem dX10_yearGoes_246 : decode cX10_yearGoes 246 = .ok (.iastore, 1) := by decide +kernel
theorem dX10_yearGoes_247 : decode cX10_yearGoes 247 = .ok (.iinc 3 1, 3) := by decide +kernel
theorem dX10_yearGoes_250 : decode cX10_yearGoes 250 = .ok (.goto (-202), 3) := by decide +kernel
theorem dX10_yearGoes_253 : decode cX10_yearGoes 253 = .ok (.aload_n 1, 1) := by decide +kernel
theorem dX10_yearGoes_254 : decode cX10_yearGoes 254 = .ok (.bipush 49, 2) := by decide +kernel
theorem dX10_yearGoes_256 : decode cX10_yearGoes 256 = .ok (.dup2, 1) := by decide +kernel
theorem dX10_yearGoes_257 : decode cX10_yearGoes 257 = .ok (.iaload, 1) := by decide +kernel
theorem dX10_yearGoes_258 : decode cX10_yearGoes 258 = .ok (.iconst 1, 1) := by decide +kernel
theorem dX10_yearGoes_259 : decode cX10_yearGoes 259 = .ok (.iadd, 1) := by decide +kernel
theorem dX10_yearGoes_260 : decode cX10_yearGoes 260 = .ok (.iastore, 1) := by decide +kernel
theorem dX10_yearGoes_261 : decode cX10_yearGoes 261 = .ok (.return_, 1) := by decide +kernel
theorem dX10_goesOn_0 : decode cX10_goesOn 0 = .ok (.aload_n 0, 1) := by decide +kernel
theorem dX10_goesOn_1 : decode cX10_goesOn 1 = .ok (.iconst 0, 1) := by decide +kernel
theorem dX10_goesOn_2 : decode cX10_goesOn 2 = .ok (.putfield 315, 3) := by decide +kernel
theorem dX10_goesOn_5 : decode cX10_goesOn 5 = .ok (.iconst 0, 1) := by decide +kernel
theorem dX10_goesOn_6 : decode cX10_goesOn 6 = .ok (.istore_n 3, 1) := by decide +kernel
theorem dX10_goesOn_7 : decode cX10_goesOn 7 = .ok (.iload_n 3, 1) := by decide +kernel
theorem dX10_goesOn_8 : decode cX10_goesOn 8 = .ok (.iload_n 2, 1) := by decide +kernel
theorem dX10_goesOn_9 : decode cX10_goesOn 9 = .ok (.if_icmp .ge 14, 3) := by decide +kernel
theorem dX10_goesOn_12 : decode cX10_goesOn 12 = .ok (.aload_n 0, 1) := by decide +kernel
theorem dX10_goesOn_13 : decode cX10_goesOn 13 = .ok (.aload_n 1, 1) := by decide +kernel
theorem dX10_goesOn_14 : decode cX10_goesOn 14 = .ok (.invokevirtual 318, 3) := by decide +kernel
theorem dX10_goesOn_17 : decode cX10_goesOn 17 = .ok (.iinc 3 1, 3) := by decide +kernel
theorem dX10_goesOn_20 : decode cX10_goesOn 20 = .ok (.goto (-13), 3) := by decide +kernel
theorem dX10_goesOn_23 : decode cX10_goesOn 23 = .ok (.return_, 1) := by decide +kernel
theorem dX10_pitches_0 : decode cX10_pitches 0 = .ok (.aload_n 0, 1) := by decide +kernel
theorem dX10_pitches_1 : decode cX10_pitches 1 = .ok (.iload_n 2, 1) := by decide +kernel
theorem dX10_pitches_2 : decode cX10_pitches 2 = .ok (.invokevirtual 289, 3) := by decide +kernel
theorem dX10_pitches_5 : decode cX10_pitches 5 = .ok (.ifCond .eq 54, 3) := by decide +kernel
theorem dX10_pitches_8 : decode cX10_pitches 8 = .ok (.iload_n 3, 1) := by decide +kernel
theorem dX10_pitches_9 : decode cX10_pitches 9 = .ok (.i2l, 1) := by decide +kernel
theorem dX10_pitches_10 : decode cX10_pitches 10 = .ok (.lconst 1, 1) := by decide +kernel
theorem dX10_pitches_11 : decode cX10_pitches 11 = .ok (.ldc2_w 303, 3) := by decide +kernel
theorem dX10_pitches_14 : decode cX10_pitches 14 = .ok (.invokestatic 117, 3) := by decide +kernel
theorem dX10_pitches_17 : decode cX10_pitches 17 = .ok (.ifCond .eq 42, 3) := by decide +kernel
theorem dX10_pitches_20 : decode cX10_pitches 20 = .ok (.iload 4, 2) := by decide +kernel
theorem dX10_pitches_22 : decode cX10_pitches 22 = .ok (.i2l, 1) := by decide +kernel
theorem dX10_pitches_23 : decode cX10_pitches 23 = .ok (.lconst 1, 1) := by decide +kernel
theorem dX10_pitches_24 : decode cX10_pitches 24 = .ok (.ldc2_w 303, 3) := by decide +kernel
theorem dX10_pitches_27 : decode cX10_pitches 27 = .ok (.invokestatic 117, 3) := by decide +kernel
theorem dX10_pitches_30 : decode cX10_pitches 30 = .ok (.ifCond .eq 29, 3) := by decide +kernel
theorem dX10_pitches_33 : decode cX10_pitches 33 = .ok (.iload 5, 2) := by decide +kernel
theorem dX10_pitches_35 : decode cX10_pitches 35 = .ok (.i2l, 1) := by decide +kernel
theorem dX10_pitches_36 : decode cX10_pitches 36 = .ok (.lconst 1, 1) := by decide +kernel
theorem dX10_pitches_37 : decode cX10_pitches 37 = .ok (.ldc2_w 322, 3) := by decide +kernel
theorem dX10_pitches_40 : decode cX10_pitches 40 = .ok (.invokestatic 117, 3) := by decide +kernel
theorem dX10_pitches_43 : decode cX10_pitches 43 = .ok (.ifCond .eq 16, 3) := by decide +kernel
theorem dX10_pitches_46 : decode cX10_pitches 46 = .ok (.iload 6, 2) := by decide +kernel
theorem dX10_pitches_48 : decode cX10_pitches 48 = .ok (.i2l, 1) := by decide +kernel
theorem dX10_pitches_49 : decode cX10_pitches 49 = .ok (.lconst 0, 1) := by decide +kernel
theorem dX10_pitches_50 : decode cX10_pitches 50 = .ok (.ldc2_w 322, 3) := by decide +kernel
theorem dX10_pitches_53 : decode cX10_pitches 53 = .ok (.invokestatic 117, 3) := by decide +kernel
theorem dX10_pitches_56 : decode cX10_pitches 56 = .ok (.ifCond .ne 5, 3) := by decide +kernel
theorem dX10_pitches_59 : decode cX10_pitches 59 = .ok (.iconst (-1), 1) := by decide +kernel
theorem dX10_pitches_60 : decode cX10_pitches 60 = .ok (.ireturn, 1) := by decide +kernel
theorem dX10_pitches_61 : decode cX10_pitches 61 = .ok (.aload_n 0, 1) := by decide +kernel
theorem dX10_pitches_62 : decode cX10_pitches 62 = .ok (.iload_n 2, 1) := by decide +kernel
theorem dX10_pitches_63 : decode cX10_pitches 63 = .ok (.iload_n 3, 1) := by decide +kernel
theorem dX10_pitches_64 : decode cX10_pitches 64 = .ok (.iload 4, 2) := by decide +kernel
theorem dX10_pitches_66 : decode cX10_pitches 66 = .ok (.invokevirtual 324, 3) := by decide +kernel
theorem dX10_pitches_69 : decode cX10_pitches 69 = .ok (.ifCond .ne 6, 3) := by decide +kernel
theorem dX10_pitches_72 : decode cX10_pitches 72 = .ok (.bipush (-2), 2) := by decide +kernel
theorem dX10_pitches_74 : decode cX10_pitches 74 = .ok (.ireturn, 1) := by decide +kernel
theorem dX10_pitches_75 : decode cX10_pitches 75 = .ok (.aload_n 1, 1) := by decide +kernel
theorem dX10_pitches_76 : decode cX10_pitches 76 = .ok (.bipush 48, 2) := by decide +kernel
theorem dX10_pitches_78 : decode cX10_pitches 78 = .ok (.iaload, 1) := by decide +kernel
theorem dX10_pitches_79 : decode cX10_pitches 79 = .ok (.bipush 8, 2) := by decide +kernel
theorem dX10_pitches_81 : decode cX10_pitches 81 = .ok (.if_icmp .ne 6, 3) := by decide +kernel
theorem dX10_pitches_84 : decode cX10_pitches 84 = .ok (.bipush (-3), 2) := by decide +kernel
theorem dX10_pitches_86 : decode cX10_pitches 86 = .ok (.ireturn, 1) := by decide +kernel
theorem dX10_pitches_87 : decode cX10_pitches 87 = .ok (.aload_n 0, 1) := by decide +kernel
theorem dX10_pitches_88 : decode cX10_pitches 88 = .ok (.iload_n 2, 1) := by decide +kernel
theorem dX10_pitches_89 : decode cX10_pitches 89 = .ok (.iload_n 3, 1) := by decide +kernel
theorem dX10_pitches_90 : decode cX10_pitches 90 = .ok (.iload 4, 2) := by decide +kernel
theorem dX10_pitches_92 : decode cX10_pitches 92 = .ok (.invokevirtual 125, 3) := by decide +kernel
theorem dX10_pitches_95 : decode cX10_pitches 95 = .ok (.aload_n 0, 1) := by decide +kernel
theorem dX10_pitches_96 : decode cX10_pitches 96 = .ok (.aload_n 1, 1) := by decide +kernel
theorem dX10_pitches_97 : decode cX10_pitches 97 = .ok (.sipush 255, 3) := by decide +kernel
theorem dX10_pitches_100 : decode cX10_pitches 100 = .ok (.invokevirtual 328, 3) := by decide +kernel
theorem dX10_pitches_103 : decode cX10_pitches 103 = .ok (.land, 1) := by decide +kernel
theorem dX10_pitches_104 : decode cX10_pitches 104 = .ok (.lconst 0, 1) := by decide +kernel
theorem dX10_pitches_105 : decode cX10_pitches 105 = .ok (.lcmp, 1) := by decide +kernel
theorem dX10_pitches_106 : decode cX10_pitches 106 = .ok (.ifCond .eq 6, 3) := by decide +kernel
theorem dX10_pitches_109 : decode cX10_pitches 109 = .ok (.bipush (-4), 2) := by decide +kernel
theorem dX10_pitches_111 : decode cX10_pitches 111 = .ok (.ireturn, 1) := by decide +kernel
theorem dX10_pitches_112 : decode cX10_pitches 112 = .ok (.aload_n 1, 1) := by decide +kernel
theorem dX10_pitches_113 : decode cX10_pitches 113 = .ok (.iload_n 2, 1) := by decide +kernel
theorem dX10_pitches_114 : decode cX10_pitches 114 = .ok (.iload_n 3, 1) := by decide +kernel
theorem dX10_pitches_115 : decode cX10_pitches 115 = .ok (.iload 4, 2) := by decide +kernel
theorem dX10_pitches_117 : decode cX10_pitches 117 = .ok (.iload 5, 2) := by decide +kernel
theorem dX10_pitches_119 : decode cX10_pitches 119 = .ok (.iload 6, 2) := by decide +kernel
theorem dX10_pitches_121 : decode cX10_pitches 121 = .ok (.invokestatic 214, 3) := by decide +kernel
theorem dX10_pitches_124 : decode cX10_pitches 124 = .ok (.aload_n 1, 1) := by decide +kernel
theorem dX10_pitches_125 : decode cX10_pitches 125 = .ok (.bipush 48, 2) := by decide +kernel
theorem dX10_pitches_127 : decode cX10_pitches 127 = .ok (.iaload, 1) := by decide +kernel
theorem dX10_pitches_128 : decode cX10_pitches 128 = .ok (.iconst 1, 1) := by decide +kernel
theorem dX10_pitches_129 : decode cX10_pitches 129 = .ok (.isub, 1) := by decide +kernel
theorem dX10_pitches_130 : decode cX10_pitches 130 = .ok (.ireturn, 1) := by decide +kernel
theorem dX10_treadsOn_0 : decode cX10_treadsOn 0 = .ok (.aload_n 0, 1) := by decide +kernel
theorem dX10_treadsOn_1 : decode cX10_treadsOn 1 = .ok (.iload_n 1, 1) := by decide +kernel
theorem dX10_treadsOn_2 : decode cX10_treadsOn 2 = .ok (.invokevirtual 278, 3) := by decide +kernel
theorem dX10_treadsOn_5 : decode cX10_treadsOn 5 = .ok (.ifCond .eq 15, 3) := by decide +kernel
theorem dX10_treadsOn_8 : decode cX10_treadsOn 8 = .ok (.iload_n 2, 1) := by decide +kernel
theorem dX10_treadsOn_9 : decode cX10_treadsOn 9 = .ok (.i2l, 1) := by decide +kernel
theorem dX10_treadsOn_10 : decode cX10_treadsOn 10 = .ok (.lconst 1, 1) := by decide +kernel
theorem dX10_treadsOn_11 : decode cX10_treadsOn 11 = .ok (.ldc2_w 322, 3) := by decide +kernel
theorem dX10_treadsOn_14 : decode cX10_treadsOn 14 = .ok (.invokestatic 117, 3) := by decide +kernel
theorem dX10_treadsOn_17 : decode cX10_treadsOn 17 = .ok (.ifCond .ne 5, 3) := by decide +kernel
theorem dX10_treadsOn_20 : decode cX10_treadsOn 20 = .ok (.iconst (-1), 1) := by decide +kernel
theorem dX10_treadsOn_21 : decode cX10_treadsOn 21 = .ok (.ireturn, 1) := by decide +kernel
theorem dX10_treadsOn_22 : decode cX10_treadsOn 22 = .ok (.aload_n 0, 1) := by decide +kernel
theorem dX10_treadsOn_23 : decode cX10_treadsOn 23 = .ok (.getfield 20, 3) := by decide +kernel
theorem dX10_treadsOn_26 : decode cX10_treadsOn 26 = .ok (.iload_n 1, 1) := by decide +kernel
theorem dX10_treadsOn_27 : decode cX10_treadsOn 27 = .ok (.invokestatic 129, 3) := by decide +kernel
theorem dX10_treadsOn_30 : decode cX10_treadsOn 30 = .ok (.ifCond .ne 6, 3) := by decide +kernel
theorem dX10_treadsOn_33 : decode cX10_treadsOn 33 = .ok (.bipush (-2), 2) := by decide +kernel
theorem dX10_treadsOn_35 : decode cX10_treadsOn 35 = .ok (.ireturn, 1) := by decide +kernel
theorem dX10_treadsOn_36 : decode cX10_treadsOn 36 = .ok (.aload_n 0, 1) := by decide +kernel
theorem dX10_treadsOn_37 : decode cX10_treadsOn 37 = .ok (.getfield 20, 3) := by decide +kernel
theorem dX10_treadsOn_40 : decode cX10_treadsOn 40 = .ok (.bipush 24, 2) := by decide +kernel
theorem dX10_treadsOn_42 : decode cX10_treadsOn 42 = .ok (.iload_n 1, 1) := by decide +kernel
theorem dX10_treadsOn_43 : decode cX10_treadsOn 43 = .ok (.iadd, 1) := by decide +kernel
theorem dX10_treadsOn_44 : decode cX10_treadsOn 44 = .ok (.iconst 0, 1) := by decide +kernel
theorem dX10_treadsOn_45 : decode cX10_treadsOn 45 = .ok (.aload_n 0, 1) := by decide +kernel
theorem dX10_treadsOn_46 : decode cX10_treadsOn 46 = .ok (.getfield 20, 3) := by decide +kernel
theorem dX10_treadsOn_49 : decode cX10_treadsOn 49 = .ok (.bipush 24, 2) := by decide +kernel
theorem dX10_treadsOn_51 : decode cX10_treadsOn 51 = .ok (.iload_n 1, 1) := by decide +kernel
theorem dX10_treadsOn_52 : decode cX10_treadsOn 52 = .ok (.iadd, 1) := by decide +kernel
theorem dX10_treadsOn_53 : decode cX10_treadsOn 53 = .ok (.iaload, 1) := by decide +kernel
theorem dX10_treadsOn_54 : decode cX10_treadsOn 54 = .ok (.iload_n 2, 1) := by decide +kernel
theorem dX10_treadsOn_55 : decode cX10_treadsOn 55 = .ok (.isub, 1) := by decide +kernel
theorem dX10_treadsOn_56 : decode cX10_treadsOn 56 = .ok (.invokestatic 272, 3) := by decide +kernel
theorem dX10_treadsOn_59 : decode cX10_treadsOn 59 = .ok (.iastore, 1) := by decide +kernel
theorem dX10_treadsOn_60 : decode cX10_treadsOn 60 = .ok (.aload_n 0, 1) := by decide +kernel
theorem dX10_treadsOn_61 : decode cX10_treadsOn 61 = .ok (.getfield 20, 3) := by decide +kernel
theorem dX10_treadsOn_64 : decode cX10_treadsOn 64 = .ok (.bipush 24, 2) := by decide +kernel
theorem dX10_treadsOn_66 : decode cX10_treadsOn 66 = .ok (.iload_n 1, 1) := by decide +kernel
theorem dX10_treadsOn_67 : decode cX10_treadsOn 67 = .ok (.iadd, 1) := by decide +kernel
theorem dX10_treadsOn_68 : decode cX10_treadsOn 68 = .ok (.iaload, 1) := by decide +kernel
theorem dX10_treadsOn_69 : decode cX10_treadsOn 69 = .ok (.ireturn, 1) := by decide +kernel
theorem dX10_singsTo_0 : decode cX10_singsTo 0 = .ok (.aload_n 0, 1) := by decide +kernel
theorem dX10_singsTo_1 : decode cX10_singsTo 1 = .ok (.iload_n 1, 1) := by decide +kernel
theorem dX10_singsTo_2 : decode cX10_singsTo 2 = .ok (.invokevirtual 278, 3) := by decide +kernel
theorem dX10_singsTo_5 : decode cX10_singsTo 5 = .ok (.ifCond .eq 15, 3) := by decide +kernel
theorem dX10_singsTo_8 : decode cX10_singsTo 8 = .ok (.iload_n 2, 1) := by decide +kernel
theorem dX10_singsTo_9 : decode cX10_singsTo 9 = .ok (.i2l, 1) := by decide +kernel
theorem dX10_singsTo_10 : decode cX10_singsTo 10 = .ok (.lconst 1, 1) := by decide +kernel
theorem dX10_singsTo_11 : decode cX10_singsTo 11 = .ok (.ldc2_w 322, 3) := by decide +kernel
theorem dX10_singsTo_14 : decode cX10_singsTo 14 = .ok (.invokestatic 117, 3) := by decide +kernel
theorem dX10_singsTo_17 : decode cX10_singsTo 17 = .ok (.ifCond .ne 5, 3) := by decide +kernel
theorem dX10_singsTo_20 : decode cX10_singsTo 20 = .ok (.iconst (-1), 1) := by decide +kernel
theorem dX10_singsTo_21 : decode cX10_singsTo 21 = .ok (.ireturn, 1) := by decide +kernel
theorem dX10_singsTo_22 : decode cX10_singsTo 22 = .ok (.aload_n 0, 1) := by decide +kernel
theorem dX10_singsTo_23 : decode cX10_singsTo 23 = .ok (.getfield 20, 3) := by decide +kernel
theorem dX10_singsTo_26 : decode cX10_singsTo 26 = .ok (.bipush 24, 2) := by decide +kernel
theorem dX10_singsTo_28 : decode cX10_singsTo 28 = .ok (.iload_n 1, 1) := by decide +kernel
theorem dX10_singsTo_29 : decode cX10_singsTo 29 = .ok (.iadd, 1) := by decide +kernel
theorem dX10_singsTo_30 : decode cX10_singsTo 30 = .ok (.bipush 9, 2) := by decide +kernel
theorem dX10_singsTo_32 : decode cX10_singsTo 32 = .ok (.aload_n 0, 1) := by decide +kernel
theorem dX10_singsTo_33 : decode cX10_singsTo 33 = .ok (.getfield 20, 3) := by decide +kernel
theorem dX10_singsTo_36 : decode cX10_singsTo 36 = .ok (.bipush 24, 2) := by decide +kernel
theorem dX10_singsTo_38 : decode cX10_singsTo 38 = .ok (.iload_n 1, 1) := by decide +kernel
theorem dX10_singsTo_39 : decode cX10_singsTo 39 = .ok (.iadd, 1) := by decide +kernel
theorem dX10_singsTo_40 : decode cX10_singsTo 40 = .ok (.iaload, 1) := by decide +kernel
theorem dX10_singsTo_41 : decode cX10_singsTo 41 = .ok (.iload_n 2, 1) := by decide +kernel
theorem dX10_singsTo_42 : decode cX10_singsTo 42 = .ok (.iadd, 1) := by decide +kernel
theorem dX10_singsTo_43 : decode cX10_singsTo 43 = .ok (.invokestatic 154, 3) := by decide +kernel
theorem dX10_singsTo_46 : decode cX10_singsTo 46 = .ok (.iastore, 1) := by decide +kernel
theorem dX10_singsTo_47 : decode cX10_singsTo 47 = .ok (.aload_n 0, 1) := by decide +kernel
theorem dX10_singsTo_48 : decode cX10_singsTo 48 = .ok (.getfield 20, 3) := by decide +kernel
theorem dX10_singsTo_51 : decode cX10_singsTo 51 = .ok (.bipush 24, 2) := by decide +kernel
theorem dX10_singsTo_53 : decode cX10_singsTo 53 = .ok (.iload_n 1, 1) := by decide +kernel
theorem dX10_singsTo_54 : decode cX10_singsTo 54 = .ok (.iadd, 1) := by decide +kernel
theorem dX10_singsTo_55 : decode cX10_singsTo 55 = .ok (.iaload, 1) := by decide +kernel
theorem dX10_singsTo_56 : decode cX10_singsTo 56 = .ok (.ireturn, 1) := by decide +kernel
theorem dX10_movesOne_0 : decode cX10_movesOne 0 = .ok (.iload_n 2, 1) := by decide +kernel
theorem dX10_movesOne_1 : decode cX10_movesOne 1 = .ok (.i2l, 1) := by decide +kernel
theorem dX10_movesOne_2 : decode cX10_movesOne 2 = .ok (.lconst 0, 1) := by decide +kernel
theorem dX10_movesOne_3 : decode cX10_movesOne 3 = .ok (.aload_n 1, 1) := by decide +kernel
theorem dX10_movesOne_4 : decode cX10_movesOne 4 = .ok (.bipush 48, 2) := by decide +kernel
theorem dX10_movesOne_6 : decode cX10_movesOne 6 = .ok (.iaload, 1) := by decide +kernel
theorem dX10_movesOne_7 : decode cX10_movesOne 7 = .ok (.iconst 1, 1) := by decide +kernel
theorem dX10_movesOne_8 : decode cX10_movesOne 8 = .ok (.isub, 1) := by decide +kernel
theorem dX10_movesOne_9 : decode cX10_movesOne 9 = .ok (.i2l, 1) := by decide +kernel
theorem dX10_movesOne_10 : decode cX10_movesOne 10 = .ok (.invokestatic 117, 3) := by decide +kernel
theorem dX10_movesOne_13 : decode cX10_movesOne 13 = .ok (.ifCond .eq 15, 3) := by decide +kernel
theorem dX10_movesOne_16 : decode cX10_movesOne 16 = .ok (.iload_n 3, 1) := by decide +kernel
theorem dX10_movesOne_17 : decode cX10_movesOne 17 = .ok (.i2l, 1) := by decide +kernel
theorem dX10_movesOne_18 : decode cX10_movesOne 18 = .ok (.lconst 0, 1) := by decide +kernel
theorem dX10_movesOne_19 : decode cX10_movesOne 19 = .ok (.ldc2_w 303, 3) := by decide +kernel
theorem dX10_movesOne_22 : decode cX10_movesOne 22 = .ok (.invokestatic 117, 3) := by decide +kernel
theorem dX10_movesOne_25 : decode cX10_movesOne 25 = .ok (.ifCond .ne 5, 3) := by decide +kernel
theorem dX10_movesOne_28 : decode cX10_movesOne 28 = .ok (.iconst (-1), 1) := by decide +kernel
theorem dX10_movesOne_29 : decode cX10_movesOne 29 = .ok (.ireturn, 1) := by decide +kernel
theorem dX10_movesOne_30 : decode cX10_movesOne 30 = .ok (.aload_n 1, 1) := by decide +kernel
theorem dX10_movesOne_31 : decode cX10_movesOne 31 = .ok (.iload_n 2, 1) := by decide +kernel
theorem dX10_movesOne_32 : decode cX10_movesOne 32 = .ok (.iaload, 1) := by decide +kernel
theorem dX10_movesOne_33 : decode cX10_movesOne 33 = .ok (.aload_n 0, 1) := by decide +kernel
theorem dX10_movesOne_34 : decode cX10_movesOne 34 = .ok (.getfield 17, 3) := by decide +kernel
theorem dX10_movesOne_37 : decode cX10_movesOne 37 = .ok (.idiv, 1) := by decide +kernel
theorem dX10_movesOne_38 : decode cX10_movesOne 38 = .ok (.iload_n 3, 1) := by decide +kernel
theorem dX10_movesOne_39 : decode cX10_movesOne 39 = .ok (.iconst 2, 1) := by decide +kernel
theorem dX10_movesOne_40 : decode cX10_movesOne 40 = .ok (.if_icmp .ne 7, 3) := by decide +kernel
theorem dX10_movesOne_43 : decode cX10_movesOne 43 = .ok (.iconst 1, 1) := by decide +kernel
theorem dX10_movesOne_44 : decode cX10_movesOne 44 = .ok (.goto 12, 3) := by decide +kernel
theorem dX10_movesOne_47 : decode cX10_movesOne 47 = .ok (.iload_n 3, 1) := by decide +kernel
theorem dX10_movesOne_48 : decode cX10_movesOne 48 = .ok (.ifCond .ne 7, 3) := by decide +kernel
theorem dX10_movesOne_51 : decode cX10_movesOne 51 = .ok (.iconst (-1), 1) := by decide +kernel
theorem dX10_movesOne_52 : decode cX10_movesOne 52 = .ok (.goto 4, 3) := by decide +kernel
theorem dX10_movesOne_55 : decode cX10_movesOne 55 = .ok (.iconst 0, 1) := by decide +kernel
theorem dX10_movesOne_56 : decode cX10_movesOne 56 = .ok (.iadd, 1) := by decide +kernel
theorem dX10_movesOne_57 : decode cX10_movesOne 57 = .ok (.istore 4, 2) := by decide +kernel
theorem dX10_movesOne_59 : decode cX10_movesOne 59 = .ok (.aload_n 1, 1) := by decide +kernel
theorem dX10_movesOne_60 : decode cX10_movesOne 60 = .ok (.iload_n 2, 1) := by decide +kernel
theorem dX10_movesOne_61 : decode cX10_movesOne 61 = .ok (.iaload, 1) := by decide +kernel
theorem dX10_movesOne_62 : decode cX10_movesOne 62 = .ok (.aload_n 0, 1) := by decide +kernel
theorem dX10_movesOne_63 : decode cX10_movesOne 63 = .ok (.getfield 17, 3) := by decide +kernel
theorem dX10_movesOne_66 : decode cX10_movesOne 66 = .ok (.irem, 1) := by decide +kernel
theorem dX10_movesOne_67 : decode cX10_movesOne 67 = .ok (.iload_n 3, 1) := by decide +kernel
theorem dX10_movesOne_68 : decode cX10_movesOne 68 = .ok (.iconst 1, 1) := by decide +kernel
theorem dX10_movesOne_69 : decode cX10_movesOne 69 = .ok (.if_icmp .ne 7, 3) := by decide +kernel
theorem dX10_movesOne_72 : decode cX10_movesOne 72 = .ok (.iconst 1, 1) := by decide +kernel
theorem dX10_movesOne_73 : decode cX10_movesOne 73 = .ok (.goto 13, 3) := by decide +kernel
theorem dX10_movesOne_76 : decode cX10_movesOne 76 = .ok (.iload_n 3, 1) := by decide +kernel
theorem dX10_movesOne_77 : decode cX10_movesOne 77 = .ok (.iconst 3, 1) := by decide +kernel
theorem dX10_movesOne_78 : decode cX10_movesOne 78 = .ok (.if_icmp .ne 7, 3) := by decide +kernel
theorem dX10_movesOne_81 : decode cX10_movesOne 81 = .ok (.iconst (-1), 1) := by decide +kernel
theorem dX10_movesOne_82 : decode cX10_movesOne 82 = .ok (.goto 4, 3) := by decide +kernel
theorem dX10_movesOne_85 : decode cX10_movesOne 85 = .ok (.iconst 0, 1) := by decide +kernel
theorem dX10_movesOne_86 : decode cX10_movesOne 86 = .ok (.iadd, 1) := by decide +kernel
theorem dX10_movesOne_87 : decode cX10_movesOne 87 = .ok (.istore 5, 2) := by decide +kernel
theorem dX10_movesOne_89 : decode cX10_movesOne 89 = .ok (.iload 4, 2) := by decide +kernel
theorem dX10_movesOne_91 : decode cX10_movesOne 91 = .ok (.i2l, 1) := by decide +kernel
theorem dX10_movesOne_92 : decode cX10_movesOne 92 = .ok (.lconst 0, 1) := by decide +kernel
theorem dX10_movesOne_93 : decode cX10_movesOne 93 = .ok (.aload_n 0, 1) := by decide +kernel
theorem dX10_movesOne_94 : decode cX10_movesOne 94 = .ok (.getfield 13, 3) := by decide +kernel
theorem dX10_movesOne_97 : decode cX10_movesOne 97 = .ok (.aload_n 1, 1) := by decide +kernel
theorem dX10_movesOne_98 : decode cX10_movesOne 98 = .ok (.bipush 8, 2) := by decide +kernel
theorem dX10_movesOne_100 : decode cX10_movesOne 100 = .ok (.iload_n 2, 1) := by decide +kernel
theorem dX10_movesOne_101 : decode cX10_movesOne 101 = .ok (.iadd, 1) := by decide +kernel
theorem dX10_movesOne_102 : decode cX10_movesOne 102 = .ok (.iaload, 1) := by decide +kernel
theorem dX10_movesOne_103 : decode cX10_movesOne 103 = .ok (.isub, 1) := by decide +kernel
theorem dX10_movesOne_104 : decode cX10_movesOne 104 = .ok (.i2l, 1) := by decide +kernel
theorem dX10_movesOne_105 : decode cX10_movesOne 105 = .ok (.invokestatic 117, 3) := by decide +kernel
theorem dX10_movesOne_108 : decode cX10_movesOne 108 = .ok (.ifCond .eq 25, 3) := by decide +kernel
theorem dX10_movesOne_111 : decode cX10_movesOne 111 = .ok (.iload 5, 2) := by decide +kernel
theorem dX10_movesOne_113 : decode cX10_movesOne 113 = .ok (.i2l, 1) := by decide +kernel
theorem dX10_movesOne_114 : decode cX10_movesOne 114 = .ok (.lconst 0, 1) := by decide +kernel
theorem dX10_movesOne_115 : decode cX10_movesOne 115 = .ok (.aload_n 0, 1) := by decide +kernel
theorem dX10_movesOne_116 : decode cX10_movesOne 116 = .ok (.getfield 17, 3) := by decide +kernel
theorem dX10_movesOne_119 : decode cX10_movesOne 119 = .ok (.aload_n 1, 1) := by decide +kernel
theorem dX10_movesOne_120 : decode cX10_movesOne 120 = .ok (.bipush 16, 2) := by decide +kernel
theorem dX10_movesOne_122 : decode cX10_movesOne 122 = .ok (.iload_n 2, 1) := by decide +kernel
theorem dX10_movesOne_123 : decode cX10_movesOne 123 = .ok (.iadd, 1) := by decide +kernel
theorem dX10_movesOne_124 : decode cX10_movesOne 124 = .ok (.iaload, 1) := by decide +kernel
theorem dX10_movesOne_125 : decode cX10_movesOne 125 = .ok (.isub, 1) := by decide +kernel
theorem dX10_movesOne_126 : decode cX10_movesOne 126 = .ok (.i2l, 1) := by decide +kernel
theorem dX10_movesOne_127 : decode cX10_movesOne 127 = .ok (.invokestatic 117, 3) := by decide +kernel
theorem dX10_movesOne_130 : decode cX10_movesOne 130 = .ok (.ifCond .ne 6, 3) := by decide +kernel
theorem dX10_movesOne_133 : decode cX10_movesOne 133 = .ok (.bipush (-2), 2) := by decide +kernel
theorem dX10_movesOne_135 : decode cX10_movesOne 135 = .ok (.ireturn, 1) := by decide +kernel
theorem dX10_movesOne_136 : decode cX10_movesOne 136 = .ok (.aload_n 1, 1) := by decide +kernel
theorem dX10_movesOne_137 : decode cX10_movesOne 137 = .ok (.iload_n 2, 1) := by decide +kernel
theorem dX10_movesOne_138 : decode cX10_movesOne 138 = .ok (.aload_n 0, 1) := by decide +kernel
theorem dX10_movesOne_139 : decode cX10_movesOne 139 = .ok (.getfield 17, 3) := by decide +kernel
theorem dX10_movesOne_142 : decode cX10_movesOne 142 = .ok (.iload 4, 2) := by decide +kernel
theorem dX10_movesOne_144 : decode cX10_movesOne 144 = .ok (.imul, 1) := by decide +kernel
theorem dX10_movesOne_145 : decode cX10_movesOne 145 = .ok (.iload 5, 2) := by decide +kernel
theorem dX10_movesOne_147 : decode cX10_movesOne 147 = .ok (.iadd, 1) := by decide +kernel
theorem dX10_movesOne_148 : decode cX10_movesOne 148 = .ok (.iastore, 1) := by decide +kernel
theorem dX10_movesOne_149 : decode cX10_movesOne 149 = .ok (.aload_n 1, 1) := by decide +kernel
theorem dX10_movesOne_150 : decode cX10_movesOne 150 = .ok (.iload_n 2, 1) := by decide +kernel
theorem dX10_movesOne_151 : decode cX10_movesOne 151 = .ok (.iaload, 1) := by decide +kernel
theorem dX10_movesOne_152 : decode cX10_movesOne 152 = .ok (.ireturn, 1) := by decide +kernel
theorem dX10_years_0 : decode cX10_years 0 = .ok (.aload_n 0, 1) := by decide +kernel
theorem dX10_years_1 : decode cX10_years 1 = .ok (.iconst 0, 1) := by decide +kernel
theorem dX10_years_2 : decode cX10_years 2 = .ok (.putfield 103, 3) := by decide +kernel
theorem dX10_years_5 : decode cX10_years 5 = .ok (.iload_n 1, 1) := by decide +kernel
theorem dX10_years_6 : decode cX10_years 6 = .ok (.i2l, 1) := by decide +kernel
theorem dX10_years_7 : decode cX10_years 7 = .ok (.lconst 0, 1) := by decide +kernel
theorem dX10_years_8 : decode cX10_years 8 = .ok (.ldc2_w 331, 3) := by decide +kernel
theorem dX10_years_11 : decode cX10_years 11 = .ok (.invokestatic 117, 3) := by decide +kernel
theorem dX10_years_14 : decode cX10_years 14 = .ok (.ifCond .ne 5, 3) := by decide +kernel
theorem dX10_years_17 : decode cX10_years 17 = .ok (.iconst (-1), 1) := by decide +kernel
theorem dX10_years_18 : decode cX10_years 18 = .ok (.ireturn, 1) := by decide +kernel
theorem dX10_years_19 : decode cX10_years 19 = .ok (.aload_n 0, 1) := by decide +kernel
theorem dX10_years_20 : decode cX10_years 20 = .ok (.invokevirtual 333, 3) := by decide +kernel
theorem dX10_years_23 : decode cX10_years 23 = .ok (.aload_n 0, 1) := by decide +kernel
theorem dX10_years_24 : decode cX10_years 24 = .ok (.aload_n 0, 1) := by decide +kernel
theorem dX10_years_25 : decode cX10_years 25 = .ok (.getfield 20, 3) := by decide +kernel
theorem dX10_years_28 : decode cX10_years 28 = .ok (.iload_n 1, 1) := by decide +kernel
theorem dX10_years_29 : decode cX10_years 29 = .ok (.invokevirtual 336, 3) := by decide +kernel
theorem dX10_years_32 : decode cX10_years 32 = .ok (.aload_n 0, 1) := by decide +kernel
theorem dX10_years_33 : decode cX10_years 33 = .ok (.iconst 0, 1) := by decide +kernel
theorem dX10_years_34 : decode cX10_years 34 = .ok (.putfield 110, 3) := by decide +kernel
theorem dX10_years_37 : decode cX10_years 37 = .ok (.aload_n 0, 1) := by decide +kernel
theorem dX10_years_38 : decode cX10_years 38 = .ok (.aload_n 0, 1) := by decide +kernel
theorem dX10_years_39 : decode cX10_years 39 = .ok (.getfield 315, 3) := by decide +kernel
theorem dX10_years_42 : decode cX10_years 42 = .ok (.i2l, 1) := by decide +kernel
theorem dX10_years_43 : decode cX10_years 43 = .ok (.invokevirtual 339, 3) := by decide +kernel
theorem dX10_years_46 : decode cX10_years 46 = .ok (.aload_n 0, 1) := by decide +kernel
theorem dX10_years_47 : decode cX10_years 47 = .ok (.aload_n 0, 1) := by decide +kernel
theorem dX10_years_48 : decode cX10_years 48 = .ok (.getfield 20, 3) := by decide +kernel
theorem dX10_years_51 : decode cX10_years 51 = .ok (.bipush 24, 2) := by decide +kernel
theorem dX10_years_53 : decode cX10_years 53 = .ok (.invokestatic 305, 3) := by decide +kernel
theorem dX10_years_56 : decode cX10_years 56 = .ok (.i2l, 1) := by decide +kernel
theorem dX10_years_57 : decode cX10_years 57 = .ok (.invokevirtual 339, 3) := by decide +kernel
theorem dX10_years_60 : decode cX10_years 60 = .ok (.aload_n 0, 1) := by decide +kernel
theorem dX10_years_61 : decode cX10_years 61 = .ok (.aload_n 0, 1) := by decide +kernel
theorem dX10_years_62 : decode cX10_years 62 = .ok (.getfield 20, 3) := by decide +kernel
theorem dX10_years_65 : decode cX10_years 65 = .ok (.invokestatic 311, 3) := by decide +kernel
theorem dX10_years_68 : decode cX10_years 68 = .ok (.invokestatic 264, 3) := by decide +kernel
theorem dX10_years_71 : decode cX10_years 71 = .ok (.invokevirtual 308, 3) := by decide +kernel
theorem dX10_years_74 : decode cX10_years 74 = .ok (.ireturn, 1) := by decide +kernel
theorem dX10_pitch_0 : decode cX10_pitch 0 = .ok (.aload_n 0, 1) := by decide +kernel
theorem dX10_pitch_1 : decode cX10_pitch 1 = .ok (.iconst 0, 1) := by decide +kernel
theorem dX10_pitch_2 : decode cX10_pitch 2 = .ok (.putfield 103, 3) := by decide +kernel
theorem dX10_pitch_5 : decode cX10_pitch 5 = .ok (.aload_n 0, 1) := by decide +kernel
theorem dX10_pitch_6 : decode cX10_pitch 6 = .ok (.invokevirtual 333, 3) := by decide +kernel
theorem dX10_pitch_9 : decode cX10_pitch 9 = .ok (.aload_n 0, 1) := by decide +kernel
theorem dX10_pitch_10 : decode cX10_pitch 10 = .ok (.aload_n 0, 1) := by decide +kernel
theorem dX10_pitch_11 : decode cX10_pitch 11 = .ok (.aload_n 0, 1) := by decide +kernel
theorem dX10_pitch_12 : decode cX10_pitch 12 = .ok (.getfield 20, 3) := by decide +kernel
theorem dX10_pitch_15 : decode cX10_pitch 15 = .ok (.iload_n 1, 1) := by decide +kernel
theorem dX10_pitch_16 : decode cX10_pitch 16 = .ok (.iload_n 2, 1) := by decide +kernel
theorem dX10_pitch_17 : decode cX10_pitch 17 = .ok (.iload_n 3, 1) := by decide +kernel
theorem dX10_pitch_18 : decode cX10_pitch 18 = .ok (.iload 4, 2) := by decide +kernel
theorem dX10_pitch_20 : decode cX10_pitch 20 = .ok (.iload 5, 2) := by decide +kernel
theorem dX10_pitch_22 : decode cX10_pitch 22 = .ok (.invokevirtual 343, 3) := by decide +kernel
theorem dX10_pitch_25 : decode cX10_pitch 25 = .ok (.invokevirtual 347, 3) := by decide +kernel
theorem dX10_pitch_28 : decode cX10_pitch 28 = .ok (.ireturn, 1) := by decide +kernel
theorem dX10_treads_0 : decode cX10_treads 0 = .ok (.aload_n 0, 1) := by decide +kernel
theorem dX10_treads_1 : decode cX10_treads 1 = .ok (.iconst 0, 1) := by decide +kernel
theorem dX10_treads_2 : decode cX10_treads 2 = .ok (.putfield 103, 3) := by decide +kernel
