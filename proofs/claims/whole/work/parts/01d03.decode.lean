theorem dX9_mostHeard_41 : decode cX9_mostHeard 41 = .ok (.bipush 99, 2) := by decide +kernel
theorem dX9_mostHeard_43 : decode cX9_mostHeard 43 = .ok (.ireturn, 1) := by decide +kernel
theorem dX9_mostHeard_44 : decode cX9_mostHeard 44 = .ok (.bipush 7, 2) := by decide +kernel
theorem dX9_mostHeard_46 : decode cX9_mostHeard 46 = .ok (.ireturn, 1) := by decide +kernel
theorem dX9_mostHeard_47 : decode cX9_mostHeard 47 = .ok (.iconst (-1), 1) := by decide +kernel
theorem dX9_mostHeard_48 : decode cX9_mostHeard 48 = .ok (.ireturn, 1) := by decide +kernel
theorem dX9_forget_0 : decode cX9_forget 0 = .ok (.aload_n 0, 1) := by decide +kernel
theorem dX9_forget_1 : decode cX9_forget 1 = .ok (.getfield 73, 3) := by decide +kernel
theorem dX9_forget_4 : decode cX9_forget 4 = .ok (.invokevirtual 115, 3) := by decide +kernel
theorem dX9_forget_7 : decode cX9_forget 7 = .ok (.ireturn, 1) := by decide +kernel
theorem dX9_fits_0 : decode cX9_fits 0 = .ok (.iconst 0, 1) := by decide +kernel
theorem dX9_fits_1 : decode cX9_fits 1 = .ok (.istore_n 1, 1) := by decide +kernel
theorem dX9_fits_2 : decode cX9_fits 2 = .ok (.iconst 0, 1) := by decide +kernel
theorem dX9_fits_3 : decode cX9_fits 3 = .ok (.istore_n 2, 1) := by decide +kernel
theorem dX9_fits_4 : decode cX9_fits 4 = .ok (.iload_n 2, 1) := by decide +kernel
theorem dX9_fits_5 : decode cX9_fits 5 = .ok (.aload_n 0, 1) := by decide +kernel
theorem dX9_fits_6 : decode cX9_fits 6 = .ok (.getfield 26, 3) := by decide +kernel
theorem dX9_fits_9 : decode cX9_fits 9 = .ok (.getfield 146, 3) := by decide +kernel
theorem dX9_fits_12 : decode cX9_fits 12 = .ok (.if_icmp .ge 34, 3) := by decide +kernel
theorem dX9_fits_15 : decode cX9_fits 15 = .ok (.aload_n 0, 1) := by decide +kernel
theorem dX9_fits_16 : decode cX9_fits 16 = .ok (.getfield 26, 3) := by decide +kernel
theorem dX9_fits_19 : decode cX9_fits 19 = .ok (.iload_n 2, 1) := by decide +kernel
theorem dX9_fits_20 : decode cX9_fits 20 = .ok (.invokevirtual 285, 3) := by decide +kernel
theorem dX9_fits_23 : decode cX9_fits 23 = .ok (.ifCond .eq 17, 3) := by decide +kernel
theorem dX9_fits_26 : decode cX9_fits 26 = .ok (.aload_n 0, 1) := by decide +kernel
theorem dX9_fits_27 : decode cX9_fits 27 = .ok (.iload_n 2, 1) := by decide +kernel
theorem dX9_fits_28 : decode cX9_fits 28 = .ok (.invokevirtual 383, 3) := by decide +kernel
theorem dX9_fits_31 : decode cX9_fits 31 = .ok (.ifCond .eq 9, 3) := by decide +kernel
theorem dX9_fits_34 : decode cX9_fits 34 = .ok (.iload_n 1, 1) := by decide +kernel
theorem dX9_fits_35 : decode cX9_fits 35 = .ok (.iconst 1, 1) := by decide +kernel
theorem dX9_fits_36 : decode cX9_fits 36 = .ok (.iload_n 2, 1) := by decide +kernel
theorem dX9_fits_37 : decode cX9_fits 37 = .ok (.ishl, 1) := by decide +kernel
theorem dX9_fits_38 : decode cX9_fits 38 = .ok (.ior, 1) := by decide +kernel
theorem dX9_fits_39 : decode cX9_fits 39 = .ok (.istore_n 1, 1) := by decide +kernel
theorem dX9_fits_40 : decode cX9_fits 40 = .ok (.iinc 2 1, 3) := by decide +kernel
theorem dX9_fits_43 : decode cX9_fits 43 = .ok (.goto (-39), 3) := by decide +kernel
theorem dX9_fits_46 : decode cX9_fits 46 = .ok (.aload_n 0, 1) := by decide +kernel
theorem dX9_fits_47 : decode cX9_fits 47 = .ok (.getfield 19, 3) := by decide +kernel
theorem dX9_fits_50 : decode cX9_fits 50 = .ok (.invokevirtual 220, 3) := by decide +kernel
theorem dX9_fits_53 : decode cX9_fits 53 = .ok (.aload_n 0, 1) := by decide +kernel
theorem dX9_fits_54 : decode cX9_fits 54 = .ok (.getfield 19, 3) := by decide +kernel
theorem dX9_fits_57 : decode cX9_fits 57 = .ok (.iload_n 1, 1) := by decide +kernel
theorem dX9_fits_58 : decode cX9_fits 58 = .ok (.invokestatic 267, 3) := by decide +kernel
theorem dX9_fits_61 : decode cX9_fits 61 = .ok (.i2l, 1) := by decide +kernel
theorem dX9_fits_62 : decode cX9_fits 62 = .ok (.invokevirtual 223, 3) := by decide +kernel
theorem dX9_fits_65 : decode cX9_fits 65 = .ok (.iload_n 1, 1) := by decide +kernel
theorem dX9_fits_66 : decode cX9_fits 66 = .ok (.ireturn, 1) := by decide +kernel
theorem dX9_fitsNight_0 : decode cX9_fitsNight 0 = .ok (.iconst 0, 1) := by decide +kernel
theorem dX9_fitsNight_1 : decode cX9_fitsNight 1 = .ok (.istore_n 2, 1) := by decide +kernel
theorem dX9_fitsNight_2 : decode cX9_fitsNight 2 = .ok (.iload_n 2, 1) := by decide +kernel
theorem dX9_fitsNight_3 : decode cX9_fitsNight 3 = .ok (.aload_n 0, 1) := by decide +kernel
theorem dX9_fitsNight_4 : decode cX9_fitsNight 4 = .ok (.getfield 73, 3) := by decide +kernel
theorem dX9_fitsNight_7 : decode cX9_fitsNight 7 = .ok (.getfield 355, 3) := by decide +kernel
theorem dX9_fitsNight_10 : decode cX9_fitsNight 10 = .ok (.if_icmp .ge 37, 3) := by decide +kernel
theorem dX9_fitsNight_13 : decode cX9_fitsNight 13 = .ok (.aload_n 0, 1) := by decide +kernel
theorem dX9_fitsNight_14 : decode cX9_fitsNight 14 = .ok (.iload_n 1, 1) := by decide +kernel
theorem dX9_fitsNight_15 : decode cX9_fitsNight 15 = .ok (.aload_n 0, 1) := by decide +kernel
theorem dX9_fitsNight_16 : decode cX9_fitsNight 16 = .ok (.getfield 73, 3) := by decide +kernel
theorem dX9_fitsNight_19 : decode cX9_fitsNight 19 = .ok (.getfield 374, 3) := by decide +kernel
theorem dX9_fitsNight_22 : decode cX9_fitsNight 22 = .ok (.iload_n 2, 1) := by decide +kernel
theorem dX9_fitsNight_23 : decode cX9_fitsNight 23 = .ok (.iaload, 1) := by decide +kernel
theorem dX9_fitsNight_24 : decode cX9_fitsNight 24 = .ok (.aload_n 0, 1) := by decide +kernel
theorem dX9_fitsNight_25 : decode cX9_fitsNight 25 = .ok (.getfield 73, 3) := by decide +kernel
theorem dX9_fitsNight_28 : decode cX9_fitsNight 28 = .ok (.getfield 371, 3) := by decide +kernel
theorem dX9_fitsNight_31 : decode cX9_fitsNight 31 = .ok (.iload_n 2, 1) := by decide +kernel
theorem dX9_fitsNight_32 : decode cX9_fitsNight 32 = .ok (.iaload, 1) := by decide +kernel
theorem dX9_fitsNight_33 : decode cX9_fitsNight 33 = .ok (.invokevirtual 386, 3) := by decide +kernel
theorem dX9_fitsNight_36 : decode cX9_fitsNight 36 = .ok (.ifCond .ne 5, 3) := by decide +kernel
theorem dX9_fitsNight_39 : decode cX9_fitsNight 39 = .ok (.iconst 0, 1) := by decide +kernel
theorem dX9_fitsNight_40 : decode cX9_fitsNight 40 = .ok (.ireturn, 1) := by decide +kernel
theorem dX9_fitsNight_41 : decode cX9_fitsNight 41 = .ok (.iinc 2 1, 3) := by decide +kernel
theorem dX9_fitsNight_44 : decode cX9_fitsNight 44 = .ok (.goto (-42), 3) := by decide +kernel
theorem dX9_fitsNight_47 : decode cX9_fitsNight 47 = .ok (.iconst 1, 1) := by decide +kernel
theorem dX9_fitsNight_48 : decode cX9_fitsNight 48 = .ok (.ireturn, 1) := by decide +kernel
theorem dX9_fitsSound_0 : decode cX9_fitsSound 0 = .ok (.iload_n 2, 1) := by decide +kernel
theorem dX9_fitsSound_1 : decode cX9_fitsSound 1 = .ok (.tableswitch 89 0 3 #[31, 50, 60, 70], 31) := by decide +kernel
theorem dX9_fitsSound_32 : decode cX9_fitsSound 32 = .ok (.aload_n 0, 1) := by decide +kernel
theorem dX9_fitsSound_33 : decode cX9_fitsSound 33 = .ok (.getfield 26, 3) := by decide +kernel
theorem dX9_fitsSound_36 : decode cX9_fitsSound 36 = .ok (.getfield 170, 3) := by decide +kernel
theorem dX9_fitsSound_39 : decode cX9_fitsSound 39 = .ok (.iload_n 1, 1) := by decide +kernel
theorem dX9_fitsSound_40 : decode cX9_fitsSound 40 = .ok (.iaload, 1) := by decide +kernel
theorem dX9_fitsSound_41 : decode cX9_fitsSound 41 = .ok (.iload_n 3, 1) := by decide +kernel
theorem dX9_fitsSound_42 : decode cX9_fitsSound 42 = .ok (.if_icmp .gt 7, 3) := by decide +kernel
theorem dX9_fitsSound_45 : decode cX9_fitsSound 45 = .ok (.iconst 1, 1) := by decide +kernel
theorem dX9_fitsSound_46 : decode cX9_fitsSound 46 = .ok (.goto 4, 3) := by decide +kernel
theorem dX9_fitsSound_49 : decode cX9_fitsSound 49 = .ok (.iconst 0, 1) := by decide +kernel
theorem dX9_fitsSound_50 : decode cX9_fitsSound 50 = .ok (.ireturn, 1) := by decide +kernel
theorem dX9_fitsSound_51 : decode cX9_fitsSound 51 = .ok (.aload_n 0, 1) := by decide +kernel
theorem dX9_fitsSound_52 : decode cX9_fitsSound 52 = .ok (.getfield 26, 3) := by decide +kernel
theorem dX9_fitsSound_55 : decode cX9_fitsSound 55 = .ok (.iload_n 1, 1) := by decide +kernel
theorem dX9_fitsSound_56 : decode cX9_fitsSound 56 = .ok (.iload_n 3, 1) := by decide +kernel
theorem dX9_fitsSound_57 : decode cX9_fitsSound 57 = .ok (.invokevirtual 389, 3) := by decide +kernel
theorem dX9_fitsSound_60 : decode cX9_fitsSound 60 = .ok (.ireturn, 1) := by decide +kernel
theorem dX9_fitsSound_61 : decode cX9_fitsSound 61 = .ok (.aload_n 0, 1) := by decide +kernel
theorem dX9_fitsSound_62 : decode cX9_fitsSound 62 = .ok (.getfield 26, 3) := by decide +kernel
theorem dX9_fitsSound_65 : decode cX9_fitsSound 65 = .ok (.iload_n 1, 1) := by decide +kernel
theorem dX9_fitsSound_66 : decode cX9_fitsSound 66 = .ok (.iload_n 3, 1) := by decide +kernel
theorem dX9_fitsSound_67 : decode cX9_fitsSound 67 = .ok (.invokevirtual 392, 3) := by decide +kernel
theorem dX9_fitsSound_70 : decode cX9_fitsSound 70 = .ok (.ireturn, 1) := by decide +kernel
theorem dX9_fitsSound_71 : decode cX9_fitsSound 71 = .ok (.aload_n 0, 1) := by decide +kernel
theorem dX9_fitsSound_72 : decode cX9_fitsSound 72 = .ok (.getfield 26, 3) := by decide +kernel
theorem dX9_fitsSound_75 : decode cX9_fitsSound 75 = .ok (.getfield 176, 3) := by decide +kernel
theorem dX9_fitsSound_78 : decode cX9_fitsSound 78 = .ok (.iload_n 1, 1) := by decide +kernel
theorem dX9_fitsSound_79 : decode cX9_fitsSound 79 = .ok (.iaload, 1) := by decide +kernel
theorem dX9_fitsSound_80 : decode cX9_fitsSound 80 = .ok (.iload_n 3, 1) := by decide +kernel
theorem dX9_fitsSound_81 : decode cX9_fitsSound 81 = .ok (.if_icmp .lt 7, 3) := by decide +kernel
theorem dX9_fitsSound_84 : decode cX9_fitsSound 84 = .ok (.iconst 1, 1) := by decide +kernel
theorem dX9_fitsSound_85 : decode cX9_fitsSound 85 = .ok (.goto 4, 3) := by decide +kernel
theorem dX9_fitsSound_88 : decode cX9_fitsSound 88 = .ok (.iconst 0, 1) := by decide +kernel
theorem dX9_fitsSound_89 : decode cX9_fitsSound 89 = .ok (.ireturn, 1) := by decide +kernel
theorem dX9_fitsSound_90 : decode cX9_fitsSound 90 = .ok (.aload_n 0, 1) := by decide +kernel
theorem dX9_fitsSound_91 : decode cX9_fitsSound 91 = .ok (.getfield 26, 3) := by decide +kernel
theorem dX9_fitsSound_94 : decode cX9_fitsSound 94 = .ok (.iload_n 1, 1) := by decide +kernel
theorem dX9_fitsSound_95 : decode cX9_fitsSound 95 = .ok (.invokevirtual 183, 3) := by decide +kernel
theorem dX9_fitsSound_98 : decode cX9_fitsSound 98 = .ok (.invokestatic 267, 3) := by decide +kernel
theorem dX9_fitsSound_101 : decode cX9_fitsSound 101 = .ok (.iload_n 3, 1) := by decide +kernel
theorem dX9_fitsSound_102 : decode cX9_fitsSound 102 = .ok (.if_icmp .lt 7, 3) := by decide +kernel
theorem dX9_fitsSound_105 : decode cX9_fitsSound 105 = .ok (.iconst 1, 1) := by decide +kernel
theorem dX9_fitsSound_106 : decode cX9_fitsSound 106 = .ok (.goto 4, 3) := by decide +kernel
theorem dX9_fitsSound_109 : decode cX9_fitsSound 109 = .ok (.iconst 0, 1) := by decide +kernel
theorem dX9_fitsSound_110 : decode cX9_fitsSound 110 = .ok (.ireturn, 1) := by decide +kernel
theorem dX9_sung_0 : decode cX9_sung 0 = .ok (.aload_n 0, 1) := by decide +kernel
theorem dX9_sung_1 : decode cX9_sung 1 = .ok (.getfield 26, 3) := by decide +kernel
theorem dX9_sung_4 : decode cX9_sung 4 = .ok (.iload_n 1, 1) := by decide +kernel
theorem dX9_sung_5 : decode cX9_sung 5 = .ok (.invokevirtual 186, 3) := by decide +kernel
theorem dX9_sung_8 : decode cX9_sung 8 = .ok (.ifCond .eq 23, 3) := by decide +kernel
theorem dX9_sung_11 : decode cX9_sung 11 = .ok (.iload_n 2, 1) := by decide +kernel
theorem dX9_sung_12 : decode cX9_sung 12 = .ok (.ifCond .lt 19, 3) := by decide +kernel
theorem dX9_sung_15 : decode cX9_sung 15 = .ok (.iload_n 2, 1) := by decide +kernel
theorem dX9_sung_16 : decode cX9_sung 16 = .ok (.bipush 8, 2) := by decide +kernel
theorem dX9_sung_18 : decode cX9_sung 18 = .ok (.if_icmp .gt 13, 3) := by decide +kernel
theorem dX9_sung_21 : decode cX9_sung 21 = .ok (.iload_n 3, 1) := by decide +kernel
theorem dX9_sung_22 : decode cX9_sung 22 = .ok (.ifCond .lt 9, 3) := by decide +kernel
theorem dX9_sung_25 : decode cX9_sung 25 = .ok (.iload_n 3, 1) := by decide +kernel
theorem dX9_sung_26 : decode cX9_sung 26 = .ok (.bipush 10, 2) := by decide +kernel
theorem dX9_sung_28 : decode cX9_sung 28 = .ok (.if_icmp .le 5, 3) := by decide +kernel
theorem dX9_sung_31 : decode cX9_sung 31 = .ok (.iconst (-1), 1) := by decide +kernel
theorem dX9_sung_32 : decode cX9_sung 32 = .ok (.ireturn, 1) := by decide +kernel
theorem dX9_sung_33 : decode cX9_sung 33 = .ok (.aload_n 0, 1) := by decide +kernel
theorem dX9_sung_34 : decode cX9_sung 34 = .ok (.getfield 26, 3) := by decide +kernel
theorem dX9_sung_37 : decode cX9_sung 37 = .ok (.iload_n 1, 1) := by decide +kernel
theorem dX9_sung_38 : decode cX9_sung 38 = .ok (.invokevirtual 189, 3) := by decide +kernel
theorem dX9_sung_41 : decode cX9_sung 41 = .ok (.invokestatic 267, 3) := by decide +kernel
theorem dX9_sung_44 : decode cX9_sung 44 = .ok (.istore 4, 2) := by decide +kernel
theorem dX9_sung_46 : decode cX9_sung 46 = .ok (.lconst 0, 1) := by decide +kernel
theorem dX9_sung_47 : decode cX9_sung 47 = .ok (.lstore 5, 2) := by decide +kernel
theorem dX9_sung_49 : decode cX9_sung 49 = .ok (.iload_n 2, 1) := by decide +kernel
theorem dX9_sung_50 : decode cX9_sung 50 = .ok (.istore 7, 2) := by decide +kernel
theorem dX9_sung_52 : decode cX9_sung 52 = .ok (.iload 7, 2) := by decide +kernel
theorem dX9_sung_54 : decode cX9_sung 54 = .ok (.iload 4, 2) := by decide +kernel
theorem dX9_sung_56 : decode cX9_sung 56 = .ok (.if_icmp .gt 41, 3) := by decide +kernel
theorem dX9_sung_59 : decode cX9_sung 59 = .ok (.lload 5, 2) := by decide +kernel
theorem dX9_sung_61 : decode cX9_sung 61 = .ok (.iload 4, 2) := by decide +kernel
theorem dX9_sung_63 : decode cX9_sung 63 = .ok (.iload 7, 2) := by decide +kernel
theorem dX9_sung_65 : decode cX9_sung 65 = .ok (.invokestatic 395, 3) := by decide +kernel
theorem dX9_sung_68 : decode cX9_sung 68 = .ok (.iload_n 3, 1) := by decide +kernel
theorem dX9_sung_69 : decode cX9_sung 69 = .ok (.iload 7, 2) := by decide +kernel
theorem dX9_sung_71 : decode cX9_sung 71 = .ok (.invokestatic 399, 3) := by decide +kernel
theorem dX9_sung_74 : decode cX9_sung 74 = .ok (.lmul, 1) := by decide +kernel
theorem dX9_sung_75 : decode cX9_sung 75 = .ok (.bipush 10, 2) := by decide +kernel
theorem dX9_sung_77 : decode cX9_sung 77 = .ok (.iload_n 3, 1) := by decide +kernel
theorem dX9_sung_78 : decode cX9_sung 78 = .ok (.isub, 1) := by decide +kernel
theorem dX9_sung_79 : decode cX9_sung 79 = .ok (.iload 4, 2) := by decide +kernel
theorem dX9_sung_81 : decode cX9_sung 81 = .ok (.iload 7, 2) := by decide +kernel
theorem dX9_sung_83 : decode cX9_sung 83 = .ok (.isub, 1) := by decide +kernel
theorem dX9_sung_84 : decode cX9_sung 84 = .ok (.invokestatic 399, 3) := by decide +kernel
theorem dX9_sung_87 : decode cX9_sung 87 = .ok (.lmul, 1) := by decide +kernel
theorem dX9_sung_88 : decode cX9_sung 88 = .ok (.ladd, 1) := by decide +kernel
theorem dX9_sung_89 : decode cX9_sung 89 = .ok (.lstore 5, 2) := by decide +kernel
theorem dX9_sung_91 : decode cX9_sung 91 = .ok (.iinc 7 1, 3) := by decide +kernel
theorem dX9_sung_94 : decode cX9_sung 94 = .ok (.goto (-42), 3) := by decide +kernel
theorem dX9_sung_97 : decode cX9_sung 97 = .ok (.bipush 10, 2) := by decide +kernel
theorem dX9_sung_99 : decode cX9_sung 99 = .ok (.iload 4, 2) := by decide +kernel
theorem dX9_sung_101 : decode cX9_sung 101 = .ok (.invokestatic 399, 3) := by decide +kernel
theorem dX9_sung_104 : decode cX9_sung 104 = .ok (.lstore 7, 2) := by decide +kernel
theorem dX9_sung_106 : decode cX9_sung 106 = .ok (.lload 5, 2) := by decide +kernel
theorem dX9_sung_108 : decode cX9_sung 108 = .ok (.lload 7, 2) := by decide +kernel
theorem dX9_sung_110 : decode cX9_sung 110 = .ok (.invokestatic 402, 3) := by decide +kernel
theorem dX9_sung_113 : decode cX9_sung 113 = .ok (.lstore 9, 2) := by decide +kernel
theorem dX9_sung_115 : decode cX9_sung 115 = .ok (.aload_n 0, 1) := by decide +kernel
theorem dX9_sung_116 : decode cX9_sung 116 = .ok (.getfield 19, 3) := by decide +kernel
theorem dX9_sung_119 : decode cX9_sung 119 = .ok (.invokevirtual 220, 3) := by decide +kernel
theorem dX9_sung_122 : decode cX9_sung 122 = .ok (.aload_n 0, 1) := by decide +kernel
theorem dX9_sung_123 : decode cX9_sung 123 = .ok (.getfield 19, 3) := by decide +kernel
theorem dX9_sung_126 : decode cX9_sung 126 = .ok (.lload 9, 2) := by decide +kernel
theorem dX9_sung_128 : decode cX9_sung 128 = .ok (.lconst 0, 1) := by decide +kernel
theorem dX9_sung_129 : decode cX9_sung 129 = .ok (.lcmp, 1) := by decide +kernel
theorem dX9_sung_130 : decode cX9_sung 130 = .ok (.ifCond .le 11, 3) := by decide +kernel
theorem dX9_sung_133 : decode cX9_sung 133 = .ok (.lload 5, 2) := by decide +kernel
theorem dX9_sung_135 : decode cX9_sung 135 = .ok (.lload 9, 2) := by decide +kernel
theorem dX9_sung_137 : decode cX9_sung 137 = .ok (.ldiv, 1) := by decide +kernel
theorem dX9_sung_138 : decode cX9_sung 138 = .ok (.goto 5, 3) := by decide +kernel
theorem dX9_sung_141 : decode cX9_sung 141 = .ok (.lload 5, 2) := by decide +kernel
theorem dX9_sung_143 : decode cX9_sung 143 = .ok (.invokevirtual 223, 3) := by decide +kernel
theorem dX9_sung_146 : decode cX9_sung 146 = .ok (.aload_n 0, 1) := by decide +kernel
theorem dX9_sung_147 : decode cX9_sung 147 = .ok (.getfield 19, 3) := by decide +kernel
theorem dX9_sung_150 : decode cX9_sung 150 = .ok (.lload 9, 2) := by decide +kernel
theorem dX9_sung_152 : decode cX9_sung 152 = .ok (.lconst 0, 1) := by decide +kernel
theorem dX9_sung_153 : decode cX9_sung 153 = .ok (.lcmp, 1) := by decide +kernel
theorem dX9_sung_154 : decode cX9_sung 154 = .ok (.ifCond .le 11, 3) := by decide +kernel
theorem dX9_sung_157 : decode cX9_sung 157 = .ok (.lload 7, 2) := by decide +kernel
theorem dX9_sung_159 : decode cX9_sung 159 = .ok (.lload 9, 2) := by decide +kernel
theorem dX9_sung_161 : decode cX9_sung 161 = .ok (.ldiv, 1) := by decide +kernel
theorem dX9_sung_162 : decode cX9_sung 162 = .ok (.goto 5, 3) := by decide +kernel
theorem dX9_sung_165 : decode cX9_sung 165 = .ok (.lload 7, 2) := by decide +kernel
theorem dX9_sung_167 : decode cX9_sung 167 = .ok (.invokevirtual 223, 3) := by decide +kernel
theorem dX9_sung_170 : decode cX9_sung 170 = .ok (.iconst 0, 1) := by decide +kernel
theorem dX9_sung_171 : decode cX9_sung 171 = .ok (.ireturn, 1) := by decide +kernel
theorem dX9_power_0 : decode cX9_power 0 = .ok (.lconst 1, 1) := by decide +kernel
theorem dX9_power_1 : decode cX9_power 1 = .ok (.lstore_n 2, 1) := by decide +kernel
theorem dX9_power_2 : decode cX9_power 2 = .ok (.iconst 0, 1) := by decide +kernel
theorem dX9_power_3 : decode cX9_power 3 = .ok (.istore 4, 2) := by decide +kernel
theorem dX9_power_5 : decode cX9_power 5 = .ok (.iload 4, 2) := by decide +kernel
theorem dX9_power_7 : decode cX9_power 7 = .ok (.iload_n 1, 1) := by decide +kernel
theorem dX9_power_8 : decode cX9_power 8 = .ok (.if_icmp .ge 14, 3) := by decide +kernel
theorem dX9_power_11 : decode cX9_power 11 = .ok (.lload_n 2, 1) := by decide +kernel
theorem dX9_power_12 : decode cX9_power 12 = .ok (.iload_n 0, 1) := by decide +kernel
theorem dX9_power_13 : decode cX9_power 13 = .ok (.i2l, 1) := by decide +kernel
theorem dX9_power_14 : decode cX9_power 14 = .ok (.lmul, 1) := by decide +kernel
theorem dX9_power_15 : decode cX9_power 15 = .ok (.lstore_n 2, 1) := by decide +kernel
theorem dX9_power_16 : decode cX9_power 16 = .ok (.iinc 4 1, 3) := by decide +kernel
theorem dX9_power_19 : decode cX9_power 19 = .ok (.goto (-14), 3) := by decide +kernel
theorem dX9_power_22 : decode cX9_power 22 = .ok (.lload_n 2, 1) := by decide +kernel
theorem dX9_power_23 : decode cX9_power 23 = .ok (.lreturn, 1) := by decide +kernel
theorem dX9_choices_0 : decode cX9_choices 0 = .ok (.lconst 1, 1) := by decide +kernel
theorem dX9_choices_1 : decode cX9_choices 1 = .ok (.lstore_n 2, 1) := by decide +kernel
theorem dX9_choices_2 : decode cX9_choices 2 = .ok (.iconst 1, 1) := by decide +kernel
theorem dX9_choices_3 : decode cX9_choices 3 = .ok (.istore 4, 2) := by decide +kernel
theorem dX9_choices_5 : decode cX9_choices 5 = .ok (.iload 4, 2) := by decide +kernel
theorem dX9_choices_7 : decode cX9_choices 7 = .ok (.iload_n 1, 1) := by decide +kernel
theorem dX9_choices_8 : decode cX9_choices 8 = .ok (.if_icmp .gt 23, 3) := by decide +kernel
theorem dX9_choices_11 : decode cX9_choices 11 = .ok (.lload_n 2, 1) := by decide +kernel
theorem dX9_choices_12 : decode cX9_choices 12 = .ok (.iload_n 0, 1) := by decide +kernel
theorem dX9_choices_13 : decode cX9_choices 13 = .ok (.iload_n 1, 1) := by decide +kernel
theorem dX9_choices_14 : decode cX9_choices 14 = .ok (.isub, 1) := by decide +kernel
theorem dX9_choices_15 : decode cX9_choices 15 = .ok (.iload 4, 2) := by decide +kernel
theorem dX9_choices_17 : decode cX9_choices 17 = .ok (.iadd, 1) := by decide +kernel
theorem dX9_choices_18 : decode cX9_choices 18 = .ok (.i2l, 1) := by decide +kernel
theorem dX9_choices_19 : decode cX9_choices 19 = .ok (.lmul, 1) := by decide +kernel
theorem dX9_choices_20 : decode cX9_choices 20 = .ok (.iload 4, 2) := by decide +kernel
theorem dX9_choices_22 : decode cX9_choices 22 = .ok (.i2l, 1) := by decide +kernel
theorem dX9_choices_23 : decode cX9_choices 23 = .ok (.ldiv, 1) := by decide +kernel
theorem dX9_choices_24 : decode cX9_choices 24 = .ok (.lstore_n 2, 1) := by decide +kernel
theorem dX9_choices_25 : decode cX9_choices 25 = .ok (.iinc 4 1, 3) := by decide +kernel
theorem dX9_choices_28 : decode cX9_choices 28 = .ok (.goto (-23), 3) := by decide +kernel
theorem dX9_choices_31 : decode cX9_choices 31 = .ok (.lload_n 2, 1) := by decide +kernel
theorem dX9_choices_32 : decode cX9_choices 32 = .ok (.lreturn, 1) := by decide +kernel
theorem dX9_commonDivisor_0 : decode cX9_commonDivisor 0 = .ok (.iconst 0, 1) := by decide +kernel
theorem dX9_commonDivisor_1 : decode cX9_commonDivisor 1 = .ok (.istore 4, 2) := by decide +kernel
theorem dX9_commonDivisor_3 : decode cX9_commonDivisor 3 = .ok (.iload 4, 2) := by decide +kernel
theorem dX9_commonDivisor_5 : decode cX9_commonDivisor 5 = .ok (.bipush 64, 2) := by decide +kernel
theorem dX9_commonDivisor_7 : decode cX9_commonDivisor 7 = .ok (.if_icmp .ge 25, 3) := by decide +kernel
theorem dX9_commonDivisor_10 : decode cX9_commonDivisor 10 = .ok (.lload_n 2, 1) := by decide +kernel
theorem dX9_commonDivisor_11 : decode cX9_commonDivisor 11 = .ok (.lconst 0, 1) := by decide +kernel
theorem dX9_commonDivisor_12 : decode cX9_commonDivisor 12 = .ok (.lcmp, 1) := by decide +kernel
theorem dX9_commonDivisor_13 : decode cX9_commonDivisor 13 = .ok (.ifCond .eq 19, 3) := by decide +kernel
theorem dX9_commonDivisor_16 : decode cX9_commonDivisor 16 = .ok (.lload_n 0, 1) := by decide +kernel
theorem dX9_commonDivisor_17 : decode cX9_commonDivisor 17 = .ok (.lload_n 2, 1) := by decide +kernel
theorem dX9_commonDivisor_18 : decode cX9_commonDivisor 18 = .ok (.lrem, 1) := by decide +kernel
theorem dX9_commonDivisor_19 : decode cX9_commonDivisor 19 = .ok (.lstore 5, 2) := by decide +kernel
theorem dX9_commonDivisor_21 : decode cX9_commonDivisor 21 = .ok (.lload_n 2, 1) := by decide +kernel
theorem dX9_commonDivisor_22 : decode cX9_commonDivisor 22 = .ok (.lstore_n 0, 1) := by decide +kernel
theorem dX9_commonDivisor_23 : decode cX9_commonDivisor 23 = .ok (.lload 5, 2) := by decide +kernel
theorem dX9_commonDivisor_25 : decode cX9_commonDivisor 25 = .ok (.lstore_n 2, 1) := by decide +kernel
theorem dX9_commonDivisor_26 : decode cX9_commonDivisor 26 = .ok (.iinc 4 1, 3) := by decide +kernel
theorem dX9_commonDivisor_29 : decode cX9_commonDivisor 29 = .ok (.goto (-26), 3) := by decide +kernel
theorem dX9_commonDivisor_32 : decode cX9_commonDivisor 32 = .ok (.lload_n 0, 1) := by decide +kernel
theorem dX9_commonDivisor_33 : decode cX9_commonDivisor 33 = .ok (.lreturn, 1) := by decide +kernel
theorem dX9_fence_0 : decode cX9_fence 0 = .ok (.iload_n 1, 1) := by decide +kernel
theorem dX9_fence_1 : decode cX9_fence 1 = .ok (.ifCond .lt 9, 3) := by decide +kernel
theorem dX9_fence_4 : decode cX9_fence 4 = .ok (.iload_n 1, 1) := by decide +kernel
theorem dX9_fence_5 : decode cX9_fence 5 = .ok (.bipush 40, 2) := by decide +kernel
theorem dX9_fence_7 : decode cX9_fence 7 = .ok (.if_icmp .le 5, 3) := by decide +kernel
theorem dX9_fence_10 : decode cX9_fence 10 = .ok (.iconst (-1), 1) := by decide +kernel
theorem dX9_fence_11 : decode cX9_fence 11 = .ok (.ireturn, 1) := by decide +kernel
theorem dX9_fence_12 : decode cX9_fence 12 = .ok (.aload_n 0, 1) := by decide +kernel
theorem dX9_fence_13 : decode cX9_fence 13 = .ok (.iload_n 1, 1) := by decide +kernel
theorem dX9_fence_14 : decode cX9_fence 14 = .ok (.invokevirtual 406, 3) := by decide +kernel
theorem dX9_fence_17 : decode cX9_fence 17 = .ok (.aload_n 0, 1) := by decide +kernel
theorem dX9_fence_18 : decode cX9_fence 18 = .ok (.getfield 19, 3) := by decide +kernel
theorem dX9_fence_21 : decode cX9_fence 21 = .ok (.invokevirtual 220, 3) := by decide +kernel
theorem dX9_fence_24 : decode cX9_fence 24 = .ok (.iconst 0, 1) := by decide +kernel
theorem dX9_fence_25 : decode cX9_fence 25 = .ok (.istore_n 2, 1) := by decide +kernel
theorem dX9_fence_26 : decode cX9_fence 26 = .ok (.iload_n 2, 1) := by decide +kernel
theorem dX9_fence_27 : decode cX9_fence 27 = .ok (.iload_n 1, 1) := by decide +kernel
theorem dX9_fence_28 : decode cX9_fence 28 = .ok (.if_icmp .ge 69, 3) := by decide +kernel
theorem dX9_fence_31 : decode cX9_fence 31 = .ok (.iconst 1, 1) := by decide +kernel
theorem dX9_fence_32 : decode cX9_fence 32 = .ok (.istore_n 3, 1) := by decide +kernel
theorem dX9_fence_33 : decode cX9_fence 33 = .ok (.iload_n 3, 1) := by decide +kernel
theorem dX9_fence_34 : decode cX9_fence 34 = .ok (.iconst 3, 1) := by decide +kernel
theorem dX9_fence_35 : decode cX9_fence 35 = .ok (.if_icmp .gt 56, 3) := by decide +kernel
theorem dX9_fence_38 : decode cX9_fence 38 = .ok (.iload_n 2, 1) := by decide +kernel
theorem dX9_fence_39 : decode cX9_fence 39 = .ok (.iload_n 3, 1) := by decide +kernel
theorem dX9_fence_40 : decode cX9_fence 40 = .ok (.iadd, 1) := by decide +kernel
theorem dX9_fence_41 : decode cX9_fence 41 = .ok (.iload_n 1, 1) := by decide +kernel
theorem dX9_fence_42 : decode cX9_fence 42 = .ok (.if_icmp .gt 49, 3) := by decide +kernel
theorem dX9_fence_45 : decode cX9_fence 45 = .ok (.aload_n 0, 1) := by decide +kernel
theorem dX9_fence_46 : decode cX9_fence 46 = .ok (.getfield 87, 3) := by decide +kernel
theorem dX9_fence_49 : decode cX9_fence 49 = .ok (.iload_n 2, 1) := by decide +kernel
theorem dX9_fence_50 : decode cX9_fence 50 = .ok (.iaload, 1) := by decide +kernel
theorem dX9_fence_51 : decode cX9_fence 51 = .ok (.aload_n 0, 1) := by decide +kernel
theorem dX9_fence_52 : decode cX9_fence 52 = .ok (.getfield 87, 3) := by decide +kernel
theorem dX9_fence_55 : decode cX9_fence 55 = .ok (.iload_n 1, 1) := by decide +kernel
theorem dX9_fence_56 : decode cX9_fence 56 = .ok (.iload_n 2, 1) := by decide +kernel
theorem dX9_fence_57 : decode cX9_fence 57 = .ok (.isub, 1) := by decide +kernel
theorem dX9_fence_58 : decode cX9_fence 58 = .ok (.iload_n 3, 1) := by decide +kernel
theorem dX9_fence_59 : decode cX9_fence 59 = .ok (.isub, 1) := by decide +kernel
theorem dX9_fence_60 : decode cX9_fence 60 = .ok (.iaload, 1) := by decide +kernel
theorem dX9_fence_61 : decode cX9_fence 61 = .ok (.ixor, 1) := by decide +kernel
theorem dX9_fence_62 : decode cX9_fence 62 = .ok (.ifCond .ne 23, 3) := by decide +kernel
theorem dX9_fence_65 : decode cX9_fence 65 = .ok (.aload_n 0, 1) := by decide +kernel
theorem dX9_fence_66 : decode cX9_fence 66 = .ok (.getfield 19, 3) := by decide +kernel
theorem dX9_fence_69 : decode cX9_fence 69 = .ok (.iload_n 2, 1) := by decide +kernel
theorem dX9_fence_70 : decode cX9_fence 70 = .ok (.i2l, 1) := by decide +kernel
theorem dX9_fence_71 : decode cX9_fence 71 = .ok (.invokevirtual 223, 3) := by decide +kernel
theorem dX9_fence_74 : decode cX9_fence 74 = .ok (.aload_n 0, 1) := by decide +kernel
theorem dX9_fence_75 : decode cX9_fence 75 = .ok (.getfield 19, 3) := by decide +kernel
theorem dX9_fence_78 : decode cX9_fence 78 = .ok (.iload_n 3, 1) := by decide +kernel
theorem dX9_fence_79 : decode cX9_fence 79 = .ok (.i2l, 1) := by decide +kernel
theorem dX9_fence_80 : decode cX9_fence 80 = .ok (.invokevirtual 223, 3) := by decide +kernel
theorem dX9_fence_83 : decode cX9_fence 83 = .ok (.iconst 1, 1) := by decide +kernel
theorem dX9_fence_84 : decode cX9_fence 84 = .ok (.ireturn, 1) := by decide +kernel
theorem dX9_fence_85 : decode cX9_fence 85 = .ok (.iinc 3 1, 3) := by decide +kernel
theorem dX9_fence_88 : decode cX9_fence 88 = .ok (.goto (-55), 3) := by decide +kernel
theorem dX9_fence_91 : decode cX9_fence 91 = .ok (.iinc 2 1, 3) := by decide +kernel
theorem dX9_fence_94 : decode cX9_fence 94 = .ok (.goto (-68), 3) := by decide +kernel
theorem dX9_fence_97 : decode cX9_fence 97 = .ok (.iconst 0, 1) := by decide +kernel
theorem dX9_fence_98 : decode cX9_fence 98 = .ok (.ireturn, 1) := by decide +kernel
theorem dX9_countNimbers_0 : decode cX9_countNimbers 0 = .ok (.iconst 0, 1) := by decide +kernel
theorem dX9_countNimbers_1 : decode cX9_countNimbers 1 = .ok (.istore_n 2, 1) := by decide +kernel
theorem dX9_countNimbers_2 : decode cX9_countNimbers 2 = .ok (.iload_n 2, 1) := by decide +kernel
theorem dX9_countNimbers_3 : decode cX9_countNimbers 3 = .ok (.iload_n 1, 1) := by decide +kernel
theorem dX9_countNimbers_4 : decode cX9_countNimbers 4 = .ok (.if_icmp .gt 79, 3) := by decide +kernel
theorem dX9_countNimbers_7 : decode cX9_countNimbers 7 = .ok (.lconst 0, 1) := by decide +kernel
theorem dX9_countNimbers_8 : decode cX9_countNimbers 8 = .ok (.lstore_n 3, 1) := by decide +kernel
theorem dX9_countNimbers_9 : decode cX9_countNimbers 9 = .ok (.iconst 1, 1) := by decide +kernel
theorem dX9_countNimbers_10 : decode cX9_countNimbers 10 = .ok (.istore 5, 2) := by decide +kernel
theorem dX9_countNimbers_12 : decode cX9_countNimbers 12 = .ok (.iload 5, 2) := by decide +kernel
theorem dX9_countNimbers_14 : decode cX9_countNimbers 14 = .ok (.iconst 3, 1) := by decide +kernel
theorem dX9_countNimbers_15 : decode cX9_countNimbers 15 = .ok (.if_icmp .gt 52, 3) := by decide +kernel
theorem dX9_countNimbers_18 : decode cX9_countNimbers 18 = .ok (.iconst 0, 1) := by decide +kernel
theorem dX9_countNimbers_19 : decode cX9_countNimbers 19 = .ok (.istore 6, 2) := by decide +kernel
theorem dX9_countNimbers_21 : decode cX9_countNimbers 21 = .ok (.iload 6, 2) := by decide +kernel
theorem dX9_countNimbers_23 : decode cX9_countNimbers 23 = .ok (.iload 5, 2) := by decide +kernel
theorem dX9_countNimbers_25 : decode cX9_countNimbers 25 = .ok (.iadd, 1) := by decide +kernel
theorem dX9_countNimbers_26 : decode cX9_countNimbers 26 = .ok (.iload_n 2, 1) := by decide +kernel
theorem dX9_countNimbers_27 : decode cX9_countNimbers 27 = .ok (.if_icmp .gt 34, 3) := by decide +kernel
theorem dX9_countNimbers_30 : decode cX9_countNimbers 30 = .ok (.lload_n 3, 1) := by decide +kernel
theorem dX9_countNimbers_31 : decode cX9_countNimbers 31 = .ok (.lconst 1, 1) := by decide +kernel
theorem dX9_countNimbers_32 : decode cX9_countNimbers 32 = .ok (.aload_n 0, 1) := by decide +kernel
theorem dX9_countNimbers_33 : decode cX9_countNimbers 33 = .ok (.getfield 87, 3) := by decide +kernel
theorem dX9_countNimbers_36 : decode cX9_countNimbers 36 = .ok (.iload 6, 2) := by decide +kernel
theorem dX9_countNimbers_38 : decode cX9_countNimbers 38 = .ok (.iaload, 1) := by decide +kernel
theorem dX9_countNimbers_39 : decode cX9_countNimbers 39 = .ok (.aload_n 0, 1) := by decide +kernel
theorem dX9_countNimbers_40 : decode cX9_countNimbers 40 = .ok (.getfield 87, 3) := by decide +kernel
theorem dX9_countNimbers_43 : decode cX9_countNimbers 43 = .ok (.iload_n 2, 1) := by decide +kernel
theorem dX9_countNimbers_44 : decode cX9_countNimbers 44 = .ok (.iload 6, 2) := by decide +kernel
theorem dX9_countNimbers_46 : decode cX9_countNimbers 46 = .ok (.isub, 1) := by decide +kernel
theorem dX9_countNimbers_47 : decode cX9_countNimbers 47 = .ok (.iload 5, 2) := by decide +kernel
theorem dX9_countNimbers_49 : decode cX9_countNimbers 49 = .ok (.isub, 1) := by decide +kernel
theorem dX9_countNimbers_50 : decode cX9_countNimbers 50 = .ok (.iaload, 1) := by decide +kernel
theorem dX9_countNimbers_51 : decode cX9_countNimbers 51 = .ok (.ixor, 1) := by decide +kernel
theorem dX9_countNimbers_52 : decode cX9_countNimbers 52 = .ok (.lshl, 1) := by decide +kernel
theorem dX9_countNimbers_53 : decode cX9_countNimbers 53 = .ok (.lor, 1) := by decide +kernel
theorem dX9_countNimbers_54 : decode cX9_countNimbers 54 = .ok (.lstore_n 3, 1) := by decide +kernel
theorem dX9_countNimbers_55 : decode cX9_countNimbers 55 = .ok (.iinc 6 1, 3) := by decide +kernel
theorem dX9_countNimbers_58 : decode cX9_countNimbers 58 = .ok (.goto (-37), 3) := by decide +kernel
theorem dX9_countNimbers_61 : decode cX9_countNimbers 61 = .ok (.iinc 5 1, 3) := by decide +kernel
theorem dX9_countNimbers_64 : decode cX9_countNimbers 64 = .ok (.goto (-52), 3) := by decide +kernel
theorem dX9_countNimbers_67 : decode cX9_countNimbers 67 = .ok (.aload_n 0, 1) := by decide +kernel
theorem dX9_countNimbers_68 : decode cX9_countNimbers 68 = .ok (.getfield 87, 3) := by decide +kernel
theorem dX9_countNimbers_71 : decode cX9_countNimbers 71 = .ok (.iload_n 2, 1) := by decide +kernel
theorem dX9_countNimbers_72 : decode cX9_countNimbers 72 = .ok (.lload_n 3, 1) := by decide +kernel
theorem dX9_countNimbers_73 : decode cX9_countNimbers 73 = .ok (.invokestatic 409, 3) := by decide +kernel
theorem dX9_countNimbers_76 : decode cX9_countNimbers 76 = .ok (.iastore, 1) := by decide +kernel
theorem dX9_countNimbers_77 : decode cX9_countNimbers 77 = .ok (.iinc 2 1, 3) := by decide +kernel
theorem dX9_countNimbers_80 : decode cX9_countNimbers 80 = .ok (.goto (-78), 3) := by decide +kernel
theorem dX9_countNimbers_83 : decode cX9_countNimbers 83 = .ok (.return_, 1) := by decide +kernel
theorem dX9_firstNotIn_0 : decode cX9_firstNotIn 0 = .ok (.iconst 0, 1) := by decide +kernel
theorem dX9_firstNotIn_1 : decode cX9_firstNotIn 1 = .ok (.istore_n 2, 1) := by decide +kernel
theorem dX9_firstNotIn_2 : decode cX9_firstNotIn 2 = .ok (.iload_n 2, 1) := by decide +kernel
theorem dX9_firstNotIn_3 : decode cX9_firstNotIn 3 = .ok (.bipush 63, 2) := by decide +kernel
theorem dX9_firstNotIn_5 : decode cX9_firstNotIn 5 = .ok (.if_icmp .ge 19, 3) := by decide +kernel
theorem dX9_firstNotIn_8 : decode cX9_firstNotIn 8 = .ok (.lload_n 0, 1) := by decide +kernel
theorem dX9_firstNotIn_9 : decode cX9_firstNotIn 9 = .ok (.iload_n 2, 1) := by decide +kernel
theorem dX9_firstNotIn_10 : decode cX9_firstNotIn 10 = .ok (.lshr, 1) := by decide +kernel
theorem dX9_firstNotIn_11 : decode cX9_firstNotIn 11 = .ok (.lconst 1, 1) := by decide +kernel
theorem dX9_firstNotIn_12 : decode cX9_firstNotIn 12 = .ok (.land, 1) := by decide +kernel
theorem dX9_firstNotIn_13 : decode cX9_firstNotIn 13 = .ok (.lconst 0, 1) := by decide +kernel
theorem dX9_firstNotIn_14 : decode cX9_firstNotIn 14 = .ok (.lcmp, 1) := by decide +kernel
theorem dX9_firstNotIn_15 : decode cX9_firstNotIn 15 = .ok (.ifCond .eq 9, 3) := by decide +kernel
theorem dX9_firstNotIn_18 : decode cX9_firstNotIn 18 = .ok (.iinc 2 1, 3) := by decide +kernel
theorem dX9_firstNotIn_21 : decode cX9_firstNotIn 21 = .ok (.goto (-19), 3) := by decide +kernel
theorem dX9_firstNotIn_24 : decode cX9_firstNotIn 24 = .ok (.iload_n 2, 1) := by decide +kernel
theorem dX9_firstNotIn_25 : decode cX9_firstNotIn 25 = .ok (.ireturn, 1) := by decide +kernel
theorem dX9_law_0 : decode cX9_law 0 = .ok (.aload_n 0, 1) := by decide +kernel
theorem dX9_law_1 : decode cX9_law 1 = .ok (.getfield 60, 3) := by decide +kernel
theorem dX9_law_4 : decode cX9_law 4 = .ok (.aload_n 0, 1) := by decide +kernel
theorem dX9_law_5 : decode cX9_law 5 = .ok (.getfield 10, 3) := by decide +kernel
theorem dX9_law_8 : decode cX9_law 8 = .ok (.aload_n 0, 1) := by decide +kernel
theorem dX9_law_9 : decode cX9_law 9 = .ok (.getfield 54, 3) := by decide +kernel
theorem dX9_law_12 : decode cX9_law 12 = .ok (.invokevirtual 147, 3) := by decide +kernel
theorem dX9_law_15 : decode cX9_law 15 = .ok (.istore_n 1, 1) := by decide +kernel
theorem dX9_law_16 : decode cX9_law 16 = .ok (.aload_n 0, 1) := by decide +kernel
theorem dX9_law_17 : decode cX9_law 17 = .ok (.getfield 10, 3) := by decide +kernel
theorem dX9_law_20 : decode cX9_law 20 = .ok (.iconst 0, 1) := by decide +kernel
theorem dX9_law_21 : decode cX9_law 21 = .ok (.putfield 93, 3) := by decide +kernel
theorem dX9_law_24 : decode cX9_law 24 = .ok (.iload_n 1, 1) := by decide +kernel
theorem dX9_law_25 : decode cX9_law 25 = .ok (.iconst (-1), 1) := by decide +kernel
theorem dX9_law_26 : decode cX9_law 26 = .ok (.if_icmp .eq 9, 3) := by decide +kernel
theorem dX9_law_29 : decode cX9_law 29 = .ok (.sipush (-10000), 3) := by decide +kernel
theorem dX9_law_32 : decode cX9_law 32 = .ok (.iload_n 1, 1) := by decide +kernel
theorem dX9_law_33 : decode cX9_law 33 = .ok (.isub, 1) := by decide +kernel
theorem dX9_law_34 : decode cX9_law 34 = .ok (.ireturn, 1) := by decide +kernel
theorem dX9_law_35 : decode cX9_law 35 = .ok (.aload_n 0, 1) := by decide +kernel
theorem dX9_law_36 : decode cX9_law 36 = .ok (.aload_n 0, 1) := by decide +kernel
theorem dX9_law_37 : decode cX9_law 37 = .ok (.getfield 54, 3) := by decide +kernel
theorem dX9_law_40 : decode cX9_law 40 = .ok (.invokevirtual 412, 3) := by decide +kernel
theorem dX9_law_43 : decode cX9_law 43 = .ok (.istore_n 2, 1) := by decide +kernel
theorem dX9_law_44 : decode cX9_law 44 = .ok (.aload_n 0, 1) := by decide +kernel
theorem dX9_law_45 : decode cX9_law 45 = .ok (.aload_n 0, 1) := by decide +kernel
theorem dX9_law_46 : decode cX9_law 46 = .ok (.getfield 50, 3) := by decide +kernel
theorem dX9_law_49 : decode cX9_law 49 = .ok (.invokevirtual 412, 3) := by decide +kernel
theorem dX9_law_52 : decode cX9_law 52 = .ok (.istore_n 3, 1) := by decide +kernel
theorem dX9_law_53 : decode cX9_law 53 = .ok (.aload_n 0, 1) := by decide +kernel
theorem dX9_law_54 : decode cX9_law 54 = .ok (.getfield 19, 3) := by decide +kernel
theorem dX9_law_57 : decode cX9_law 57 = .ok (.invokevirtual 220, 3) := by decide +kernel
theorem dX9_law_60 : decode cX9_law 60 = .ok (.aload_n 0, 1) := by decide +kernel
theorem dX9_law_61 : decode cX9_law 61 = .ok (.getfield 19, 3) := by decide +kernel
theorem dX9_law_64 : decode cX9_law 64 = .ok (.iload_n 2, 1) := by decide +kernel
theorem dX9_law_65 : decode cX9_law 65 = .ok (.i2l, 1) := by decide +kernel
theorem dX9_law_66 : decode cX9_law 66 = .ok (.invokevirtual 223, 3) := by decide +kernel
theorem dX9_law_69 : decode cX9_law 69 = .ok (.aload_n 0, 1) := by decide +kernel
theorem dX9_law_70 : decode cX9_law 70 = .ok (.getfield 19, 3) := by decide +kernel
theorem dX9_law_73 : decode cX9_law 73 = .ok (.iload_n 3, 1) := by decide +kernel
theorem dX9_law_74 : decode cX9_law 74 = .ok (.i2l, 1) := by decide +kernel
theorem dX9_law_75 : decode cX9_law 75 = .ok (.invokevirtual 223, 3) := by decide +kernel
theorem dX9_law_78 : decode cX9_law 78 = .ok (.aload_n 0, 1) := by decide +kernel
theorem dX9_law_79 : decode cX9_law 79 = .ok (.getfield 54, 3) := by decide +kernel
theorem dX9_law_82 : decode cX9_law 82 = .ok (.aload_n 0, 1) := by decide +kernel
theorem dX9_law_83 : decode cX9_law 83 = .ok (.getfield 26, 3) := by decide +kernel
theorem dX9_law_86 : decode cX9_law 86 = .ok (.invokevirtual 179, 3) := by decide +kernel
theorem dX9_law_89 : decode cX9_law 89 = .ok (.astore 4, 2) := by decide +kernel
theorem dX9_law_91 : decode cX9_law 91 = .ok (.iconst 0, 1) := by decide +kernel
theorem dX9_law_92 : decode cX9_law 92 = .ok (.istore 5, 2) := by decide +kernel
theorem dX9_law_94 : decode cX9_law 94 = .ok (.iload 5, 2) := by decide +kernel
theorem dX9_law_96 : decode cX9_law 96 = .ok (.aload_n 0, 1) := by decide +kernel
theorem dX9_law_97 : decode cX9_law 97 = .ok (.getfield 26, 3) := by decide +kernel
theorem dX9_law_100 : decode cX9_law 100 = .ok (.getfield 146, 3) := by decide +kernel
theorem dX9_law_103 : decode cX9_law 103 = .ok (.if_icmp .ge 22, 3) := by decide +kernel
theorem dX9_law_106 : decode cX9_law 106 = .ok (.aload_n 0, 1) := by decide +kernel
theorem dX9_law_107 : decode cX9_law 107 = .ok (.getfield 19, 3) := by decide +kernel
theorem dX9_law_110 : decode cX9_law 110 = .ok (.aload 4, 2) := by decide +kernel
theorem dX9_law_112 : decode cX9_law 112 = .ok (.iload 5, 2) := by decide +kernel
theorem dX9_law_114 : decode cX9_law 114 = .ok (.iaload, 1) := by decide +kernel
theorem dX9_law_115 : decode cX9_law 115 = .ok (.i2l, 1) := by decide +kernel
theorem dX9_law_116 : decode cX9_law 116 = .ok (.invokevirtual 223, 3) := by decide +kernel
theorem dX9_law_119 : decode cX9_law 119 = .ok (.iinc 5 1, 3) := by decide +kernel
theorem dX9_law_122 : decode cX9_law 122 = .ok (.goto (-28), 3) := by decide +kernel
theorem dX9_law_125 : decode cX9_law 125 = .ok (.iload_n 2, 1) := by decide +kernel
theorem dX9_law_126 : decode cX9_law 126 = .ok (.iload_n 3, 1) := by decide +kernel
theorem dX9_law_127 : decode cX9_law 127 = .ok (.isub, 1) := by decide +kernel
theorem dX9_law_128 : decode cX9_law 128 = .ok (.ireturn, 1) := by decide +kernel
theorem dX9_onInNineYears_0 : decode cX9_onInNineYears 0 = .ok (.aload_n 0, 1) := by decide +kernel
theorem dX9_onInNineYears_1 : decode cX9_onInNineYears 1 = .ok (.getfield 33, 3) := by decide +kernel
theorem dX9_onInNineYears_4 : decode cX9_onInNineYears 4 = .ok (.aload_n 0, 1) := by decide +kernel
theorem dX9_onInNineYears_5 : decode cX9_onInNineYears 5 = .ok (.getfield 26, 3) := by decide +kernel
theorem dX9_onInNineYears_8 : decode cX9_onInNineYears 8 = .ok (.invokevirtual 134, 3) := by decide +kernel
theorem dX9_onInNineYears_11 : decode cX9_onInNineYears 11 = .ok (.aload_n 0, 1) := by decide +kernel
theorem dX9_onInNineYears_12 : decode cX9_onInNineYears 12 = .ok (.getfield 33, 3) := by decide +kernel
theorem dX9_onInNineYears_15 : decode cX9_onInNineYears 15 = .ok (.aload_n 1, 1) := by decide +kernel
theorem dX9_onInNineYears_16 : decode cX9_onInNineYears 16 = .ok (.bipush 9, 2) := by decide +kernel
theorem dX9_onInNineYears_18 : decode cX9_onInNineYears 18 = .ok (.invokevirtual 213, 3) := by decide +kernel
theorem dX9_onInNineYears_21 : decode cX9_onInNineYears 21 = .ok (.pop, 1) := by decide +kernel
theorem dX9_onInNineYears_22 : decode cX9_onInNineYears 22 = .ok (.aload_n 0, 1) := by decide +kernel
theorem dX9_onInNineYears_23 : decode cX9_onInNineYears 23 = .ok (.getfield 33, 3) := by decide +kernel
theorem dX9_onInNineYears_26 : decode cX9_onInNineYears 26 = .ok (.invokevirtual 226, 3) := by decide +kernel
theorem dX9_onInNineYears_29 : decode cX9_onInNineYears 29 = .ok (.ireturn, 1) := by decide +kernel
theorem dX9_rests_0 : decode cX9_rests 0 = .ok (.iload_n 1, 1) := by decide +kernel
theorem dX9_rests_1 : decode cX9_rests 1 = .ok (.ifCond .lt 9, 3) := by decide +kernel
theorem dX9_rests_4 : decode cX9_rests 4 = .ok (.iload_n 1, 1) := by decide +kernel
theorem dX9_rests_5 : decode cX9_rests 5 = .ok (.bipush 20, 2) := by decide +kernel
theorem dX9_rests_7 : decode cX9_rests 7 = .ok (.if_icmp .le 5, 3) := by decide +kernel
theorem dX9_rests_10 : decode cX9_rests 10 = .ok (.iconst (-1), 1) := by decide +kernel
theorem dX9_rests_11 : decode cX9_rests 11 = .ok (.ireturn, 1) := by decide +kernel
theorem dX9_rests_12 : decode cX9_rests 12 = .ok (.iconst 0, 1) := by decide +kernel
theorem dX9_rests_13 : decode cX9_rests 13 = .ok (.istore_n 2, 1) := by decide +kernel
theorem dX9_rests_14 : decode cX9_rests 14 = .ok (.aload_n 0, 1) := by decide +kernel
theorem dX9_rests_15 : decode cX9_rests 15 = .ok (.getfield 19, 3) := by decide +kernel
theorem dX9_rests_18 : decode cX9_rests 18 = .ok (.invokevirtual 220, 3) := by decide +kernel
theorem dX9_rests_21 : decode cX9_rests 21 = .ok (.iconst 0, 1) := by decide +kernel
theorem dX9_rests_22 : decode cX9_rests 22 = .ok (.istore_n 3, 1) := by decide +kernel
theorem dX9_rests_23 : decode cX9_rests 23 = .ok (.iload_n 3, 1) := by decide +kernel
theorem dX9_rests_24 : decode cX9_rests 24 = .ok (.bipush 10, 2) := by decide +kernel
theorem dX9_rests_26 : decode cX9_rests 26 = .ok (.if_icmp .ge 71, 3) := by decide +kernel
theorem dX9_rests_29 : decode cX9_rests 29 = .ok (.iconst 0, 1) := by decide +kernel
theorem dX9_rests_30 : decode cX9_rests 30 = .ok (.istore 4, 2) := by decide +kernel
theorem dX9_rests_32 : decode cX9_rests 32 = .ok (.iload 4, 2) := by decide +kernel
theorem dX9_rests_34 : decode cX9_rests 34 = .ok (.bipush 10, 2) := by decide +kernel
theorem dX9_rests_36 : decode cX9_rests 36 = .ok (.if_icmp .ge 55, 3) := by decide +kernel
theorem dX9_rests_39 : decode cX9_rests 39 = .ok (.iload_n 3, 1) := by decide +kernel
theorem dX9_rests_40 : decode cX9_rests 40 = .ok (.iload 4, 2) := by decide +kernel
theorem dX9_rests_42 : decode cX9_rests 42 = .ok (.iload_n 1, 1) := by decide +kernel
theorem dX9_rests_43 : decode cX9_rests 43 = .ok (.invokestatic 415, 3) := by decide +kernel
theorem dX9_rests_46 : decode cX9_rests 46 = .ok (.ifCond .eq 39, 3) := by decide +kernel
theorem dX9_rests_49 : decode cX9_rests 49 = .ok (.iload 4, 2) := by decide +kernel
theorem dX9_rests_51 : decode cX9_rests 51 = .ok (.iload_n 3, 1) := by decide +kernel
theorem dX9_rests_52 : decode cX9_rests 52 = .ok (.iload_n 1, 1) := by decide +kernel
theorem dX9_rests_53 : decode cX9_rests 53 = .ok (.invokestatic 415, 3) := by decide +kernel
theorem dX9_rests_56 : decode cX9_rests 56 = .ok (.ifCond .eq 29, 3) := by decide +kernel
theorem dX9_rests_59 : decode cX9_rests 59 = .ok (.iload_n 2, 1) := by decide +kernel
theorem dX9_rests_60 : decode cX9_rests 60 = .ok (.ifCond .ne 22, 3) := by decide +kernel
theorem dX9_rests_63 : decode cX9_rests 63 = .ok (.aload_n 0, 1) := by decide +kernel
theorem dX9_rests_64 : decode cX9_rests 64 = .ok (.getfield 19, 3) := by decide +kernel
theorem dX9_rests_67 : decode cX9_rests 67 = .ok (.iload_n 3, 1) := by decide +kernel
theorem dX9_rests_68 : decode cX9_rests 68 = .ok (.i2l, 1) := by decide +kernel
theorem dX9_rests_69 : decode cX9_rests 69 = .ok (.invokevirtual 223, 3) := by decide +kernel
theorem dX9_rests_72 : decode cX9_rests 72 = .ok (.aload_n 0, 1) := by decide +kernel
theorem dX9_rests_73 : decode cX9_rests 73 = .ok (.getfield 19, 3) := by decide +kernel
theorem dX9_rests_76 : decode cX9_rests 76 = .ok (.iload 4, 2) := by decide +kernel
theorem dX9_rests_78 : decode cX9_rests 78 = .ok (.i2l, 1) := by decide +kernel
theorem dX9_rests_79 : decode cX9_rests 79 = .ok (.invokevirtual 223, 3) := by decide +kernel
theorem dX9_rests_82 : decode cX9_rests 82 = .ok (.iinc 2 1, 3) := by decide +kernel
theorem dX9_rests_85 : decode cX9_rests 85 = .ok (.iinc 4 1, 3) := by decide +kernel
theorem dX9_rests_88 : decode cX9_rests 88 = .ok (.goto (-56), 3) := by decide +kernel
theorem dX9_rests_91 : decode cX9_rests 91 = .ok (.iinc 3 1, 3) := by decide +kernel
theorem dX9_rests_94 : decode cX9_rests 94 = .ok (.goto (-71), 3) := by decide +kernel
theorem dX9_rests_97 : decode cX9_rests 97 = .ok (.iload_n 2, 1) := by decide +kernel
theorem dX9_rests_98 : decode cX9_rests 98 = .ok (.ireturn, 1) := by decide +kernel
theorem dX9_isBestBeside_0 : decode cX9_isBestBeside 0 = .ok (.iconst 0, 1) := by decide +kernel
theorem dX9_isBestBeside_1 : decode cX9_isBestBeside 1 = .ok (.istore_n 3, 1) := by decide +kernel
theorem dX9_isBestBeside_2 : decode cX9_isBestBeside 2 = .ok (.iload_n 3, 1) := by decide +kernel
theorem dX9_isBestBeside_3 : decode cX9_isBestBeside 3 = .ok (.bipush 10, 2) := by decide +kernel
theorem dX9_isBestBeside_5 : decode cX9_isBestBeside 5 = .ok (.if_icmp .ge 26, 3) := by decide +kernel
theorem dX9_isBestBeside_8 : decode cX9_isBestBeside 8 = .ok (.iload_n 3, 1) := by decide +kernel
theorem dX9_isBestBeside_9 : decode cX9_isBestBeside 9 = .ok (.iload_n 1, 1) := by decide +kernel
theorem dX9_isBestBeside_10 : decode cX9_isBestBeside 10 = .ok (.iload_n 2, 1) := by decide +kernel
theorem dX9_isBestBeside_11 : decode cX9_isBestBeside 11 = .ok (.invokestatic 418, 3) := by decide +kernel
theorem dX9_isBestBeside_14 : decode cX9_isBestBeside 14 = .ok (.iload_n 0, 1) := by decide +kernel
theorem dX9_isBestBeside_15 : decode cX9_isBestBeside 15 = .ok (.iload_n 1, 1) := by decide +kernel
theorem dX9_isBestBeside_16 : decode cX9_isBestBeside 16 = .ok (.iload_n 2, 1) := by decide +kernel
theorem dX9_isBestBeside_17 : decode cX9_isBestBeside 17 = .ok (.invokestatic 418, 3) := by decide +kernel
theorem dX9_isBestBeside_20 : decode cX9_isBestBeside 20 = .ok (.if_icmp .le 5, 3) := by decide +kernel
theorem dX9_isBestBeside_23 : decode cX9_isBestBeside 23 = .ok (.iconst 0, 1) := by decide +kernel
theorem dX9_isBestBeside_24 : decode cX9_isBestBeside 24 = .ok (.ireturn, 1) := by decide +kernel
theorem dX9_isBestBeside_25 : decode cX9_isBestBeside 25 = .ok (.iinc 3 1, 3) := by decide +kernel
theorem dX9_isBestBeside_28 : decode cX9_isBestBeside 28 = .ok (.goto (-26), 3) := by decide +kernel
theorem dX9_isBestBeside_31 : decode cX9_isBestBeside 31 = .ok (.iconst 1, 1) := by decide +kernel
theorem dX9_isBestBeside_32 : decode cX9_isBestBeside 32 = .ok (.ireturn, 1) := by decide +kernel
theorem dX9_gain_0 : decode cX9_gain 0 = .ok (.iload_n 0, 1) := by decide +kernel
theorem dX9_gain_1 : decode cX9_gain 1 = .ok (.iload_n 1, 1) := by decide +kernel
theorem dX9_gain_2 : decode cX9_gain 2 = .ok (.iadd, 1) := by decide +kernel
theorem dX9_gain_3 : decode cX9_gain 3 = .ok (.istore_n 3, 1) := by decide +kernel
theorem dX9_gain_4 : decode cX9_gain 4 = .ok (.iload_n 3, 1) := by decide +kernel
theorem dX9_gain_5 : decode cX9_gain 5 = .ok (.iconst 5, 1) := by decide +kernel
theorem dX9_gain_6 : decode cX9_gain 6 = .ok (.if_icmp .lt 7, 3) := by decide +kernel
theorem dX9_gain_9 : decode cX9_gain 9 = .ok (.iload_n 2, 1) := by decide +kernel
theorem dX9_gain_10 : decode cX9_gain 10 = .ok (.goto 4, 3) := by decide +kernel
theorem dX9_gain_13 : decode cX9_gain 13 = .ok (.iconst 0, 1) := by decide +kernel
theorem dX9_gain_14 : decode cX9_gain 14 = .ok (.iload_n 0, 1) := by decide +kernel
theorem dX9_gain_15 : decode cX9_gain 15 = .ok (.isub, 1) := by decide +kernel
theorem dX9_gain_16 : decode cX9_gain 16 = .ok (.iconst 0, 1) := by decide +kernel
theorem dX9_gain_17 : decode cX9_gain 17 = .ok (.iload_n 3, 1) := by decide +kernel
theorem dX9_gain_18 : decode cX9_gain 18 = .ok (.bipush 9, 2) := by decide +kernel
theorem dX9_gain_20 : decode cX9_gain 20 = .ok (.isub, 1) := by decide +kernel
theorem dX9_gain_21 : decode cX9_gain 21 = .ok (.invokestatic 210, 3) := by decide +kernel
theorem dX9_gain_24 : decode cX9_gain 24 = .ok (.isub, 1) := by decide +kernel
theorem dX9_gain_25 : decode cX9_gain 25 = .ok (.ireturn, 1) := by decide +kernel
theorem dX9_drawn_0 : decode cX9_drawn 0 = .ok (.iload_n 2, 1) := by decide +kernel
theorem dX9_drawn_1 : decode cX9_drawn 1 = .ok (.iconst 1, 1) := by decide +kernel
theorem dX9_drawn_2 : decode cX9_drawn 2 = .ok (.if_icmp .lt 9, 3) := by decide +kernel
theorem dX9_drawn_5 : decode cX9_drawn 5 = .ok (.iload_n 2, 1) := by decide +kernel
theorem dX9_drawn_6 : decode cX9_drawn 6 = .ok (.bipush 60, 2) := by decide +kernel
theorem dX9_drawn_8 : decode cX9_drawn 8 = .ok (.if_icmp .le 5, 3) := by decide +kernel
theorem dX9_drawn_11 : decode cX9_drawn 11 = .ok (.iconst (-1), 1) := by decide +kernel
theorem dX9_drawn_12 : decode cX9_drawn 12 = .ok (.ireturn, 1) := by decide +kernel
theorem dX9_drawn_13 : decode cX9_drawn 13 = .ok (.new 421, 3) := by decide +kernel
theorem dX9_drawn_16 : decode cX9_drawn 16 = .ok (.dup, 1) := by decide +kernel
theorem dX9_drawn_17 : decode cX9_drawn 17 = .ok (.iload_n 1, 1) := by decide +kernel
theorem dX9_drawn_18 : decode cX9_drawn 18 = .ok (.invokespecial 423, 3) := by decide +kernel
theorem dX9_drawn_21 : decode cX9_drawn 21 = .ok (.astore_n 3, 1) := by decide +kernel
theorem dX9_drawn_22 : decode cX9_drawn 22 = .ok (.iconst 0, 1) := by decide +kernel
theorem dX9_drawn_23 : decode cX9_drawn 23 = .ok (.istore 4, 2) := by decide +kernel
theorem dX9_drawn_25 : decode cX9_drawn 25 = .ok (.aload_n 0, 1) := by decide +kernel
theorem dX9_drawn_26 : decode cX9_drawn 26 = .ok (.getfield 33, 3) := by decide +kernel
theorem dX9_drawn_29 : decode cX9_drawn 29 = .ok (.aload_n 0, 1) := by decide +kernel
theorem dX9_drawn_30 : decode cX9_drawn 30 = .ok (.getfield 26, 3) := by decide +kernel
theorem dX9_drawn_33 : decode cX9_drawn 33 = .ok (.invokevirtual 134, 3) := by decide +kernel
theorem dX9_drawn_36 : decode cX9_drawn 36 = .ok (.iconst 0, 1) := by decide +kernel
theorem dX9_drawn_37 : decode cX9_drawn 37 = .ok (.istore 5, 2) := by decide +kernel
theorem dX9_drawn_39 : decode cX9_drawn 39 = .ok (.iload 5, 2) := by decide +kernel
theorem dX9_drawn_41 : decode cX9_drawn 41 = .ok (.iload_n 2, 1) := by decide +kernel
theorem dX9_drawn_42 : decode cX9_drawn 42 = .ok (.if_icmp .ge 93, 3) := by decide +kernel
theorem dX9_drawn_45 : decode cX9_drawn 45 = .ok (.aload_n 3, 1) := by decide +kernel
theorem dX9_drawn_46 : decode cX9_drawn 46 = .ok (.iconst 4, 1) := by decide +kernel
theorem dX9_drawn_47 : decode cX9_drawn 47 = .ok (.invokevirtual 424, 3) := by decide +kernel
theorem dX9_drawn_50 : decode cX9_drawn 50 = .ok (.istore 6, 2) := by decide +kernel
theorem dX9_drawn_52 : decode cX9_drawn 52 = .ok (.iload 6, 2) := by decide +kernel
theorem dX9_drawn_54 : decode cX9_drawn 54 = .ok (.iconst 2, 1) := by decide +kernel
theorem dX9_drawn_55 : decode cX9_drawn 55 = .ok (.if_icmp .ge 22, 3) := by decide +kernel
theorem dX9_drawn_58 : decode cX9_drawn 58 = .ok (.iload 4, 2) := by decide +kernel
theorem dX9_drawn_60 : decode cX9_drawn 60 = .ok (.aload_n 0, 1) := by decide +kernel
theorem dX9_drawn_61 : decode cX9_drawn 61 = .ok (.getfield 33, 3) := by decide +kernel
theorem dX9_drawn_64 : decode cX9_drawn 64 = .ok (.aload_n 0, 1) := by decide +kernel
theorem dX9_drawn_65 : decode cX9_drawn 65 = .ok (.getfield 50, 3) := by decide +kernel
theorem dX9_drawn_68 : decode cX9_drawn 68 = .ok (.invokevirtual 298, 3) := by decide +kernel
theorem dX9_drawn_71 : decode cX9_drawn 71 = .ok (.iadd, 1) := by decide +kernel
theorem dX9_drawn_72 : decode cX9_drawn 72 = .ok (.istore 4, 2) := by decide +kernel
theorem dX9_drawn_74 : decode cX9_drawn 74 = .ok (.goto 55, 3) := by decide +kernel
theorem dX9_drawn_77 : decode cX9_drawn 77 = .ok (.iload 6, 2) := by decide +kernel
theorem dX9_drawn_79 : decode cX9_drawn 79 = .ok (.iconst 2, 1) := by decide +kernel
theorem dX9_drawn_80 : decode cX9_drawn 80 = .ok (.if_icmp .ne 11, 3) := by decide +kernel
theorem dX9_drawn_83 : decode cX9_drawn 83 = .ok (.aload_n 0, 1) := by decide +kernel
theorem dX9_drawn_84 : decode cX9_drawn 84 = .ok (.aload_n 3, 1) := by decide +kernel
theorem dX9_drawn_85 : decode cX9_drawn 85 = .ok (.invokevirtual 427, 3) := by decide +kernel
theorem dX9_drawn_88 : decode cX9_drawn 88 = .ok (.goto 41, 3) := by decide +kernel
theorem dX9_drawn_91 : decode cX9_drawn 91 = .ok (.aload_n 0, 1) := by decide +kernel
theorem dX9_drawn_92 : decode cX9_drawn 92 = .ok (.getfield 33, 3) := by decide +kernel
theorem dX9_drawn_95 : decode cX9_drawn 95 = .ok (.getfield 146, 3) := by decide +kernel
theorem dX9_drawn_98 : decode cX9_drawn 98 = .ok (.ifCond .le 31, 3) := by decide +kernel
theorem dX9_drawn_101 : decode cX9_drawn 101 = .ok (.aload_n 3, 1) := by decide +kernel
theorem dX9_drawn_102 : decode cX9_drawn 102 = .ok (.aload_n 0, 1) := by decide +kernel
theorem dX9_drawn_103 : decode cX9_drawn 103 = .ok (.getfield 33, 3) := by decide +kernel
theorem dX9_drawn_106 : decode cX9_drawn 106 = .ok (.getfield 146, 3) := by decide +kernel
theorem dX9_drawn_109 : decode cX9_drawn 109 = .ok (.invokevirtual 424, 3) := by decide +kernel
theorem dX9_drawn_112 : decode cX9_drawn 112 = .ok (.istore 7, 2) := by decide +kernel
theorem dX9_drawn_114 : decode cX9_drawn 114 = .ok (.aload_n 0, 1) := by decide +kernel
theorem dX9_drawn_115 : decode cX9_drawn 115 = .ok (.getfield 33, 3) := by decide +kernel
theorem dX9_drawn_118 : decode cX9_drawn 118 = .ok (.iload 7, 2) := by decide +kernel
theorem dX9_drawn_120 : decode cX9_drawn 120 = .ok (.aload_n 3, 1) := by decide +kernel
theorem dX9_drawn_121 : decode cX9_drawn 121 = .ok (.iconst 4, 1) := by decide +kernel
theorem dX9_drawn_122 : decode cX9_drawn 122 = .ok (.invokevirtual 424, 3) := by decide +kernel
theorem dX9_drawn_125 : decode cX9_drawn 125 = .ok (.invokevirtual 242, 3) := by decide +kernel
theorem dX9_drawn_128 : decode cX9_drawn 128 = .ok (.pop, 1) := by decide +kernel
theorem dX9_drawn_129 : decode cX9_drawn 129 = .ok (.iinc 5 1, 3) := by decide +kernel
theorem dX9_drawn_132 : decode cX9_drawn 132 = .ok (.goto (-93), 3) := by decide +kernel
theorem dX9_drawn_135 : decode cX9_drawn 135 = .ok (.aload_n 0, 1) := by decide +kernel
theorem dX9_drawn_136 : decode cX9_drawn 136 = .ok (.getfield 19, 3) := by decide +kernel
theorem dX9_drawn_139 : decode cX9_drawn 139 = .ok (.invokevirtual 220, 3) := by decide +kernel
theorem dX9_drawn_142 : decode cX9_drawn 142 = .ok (.aload_n 0, 1) := by decide +kernel
theorem dX9_drawn_143 : decode cX9_drawn 143 = .ok (.getfield 19, 3) := by decide +kernel
theorem dX9_drawn_146 : decode cX9_drawn 146 = .ok (.aload_n 0, 1) := by decide +kernel
theorem dX9_drawn_147 : decode cX9_drawn 147 = .ok (.getfield 33, 3) := by decide +kernel
theorem dX9_drawn_150 : decode cX9_drawn 150 = .ok (.getfield 146, 3) := by decide +kernel
theorem dX9_drawn_153 : decode cX9_drawn 153 = .ok (.i2l, 1) := by decide +kernel
theorem dX9_drawn_154 : decode cX9_drawn 154 = .ok (.invokevirtual 223, 3) := by decide +kernel
theorem dX9_drawn_157 : decode cX9_drawn 157 = .ok (.aload_n 0, 1) := by decide +kernel
theorem dX9_drawn_158 : decode cX9_drawn 158 = .ok (.getfield 19, 3) := by decide +kernel
theorem dX9_drawn_161 : decode cX9_drawn 161 = .ok (.iload 4, 2) := by decide +kernel
theorem dX9_drawn_163 : decode cX9_drawn 163 = .ok (.i2l, 1) := by decide +kernel
theorem dX9_drawn_164 : decode cX9_drawn 164 = .ok (.invokevirtual 223, 3) := by decide +kernel
theorem dX9_drawn_167 : decode cX9_drawn 167 = .ok (.aload_n 0, 1) := by decide +kernel
theorem dX9_drawn_168 : decode cX9_drawn 168 = .ok (.getfield 33, 3) := by decide +kernel
theorem dX9_drawn_171 : decode cX9_drawn 171 = .ok (.invokevirtual 226, 3) := by decide +kernel
theorem dX9_drawn_174 : decode cX9_drawn 174 = .ok (.ireturn, 1) := by decide +kernel
theorem dX9_pitchDrawn_0 : decode cX9_pitchDrawn 0 = .ok (.aload_n 1, 1) := by decide +kernel
theorem dX9_pitchDrawn_1 : decode cX9_pitchDrawn 1 = .ok (.aload_n 0, 1) := by decide +kernel
theorem dX9_pitchDrawn_2 : decode cX9_pitchDrawn 2 = .ok (.getfield 33, 3) := by decide +kernel
theorem dX9_pitchDrawn_5 : decode cX9_pitchDrawn 5 = .ok (.invokevirtual 118, 3) := by decide +kernel
theorem dX9_pitchDrawn_8 : decode cX9_pitchDrawn 8 = .ok (.invokevirtual 424, 3) := by decide +kernel
theorem dX9_pitchDrawn_11 : decode cX9_pitchDrawn 11 = .ok (.istore_n 2, 1) := by decide +kernel
theorem dX9_pitchDrawn_12 : decode cX9_pitchDrawn 12 = .ok (.iconst 1, 1) := by decide +kernel
theorem dX9_pitchDrawn_13 : decode cX9_pitchDrawn 13 = .ok (.aload_n 1, 1) := by decide +kernel
theorem dX9_pitchDrawn_14 : decode cX9_pitchDrawn 14 = .ok (.iconst 3, 1) := by decide +kernel
theorem dX9_pitchDrawn_15 : decode cX9_pitchDrawn 15 = .ok (.invokevirtual 424, 3) := by decide +kernel
theorem dX9_pitchDrawn_18 : decode cX9_pitchDrawn 18 = .ok (.iadd, 1) := by decide +kernel
theorem dX9_pitchDrawn_19 : decode cX9_pitchDrawn 19 = .ok (.istore_n 3, 1) := by decide +kernel
theorem dX9_pitchDrawn_20 : decode cX9_pitchDrawn 20 = .ok (.iconst 1, 1) := by decide +kernel
theorem dX9_pitchDrawn_21 : decode cX9_pitchDrawn 21 = .ok (.aload_n 1, 1) := by decide +kernel
theorem dX9_pitchDrawn_22 : decode cX9_pitchDrawn 22 = .ok (.iconst 3, 1) := by decide +kernel
theorem dX9_pitchDrawn_23 : decode cX9_pitchDrawn 23 = .ok (.invokevirtual 424, 3) := by decide +kernel
theorem dX9_pitchDrawn_26 : decode cX9_pitchDrawn 26 = .ok (.iadd, 1) := by decide +kernel
theorem dX9_pitchDrawn_27 : decode cX9_pitchDrawn 27 = .ok (.istore 4, 2) := by decide +kernel
theorem dX9_pitchDrawn_29 : decode cX9_pitchDrawn 29 = .ok (.aload_n 0, 1) := by decide +kernel
theorem dX9_pitchDrawn_30 : decode cX9_pitchDrawn 30 = .ok (.getfield 33, 3) := by decide +kernel
theorem dX9_pitchDrawn_33 : decode cX9_pitchDrawn 33 = .ok (.iload_n 2, 1) := by decide +kernel
theorem dX9_pitchDrawn_34 : decode cX9_pitchDrawn 34 = .ok (.iload_n 3, 1) := by decide +kernel
theorem dX9_pitchDrawn_35 : decode cX9_pitchDrawn 35 = .ok (.iload 4, 2) := by decide +kernel
theorem dX9_pitchDrawn_37 : decode cX9_pitchDrawn 37 = .ok (.iconst 1, 1) := by decide +kernel
theorem dX9_pitchDrawn_38 : decode cX9_pitchDrawn 38 = .ok (.aload_n 1, 1) := by decide +kernel
theorem dX9_pitchDrawn_39 : decode cX9_pitchDrawn 39 = .ok (.bipush 9, 2) := by decide +kernel
theorem dX9_pitchDrawn_41 : decode cX9_pitchDrawn 41 = .ok (.invokevirtual 424, 3) := by decide +kernel
theorem dX9_pitchDrawn_44 : decode cX9_pitchDrawn 44 = .ok (.iadd, 1) := by decide +kernel
theorem dX9_pitchDrawn_45 : decode cX9_pitchDrawn 45 = .ok (.iconst 0, 1) := by decide +kernel
theorem dX9_pitchDrawn_46 : decode cX9_pitchDrawn 46 = .ok (.invokevirtual 229, 3) := by decide +kernel
theorem dX9_pitchDrawn_49 : decode cX9_pitchDrawn 49 = .ok (.pop, 1) := by decide +kernel
theorem dX9_pitchDrawn_50 : decode cX9_pitchDrawn 50 = .ok (.return_, 1) := by decide +kernel
theorem dX9_keep_0 : decode cX9_keep 0 = .ok (.iload_n 1, 1) := by decide +kernel
theorem dX9_keep_1 : decode cX9_keep 1 = .ok (.ifCond .lt 8, 3) := by decide +kernel
theorem dX9_keep_4 : decode cX9_keep 4 = .ok (.iload_n 1, 1) := by decide +kernel
theorem dX9_keep_5 : decode cX9_keep 5 = .ok (.iconst 3, 1) := by decide +kernel
theorem dX9_keep_6 : decode cX9_keep 6 = .ok (.if_icmp .lt 5, 3) := by decide +kernel
theorem dX9_keep_9 : decode cX9_keep 9 = .ok (.iconst 0, 1) := by decide +kernel
theorem dX9_keep_10 : decode cX9_keep 10 = .ok (.ireturn, 1) := by decide +kernel
theorem dX9_keep_11 : decode cX9_keep 11 = .ok (.aload_n 0, 1) := by decide +kernel
theorem dX9_keep_12 : decode cX9_keep 12 = .ok (.getfield 43, 3) := by decide +kernel
theorem dX9_keep_15 : decode cX9_keep 15 = .ok (.iload_n 1, 1) := by decide +kernel
theorem dX9_keep_16 : decode cX9_keep 16 = .ok (.aaload, 1) := by decide +kernel
theorem dX9_keep_17 : decode cX9_keep 17 = .ok (.aload_n 0, 1) := by decide +kernel
theorem dX9_keep_18 : decode cX9_keep 18 = .ok (.getfield 26, 3) := by decide +kernel
theorem dX9_keep_21 : decode cX9_keep 21 = .ok (.invokevirtual 134, 3) := by decide +kernel
theorem dX9_keep_24 : decode cX9_keep 24 = .ok (.aload_n 0, 1) := by decide +kernel
theorem dX9_keep_25 : decode cX9_keep 25 = .ok (.dup, 1) := by decide +kernel
theorem dX9_keep_26 : decode cX9_keep 26 = .ok (.getfield 123, 3) := by decide +kernel
theorem dX9_keep_29 : decode cX9_keep 29 = .ok (.iconst 1, 1) := by decide +kernel
theorem dX9_keep_30 : decode cX9_keep 30 = .ok (.iload_n 1, 1) := by decide +kernel
theorem dX9_keep_31 : decode cX9_keep 31 = .ok (.ishl, 1) := by decide +kernel
theorem dX9_keep_32 : decode cX9_keep 32 = .ok (.ior, 1) := by decide +kernel
theorem dX9_keep_33 : decode cX9_keep 33 = .ok (.putfield 123, 3) := by decide +kernel
theorem dX9_keep_36 : decode cX9_keep 36 = .ok (.iconst 1, 1) := by decide +kernel
theorem dX9_keep_37 : decode cX9_keep 37 = .ok (.ireturn, 1) := by decide +kernel
theorem dX9_again_0 : decode cX9_again 0 = .ok (.iload_n 1, 1) := by decide +kernel
theorem dX9_again_1 : decode cX9_again 1 = .ok (.ifCond .lt 19, 3) := by decide +kernel
theorem dX9_again_4 : decode cX9_again 4 = .ok (.iload_n 1, 1) := by decide +kernel
theorem dX9_again_5 : decode cX9_again 5 = .ok (.iconst 3, 1) := by decide +kernel
theorem dX9_again_6 : decode cX9_again 6 = .ok (.if_icmp .ge 14, 3) := by decide +kernel
theorem dX9_again_9 : decode cX9_again 9 = .ok (.aload_n 0, 1) := by decide +kernel
theorem dX9_again_10 : decode cX9_again 10 = .ok (.getfield 123, 3) := by decide +kernel
theorem dX9_again_13 : decode cX9_again 13 = .ok (.iload_n 1, 1) := by decide +kernel
theorem dX9_again_14 : decode cX9_again 14 = .ok (.invokestatic 291, 3) := by decide +kernel
theorem dX9_again_17 : decode cX9_again 17 = .ok (.ifCond .ne 5, 3) := by decide +kernel
theorem dX9_again_20 : decode cX9_again 20 = .ok (.iconst 0, 1) := by decide +kernel
theorem dX9_again_21 : decode cX9_again 21 = .ok (.ireturn, 1) := by decide +kernel
theorem dX9_again_22 : decode cX9_again 22 = .ok (.aload_n 0, 1) := by decide +kernel
theorem dX9_again_23 : decode cX9_again 23 = .ok (.getfield 26, 3) := by decide +kernel
theorem dX9_again_26 : decode cX9_again 26 = .ok (.aload_n 0, 1) := by decide +kernel
theorem dX9_again_27 : decode cX9_again 27 = .ok (.getfield 43, 3) := by decide +kernel
theorem dX9_again_30 : decode cX9_again 30 = .ok (.iload_n 1, 1) := by decide +kernel
theorem dX9_again_31 : decode cX9_again 31 = .ok (.aaload, 1) := by decide +kernel
theorem dX9_again_32 : decode cX9_again 32 = .ok (.invokevirtual 134, 3) := by decide +kernel
theorem dX9_again_35 : decode cX9_again 35 = .ok (.aload_n 0, 1) := by decide +kernel
theorem dX9_again_36 : decode cX9_again 36 = .ok (.getfield 39, 3) := by decide +kernel
theorem dX9_again_39 : decode cX9_again 39 = .ok (.invokevirtual 121, 3) := by decide +kernel
theorem dX9_again_42 : decode cX9_again 42 = .ok (.iconst 1, 1) := by decide +kernel
theorem dX9_again_43 : decode cX9_again 43 = .ok (.ireturn, 1) := by decide +kernel
theorem dX9_count_0 : decode cX9_count 0 = .ok (.iload_n 1, 1) := by decide +kernel
theorem dX9_count_1 : decode cX9_count 1 = .ok (.tableswitch 159 0 11 #[63, 71, 79, 87, 95, 103, 111, 119, 127, 135, 143, 151], 63) := by decide +kernel
theorem dX9_count_64 : decode cX9_count 64 = .ok (.aload_n 0, 1) := by decide +kernel
theorem dX9_count_65 : decode cX9_count 65 = .ok (.getfield 26, 3) := by decide +kernel
theorem dX9_count_68 : decode cX9_count 68 = .ok (.getfield 326, 3) := by decide +kernel
theorem dX9_count_71 : decode cX9_count 71 = .ok (.ireturn, 1) := by decide +kernel
theorem dX9_count_72 : decode cX9_count 72 = .ok (.aload_n 0, 1) := by decide +kernel
theorem dX9_count_73 : decode cX9_count 73 = .ok (.getfield 26, 3) := by decide +kernel
theorem dX9_count_76 : decode cX9_count 76 = .ok (.getfield 329, 3) := by decide +kernel
theorem dX9_count_79 : decode cX9_count 79 = .ok (.ireturn, 1) := by decide +kernel
theorem dX9_count_80 : decode cX9_count 80 = .ok (.aload_n 0, 1) := by decide +kernel
theorem dX9_count_81 : decode cX9_count 81 = .ok (.getfield 26, 3) := by decide +kernel
theorem dX9_count_84 : decode cX9_count 84 = .ok (.getfield 146, 3) := by decide +kernel
theorem dX9_count_87 : decode cX9_count 87 = .ok (.ireturn, 1) := by decide +kernel
theorem dX9_count_88 : decode cX9_count 88 = .ok (.aload_n 0, 1) := by decide +kernel
theorem dX9_count_89 : decode cX9_count 89 = .ok (.getfield 26, 3) := by decide +kernel
theorem dX9_count_92 : decode cX9_count 92 = .ok (.invokevirtual 226, 3) := by decide +kernel
theorem dX9_count_95 : decode cX9_count 95 = .ok (.ireturn, 1) := by decide +kernel
theorem dX9_count_96 : decode cX9_count 96 = .ok (.aload_n 0, 1) := by decide +kernel
theorem dX9_count_97 : decode cX9_count 97 = .ok (.getfield 26, 3) := by decide +kernel
theorem dX9_count_100 : decode cX9_count 100 = .ok (.getfield 254, 3) := by decide +kernel
theorem dX9_count_103 : decode cX9_count 103 = .ok (.ireturn, 1) := by decide +kernel
theorem dX9_count_104 : decode cX9_count 104 = .ok (.aload_n 0, 1) := by decide +kernel
theorem dX9_count_105 : decode cX9_count 105 = .ok (.getfield 26, 3) := by decide +kernel
theorem dX9_count_108 : decode cX9_count 108 = .ok (.getfield 431, 3) := by decide +kernel
theorem dX9_count_111 : decode cX9_count 111 = .ok (.ireturn, 1) := by decide +kernel
theorem dX9_count_112 : decode cX9_count 112 = .ok (.aload_n 0, 1) := by decide +kernel
theorem dX9_count_113 : decode cX9_count 113 = .ok (.getfield 26, 3) := by decide +kernel
theorem dX9_count_116 : decode cX9_count 116 = .ok (.invokevirtual 207, 3) := by decide +kernel
theorem dX9_count_119 : decode cX9_count 119 = .ok (.ireturn, 1) := by decide +kernel
theorem dX9_count_120 : decode cX9_count 120 = .ok (.aload_n 0, 1) := by decide +kernel
theorem dX9_count_121 : decode cX9_count 121 = .ok (.getfield 69, 3) := by decide +kernel
theorem dX9_count_124 : decode cX9_count 124 = .ok (.getfield 355, 3) := by decide +kernel
theorem dX9_count_127 : decode cX9_count 127 = .ok (.ireturn, 1) := by decide +kernel
theorem dX9_count_128 : decode cX9_count 128 = .ok (.aload_n 0, 1) := by decide +kernel
theorem dX9_count_129 : decode cX9_count 129 = .ok (.getfield 73, 3) := by decide +kernel
theorem dX9_count_132 : decode cX9_count 132 = .ok (.getfield 355, 3) := by decide +kernel
theorem dX9_count_135 : decode cX9_count 135 = .ok (.ireturn, 1) := by decide +kernel
theorem dX9_count_136 : decode cX9_count 136 = .ok (.aload_n 0, 1) := by decide +kernel
theorem dX9_count_137 : decode cX9_count 137 = .ok (.getfield 39, 3) := by decide +kernel
theorem dX9_count_140 : decode cX9_count 140 = .ok (.getfield 263, 3) := by decide +kernel
theorem dX9_count_143 : decode cX9_count 143 = .ok (.ireturn, 1) := by decide +kernel
theorem dX9_count_144 : decode cX9_count 144 = .ok (.aload_n 0, 1) := by decide +kernel
theorem dX9_count_145 : decode cX9_count 145 = .ok (.getfield 19, 3) := by decide +kernel
theorem dX9_count_148 : decode cX9_count 148 = .ok (.getfield 434, 3) := by decide +kernel
theorem dX9_count_151 : decode cX9_count 151 = .ok (.ireturn, 1) := by decide +kernel
theorem dX9_count_152 : decode cX9_count 152 = .ok (.aload_n 0, 1) := by decide +kernel
theorem dX9_count_153 : decode cX9_count 153 = .ok (.getfield 10, 3) := by decide +kernel
theorem dX9_count_156 : decode cX9_count 156 = .ok (.getfield 93, 3) := by decide +kernel
theorem dX9_count_159 : decode cX9_count 159 = .ok (.ireturn, 1) := by decide +kernel
theorem dX9_count_160 : decode cX9_count 160 = .ok (.bipush (-100), 2) := by decide +kernel
theorem dX9_count_162 : decode cX9_count 162 = .ok (.ireturn, 1) := by decide +kernel
theorem dX9_row_0 : decode cX9_row 0 = .ok (.iload_n 1, 1) := by decide +kernel
theorem dX9_row_1 : decode cX9_row 1 = .ok (.ifCond .lt 14, 3) := by decide +kernel
theorem dX9_row_4 : decode cX9_row 4 = .ok (.iload_n 1, 1) := by decide +kernel
theorem dX9_row_5 : decode cX9_row 5 = .ok (.aload_n 0, 1) := by decide +kernel
theorem dX9_row_6 : decode cX9_row 6 = .ok (.getfield 19, 3) := by decide +kernel
theorem dX9_row_9 : decode cX9_row 9 = .ok (.getfield 434, 3) := by decide +kernel
theorem dX9_row_12 : decode cX9_row 12 = .ok (.if_icmp .lt 11, 3) := by decide +kernel
theorem dX9_row_15 : decode cX9_row 15 = .ok (.new 158, 3) := by decide +kernel
theorem dX9_row_18 : decode cX9_row 18 = .ok (.dup, 1) := by decide +kernel
theorem dX9_row_19 : decode cX9_row 19 = .ok (.invokespecial 160, 3) := by decide +kernel
theorem dX9_row_22 : decode cX9_row 22 = .ok (.athrow, 1) := by decide +kernel
theorem dX9_row_23 : decode cX9_row 23 = .ok (.aload_n 0, 1) := by decide +kernel
theorem dX9_row_24 : decode cX9_row 24 = .ok (.getfield 19, 3) := by decide +kernel
theorem dX9_row_27 : decode cX9_row 27 = .ok (.getfield 435, 3) := by decide +kernel
theorem dX9_row_30 : decode cX9_row 30 = .ok (.iload_n 1, 1) := by decide +kernel
theorem dX9_row_31 : decode cX9_row 31 = .ok (.laload, 1) := by decide +kernel
theorem dX9_row_32 : decode cX9_row 32 = .ok (.lreturn, 1) := by decide +kernel
theorem dX10_init_0 : decode cX10_init 0 = .ok (.aload_n 0, 1) := by decide +kernel
theorem dX10_init_1 : decode cX10_init 1 = .ok (.invokespecial 3, 3) := by decide +kernel
theorem dX10_init_4 : decode cX10_init 4 = .ok (.aload_n 0, 1) := by decide +kernel
theorem dX10_init_5 : decode cX10_init 5 = .ok (.sipush 160, 3) := by decide +kernel
theorem dX10_init_8 : decode cX10_init 8 = .ok (.newarray .long, 2) := by decide +kernel
theorem dX10_init_10 : decode cX10_init 10 = .ok (.putfield 9, 3) := by decide +kernel
theorem dX10_init_13 : decode cX10_init 13 = .ok (.aload_n 0, 1) := by decide +kernel
theorem dX10_init_14 : decode cX10_init 14 = .ok (.iconst 4, 1) := by decide +kernel
theorem dX10_init_15 : decode cX10_init 15 = .ok (.putfield 13, 3) := by decide +kernel
theorem dX10_init_18 : decode cX10_init 18 = .ok (.aload_n 0, 1) := by decide +kernel
theorem dX10_init_19 : decode cX10_init 19 = .ok (.iconst 4, 1) := by decide +kernel
theorem dX10_init_20 : decode cX10_init 20 = .ok (.putfield 17, 3) := by decide +kernel
theorem dX10_init_23 : decode cX10_init 23 = .ok (.aload_n 0, 1) := by decide +kernel
theorem dX10_init_24 : decode cX10_init 24 = .ok (.bipush 51, 2) := by decide +kernel
theorem dX10_init_26 : decode cX10_init 26 = .ok (.newarray .int, 2) := by decide +kernel
theorem dX10_init_28 : decode cX10_init 28 = .ok (.putfield 20, 3) := by decide +kernel
theorem dX10_init_31 : decode cX10_init 31 = .ok (.aload_n 0, 1) := by decide +kernel
theorem dX10_init_32 : decode cX10_init 32 = .ok (.bipush 51, 2) := by decide +kernel
theorem dX10_init_34 : decode cX10_init 34 = .ok (.newarray .int, 2) := by decide +kernel
theorem dX10_init_36 : decode cX10_init 36 = .ok (.putfield 24, 3) := by decide +kernel
theorem dX10_init_39 : decode cX10_init 39 = .ok (.aload_n 0, 1) := by decide +kernel
theorem dX10_init_40 : decode cX10_init 40 = .ok (.bipush 80, 2) := by decide +kernel
theorem dX10_init_42 : decode cX10_init 42 = .ok (.newarray .int, 2) := by decide +kernel
theorem dX10_init_44 : decode cX10_init 44 = .ok (.putfield 27, 3) := by decide +kernel
theorem dX10_init_47 : decode cX10_init 47 = .ok (.aload_n 0, 1) := by decide +kernel
theorem dX10_init_48 : decode cX10_init 48 = .ok (.bipush 48, 2) := by decide +kernel
theorem dX10_init_50 : decode cX10_init 50 = .ok (.newarray .int, 2) := by decide +kernel
theorem dX10_init_52 : decode cX10_init 52 = .ok (.putfield 30, 3) := by decide +kernel
theorem dX10_init_55 : decode cX10_init 55 = .ok (.aload_n 0, 1) := by decide +kernel
theorem dX10_init_56 : decode cX10_init 56 = .ok (.bipush 80, 2) := by decide +kernel
theorem dX10_init_58 : decode cX10_init 58 = .ok (.newarray .int, 2) := by decide +kernel
theorem dX10_init_60 : decode cX10_init 60 = .ok (.putfield 33, 3) := by decide +kernel
theorem dX10_init_63 : decode cX10_init 63 = .ok (.aload_n 0, 1) := by decide +kernel
theorem dX10_init_64 : decode cX10_init 64 = .ok (.bipush 80, 2) := by decide +kernel
theorem dX10_init_66 : decode cX10_init 66 = .ok (.newarray .int, 2) := by decide +kernel
theorem dX10_init_68 : decode cX10_init 68 = .ok (.putfield 36, 3) := by decide +kernel
theorem dX10_init_71 : decode cX10_init 71 = .ok (.aload_n 0, 1) := by decide +kernel
theorem dX10_init_72 : decode cX10_init 72 = .ok (.bipush 80, 2) := by decide +kernel
theorem dX10_init_74 : decode cX10_init 74 = .ok (.newarray .int, 2) := by decide +kernel
theorem dX10_init_76 : decode cX10_init 76 = .ok (.putfield 39, 3) := by decide +kernel
theorem dX10_init_79 : decode cX10_init 79 = .ok (.aload_n 0, 1) := by decide +kernel
theorem dX10_init_80 : decode cX10_init 80 = .ok (.bipush 8, 2) := by decide +kernel
theorem dX10_init_82 : decode cX10_init 82 = .ok (.newarray .int, 2) := by decide +kernel
theorem dX10_init_84 : decode cX10_init 84 = .ok (.putfield 42, 3) := by decide +kernel
theorem dX10_init_87 : decode cX10_init 87 = .ok (.aload_n 0, 1) := by decide +kernel
theorem dX10_init_88 : decode cX10_init 88 = .ok (.iconst (-1), 1) := by decide +kernel
theorem dX10_init_89 : decode cX10_init 89 = .ok (.putfield 45, 3) := by decide +kernel
theorem dX10_init_92 : decode cX10_init 92 = .ok (.aload_n 0, 1) := by decide +kernel
theorem dX10_init_93 : decode cX10_init 93 = .ok (.sipush 816, 3) := by decide +kernel
theorem dX10_init_96 : decode cX10_init 96 = .ok (.newarray .int, 2) := by decide +kernel
theorem dX10_init_98 : decode cX10_init 98 = .ok (.putfield 48, 3) := by decide +kernel
theorem dX10_init_101 : decode cX10_init 101 = .ok (.aload_n 0, 1) := by decide +kernel
theorem dX10_init_102 : decode cX10_init 102 = .ok (.bipush 8, 2) := by decide +kernel
theorem dX10_init_104 : decode cX10_init 104 = .ok (.newarray .int, 2) := by decide +kernel
theorem dX10_init_106 : decode cX10_init 106 = .ok (.putfield 51, 3) := by decide +kernel
theorem dX10_init_109 : decode cX10_init 109 = .ok (.aload_n 0, 1) := by decide +kernel
theorem dX10_init_110 : decode cX10_init 110 = .ok (.bipush 60, 2) := by decide +kernel
theorem dX10_init_112 : decode cX10_init 112 = .ok (.newarray .int, 2) := by decide +kernel
theorem dX10_init_114 : decode cX10_init 114 = .ok (.putfield 54, 3) := by decide +kernel
theorem dX10_init_117 : decode cX10_init 117 = .ok (.aload_n 0, 1) := by decide +kernel
theorem dX10_init_118 : decode cX10_init 118 = .ok (.sipush 360, 3) := by decide +kernel
theorem dX10_init_121 : decode cX10_init 121 = .ok (.newarray .int, 2) := by decide +kernel
theorem dX10_init_123 : decode cX10_init 123 = .ok (.putfield 57, 3) := by decide +kernel
theorem dX10_init_126 : decode cX10_init 126 = .ok (.aload_n 0, 1) := by decide +kernel
theorem dX10_init_127 : decode cX10_init 127 = .ok (.sipush 9216, 3) := by decide +kernel
theorem dX10_init_130 : decode cX10_init 130 = .ok (.newarray .int, 2) := by decide +kernel
theorem dX10_init_132 : decode cX10_init 132 = .ok (.putfield 60, 3) := by decide +kernel
theorem dX10_init_135 : decode cX10_init 135 = .ok (.aload_n 0, 1) := by decide +kernel
theorem dX10_init_136 : decode cX10_init 136 = .ok (.bipush 36, 2) := by decide +kernel
theorem dX10_init_138 : decode cX10_init 138 = .ok (.newarray .int, 2) := by decide +kernel
theorem dX10_init_140 : decode cX10_init 140 = .ok (.putfield 63, 3) := by decide +kernel
theorem dX10_init_143 : decode cX10_init 143 = .ok (.aload_n 0, 1) := by decide +kernel
theorem dX10_init_144 : decode cX10_init 144 = .ok (.bipush 10, 2) := by decide +kernel
theorem dX10_init_146 : decode cX10_init 146 = .ok (.newarray .int, 2) := by decide +kernel
theorem dX10_init_148 : decode cX10_init 148 = .ok (.putfield 66, 3) := by decide +kernel
theorem dX10_init_151 : decode cX10_init 151 = .ok (.aload_n 0, 1) := by decide +kernel
theorem dX10_init_152 : decode cX10_init 152 = .ok (.bipush 10, 2) := by decide +kernel
theorem dX10_init_154 : decode cX10_init 154 = .ok (.newarray .int, 2) := by decide +kernel
theorem dX10_init_156 : decode cX10_init 156 = .ok (.putfield 69, 3) := by decide +kernel
theorem dX10_init_159 : decode cX10_init 159 = .ok (.aload_n 0, 1) := by decide +kernel
theorem dX10_init_160 : decode cX10_init 160 = .ok (.bipush 10, 2) := by decide +kernel
theorem dX10_init_162 : decode cX10_init 162 = .ok (.newarray .int, 2) := by decide +kernel
theorem dX10_init_164 : decode cX10_init 164 = .ok (.putfield 72, 3) := by decide +kernel
theorem dX10_init_167 : decode cX10_init 167 = .ok (.aload_n 0, 1) := by decide +kernel
theorem dX10_init_168 : decode cX10_init 168 = .ok (.sipush 496, 3) := by decide +kernel
theorem dX10_init_171 : decode cX10_init 171 = .ok (.newarray .int, 2) := by decide +kernel
theorem dX10_init_173 : decode cX10_init 173 = .ok (.putfield 75, 3) := by decide +kernel
theorem dX10_init_176 : decode cX10_init 176 = .ok (.aload_n 0, 1) := by decide +kernel
theorem dX10_init_177 : decode cX10_init 177 = .ok (.bipush 12, 2) := by decide +kernel
theorem dX10_init_179 : decode cX10_init 179 = .ok (.newarray .int, 2) := by decide +kernel
theorem dX10_init_181 : decode cX10_init 181 = .ok (.putfield 78, 3) := by decide +kernel
theorem dX10_init_184 : decode cX10_init 184 = .ok (.aload_n 0, 1) := by decide +kernel
theorem dX10_init_185 : decode cX10_init 185 = .ok (.bipush 12, 2) := by decide +kernel
theorem dX10_init_187 : decode cX10_init 187 = .ok (.newarray .int, 2) := by decide +kernel
theorem dX10_init_189 : decode cX10_init 189 = .ok (.putfield 81, 3) := by decide +kernel
theorem dX10_init_192 : decode cX10_init 192 = .ok (.aload_n 0, 1) := by decide +kernel
theorem dX10_init_193 : decode cX10_init 193 = .ok (.bipush 41, 2) := by decide +kernel
theorem dX10_init_195 : decode cX10_init 195 = .ok (.newarray .int, 2) := by decide +kernel
theorem dX10_init_197 : decode cX10_init 197 = .ok (.putfield 84, 3) := by decide +kernel
theorem dX10_init_200 : decode cX10_init 200 = .ok (.aload_n 0, 1) := by decide +kernel
theorem dX10_init_201 : decode cX10_init 201 = .ok (.bipush 64, 2) := by decide +kernel
theorem dX10_init_203 : decode cX10_init 203 = .ok (.newarray .boolean, 2) := by decide +kernel
theorem dX10_init_205 : decode cX10_init 205 = .ok (.putfield 87, 3) := by decide +kernel
theorem dX10_init_208 : decode cX10_init 208 = .ok (.aload_n 0, 1) := by decide +kernel
theorem dX10_init_209 : decode cX10_init 209 = .ok (.bipush 80, 2) := by decide +kernel
theorem dX10_init_211 : decode cX10_init 211 = .ok (.newarray .int, 2) := by decide +kernel
theorem dX10_init_213 : decode cX10_init 213 = .ok (.putfield 91, 3) := by decide +kernel
theorem dX10_init_216 : decode cX10_init 216 = .ok (.aload_n 0, 1) := by decide +kernel
theorem dX10_init_217 : decode cX10_init 217 = .ok (.iconst 3, 1) := by decide +kernel
theorem dX10_init_218 : decode cX10_init 218 = .ok (.newarray .boolean, 2) := by decide +kernel
theorem dX10_init_220 : decode cX10_init 220 = .ok (.putfield 94, 3) := by decide +kernel
theorem dX10_init_223 : decode cX10_init 223 = .ok (.aload_n 0, 1) := by decide +kernel
theorem dX10_init_224 : decode cX10_init 224 = .ok (.iconst 3, 1) := by decide +kernel
theorem dX10_init_225 : decode cX10_init 225 = .ok (.newarray .int, 2) := by decide +kernel
theorem dX10_init_227 : decode cX10_init 227 = .ok (.putfield 97, 3) := by decide +kernel
theorem dX10_init_230 : decode cX10_init 230 = .ok (.aload_n 0, 1) := by decide +kernel
theorem dX10_init_231 : decode cX10_init 231 = .ok (.sipush 153, 3) := by decide +kernel
theorem dX10_init_234 : decode cX10_init 234 = .ok (.newarray .int, 2) := by decide +kernel
theorem dX10_init_236 : decode cX10_init 236 = .ok (.putfield 100, 3) := by decide +kernel
theorem dX10_init_239 : decode cX10_init 239 = .ok (.return_, 1) := by decide +kernel
theorem dX10_thrown_0 : decode cX10_thrown 0 = .ok (.aload_n 0, 1) := by decide +kernel
theorem dX10_thrown_1 : decode cX10_thrown 1 = .ok (.getfield 103, 3) := by decide +kernel
theorem dX10_thrown_4 : decode cX10_thrown 4 = .ok (.ireturn, 1) := by decide +kernel
theorem dX10_refuse_0 : decode cX10_refuse 0 = .ok (.aload_n 0, 1) := by decide +kernel
theorem dX10_refuse_1 : decode cX10_refuse 1 = .ok (.iconst 1, 1) := by decide +kernel
theorem dX10_refuse_2 : decode cX10_refuse 2 = .ok (.putfield 103, 3) := by decide +kernel
theorem dX10_refuse_5 : decode cX10_refuse 5 = .ok (.iconst 0, 1) := by decide +kernel
theorem dX10_refuse_6 : decode cX10_refuse 6 = .ok (.ireturn, 1) := by decide +kernel
theorem dX10_in_0 : decode cX10_in 0 = .ok (.lload_n 0, 1) := by decide +kernel
theorem dX10_in_1 : decode cX10_in 1 = .ok (.lload_n 2, 1) := by decide +kernel
theorem dX10_in_2 : decode cX10_in 2 = .ok (.lcmp, 1) := by decide +kernel
theorem dX10_in_3 : decode cX10_in 3 = .ok (.ifCond .lt 14, 3) := by decide +kernel
theorem dX10_in_6 : decode cX10_in 6 = .ok (.lload_n 0, 1) := by decide +kernel
theorem dX10_in_7 : decode cX10_in 7 = .ok (.lload 4, 2) := by decide +kernel
theorem dX10_in_9 : decode cX10_in 9 = .ok (.lcmp, 1) := by decide +kernel
theorem dX10_in_10 : decode cX10_in 10 = .ok (.ifCond .gt 7, 3) := by decide +kernel
theorem dX10_in_13 : decode cX10_in 13 = .ok (.iconst 1, 1) := by decide +kernel
theorem dX10_in_14 : decode cX10_in 14 = .ok (.goto 4, 3) := by decide +kernel
theorem dX10_in_17 : decode cX10_in 17 = .ok (.iconst 0, 1) := by decide +kernel
theorem dX10_in_18 : decode cX10_in 18 = .ok (.ireturn, 1) := by decide +kernel
theorem dX10_has_0 : decode cX10_has 0 = .ok (.lload_n 0, 1) := by decide +kernel
theorem dX10_has_1 : decode cX10_has 1 = .ok (.iload_n 2, 1) := by decide +kernel
theorem dX10_has_2 : decode cX10_has 2 = .ok (.lshr, 1) := by decide +kernel
theorem dX10_has_3 : decode cX10_has 3 = .ok (.lconst 1, 1) := by decide +kernel
theorem dX10_has_4 : decode cX10_has 4 = .ok (.land, 1) := by decide +kernel
theorem dX10_has_5 : decode cX10_has 5 = .ok (.lconst 1, 1) := by decide +kernel
theorem dX10_has_6 : decode cX10_has 6 = .ok (.lcmp, 1) := by decide +kernel
theorem dX10_has_7 : decode cX10_has 7 = .ok (.ifCond .ne 7, 3) := by decide +kernel
theorem dX10_has_10 : decode cX10_has 10 = .ok (.iconst 1, 1) := by decide +kernel
theorem dX10_has_11 : decode cX10_has 11 = .ok (.goto 4, 3) := by decide +kernel
theorem dX10_has_14 : decode cX10_has 14 = .ok (.iconst 0, 1) := by decide +kernel
theorem dX10_has_15 : decode cX10_has 15 = .ok (.ireturn, 1) := by decide +kernel
theorem dX10_flag_0 : decode cX10_flag 0 = .ok (.iload_n 0, 1) := by decide +kernel
theorem dX10_flag_1 : decode cX10_flag 1 = .ok (.ifCond .eq 7, 3) := by decide +kernel
theorem dX10_flag_4 : decode cX10_flag 4 = .ok (.iconst 1, 1) := by decide +kernel
theorem dX10_flag_5 : decode cX10_flag 5 = .ok (.goto 4, 3) := by decide +kernel
theorem dX10_flag_8 : decode cX10_flag 8 = .ok (.iconst 0, 1) := by decide +kernel
theorem dX10_flag_9 : decode cX10_flag 9 = .ok (.ireturn, 1) := by decide +kernel
theorem dX10_common_0 : decode cX10_common 0 = .ok (.lload_n 2, 1) := by decide +kernel
theorem dX10_common_1 : decode cX10_common 1 = .ok (.lconst 0, 1) := by decide +kernel
theorem dX10_common_2 : decode cX10_common 2 = .ok (.lcmp, 1) := by decide +kernel
theorem dX10_common_3 : decode cX10_common 3 = .ok (.ifCond .ne 7, 3) := by decide +kernel
theorem dX10_common_6 : decode cX10_common 6 = .ok (.lload_n 0, 1) := by decide +kernel
theorem dX10_common_7 : decode cX10_common 7 = .ok (.goto 10, 3) := by decide +kernel
theorem dX10_common_10 : decode cX10_common 10 = .ok (.lload_n 2, 1) := by decide +kernel
theorem dX10_common_11 : decode cX10_common 11 = .ok (.lload_n 0, 1) := by decide +kernel
theorem dX10_common_12 : decode cX10_common 12 = .ok (.lload_n 2, 1) := by decide +kernel
theorem dX10_common_13 : decode cX10_common 13 = .ok (.lrem, 1) := by decide +kernel
theorem dX10_common_14 : decode cX10_common 14 = .ok (.invokestatic 106, 3) := by decide +kernel
theorem dX10_common_17 : decode cX10_common 17 = .ok (.lreturn, 1) := by decide +kernel
theorem dX10_enters_0 : decode cX10_enters 0 = .ok (.aload_n 0, 1) := by decide +kernel
theorem dX10_enters_1 : decode cX10_enters 1 = .ok (.getfield 9, 3) := by decide +kernel
theorem dX10_enters_4 : decode cX10_enters 4 = .ok (.aload_n 0, 1) := by decide +kernel
theorem dX10_enters_5 : decode cX10_enters 5 = .ok (.getfield 110, 3) := by decide +kernel
theorem dX10_enters_8 : decode cX10_enters 8 = .ok (.lload_n 1, 1) := by decide +kernel
theorem dX10_enters_9 : decode cX10_enters 9 = .ok (.lastore, 1) := by decide +kernel
theorem dX10_enters_10 : decode cX10_enters 10 = .ok (.aload_n 0, 1) := by decide +kernel
theorem dX10_enters_11 : decode cX10_enters 11 = .ok (.dup, 1) := by decide +kernel
theorem dX10_enters_12 : decode cX10_enters 12 = .ok (.getfield 110, 3) := by decide +kernel
theorem dX10_enters_15 : decode cX10_enters 15 = .ok (.iconst 1, 1) := by decide +kernel
theorem dX10_enters_16 : decode cX10_enters 16 = .ok (.iadd, 1) := by decide +kernel
theorem dX10_enters_17 : decode cX10_enters 17 = .ok (.putfield 110, 3) := by decide +kernel
theorem dX10_enters_20 : decode cX10_enters 20 = .ok (.return_, 1) := by decide +kernel
theorem dX10_cells_0 : decode cX10_cells 0 = .ok (.aload_n 0, 1) := by decide +kernel
theorem dX10_cells_1 : decode cX10_cells 1 = .ok (.getfield 13, 3) := by decide +kernel
theorem dX10_cells_4 : decode cX10_cells 4 = .ok (.aload_n 0, 1) := by decide +kernel
theorem dX10_cells_5 : decode cX10_cells 5 = .ok (.getfield 17, 3) := by decide +kernel
theorem dX10_cells_8 : decode cX10_cells 8 = .ok (.imul, 1) := by decide +kernel
theorem dX10_cells_9 : decode cX10_cells 9 = .ok (.ireturn, 1) := by decide +kernel
theorem dX10_isCell_0 : decode cX10_isCell 0 = .ok (.iload_n 1, 1) := by decide +kernel
theorem dX10_isCell_1 : decode cX10_isCell 1 = .ok (.i2l, 1) := by decide +kernel
theorem dX10_isCell_2 : decode cX10_isCell 2 = .ok (.lconst 0, 1) := by decide +kernel
theorem dX10_isCell_3 : decode cX10_isCell 3 = .ok (.aload_n 0, 1) := by decide +kernel
theorem dX10_isCell_4 : decode cX10_isCell 4 = .ok (.invokevirtual 113, 3) := by decide +kernel
theorem dX10_isCell_7 : decode cX10_isCell 7 = .ok (.iconst 1, 1) := by decide +kernel
theorem dX10_isCell_8 : decode cX10_isCell 8 = .ok (.isub, 1) := by decide +kernel
theorem dX10_isCell_9 : decode cX10_isCell 9 = .ok (.i2l, 1) := by decide +kernel
theorem dX10_isCell_10 : decode cX10_isCell 10 = .ok (.invokestatic 117, 3) := by decide +kernel
theorem dX10_isCell_13 : decode cX10_isCell 13 = .ok (.ireturn, 1) := by decide +kernel
theorem dX10_isCamp_0 : decode cX10_isCamp 0 = .ok (.iload_n 1, 1) := by decide +kernel
theorem dX10_isCamp_1 : decode cX10_isCamp 1 = .ok (.i2l, 1) := by decide +kernel
theorem dX10_isCamp_2 : decode cX10_isCamp 2 = .ok (.lconst 0, 1) := by decide +kernel
theorem dX10_isCamp_3 : decode cX10_isCamp 3 = .ok (.aload_n 0, 1) := by decide +kernel
theorem dX10_isCamp_4 : decode cX10_isCamp 4 = .ok (.getfield 20, 3) := by decide +kernel
theorem dX10_isCamp_7 : decode cX10_isCamp 7 = .ok (.bipush 48, 2) := by decide +kernel
theorem dX10_isCamp_9 : decode cX10_isCamp 9 = .ok (.iaload, 1) := by decide +kernel
theorem dX10_isCamp_10 : decode cX10_isCamp 10 = .ok (.iconst 1, 1) := by decide +kernel
theorem dX10_isCamp_11 : decode cX10_isCamp 11 = .ok (.isub, 1) := by decide +kernel
theorem dX10_isCamp_12 : decode cX10_isCamp 12 = .ok (.i2l, 1) := by decide +kernel
theorem dX10_isCamp_13 : decode cX10_isCamp 13 = .ok (.invokestatic 117, 3) := by decide +kernel
theorem dX10_isCamp_16 : decode cX10_isCamp 16 = .ok (.ireturn, 1) := by decide +kernel
theorem dX10_isOn_0 : decode cX10_isOn 0 = .ok (.iload_n 1, 1) := by decide +kernel
theorem dX10_isOn_1 : decode cX10_isOn 1 = .ok (.aload_n 0, 1) := by decide +kernel
theorem dX10_isOn_2 : decode cX10_isOn 2 = .ok (.bipush 48, 2) := by decide +kernel
theorem dX10_isOn_4 : decode cX10_isOn 4 = .ok (.iaload, 1) := by decide +kernel
theorem dX10_isOn_5 : decode cX10_isOn 5 = .ok (.if_icmp .ge 16, 3) := by decide +kernel
theorem dX10_isOn_8 : decode cX10_isOn 8 = .ok (.aload_n 0, 1) := by decide +kernel
theorem dX10_isOn_9 : decode cX10_isOn 9 = .ok (.bipush 24, 2) := by decide +kernel
theorem dX10_isOn_11 : decode cX10_isOn 11 = .ok (.iload_n 1, 1) := by decide +kernel
theorem dX10_isOn_12 : decode cX10_isOn 12 = .ok (.iadd, 1) := by decide +kernel
theorem dX10_isOn_13 : decode cX10_isOn 13 = .ok (.iaload, 1) := by decide +kernel
theorem dX10_isOn_14 : decode cX10_isOn 14 = .ok (.ifCond .le 7, 3) := by decide +kernel
theorem dX10_isOn_17 : decode cX10_isOn 17 = .ok (.iconst 1, 1) := by decide +kernel
theorem dX10_isOn_18 : decode cX10_isOn 18 = .ok (.goto 4, 3) := by decide +kernel
theorem dX10_isOn_21 : decode cX10_isOn 21 = .ok (.iconst 0, 1) := by decide +kernel
theorem dX10_isOn_22 : decode cX10_isOn 22 = .ok (.ireturn, 1) := by decide +kernel
theorem dX10_isIn_0 : decode cX10_isIn 0 = .ok (.iload_n 1, 1) := by decide +kernel
theorem dX10_isIn_1 : decode cX10_isIn 1 = .ok (.aload_n 0, 1) := by decide +kernel
theorem dX10_isIn_2 : decode cX10_isIn 2 = .ok (.getfield 17, 3) := by decide +kernel
theorem dX10_isIn_5 : decode cX10_isIn 5 = .ok (.idiv, 1) := by decide +kernel
theorem dX10_isIn_6 : decode cX10_isIn 6 = .ok (.iload_n 2, 1) := by decide +kernel
theorem dX10_isIn_7 : decode cX10_isIn 7 = .ok (.iadd, 1) := by decide +kernel
theorem dX10_isIn_8 : decode cX10_isIn 8 = .ok (.aload_n 0, 1) := by decide +kernel
theorem dX10_isIn_9 : decode cX10_isIn 9 = .ok (.getfield 13, 3) := by decide +kernel
theorem dX10_isIn_12 : decode cX10_isIn 12 = .ok (.if_icmp .gt 22, 3) := by decide +kernel
theorem dX10_isIn_15 : decode cX10_isIn 15 = .ok (.iload_n 1, 1) := by decide +kernel
theorem dX10_isIn_16 : decode cX10_isIn 16 = .ok (.aload_n 0, 1) := by decide +kernel
theorem dX10_isIn_17 : decode cX10_isIn 17 = .ok (.getfield 17, 3) := by decide +kernel
theorem dX10_isIn_20 : decode cX10_isIn 20 = .ok (.irem, 1) := by decide +kernel
theorem dX10_isIn_21 : decode cX10_isIn 21 = .ok (.iload_n 3, 1) := by decide +kernel
theorem dX10_isIn_22 : decode cX10_isIn 22 = .ok (.iadd, 1) := by decide +kernel
theorem dX10_isIn_23 : decode cX10_isIn 23 = .ok (.aload_n 0, 1) := by decide +kernel
theorem dX10_isIn_24 : decode cX10_isIn 24 = .ok (.getfield 17, 3) := by decide +kernel
theorem dX10_isIn_27 : decode cX10_isIn 27 = .ok (.if_icmp .gt 7, 3) := by decide +kernel
theorem dX10_isIn_30 : decode cX10_isIn 30 = .ok (.iconst 1, 1) := by decide +kernel
theorem dX10_isIn_31 : decode cX10_isIn 31 = .ok (.goto 4, 3) := by decide +kernel
theorem dX10_isIn_34 : decode cX10_isIn 34 = .ok (.iconst 0, 1) := by decide +kernel
theorem dX10_isIn_35 : decode cX10_isIn 35 = .ok (.ireturn, 1) := by decide +kernel
theorem dX10_isOver_0 : decode cX10_isOver 0 = .ok (.iload 4, 2) := by decide +kernel
theorem dX10_isOver_2 : decode cX10_isOver 2 = .ok (.aload_n 0, 1) := by decide +kernel
theorem dX10_isOver_3 : decode cX10_isOver 3 = .ok (.getfield 17, 3) := by decide +kernel
theorem dX10_isOver_6 : decode cX10_isOver 6 = .ok (.idiv, 1) := by decide +kernel
theorem dX10_isOver_7 : decode cX10_isOver 7 = .ok (.iload_n 1, 1) := by decide +kernel
theorem dX10_isOver_8 : decode cX10_isOver 8 = .ok (.aload_n 0, 1) := by decide +kernel
theorem dX10_isOver_9 : decode cX10_isOver 9 = .ok (.getfield 17, 3) := by decide +kernel
theorem dX10_isOver_12 : decode cX10_isOver 12 = .ok (.idiv, 1) := by decide +kernel
theorem dX10_isOver_13 : decode cX10_isOver 13 = .ok (.isub, 1) := by decide +kernel
theorem dX10_isOver_14 : decode cX10_isOver 14 = .ok (.istore 5, 2) := by decide +kernel
theorem dX10_isOver_16 : decode cX10_isOver 16 = .ok (.iload 4, 2) := by decide +kernel
theorem dX10_isOver_18 : decode cX10_isOver 18 = .ok (.aload_n 0, 1) := by decide +kernel
theorem dX10_isOver_19 : decode cX10_isOver 19 = .ok (.getfield 17, 3) := by decide +kernel
theorem dX10_isOver_22 : decode cX10_isOver 22 = .ok (.irem, 1) := by decide +kernel
theorem dX10_isOver_23 : decode cX10_isOver 23 = .ok (.iload_n 1, 1) := by decide +kernel
theorem dX10_isOver_24 : decode cX10_isOver 24 = .ok (.aload_n 0, 1) := by decide +kernel
theorem dX10_isOver_25 : decode cX10_isOver 25 = .ok (.getfield 17, 3) := by decide +kernel
theorem dX10_isOver_28 : decode cX10_isOver 28 = .ok (.irem, 1) := by decide +kernel
theorem dX10_isOver_29 : decode cX10_isOver 29 = .ok (.isub, 1) := by decide +kernel
theorem dX10_isOver_30 : decode cX10_isOver 30 = .ok (.istore 6, 2) := by decide +kernel
theorem dX10_isOver_32 : decode cX10_isOver 32 = .ok (.iload 5, 2) := by decide +kernel
theorem dX10_isOver_34 : decode cX10_isOver 34 = .ok (.i2l, 1) := by decide +kernel
theorem dX10_isOver_35 : decode cX10_isOver 35 = .ok (.lconst 0, 1) := by decide +kernel
theorem dX10_isOver_36 : decode cX10_isOver 36 = .ok (.iload_n 2, 1) := by decide +kernel
theorem dX10_isOver_37 : decode cX10_isOver 37 = .ok (.iconst 1, 1) := by decide +kernel
theorem dX10_isOver_38 : decode cX10_isOver 38 = .ok (.isub, 1) := by decide +kernel
theorem dX10_isOver_39 : decode cX10_isOver 39 = .ok (.i2l, 1) := by decide +kernel
theorem dX10_isOver_40 : decode cX10_isOver 40 = .ok (.invokestatic 117, 3) := by decide +kernel
theorem dX10_isOver_43 : decode cX10_isOver 43 = .ok (.ifCond .eq 21, 3) := by decide +kernel
theorem dX10_isOver_46 : decode cX10_isOver 46 = .ok (.iload 6, 2) := by decide +kernel
theorem dX10_isOver_48 : decode cX10_isOver 48 = .ok (.i2l, 1) := by decide +kernel
theorem dX10_isOver_49 : decode cX10_isOver 49 = .ok (.lconst 0, 1) := by decide +kernel
theorem dX10_isOver_50 : decode cX10_isOver 50 = .ok (.iload_n 3, 1) := by decide +kernel
theorem dX10_isOver_51 : decode cX10_isOver 51 = .ok (.iconst 1, 1) := by decide +kernel
theorem dX10_isOver_52 : decode cX10_isOver 52 = .ok (.isub, 1) := by decide +kernel
theorem dX10_isOver_53 : decode cX10_isOver 53 = .ok (.i2l, 1) := by decide +kernel
theorem dX10_isOver_54 : decode cX10_isOver 54 = .ok (.invokestatic 117, 3) := by decide +kernel
theorem dX10_isOver_57 : decode cX10_isOver 57 = .ok (.ifCond .eq 7, 3) := by decide +kernel
theorem dX10_isOver_60 : decode cX10_isOver 60 = .ok (.iconst 1, 1) := by decide +kernel
theorem dX10_isOver_61 : decode cX10_isOver 61 = .ok (.goto 4, 3) := by decide +kernel
theorem dX10_isOver_64 : decode cX10_isOver 64 = .ok (.iconst 0, 1) := by decide +kernel
theorem dX10_isOver_65 : decode cX10_isOver 65 = .ok (.ireturn, 1) := by decide +kernel
theorem dX10_isLyingOver_0 : decode cX10_isLyingOver 0 = .ok (.aload_n 0, 1) := by decide +kernel
theorem dX10_isLyingOver_1 : decode cX10_isLyingOver 1 = .ok (.aload_n 1, 1) := by decide +kernel
theorem dX10_isLyingOver_2 : decode cX10_isLyingOver 2 = .ok (.iload_n 2, 1) := by decide +kernel
theorem dX10_isLyingOver_3 : decode cX10_isLyingOver 3 = .ok (.iaload, 1) := by decide +kernel
theorem dX10_isLyingOver_4 : decode cX10_isLyingOver 4 = .ok (.aload_n 1, 1) := by decide +kernel
theorem dX10_isLyingOver_5 : decode cX10_isLyingOver 5 = .ok (.bipush 8, 2) := by decide +kernel
theorem dX10_isLyingOver_7 : decode cX10_isLyingOver 7 = .ok (.iload_n 2, 1) := by decide +kernel
theorem dX10_isLyingOver_8 : decode cX10_isLyingOver 8 = .ok (.iadd, 1) := by decide +kernel
theorem dX10_isLyingOver_9 : decode cX10_isLyingOver 9 = .ok (.iaload, 1) := by decide +kernel
theorem dX10_isLyingOver_10 : decode cX10_isLyingOver 10 = .ok (.aload_n 1, 1) := by decide +kernel
theorem dX10_isLyingOver_11 : decode cX10_isLyingOver 11 = .ok (.bipush 16, 2) := by decide +kernel
theorem dX10_isLyingOver_13 : decode cX10_isLyingOver 13 = .ok (.iload_n 2, 1) := by decide +kernel
theorem dX10_isLyingOver_14 : decode cX10_isLyingOver 14 = .ok (.iadd, 1) := by decide +kernel
theorem dX10_isLyingOver_15 : decode cX10_isLyingOver 15 = .ok (.iaload, 1) := by decide +kernel
theorem dX10_isLyingOver_16 : decode cX10_isLyingOver 16 = .ok (.iload_n 3, 1) := by decide +kernel
theorem dX10_isLyingOver_17 : decode cX10_isLyingOver 17 = .ok (.invokevirtual 121, 3) := by decide +kernel
theorem dX10_isLyingOver_20 : decode cX10_isLyingOver 20 = .ok (.ireturn, 1) := by decide +kernel
theorem dX10_area_0 : decode cX10_area 0 = .ok (.lconst 0, 1) := by decide +kernel
theorem dX10_area_1 : decode cX10_area 1 = .ok (.lstore 4, 2) := by decide +kernel
theorem dX10_area_3 : decode cX10_area 3 = .ok (.iconst 0, 1) := by decide +kernel
theorem dX10_area_4 : decode cX10_area 4 = .ok (.istore 6, 2) := by decide +kernel
theorem dX10_area_6 : decode cX10_area 6 = .ok (.iload 6, 2) := by decide +kernel
theorem dX10_area_8 : decode cX10_area 8 = .ok (.aload_n 0, 1) := by decide +kernel
theorem dX10_area_9 : decode cX10_area 9 = .ok (.invokevirtual 113, 3) := by decide +kernel
theorem dX10_area_12 : decode cX10_area 12 = .ok (.if_icmp .ge 34, 3) := by decide +kernel
theorem dX10_area_15 : decode cX10_area 15 = .ok (.lload 4, 2) := by decide +kernel
theorem dX10_area_17 : decode cX10_area 17 = .ok (.aload_n 0, 1) := by decide +kernel
theorem dX10_area_18 : decode cX10_area 18 = .ok (.iload_n 1, 1) := by decide +kernel
theorem dX10_area_19 : decode cX10_area 19 = .ok (.iload_n 2, 1) := by decide +kernel
theorem dX10_area_20 : decode cX10_area 20 = .ok (.iload_n 3, 1) := by decide +kernel
theorem dX10_area_21 : decode cX10_area 21 = .ok (.iload 6, 2) := by decide +kernel
theorem dX10_area_23 : decode cX10_area 23 = .ok (.invokevirtual 121, 3) := by decide +kernel
theorem dX10_area_26 : decode cX10_area 26 = .ok (.ifCond .eq 10, 3) := by decide +kernel
theorem dX10_area_29 : decode cX10_area 29 = .ok (.lconst 1, 1) := by decide +kernel
theorem dX10_area_30 : decode cX10_area 30 = .ok (.iload 6, 2) := by decide +kernel
theorem dX10_area_32 : decode cX10_area 32 = .ok (.lshl, 1) := by decide +kernel
theorem dX10_area_33 : decode cX10_area 33 = .ok (.goto 4, 3) := by decide +kernel
theorem dX10_area_36 : decode cX10_area 36 = .ok (.lconst 0, 1) := by decide +kernel
theorem dX10_area_37 : decode cX10_area 37 = .ok (.lor, 1) := by decide +kernel
theorem dX10_area_38 : decode cX10_area 38 = .ok (.lstore 4, 2) := by decide +kernel
theorem dX10_area_40 : decode cX10_area 40 = .ok (.iinc 6 1, 3) := by decide +kernel
theorem dX10_area_43 : decode cX10_area 43 = .ok (.goto (-37), 3) := by decide +kernel
theorem dX10_area_46 : decode cX10_area 46 = .ok (.lload 4, 2) := by decide +kernel
theorem dX10_area_48 : decode cX10_area 48 = .ok (.lreturn, 1) := by decide +kernel
theorem dX10_areaOf_0 : decode cX10_areaOf 0 = .ok (.aload_n 0, 1) := by decide +kernel
theorem dX10_areaOf_1 : decode cX10_areaOf 1 = .ok (.aload_n 1, 1) := by decide +kernel
theorem dX10_areaOf_2 : decode cX10_areaOf 2 = .ok (.iload_n 2, 1) := by decide +kernel
theorem dX10_areaOf_3 : decode cX10_areaOf 3 = .ok (.iaload, 1) := by decide +kernel
theorem dX10_areaOf_4 : decode cX10_areaOf 4 = .ok (.aload_n 1, 1) := by decide +kernel
theorem dX10_areaOf_5 : decode cX10_areaOf 5 = .ok (.bipush 8, 2) := by decide +kernel
theorem dX10_areaOf_7 : decode cX10_areaOf 7 = .ok (.iload_n 2, 1) := by decide +kernel
theorem dX10_areaOf_8 : decode cX10_areaOf 8 = .ok (.iadd, 1) := by decide +kernel
theorem dX10_areaOf_9 : decode cX10_areaOf 9 = .ok (.iaload, 1) := by decide +kernel
theorem dX10_areaOf_10 : decode cX10_areaOf 10 = .ok (.aload_n 1, 1) := by decide +kernel
theorem dX10_areaOf_11 : decode cX10_areaOf 11 = .ok (.bipush 16, 2) := by decide +kernel
theorem dX10_areaOf_13 : decode cX10_areaOf 13 = .ok (.iload_n 2, 1) := by decide +kernel
theorem dX10_areaOf_14 : decode cX10_areaOf 14 = .ok (.iadd, 1) := by decide +kernel
theorem dX10_areaOf_15 : decode cX10_areaOf 15 = .ok (.iaload, 1) := by decide +kernel
theorem dX10_areaOf_16 : decode cX10_areaOf 16 = .ok (.invokevirtual 125, 3) := by decide +kernel
theorem dX10_areaOf_19 : decode cX10_areaOf 19 = .ok (.lreturn, 1) := by decide +kernel
theorem dX10_on_0 : decode cX10_on 0 = .ok (.iconst 0, 1) := by decide +kernel
theorem dX10_on_1 : decode cX10_on 1 = .ok (.istore_n 1, 1) := by decide +kernel
theorem dX10_on_2 : decode cX10_on 2 = .ok (.iconst 0, 1) := by decide +kernel
theorem dX10_on_3 : decode cX10_on 3 = .ok (.istore_n 2, 1) := by decide +kernel
theorem dX10_on_4 : decode cX10_on 4 = .ok (.iload_n 2, 1) := by decide +kernel
theorem dX10_on_5 : decode cX10_on 5 = .ok (.aload_n 0, 1) := by decide +kernel
theorem dX10_on_6 : decode cX10_on 6 = .ok (.bipush 48, 2) := by decide +kernel
theorem dX10_on_8 : decode cX10_on 8 = .ok (.iaload, 1) := by decide +kernel
theorem dX10_on_9 : decode cX10_on 9 = .ok (.if_icmp .ge 27, 3) := by decide +kernel
theorem dX10_on_12 : decode cX10_on 12 = .ok (.iload_n 1, 1) := by decide +kernel
theorem dX10_on_13 : decode cX10_on 13 = .ok (.aload_n 0, 1) := by decide +kernel
theorem dX10_on_14 : decode cX10_on 14 = .ok (.iload_n 2, 1) := by decide +kernel
theorem dX10_on_15 : decode cX10_on 15 = .ok (.invokestatic 129, 3) := by decide +kernel
theorem dX10_on_18 : decode cX10_on 18 = .ok (.ifCond .eq 9, 3) := by decide +kernel
theorem dX10_on_21 : decode cX10_on 21 = .ok (.iconst 1, 1) := by decide +kernel
theorem dX10_on_22 : decode cX10_on 22 = .ok (.iload_n 2, 1) := by decide +kernel
theorem dX10_on_23 : decode cX10_on 23 = .ok (.ishl, 1) := by decide +kernel
theorem dX10_on_24 : decode cX10_on 24 = .ok (.goto 4, 3) := by decide +kernel
theorem dX10_on_27 : decode cX10_on 27 = .ok (.iconst 0, 1) := by decide +kernel
theorem dX10_on_28 : decode cX10_on 28 = .ok (.ior, 1) := by decide +kernel
theorem dX10_on_29 : decode cX10_on 29 = .ok (.istore_n 1, 1) := by decide +kernel
theorem dX10_on_30 : decode cX10_on 30 = .ok (.iinc 2 1, 3) := by decide +kernel
theorem dX10_on_33 : decode cX10_on 33 = .ok (.goto (-29), 3) := by decide +kernel
theorem dX10_on_36 : decode cX10_on 36 = .ok (.iload_n 1, 1) := by decide +kernel
theorem dX10_on_37 : decode cX10_on 37 = .ok (.ireturn, 1) := by decide +kernel
theorem dX10_sumOf_0 : decode cX10_sumOf 0 = .ok (.iconst 0, 1) := by decide +kernel
theorem dX10_sumOf_1 : decode cX10_sumOf 1 = .ok (.istore_n 2, 1) := by decide +kernel
theorem dX10_sumOf_2 : decode cX10_sumOf 2 = .ok (.iconst 0, 1) := by decide +kernel
theorem dX10_sumOf_3 : decode cX10_sumOf 3 = .ok (.istore_n 3, 1) := by decide +kernel
theorem dX10_sumOf_4 : decode cX10_sumOf 4 = .ok (.iload_n 3, 1) := by decide +kernel
theorem dX10_sumOf_5 : decode cX10_sumOf 5 = .ok (.aload_n 0, 1) := by decide +kernel
theorem dX10_sumOf_6 : decode cX10_sumOf 6 = .ok (.bipush 48, 2) := by decide +kernel
theorem dX10_sumOf_8 : decode cX10_sumOf 8 = .ok (.iaload, 1) := by decide +kernel
theorem dX10_sumOf_9 : decode cX10_sumOf 9 = .ok (.if_icmp .ge 17, 3) := by decide +kernel
theorem dX10_sumOf_12 : decode cX10_sumOf 12 = .ok (.iload_n 2, 1) := by decide +kernel
theorem dX10_sumOf_13 : decode cX10_sumOf 13 = .ok (.aload_n 0, 1) := by decide +kernel
theorem dX10_sumOf_14 : decode cX10_sumOf 14 = .ok (.iload_n 1, 1) := by decide +kernel
theorem dX10_sumOf_15 : decode cX10_sumOf 15 = .ok (.iload_n 3, 1) := by decide +kernel
theorem dX10_sumOf_16 : decode cX10_sumOf 16 = .ok (.iadd, 1) := by decide +kernel
theorem dX10_sumOf_17 : decode cX10_sumOf 17 = .ok (.iaload, 1) := by decide +kernel
theorem dX10_sumOf_18 : decode cX10_sumOf 18 = .ok (.iadd, 1) := by decide +kernel
theorem dX10_sumOf_19 : decode cX10_sumOf 19 = .ok (.istore_n 2, 1) := by decide +kernel
theorem dX10_sumOf_20 : decode cX10_sumOf 20 = .ok (.iinc 3 1, 3) := by decide +kernel
theorem dX10_sumOf_23 : decode cX10_sumOf 23 = .ok (.goto (-19), 3) := by decide +kernel
theorem dX10_sumOf_26 : decode cX10_sumOf 26 = .ok (.iload_n 2, 1) := by decide +kernel
theorem dX10_sumOf_27 : decode cX10_sumOf 27 = .ok (.ireturn, 1) := by decide +kernel
theorem dX10_campsOver_0 : decode cX10_campsOver 0 = .ok (.iconst 0, 1) := by decide +kernel
theorem dX10_campsOver_1 : decode cX10_campsOver 1 = .ok (.istore_n 3, 1) := by decide +kernel
theorem dX10_campsOver_2 : decode cX10_campsOver 2 = .ok (.iconst 0, 1) := by decide +kernel
theorem dX10_campsOver_3 : decode cX10_campsOver 3 = .ok (.istore 4, 2) := by decide +kernel
theorem dX10_campsOver_5 : decode cX10_campsOver 5 = .ok (.iload 4, 2) := by decide +kernel
theorem dX10_campsOver_7 : decode cX10_campsOver 7 = .ok (.aload_n 1, 1) := by decide +kernel
theorem dX10_campsOver_8 : decode cX10_campsOver 8 = .ok (.bipush 48, 2) := by decide +kernel
theorem dX10_campsOver_10 : decode cX10_campsOver 10 = .ok (.iaload, 1) := by decide +kernel
theorem dX10_campsOver_11 : decode cX10_campsOver 11 = .ok (.if_icmp .ge 40, 3) := by decide +kernel
theorem dX10_campsOver_14 : decode cX10_campsOver 14 = .ok (.iload_n 3, 1) := by decide +kernel
theorem dX10_campsOver_15 : decode cX10_campsOver 15 = .ok (.aload_n 1, 1) := by decide +kernel
theorem dX10_campsOver_16 : decode cX10_campsOver 16 = .ok (.iload 4, 2) := by decide +kernel
theorem dX10_campsOver_18 : decode cX10_campsOver 18 = .ok (.invokestatic 129, 3) := by decide +kernel
theorem dX10_campsOver_21 : decode cX10_campsOver 21 = .ok (.ifCond .eq 21, 3) := by decide +kernel
theorem dX10_campsOver_24 : decode cX10_campsOver 24 = .ok (.aload_n 0, 1) := by decide +kernel
theorem dX10_campsOver_25 : decode cX10_campsOver 25 = .ok (.aload_n 1, 1) := by decide +kernel
theorem dX10_campsOver_26 : decode cX10_campsOver 26 = .ok (.iload 4, 2) := by decide +kernel
theorem dX10_campsOver_28 : decode cX10_campsOver 28 = .ok (.iload_n 2, 1) := by decide +kernel
theorem dX10_campsOver_29 : decode cX10_campsOver 29 = .ok (.invokevirtual 133, 3) := by decide +kernel
theorem dX10_campsOver_32 : decode cX10_campsOver 32 = .ok (.ifCond .eq 10, 3) := by decide +kernel
theorem dX10_campsOver_35 : decode cX10_campsOver 35 = .ok (.iconst 1, 1) := by decide +kernel
theorem dX10_campsOver_36 : decode cX10_campsOver 36 = .ok (.iload 4, 2) := by decide +kernel
theorem dX10_campsOver_38 : decode cX10_campsOver 38 = .ok (.ishl, 1) := by decide +kernel
theorem dX10_campsOver_39 : decode cX10_campsOver 39 = .ok (.goto 4, 3) := by decide +kernel
theorem dX10_campsOver_42 : decode cX10_campsOver 42 = .ok (.iconst 0, 1) := by decide +kernel
theorem dX10_campsOver_43 : decode cX10_campsOver 43 = .ok (.ior, 1) := by decide +kernel
theorem dX10_campsOver_44 : decode cX10_campsOver 44 = .ok (.istore_n 3, 1) := by decide +kernel
theorem dX10_campsOver_45 : decode cX10_campsOver 45 = .ok (.iinc 4 1, 3) := by decide +kernel
theorem dX10_campsOver_48 : decode cX10_campsOver 48 = .ok (.goto (-43), 3) := by decide +kernel
theorem dX10_campsOver_51 : decode cX10_campsOver 51 = .ok (.iload_n 3, 1) := by decide +kernel
theorem dX10_campsOver_52 : decode cX10_campsOver 52 = .ok (.ireturn, 1) := by decide +kernel
theorem dX10_sleptBy_0 : decode cX10_sleptBy 0 = .ok (.lconst 0, 1) := by decide +kernel
theorem dX10_sleptBy_1 : decode cX10_sleptBy 1 = .ok (.lstore_n 3, 1) := by decide +kernel
theorem dX10_sleptBy_2 : decode cX10_sleptBy 2 = .ok (.iconst 0, 1) := by decide +kernel
theorem dX10_sleptBy_3 : decode cX10_sleptBy 3 = .ok (.istore 5, 2) := by decide +kernel
theorem dX10_sleptBy_5 : decode cX10_sleptBy 5 = .ok (.iload 5, 2) := by decide +kernel
theorem dX10_sleptBy_7 : decode cX10_sleptBy 7 = .ok (.aload_n 1, 1) := by decide +kernel
theorem dX10_sleptBy_8 : decode cX10_sleptBy 8 = .ok (.bipush 48, 2) := by decide +kernel
theorem dX10_sleptBy_10 : decode cX10_sleptBy 10 = .ok (.iaload, 1) := by decide +kernel
theorem dX10_sleptBy_11 : decode cX10_sleptBy 11 = .ok (.if_icmp .ge 42, 3) := by decide +kernel
theorem dX10_sleptBy_14 : decode cX10_sleptBy 14 = .ok (.lload_n 3, 1) := by decide +kernel
theorem dX10_sleptBy_15 : decode cX10_sleptBy 15 = .ok (.aload_n 1, 1) := by decide +kernel
theorem dX10_sleptBy_16 : decode cX10_sleptBy 16 = .ok (.iload 5, 2) := by decide +kernel
theorem dX10_sleptBy_18 : decode cX10_sleptBy 18 = .ok (.invokestatic 129, 3) := by decide +kernel
theorem dX10_sleptBy_21 : decode cX10_sleptBy 21 = .ok (.ifCond .eq 23, 3) := by decide +kernel
theorem dX10_sleptBy_24 : decode cX10_sleptBy 24 = .ok (.iload_n 2, 1) := by decide +kernel
theorem dX10_sleptBy_25 : decode cX10_sleptBy 25 = .ok (.i2l, 1) := by decide +kernel
theorem dX10_sleptBy_26 : decode cX10_sleptBy 26 = .ok (.iload 5, 2) := by decide +kernel
theorem dX10_sleptBy_28 : decode cX10_sleptBy 28 = .ok (.invokestatic 137, 3) := by decide +kernel
theorem dX10_sleptBy_31 : decode cX10_sleptBy 31 = .ok (.ifCond .eq 13, 3) := by decide +kernel
theorem dX10_sleptBy_34 : decode cX10_sleptBy 34 = .ok (.aload_n 0, 1) := by decide +kernel
theorem dX10_sleptBy_35 : decode cX10_sleptBy 35 = .ok (.aload_n 1, 1) := by decide +kernel
theorem dX10_sleptBy_36 : decode cX10_sleptBy 36 = .ok (.iload 5, 2) := by decide +kernel
theorem dX10_sleptBy_38 : decode cX10_sleptBy 38 = .ok (.invokevirtual 141, 3) := by decide +kernel
theorem dX10_sleptBy_41 : decode cX10_sleptBy 41 = .ok (.goto 4, 3) := by decide +kernel
theorem dX10_sleptBy_44 : decode cX10_sleptBy 44 = .ok (.lconst 0, 1) := by decide +kernel
theorem dX10_sleptBy_45 : decode cX10_sleptBy 45 = .ok (.lor, 1) := by decide +kernel
theorem dX10_sleptBy_46 : decode cX10_sleptBy 46 = .ok (.lstore_n 3, 1) := by decide +kernel
theorem dX10_sleptBy_47 : decode cX10_sleptBy 47 = .ok (.iinc 5 1, 3) := by decide +kernel
theorem dX10_sleptBy_50 : decode cX10_sleptBy 50 = .ok (.goto (-45), 3) := by decide +kernel
theorem dX10_sleptBy_53 : decode cX10_sleptBy 53 = .ok (.lload_n 3, 1) := by decide +kernel
theorem dX10_sleptBy_54 : decode cX10_sleptBy 54 = .ok (.lreturn, 1) := by decide +kernel
theorem dX10_crossing_0 : decode cX10_crossing 0 = .ok (.iconst 0, 1) := by decide +kernel
theorem dX10_crossing_1 : decode cX10_crossing 1 = .ok (.istore_n 3, 1) := by decide +kernel
theorem dX10_crossing_2 : decode cX10_crossing 2 = .ok (.iconst 0, 1) := by decide +kernel
theorem dX10_crossing_3 : decode cX10_crossing 3 = .ok (.istore 4, 2) := by decide +kernel
theorem dX10_crossing_5 : decode cX10_crossing 5 = .ok (.iload 4, 2) := by decide +kernel
theorem dX10_crossing_7 : decode cX10_crossing 7 = .ok (.aload_n 1, 1) := by decide +kernel
theorem dX10_crossing_8 : decode cX10_crossing 8 = .ok (.bipush 48, 2) := by decide +kernel
theorem dX10_crossing_10 : decode cX10_crossing 10 = .ok (.iaload, 1) := by decide +kernel
theorem dX10_crossing_11 : decode cX10_crossing 11 = .ok (.if_icmp .ge 74, 3) := by decide +kernel
theorem dX10_crossing_14 : decode cX10_crossing 14 = .ok (.iload 4, 2) := by decide +kernel
theorem dX10_crossing_16 : decode cX10_crossing 16 = .ok (.iload_n 2, 1) := by decide +kernel
theorem dX10_crossing_17 : decode cX10_crossing 17 = .ok (.if_icmp .eq 24, 3) := by decide +kernel
theorem dX10_crossing_20 : decode cX10_crossing 20 = .ok (.aload_n 1, 1) := by decide +kernel
theorem dX10_crossing_21 : decode cX10_crossing 21 = .ok (.iload 4, 2) := by decide +kernel
theorem dX10_crossing_23 : decode cX10_crossing 23 = .ok (.invokestatic 129, 3) := by decide +kernel
theorem dX10_crossing_26 : decode cX10_crossing 26 = .ok (.ifCond .eq 15, 3) := by decide +kernel
theorem dX10_crossing_29 : decode cX10_crossing 29 = .ok (.aload_n 1, 1) := by decide +kernel
theorem dX10_crossing_30 : decode cX10_crossing 30 = .ok (.iload_n 2, 1) := by decide +kernel
theorem dX10_crossing_31 : decode cX10_crossing 31 = .ok (.invokestatic 129, 3) := by decide +kernel
theorem dX10_crossing_34 : decode cX10_crossing 34 = .ok (.ifCond .eq 7, 3) := by decide +kernel
theorem dX10_crossing_37 : decode cX10_crossing 37 = .ok (.iconst 1, 1) := by decide +kernel
theorem dX10_crossing_38 : decode cX10_crossing 38 = .ok (.goto 4, 3) := by decide +kernel
theorem dX10_crossing_41 : decode cX10_crossing 41 = .ok (.iconst 0, 1) := by decide +kernel
theorem dX10_crossing_42 : decode cX10_crossing 42 = .ok (.istore 5, 2) := by decide +kernel
theorem dX10_crossing_44 : decode cX10_crossing 44 = .ok (.iload_n 3, 1) := by decide +kernel
theorem dX10_crossing_45 : decode cX10_crossing 45 = .ok (.iload 5, 2) := by decide +kernel
theorem dX10_crossing_47 : decode cX10_crossing 47 = .ok (.ifCond .eq 29, 3) := by decide +kernel
theorem dX10_crossing_50 : decode cX10_crossing 50 = .ok (.aload_n 0, 1) := by decide +kernel
theorem dX10_crossing_51 : decode cX10_crossing 51 = .ok (.aload_n 1, 1) := by decide +kernel
theorem dX10_crossing_52 : decode cX10_crossing 52 = .ok (.iload 4, 2) := by decide +kernel
theorem dX10_crossing_54 : decode cX10_crossing 54 = .ok (.invokevirtual 141, 3) := by decide +kernel
theorem dX10_crossing_57 : decode cX10_crossing 57 = .ok (.aload_n 0, 1) := by decide +kernel
theorem dX10_crossing_58 : decode cX10_crossing 58 = .ok (.aload_n 1, 1) := by decide +kernel
theorem dX10_crossing_59 : decode cX10_crossing 59 = .ok (.iload_n 2, 1) := by decide +kernel
theorem dX10_crossing_60 : decode cX10_crossing 60 = .ok (.invokevirtual 141, 3) := by decide +kernel
theorem dX10_crossing_63 : decode cX10_crossing 63 = .ok (.land, 1) := by decide +kernel
theorem dX10_crossing_64 : decode cX10_crossing 64 = .ok (.lconst 0, 1) := by decide +kernel
theorem dX10_crossing_65 : decode cX10_crossing 65 = .ok (.lcmp, 1) := by decide +kernel
theorem dX10_crossing_66 : decode cX10_crossing 66 = .ok (.ifCond .eq 10, 3) := by decide +kernel
theorem dX10_crossing_69 : decode cX10_crossing 69 = .ok (.iconst 1, 1) := by decide +kernel
theorem dX10_crossing_70 : decode cX10_crossing 70 = .ok (.iload 4, 2) := by decide +kernel
theorem dX10_crossing_72 : decode cX10_crossing 72 = .ok (.ishl, 1) := by decide +kernel
theorem dX10_crossing_73 : decode cX10_crossing 73 = .ok (.goto 4, 3) := by decide +kernel
theorem dX10_crossing_76 : decode cX10_crossing 76 = .ok (.iconst 0, 1) := by decide +kernel
theorem dX10_crossing_77 : decode cX10_crossing 77 = .ok (.ior, 1) := by decide +kernel
theorem dX10_crossing_78 : decode cX10_crossing 78 = .ok (.istore_n 3, 1) := by decide +kernel
theorem dX10_crossing_79 : decode cX10_crossing 79 = .ok (.iinc 4 1, 3) := by decide +kernel
theorem dX10_crossing_82 : decode cX10_crossing 82 = .ok (.goto (-77), 3) := by decide +kernel
theorem dX10_crossing_85 : decode cX10_crossing 85 = .ok (.iload_n 3, 1) := by decide +kernel
theorem dX10_crossing_86 : decode cX10_crossing 86 = .ok (.ireturn, 1) := by decide +kernel
theorem dX10_strengthOn_0 : decode cX10_strengthOn 0 = .ok (.iconst 0, 1) := by decide +kernel
theorem dX10_strengthOn_1 : decode cX10_strengthOn 1 = .ok (.istore_n 3, 1) := by decide +kernel
theorem dX10_strengthOn_2 : decode cX10_strengthOn 2 = .ok (.iconst 0, 1) := by decide +kernel
theorem dX10_strengthOn_3 : decode cX10_strengthOn 3 = .ok (.istore 4, 2) := by decide +kernel
theorem dX10_strengthOn_5 : decode cX10_strengthOn 5 = .ok (.iload 4, 2) := by decide +kernel
theorem dX10_strengthOn_7 : decode cX10_strengthOn 7 = .ok (.aload_n 1, 1) := by decide +kernel
theorem dX10_strengthOn_8 : decode cX10_strengthOn 8 = .ok (.bipush 48, 2) := by decide +kernel
theorem dX10_strengthOn_10 : decode cX10_strengthOn 10 = .ok (.iaload, 1) := by decide +kernel
theorem dX10_strengthOn_11 : decode cX10_strengthOn 11 = .ok (.if_icmp .ge 34, 3) := by decide +kernel
theorem dX10_strengthOn_14 : decode cX10_strengthOn 14 = .ok (.iload_n 3, 1) := by decide +kernel
theorem dX10_strengthOn_15 : decode cX10_strengthOn 15 = .ok (.aload_n 0, 1) := by decide +kernel
theorem dX10_strengthOn_16 : decode cX10_strengthOn 16 = .ok (.aload_n 1, 1) := by decide +kernel
theorem dX10_strengthOn_17 : decode cX10_strengthOn 17 = .ok (.iload 4, 2) := by decide +kernel
theorem dX10_strengthOn_19 : decode cX10_strengthOn 19 = .ok (.iload_n 2, 1) := by decide +kernel
theorem dX10_strengthOn_20 : decode cX10_strengthOn 20 = .ok (.invokevirtual 133, 3) := by decide +kernel
theorem dX10_strengthOn_23 : decode cX10_strengthOn 23 = .ok (.ifCond .eq 13, 3) := by decide +kernel
theorem dX10_strengthOn_26 : decode cX10_strengthOn 26 = .ok (.aload_n 1, 1) := by decide +kernel
theorem dX10_strengthOn_27 : decode cX10_strengthOn 27 = .ok (.bipush 24, 2) := by decide +kernel
theorem dX10_strengthOn_29 : decode cX10_strengthOn 29 = .ok (.iload 4, 2) := by decide +kernel
theorem dX10_strengthOn_31 : decode cX10_strengthOn 31 = .ok (.iadd, 1) := by decide +kernel
theorem dX10_strengthOn_32 : decode cX10_strengthOn 32 = .ok (.iaload, 1) := by decide +kernel
theorem dX10_strengthOn_33 : decode cX10_strengthOn 33 = .ok (.goto 4, 3) := by decide +kernel
theorem dX10_strengthOn_36 : decode cX10_strengthOn 36 = .ok (.iconst 0, 1) := by decide +kernel
theorem dX10_strengthOn_37 : decode cX10_strengthOn 37 = .ok (.iadd, 1) := by decide +kernel
theorem dX10_strengthOn_38 : decode cX10_strengthOn 38 = .ok (.istore_n 3, 1) := by decide +kernel
theorem dX10_strengthOn_39 : decode cX10_strengthOn 39 = .ok (.iinc 4 1, 3) := by decide +kernel
theorem dX10_strengthOn_42 : decode cX10_strengthOn 42 = .ok (.goto (-37), 3) := by decide +kernel
theorem dX10_strengthOn_45 : decode cX10_strengthOn 45 = .ok (.iload_n 3, 1) := by decide +kernel
theorem dX10_strengthOn_46 : decode cX10_strengthOn 46 = .ok (.ireturn, 1) := by decide +kernel
theorem dX10_sign_0 : decode cX10_sign 0 = .ok (.aload_n 0, 1) := by decide +kernel
theorem dX10_sign_1 : decode cX10_sign 1 = .ok (.iconst 0, 1) := by decide +kernel
theorem dX10_sign_2 : decode cX10_sign 2 = .ok (.putfield 103, 3) := by decide +kernel
theorem dX10_sign_5 : decode cX10_sign 5 = .ok (.aload_n 0, 1) := by decide +kernel
theorem dX10_sign_6 : decode cX10_sign 6 = .ok (.getfield 145, 3) := by decide +kernel
theorem dX10_sign_9 : decode cX10_sign 9 = .ok (.bipush 76, 2) := by decide +kernel
theorem dX10_sign_11 : decode cX10_sign 11 = .ok (.if_icmp .le 5, 3) := by decide +kernel
theorem dX10_sign_14 : decode cX10_sign 14 = .ok (.iconst (-1), 1) := by decide +kernel
theorem dX10_sign_15 : decode cX10_sign 15 = .ok (.ireturn, 1) := by decide +kernel
theorem dX10_sign_16 : decode cX10_sign 16 = .ok (.iconst 0, 1) := by decide +kernel
theorem dX10_sign_17 : decode cX10_sign 17 = .ok (.istore_n 2, 1) := by decide +kernel
theorem dX10_sign_18 : decode cX10_sign 18 = .ok (.iload_n 2, 1) := by decide +kernel
theorem dX10_sign_19 : decode cX10_sign 19 = .ok (.iconst 4, 1) := by decide +kernel
theorem dX10_sign_20 : decode cX10_sign 20 = .ok (.if_icmp .ge 33, 3) := by decide +kernel
theorem dX10_sign_23 : decode cX10_sign 23 = .ok (.aload_n 0, 1) := by decide +kernel
theorem dX10_sign_24 : decode cX10_sign 24 = .ok (.getfield 27, 3) := by decide +kernel
theorem dX10_sign_27 : decode cX10_sign 27 = .ok (.aload_n 0, 1) := by decide +kernel
theorem dX10_sign_28 : decode cX10_sign 28 = .ok (.getfield 145, 3) := by decide +kernel
theorem dX10_sign_31 : decode cX10_sign 31 = .ok (.iload_n 2, 1) := by decide +kernel
theorem dX10_sign_32 : decode cX10_sign 32 = .ok (.iadd, 1) := by decide +kernel
theorem dX10_sign_33 : decode cX10_sign 33 = .ok (.iload_n 1, 1) := by decide +kernel
theorem dX10_sign_34 : decode cX10_sign 34 = .ok (.bipush 24, 2) := by decide +kernel
theorem dX10_sign_36 : decode cX10_sign 36 = .ok (.bipush 8, 2) := by decide +kernel
theorem dX10_sign_38 : decode cX10_sign 38 = .ok (.iload_n 2, 1) := by decide +kernel
theorem dX10_sign_39 : decode cX10_sign 39 = .ok (.imul, 1) := by decide +kernel
theorem dX10_sign_40 : decode cX10_sign 40 = .ok (.isub, 1) := by decide +kernel
theorem dX10_sign_41 : decode cX10_sign 41 = .ok (.ishr, 1) := by decide +kernel
theorem dX10_sign_42 : decode cX10_sign 42 = .ok (.sipush 255, 3) := by decide +kernel
theorem dX10_sign_45 : decode cX10_sign 45 = .ok (.iand, 1) := by decide +kernel
theorem dX10_sign_46 : decode cX10_sign 46 = .ok (.iastore, 1) := by decide +kernel
theorem dX10_sign_47 : decode cX10_sign 47 = .ok (.iinc 2 1, 3) := by decide +kernel
theorem dX10_sign_50 : decode cX10_sign 50 = .ok (.goto (-32), 3) := by decide +kernel
theorem dX10_sign_53 : decode cX10_sign 53 = .ok (.aload_n 0, 1) := by decide +kernel
theorem dX10_sign_54 : decode cX10_sign 54 = .ok (.dup, 1) := by decide +kernel
theorem dX10_sign_55 : decode cX10_sign 55 = .ok (.getfield 145, 3) := by decide +kernel
theorem dX10_sign_58 : decode cX10_sign 58 = .ok (.iconst 4, 1) := by decide +kernel
theorem dX10_sign_59 : decode cX10_sign 59 = .ok (.iadd, 1) := by decide +kernel
theorem dX10_sign_60 : decode cX10_sign 60 = .ok (.putfield 145, 3) := by decide +kernel
theorem dX10_sign_63 : decode cX10_sign 63 = .ok (.aload_n 0, 1) := by decide +kernel
theorem dX10_sign_64 : decode cX10_sign 64 = .ok (.getfield 145, 3) := by decide +kernel
theorem dX10_sign_67 : decode cX10_sign 67 = .ok (.ireturn, 1) := by decide +kernel
theorem dX10_end_0 : decode cX10_end 0 = .ok (.aload_n 0, 1) := by decide +kernel
theorem dX10_end_1 : decode cX10_end 1 = .ok (.iconst 0, 1) := by decide +kernel
theorem dX10_end_2 : decode cX10_end 2 = .ok (.putfield 103, 3) := by decide +kernel
theorem dX10_end_5 : decode cX10_end 5 = .ok (.iload_n 1, 1) := by decide +kernel
theorem dX10_end_6 : decode cX10_end 6 = .ok (.i2l, 1) := by decide +kernel
theorem dX10_end_7 : decode cX10_end 7 = .ok (.lconst 0, 1) := by decide +kernel
theorem dX10_end_8 : decode cX10_end 8 = .ok (.aload_n 0, 1) := by decide +kernel
theorem dX10_end_9 : decode cX10_end 9 = .ok (.getfield 145, 3) := by decide +kernel
theorem dX10_end_12 : decode cX10_end 12 = .ok (.i2l, 1) := by decide +kernel
theorem dX10_end_13 : decode cX10_end 13 = .ok (.invokestatic 117, 3) := by decide +kernel
theorem dX10_end_16 : decode cX10_end 16 = .ok (.ifCond .ne 5, 3) := by decide +kernel
theorem dX10_end_19 : decode cX10_end 19 = .ok (.iconst 0, 1) := by decide +kernel
theorem dX10_end_20 : decode cX10_end 20 = .ok (.ireturn, 1) := by decide +kernel
theorem dX10_end_21 : decode cX10_end 21 = .ok (.aload_n 0, 1) := by decide +kernel
theorem dX10_end_22 : decode cX10_end 22 = .ok (.iload_n 1, 1) := by decide +kernel
theorem dX10_end_23 : decode cX10_end 23 = .ok (.putfield 145, 3) := by decide +kernel
theorem dX10_end_26 : decode cX10_end 26 = .ok (.iconst 1, 1) := by decide +kernel
theorem dX10_end_27 : decode cX10_end 27 = .ok (.ireturn, 1) := by decide +kernel
theorem dX10_begins_0 : decode cX10_begins 0 = .ok (.aload_n 0, 1) := by decide +kernel
theorem dX10_begins_1 : decode cX10_begins 1 = .ok (.getfield 145, 3) := by decide +kernel
theorem dX10_begins_4 : decode cX10_begins 4 = .ok (.istore_n 2, 1) := by decide +kernel
theorem dX10_begins_5 : decode cX10_begins 5 = .ok (.aload_n 0, 1) := by decide +kernel
theorem dX10_begins_6 : decode cX10_begins 6 = .ok (.iconst 0, 1) := by decide +kernel
theorem dX10_begins_7 : decode cX10_begins 7 = .ok (.putfield 145, 3) := by decide +kernel
theorem dX10_begins_10 : decode cX10_begins 10 = .ok (.aload_n 0, 1) := by decide +kernel
theorem dX10_begins_11 : decode cX10_begins 11 = .ok (.iconst 0, 1) := by decide +kernel
theorem dX10_begins_12 : decode cX10_begins 12 = .ok (.putfield 148, 3) := by decide +kernel
theorem dX10_begins_15 : decode cX10_begins 15 = .ok (.aload_n 0, 1) := by decide +kernel
theorem dX10_begins_16 : decode cX10_begins 16 = .ok (.iconst 0, 1) := by decide +kernel
theorem dX10_begins_17 : decode cX10_begins 17 = .ok (.putfield 151, 3) := by decide +kernel
theorem dX10_begins_20 : decode cX10_begins 20 = .ok (.aload_n 0, 1) := by decide +kernel
theorem dX10_begins_21 : decode cX10_begins 21 = .ok (.iload_n 2, 1) := by decide +kernel
theorem dX10_begins_22 : decode cX10_begins 22 = .ok (.iload_n 1, 1) := by decide +kernel
theorem dX10_begins_23 : decode cX10_begins 23 = .ok (.invokestatic 154, 3) := by decide +kernel
theorem dX10_begins_26 : decode cX10_begins 26 = .ok (.putfield 160, 3) := by decide +kernel
theorem dX10_begins_29 : decode cX10_begins 29 = .ok (.iload_n 2, 1) := by decide +kernel
theorem dX10_begins_30 : decode cX10_begins 30 = .ok (.ireturn, 1) := by decide +kernel
theorem dX10_takes_0 : decode cX10_takes 0 = .ok (.aload_n 0, 1) := by decide +kernel
theorem dX10_takes_1 : decode cX10_takes 1 = .ok (.getfield 148, 3) := by decide +kernel
theorem dX10_takes_4 : decode cX10_takes 4 = .ok (.aload_n 0, 1) := by decide +kernel
theorem dX10_takes_5 : decode cX10_takes 5 = .ok (.getfield 160, 3) := by decide +kernel
theorem dX10_takes_8 : decode cX10_takes 8 = .ok (.if_icmp .ge 20, 3) := by decide +kernel
theorem dX10_takes_11 : decode cX10_takes 11 = .ok (.aload_n 0, 1) := by decide +kernel
theorem dX10_takes_12 : decode cX10_takes 12 = .ok (.getfield 27, 3) := by decide +kernel
theorem dX10_takes_15 : decode cX10_takes 15 = .ok (.aload_n 0, 1) := by decide +kernel
theorem dX10_takes_16 : decode cX10_takes 16 = .ok (.getfield 148, 3) := by decide +kernel
theorem dX10_takes_19 : decode cX10_takes 19 = .ok (.iaload, 1) := by decide +kernel
theorem dX10_takes_20 : decode cX10_takes 20 = .ok (.iload_n 1, 1) := by decide +kernel
theorem dX10_takes_21 : decode cX10_takes 21 = .ok (.if_icmp .ne 7, 3) := by decide +kernel
theorem dX10_takes_24 : decode cX10_takes 24 = .ok (.iconst 1, 1) := by decide +kernel
theorem dX10_takes_25 : decode cX10_takes 25 = .ok (.goto 4, 3) := by decide +kernel
theorem dX10_takes_28 : decode cX10_takes 28 = .ok (.iconst 0, 1) := by decide +kernel
theorem dX10_takes_29 : decode cX10_takes 29 = .ok (.istore_n 2, 1) := by decide +kernel
theorem dX10_takes_30 : decode cX10_takes 30 = .ok (.aload_n 0, 1) := by decide +kernel
theorem dX10_takes_31 : decode cX10_takes 31 = .ok (.dup, 1) := by decide +kernel
theorem dX10_takes_32 : decode cX10_takes 32 = .ok (.getfield 148, 3) := by decide +kernel
theorem dX10_takes_35 : decode cX10_takes 35 = .ok (.iload_n 2, 1) := by decide +kernel
theorem dX10_takes_36 : decode cX10_takes 36 = .ok (.invokestatic 163, 3) := by decide +kernel
theorem dX10_takes_39 : decode cX10_takes 39 = .ok (.iadd, 1) := by decide +kernel
theorem dX10_takes_40 : decode cX10_takes 40 = .ok (.putfield 148, 3) := by decide +kernel
theorem dX10_takes_43 : decode cX10_takes 43 = .ok (.iload_n 2, 1) := by decide +kernel
theorem dX10_takes_44 : decode cX10_takes 44 = .ok (.ireturn, 1) := by decide +kernel
theorem dX10_isDigit_0 : decode cX10_isDigit 0 = .ok (.aload_n 0, 1) := by decide +kernel
theorem dX10_isDigit_1 : decode cX10_isDigit 1 = .ok (.getfield 148, 3) := by decide +kernel
theorem dX10_isDigit_4 : decode cX10_isDigit 4 = .ok (.aload_n 0, 1) := by decide +kernel
theorem dX10_isDigit_5 : decode cX10_isDigit 5 = .ok (.getfield 160, 3) := by decide +kernel
theorem dX10_isDigit_8 : decode cX10_isDigit 8 = .ok (.if_icmp .ge 29, 3) := by decide +kernel
theorem dX10_isDigit_11 : decode cX10_isDigit 11 = .ok (.aload_n 0, 1) := by decide +kernel
theorem dX10_isDigit_12 : decode cX10_isDigit 12 = .ok (.getfield 27, 3) := by decide +kernel
theorem dX10_isDigit_15 : decode cX10_isDigit 15 = .ok (.aload_n 0, 1) := by decide +kernel
theorem dX10_isDigit_16 : decode cX10_isDigit 16 = .ok (.getfield 148, 3) := by decide +kernel
theorem dX10_isDigit_19 : decode cX10_isDigit 19 = .ok (.iaload, 1) := by decide +kernel
theorem dX10_isDigit_20 : decode cX10_isDigit 20 = .ok (.i2l, 1) := by decide +kernel
theorem dX10_isDigit_21 : decode cX10_isDigit 21 = .ok (.ldc2_w 167, 3) := by decide +kernel
theorem dX10_isDigit_24 : decode cX10_isDigit 24 = .ok (.ldc2_w 169, 3) := by decide +kernel
theorem dX10_isDigit_27 : decode cX10_isDigit 27 = .ok (.invokestatic 117, 3) := by decide +kernel
theorem dX10_isDigit_30 : decode cX10_isDigit 30 = .ok (.ifCond .eq 7, 3) := by decide +kernel
theorem dX10_isDigit_33 : decode cX10_isDigit 33 = .ok (.iconst 1, 1) := by decide +kernel
theorem dX10_isDigit_34 : decode cX10_isDigit 34 = .ok (.goto 4, 3) := by decide +kernel
theorem dX10_isDigit_37 : decode cX10_isDigit 37 = .ok (.iconst 0, 1) := by decide +kernel
theorem dX10_isDigit_38 : decode cX10_isDigit 38 = .ok (.ireturn, 1) := by decide +kernel
theorem dX10_takesOf_0 : decode cX10_takesOf 0 = .ok (.iconst 0, 1) := by decide +kernel
theorem dX10_takesOf_1 : decode cX10_takesOf 1 = .ok (.istore_n 2, 1) := by decide +kernel
theorem dX10_takesOf_2 : decode cX10_takesOf 2 = .ok (.iload_n 2, 1) := by decide +kernel
theorem dX10_takesOf_3 : decode cX10_takesOf 3 = .ok (.aload_n 1, 1) := by decide +kernel
theorem dX10_takesOf_4 : decode cX10_takesOf 4 = .ok (.invokevirtual 171, 3) := by decide +kernel
theorem dX10_takesOf_7 : decode cX10_takesOf 7 = .ok (.if_icmp .ge 49, 3) := by decide +kernel
theorem dX10_takesOf_10 : decode cX10_takesOf 10 = .ok (.aload_n 0, 1) := by decide +kernel
theorem dX10_takesOf_11 : decode cX10_takesOf 11 = .ok (.getfield 148, 3) := by decide +kernel
theorem dX10_takesOf_14 : decode cX10_takesOf 14 = .ok (.aload_n 0, 1) := by decide +kernel
theorem dX10_takesOf_15 : decode cX10_takesOf 15 = .ok (.getfield 160, 3) := by decide +kernel
theorem dX10_takesOf_18 : decode cX10_takesOf 18 = .ok (.if_icmp .ge 38, 3) := by decide +kernel
theorem dX10_takesOf_21 : decode cX10_takesOf 21 = .ok (.aload_n 1, 1) := by decide +kernel
theorem dX10_takesOf_22 : decode cX10_takesOf 22 = .ok (.iload_n 2, 1) := by decide +kernel
theorem dX10_takesOf_23 : decode cX10_takesOf 23 = .ok (.invokevirtual 176, 3) := by decide +kernel
theorem dX10_takesOf_26 : decode cX10_takesOf 26 = .ok (.aload_n 0, 1) := by decide +kernel
theorem dX10_takesOf_27 : decode cX10_takesOf 27 = .ok (.getfield 27, 3) := by decide +kernel
theorem dX10_takesOf_30 : decode cX10_takesOf 30 = .ok (.aload_n 0, 1) := by decide +kernel
theorem dX10_takesOf_31 : decode cX10_takesOf 31 = .ok (.getfield 148, 3) := by decide +kernel
theorem dX10_takesOf_34 : decode cX10_takesOf 34 = .ok (.iaload, 1) := by decide +kernel
theorem dX10_takesOf_35 : decode cX10_takesOf 35 = .ok (.if_icmp .ne 15, 3) := by decide +kernel
theorem dX10_takesOf_38 : decode cX10_takesOf 38 = .ok (.aload_n 0, 1) := by decide +kernel
theorem dX10_takesOf_39 : decode cX10_takesOf 39 = .ok (.dup, 1) := by decide +kernel
theorem dX10_takesOf_40 : decode cX10_takesOf 40 = .ok (.getfield 148, 3) := by decide +kernel
theorem dX10_takesOf_43 : decode cX10_takesOf 43 = .ok (.iconst 1, 1) := by decide +kernel
theorem dX10_takesOf_44 : decode cX10_takesOf 44 = .ok (.iadd, 1) := by decide +kernel
theorem dX10_takesOf_45 : decode cX10_takesOf 45 = .ok (.putfield 148, 3) := by decide +kernel
theorem dX10_takesOf_48 : decode cX10_takesOf 48 = .ok (.iload_n 2, 1) := by decide +kernel
theorem dX10_takesOf_49 : decode cX10_takesOf 49 = .ok (.ireturn, 1) := by decide +kernel
theorem dX10_takesOf_50 : decode cX10_takesOf 50 = .ok (.iinc 2 1, 3) := by decide +kernel
theorem dX10_takesOf_53 : decode cX10_takesOf 53 = .ok (.goto (-51), 3) := by decide +kernel
theorem dX10_takesOf_56 : decode cX10_takesOf 56 = .ok (.iconst (-1), 1) := by decide +kernel
theorem dX10_takesOf_57 : decode cX10_takesOf 57 = .ok (.ireturn, 1) := by decide +kernel
theorem dX10_number_0 : decode cX10_number 0 = .ok (.aload_n 0, 1) := by decide +kernel
theorem dX10_number_1 : decode cX10_number 1 = .ok (.invokevirtual 180, 3) := by decide +kernel
theorem dX10_number_4 : decode cX10_number 4 = .ok (.ifCond .ne 5, 3) := by decide +kernel
theorem dX10_number_7 : decode cX10_number 7 = .ok (.iconst (-1), 1) := by decide +kernel
theorem dX10_number_8 : decode cX10_number 8 = .ok (.ireturn, 1) := by decide +kernel
theorem dX10_number_9 : decode cX10_number 9 = .ok (.iconst 0, 1) := by decide +kernel
theorem dX10_number_10 : decode cX10_number 10 = .ok (.istore_n 2, 1) := by decide +kernel
theorem dX10_number_11 : decode cX10_number 11 = .ok (.iconst 0, 1) := by decide +kernel
theorem dX10_number_12 : decode cX10_number 12 = .ok (.istore_n 3, 1) := by decide +kernel
theorem dX10_number_13 : decode cX10_number 13 = .ok (.iload_n 3, 1) := by decide +kernel
theorem dX10_number_14 : decode cX10_number 14 = .ok (.iload_n 1, 1) := by decide +kernel
theorem dX10_number_15 : decode cX10_number 15 = .ok (.if_icmp .ge 44, 3) := by decide +kernel
theorem dX10_number_18 : decode cX10_number 18 = .ok (.aload_n 0, 1) := by decide +kernel
theorem dX10_number_19 : decode cX10_number 19 = .ok (.invokevirtual 180, 3) := by decide +kernel
theorem dX10_number_22 : decode cX10_number 22 = .ok (.ifCond .eq 37, 3) := by decide +kernel
theorem dX10_number_25 : decode cX10_number 25 = .ok (.bipush 10, 2) := by decide +kernel
theorem dX10_number_27 : decode cX10_number 27 = .ok (.iload_n 2, 1) := by decide +kernel
theorem dX10_number_28 : decode cX10_number 28 = .ok (.imul, 1) := by decide +kernel
theorem dX10_number_29 : decode cX10_number 29 = .ok (.aload_n 0, 1) := by decide +kernel
theorem dX10_number_30 : decode cX10_number 30 = .ok (.getfield 27, 3) := by decide +kernel
theorem dX10_number_33 : decode cX10_number 33 = .ok (.aload_n 0, 1) := by decide +kernel
theorem dX10_number_34 : decode cX10_number 34 = .ok (.getfield 148, 3) := by decide +kernel
theorem dX10_number_37 : decode cX10_number 37 = .ok (.iaload, 1) := by decide +kernel
theorem dX10_number_38 : decode cX10_number 38 = .ok (.iadd, 1) := by decide +kernel
theorem dX10_number_39 : decode cX10_number 39 = .ok (.bipush 48, 2) := by decide +kernel
theorem dX10_number_41 : decode cX10_number 41 = .ok (.isub, 1) := by decide +kernel
theorem dX10_number_42 : decode cX10_number 42 = .ok (.istore_n 2, 1) := by decide +kernel
theorem dX10_number_43 : decode cX10_number 43 = .ok (.aload_n 0, 1) := by decide +kernel
theorem dX10_number_44 : decode cX10_number 44 = .ok (.dup, 1) := by decide +kernel
theorem dX10_number_45 : decode cX10_number 45 = .ok (.getfield 148, 3) := by decide +kernel
theorem dX10_number_48 : decode cX10_number 48 = .ok (.iconst 1, 1) := by decide +kernel
theorem dX10_number_49 : decode cX10_number 49 = .ok (.iadd, 1) := by decide +kernel
theorem dX10_number_50 : decode cX10_number 50 = .ok (.putfield 148, 3) := by decide +kernel
theorem dX10_number_53 : decode cX10_number 53 = .ok (.iinc 3 1, 3) := by decide +kernel
theorem dX10_number_56 : decode cX10_number 56 = .ok (.goto (-43), 3) := by decide +kernel
theorem dX10_number_59 : decode cX10_number 59 = .ok (.iload_n 2, 1) := by decide +kernel
theorem dX10_number_60 : decode cX10_number 60 = .ok (.ireturn, 1) := by decide +kernel
theorem dX10_digitIn_0 : decode cX10_digitIn 0 = .ok (.aload_n 0, 1) := by decide +kernel
theorem dX10_digitIn_1 : decode cX10_digitIn 1 = .ok (.getfield 148, 3) := by decide +kernel
theorem dX10_digitIn_4 : decode cX10_digitIn 4 = .ok (.aload_n 0, 1) := by decide +kernel
theorem dX10_digitIn_5 : decode cX10_digitIn 5 = .ok (.getfield 160, 3) := by decide +kernel
theorem dX10_digitIn_8 : decode cX10_digitIn 8 = .ok (.if_icmp .ge 26, 3) := by decide +kernel
theorem dX10_digitIn_11 : decode cX10_digitIn 11 = .ok (.aload_n 0, 1) := by decide +kernel
theorem dX10_digitIn_12 : decode cX10_digitIn 12 = .ok (.getfield 27, 3) := by decide +kernel
theorem dX10_digitIn_15 : decode cX10_digitIn 15 = .ok (.aload_n 0, 1) := by decide +kernel
theorem dX10_digitIn_16 : decode cX10_digitIn 16 = .ok (.getfield 148, 3) := by decide +kernel
theorem dX10_digitIn_19 : decode cX10_digitIn 19 = .ok (.iaload, 1) := by decide +kernel
theorem dX10_digitIn_20 : decode cX10_digitIn 20 = .ok (.bipush 48, 2) := by decide +kernel
theorem dX10_digitIn_22 : decode cX10_digitIn 22 = .ok (.isub, 1) := by decide +kernel
theorem dX10_digitIn_23 : decode cX10_digitIn 23 = .ok (.i2l, 1) := by decide +kernel
theorem dX10_digitIn_24 : decode cX10_digitIn 24 = .ok (.iload_n 1, 1) := by decide +kernel
theorem dX10_digitIn_25 : decode cX10_digitIn 25 = .ok (.i2l, 1) := by decide +kernel
theorem dX10_digitIn_26 : decode cX10_digitIn 26 = .ok (.iload_n 2, 1) := by decide +kernel
theorem dX10_digitIn_27 : decode cX10_digitIn 27 = .ok (.i2l, 1) := by decide +kernel
theorem dX10_digitIn_28 : decode cX10_digitIn 28 = .ok (.invokestatic 117, 3) := by decide +kernel
theorem dX10_digitIn_31 : decode cX10_digitIn 31 = .ok (.ifCond .ne 5, 3) := by decide +kernel
theorem dX10_digitIn_34 : decode cX10_digitIn 34 = .ok (.iconst (-1), 1) := by decide +kernel
theorem dX10_digitIn_35 : decode cX10_digitIn 35 = .ok (.ireturn, 1) := by decide +kernel
theorem dX10_digitIn_36 : decode cX10_digitIn 36 = .ok (.aload_n 0, 1) := by decide +kernel
theorem dX10_digitIn_37 : decode cX10_digitIn 37 = .ok (.dup, 1) := by decide +kernel
theorem dX10_digitIn_38 : decode cX10_digitIn 38 = .ok (.getfield 148, 3) := by decide +kernel
theorem dX10_digitIn_41 : decode cX10_digitIn 41 = .ok (.iconst 1, 1) := by decide +kernel
theorem dX10_digitIn_42 : decode cX10_digitIn 42 = .ok (.iadd, 1) := by decide +kernel
theorem dX10_digitIn_43 : decode cX10_digitIn 43 = .ok (.putfield 148, 3) := by decide +kernel
theorem dX10_digitIn_46 : decode cX10_digitIn 46 = .ok (.aload_n 0, 1) := by decide +kernel
theorem dX10_digitIn_47 : decode cX10_digitIn 47 = .ok (.getfield 27, 3) := by decide +kernel
theorem dX10_digitIn_50 : decode cX10_digitIn 50 = .ok (.aload_n 0, 1) := by decide +kernel
theorem dX10_digitIn_51 : decode cX10_digitIn 51 = .ok (.getfield 148, 3) := by decide +kernel
theorem dX10_digitIn_54 : decode cX10_digitIn 54 = .ok (.iconst 1, 1) := by decide +kernel
theorem dX10_digitIn_55 : decode cX10_digitIn 55 = .ok (.isub, 1) := by decide +kernel
theorem dX10_digitIn_56 : decode cX10_digitIn 56 = .ok (.iaload, 1) := by decide +kernel
theorem dX10_digitIn_57 : decode cX10_digitIn 57 = .ok (.bipush 48, 2) := by decide +kernel
theorem dX10_digitIn_59 : decode cX10_digitIn 59 = .ok (.isub, 1) := by decide +kernel
theorem dX10_digitIn_60 : decode cX10_digitIn 60 = .ok (.ireturn, 1) := by decide +kernel
theorem dX10_faultOf_0 : decode cX10_faultOf 0 = .ok (.iload_n 3, 1) := by decide +kernel
theorem dX10_faultOf_1 : decode cX10_faultOf 1 = .ok (.ifCond .eq 18, 3) := by decide +kernel
theorem dX10_faultOf_4 : decode cX10_faultOf 4 = .ok (.aload_n 0, 1) := by decide +kernel
theorem dX10_faultOf_5 : decode cX10_faultOf 5 = .ok (.getfield 148, 3) := by decide +kernel
theorem dX10_faultOf_8 : decode cX10_faultOf 8 = .ok (.aload_n 0, 1) := by decide +kernel
theorem dX10_faultOf_9 : decode cX10_faultOf 9 = .ok (.getfield 160, 3) := by decide +kernel
theorem dX10_faultOf_12 : decode cX10_faultOf 12 = .ok (.if_icmp .ne 7, 3) := by decide +kernel
theorem dX10_faultOf_15 : decode cX10_faultOf 15 = .ok (.iconst 1, 1) := by decide +kernel
theorem dX10_faultOf_16 : decode cX10_faultOf 16 = .ok (.goto 4, 3) := by decide +kernel
theorem dX10_faultOf_19 : decode cX10_faultOf 19 = .ok (.iconst 0, 1) := by decide +kernel
theorem dX10_faultOf_20 : decode cX10_faultOf 20 = .ok (.istore 4, 2) := by decide +kernel
theorem dX10_faultOf_22 : decode cX10_faultOf 22 = .ok (.iload_n 1, 1) := by decide +kernel
theorem dX10_faultOf_23 : decode cX10_faultOf 23 = .ok (.iload_n 2, 1) := by decide +kernel
theorem dX10_faultOf_24 : decode cX10_faultOf 24 = .ok (.if_icmp .le 20, 3) := by decide +kernel
theorem dX10_faultOf_27 : decode cX10_faultOf 27 = .ok (.iload 4, 2) := by decide +kernel
theorem dX10_faultOf_29 : decode cX10_faultOf 29 = .ok (.ifCond .ne 11, 3) := by decide +kernel
theorem dX10_faultOf_32 : decode cX10_faultOf 32 = .ok (.aload_n 0, 1) := by decide +kernel
theorem dX10_faultOf_33 : decode cX10_faultOf 33 = .ok (.getfield 148, 3) := by decide +kernel
theorem dX10_faultOf_36 : decode cX10_faultOf 36 = .ok (.iload_n 2, 1) := by decide +kernel
theorem dX10_faultOf_37 : decode cX10_faultOf 37 = .ok (.if_icmp .lt 7, 3) := by decide +kernel
theorem dX10_faultOf_40 : decode cX10_faultOf 40 = .ok (.iconst (-1), 1) := by decide +kernel
theorem dX10_faultOf_41 : decode cX10_faultOf 41 = .ok (.iload_n 2, 1) := by decide +kernel
theorem dX10_faultOf_42 : decode cX10_faultOf 42 = .ok (.isub, 1) := by decide +kernel
theorem dX10_faultOf_43 : decode cX10_faultOf 43 = .ok (.ireturn, 1) := by decide +kernel
theorem dX10_faultOf_44 : decode cX10_faultOf 44 = .ok (.iload 4, 2) := by decide +kernel
theorem dX10_faultOf_46 : decode cX10_faultOf 46 = .ok (.ifCond .eq 7, 3) := by decide +kernel
theorem dX10_faultOf_49 : decode cX10_faultOf 49 = .ok (.iconst 0, 1) := by decide +kernel
theorem dX10_faultOf_50 : decode cX10_faultOf 50 = .ok (.goto 9, 3) := by decide +kernel
theorem dX10_faultOf_53 : decode cX10_faultOf 53 = .ok (.iconst (-1), 1) := by decide +kernel
theorem dX10_faultOf_54 : decode cX10_faultOf 54 = .ok (.aload_n 0, 1) := by decide +kernel
theorem dX10_faultOf_55 : decode cX10_faultOf 55 = .ok (.getfield 148, 3) := by decide +kernel
