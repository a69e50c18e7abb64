theorem dX10_seenFrom_10 : decode cX10_seenFrom 10 = .ok (.getfield 17, 3) := by decide +kernel
theorem dX10_seenFrom_13 : decode cX10_seenFrom 13 = .ok (.if_icmp .ge 127, 3) := by decide +kernel
theorem dX10_seenFrom_16 : decode cX10_seenFrom 16 = .ok (.aload_n 0, 1) := by decide +kernel
theorem dX10_seenFrom_17 : decode cX10_seenFrom 17 = .ok (.aload_n 0, 1) := by decide +kernel
theorem dX10_seenFrom_18 : decode cX10_seenFrom 18 = .ok (.getfield 20, 3) := by decide +kernel
theorem dX10_seenFrom_21 : decode cX10_seenFrom 21 = .ok (.aload_n 0, 1) := by decide +kernel
theorem dX10_seenFrom_22 : decode cX10_seenFrom 22 = .ok (.getfield 17, 3) := by decide +kernel
theorem dX10_seenFrom_25 : decode cX10_seenFrom 25 = .ok (.iload_n 1, 1) := by decide +kernel
theorem dX10_seenFrom_26 : decode cX10_seenFrom 26 = .ok (.imul, 1) := by decide +kernel
theorem dX10_seenFrom_27 : decode cX10_seenFrom 27 = .ok (.iload 4, 2) := by decide +kernel
theorem dX10_seenFrom_29 : decode cX10_seenFrom 29 = .ok (.iadd, 1) := by decide +kernel
theorem dX10_seenFrom_30 : decode cX10_seenFrom 30 = .ok (.invokevirtual 294, 3) := by decide +kernel
theorem dX10_seenFrom_33 : decode cX10_seenFrom 33 = .ok (.istore 5, 2) := by decide +kernel
theorem dX10_seenFrom_35 : decode cX10_seenFrom 35 = .ok (.iconst 0, 1) := by decide +kernel
theorem dX10_seenFrom_36 : decode cX10_seenFrom 36 = .ok (.istore 6, 2) := by decide +kernel
theorem dX10_seenFrom_38 : decode cX10_seenFrom 38 = .ok (.iconst 0, 1) := by decide +kernel
theorem dX10_seenFrom_39 : decode cX10_seenFrom 39 = .ok (.istore 7, 2) := by decide +kernel
theorem dX10_seenFrom_41 : decode cX10_seenFrom 41 = .ok (.iload 7, 2) := by decide +kernel
theorem dX10_seenFrom_43 : decode cX10_seenFrom 43 = .ok (.aload_n 0, 1) := by decide +kernel
theorem dX10_seenFrom_44 : decode cX10_seenFrom 44 = .ok (.getfield 20, 3) := by decide +kernel
theorem dX10_seenFrom_47 : decode cX10_seenFrom 47 = .ok (.bipush 48, 2) := by decide +kernel
theorem dX10_seenFrom_49 : decode cX10_seenFrom 49 = .ok (.iaload, 1) := by decide +kernel
theorem dX10_seenFrom_50 : decode cX10_seenFrom 50 = .ok (.if_icmp .ge 77, 3) := by decide +kernel
theorem dX10_seenFrom_53 : decode cX10_seenFrom 53 = .ok (.iload_n 2, 1) := by decide +kernel
theorem dX10_seenFrom_54 : decode cX10_seenFrom 54 = .ok (.iload 5, 2) := by decide +kernel
theorem dX10_seenFrom_56 : decode cX10_seenFrom 56 = .ok (.i2l, 1) := by decide +kernel
theorem dX10_seenFrom_57 : decode cX10_seenFrom 57 = .ok (.iload 7, 2) := by decide +kernel
theorem dX10_seenFrom_59 : decode cX10_seenFrom 59 = .ok (.invokestatic 137, 3) := by decide +kernel
theorem dX10_seenFrom_62 : decode cX10_seenFrom 62 = .ok (.ifCond .eq 24, 3) := by decide +kernel
theorem dX10_seenFrom_65 : decode cX10_seenFrom 65 = .ok (.aload_n 0, 1) := by decide +kernel
theorem dX10_seenFrom_66 : decode cX10_seenFrom 66 = .ok (.getfield 20, 3) := by decide +kernel
theorem dX10_seenFrom_69 : decode cX10_seenFrom 69 = .ok (.bipush 24, 2) := by decide +kernel
theorem dX10_seenFrom_71 : decode cX10_seenFrom 71 = .ok (.iload 7, 2) := by decide +kernel
theorem dX10_seenFrom_73 : decode cX10_seenFrom 73 = .ok (.iadd, 1) := by decide +kernel
theorem dX10_seenFrom_74 : decode cX10_seenFrom 74 = .ok (.iaload, 1) := by decide +kernel
theorem dX10_seenFrom_75 : decode cX10_seenFrom 75 = .ok (.iload_n 3, 1) := by decide +kernel
theorem dX10_seenFrom_76 : decode cX10_seenFrom 76 = .ok (.if_icmp .lt 10, 3) := by decide +kernel
theorem dX10_seenFrom_79 : decode cX10_seenFrom 79 = .ok (.iconst 1, 1) := by decide +kernel
theorem dX10_seenFrom_80 : decode cX10_seenFrom 80 = .ok (.iload 7, 2) := by decide +kernel
theorem dX10_seenFrom_82 : decode cX10_seenFrom 82 = .ok (.ishl, 1) := by decide +kernel
theorem dX10_seenFrom_83 : decode cX10_seenFrom 83 = .ok (.goto 4, 3) := by decide +kernel
theorem dX10_seenFrom_86 : decode cX10_seenFrom 86 = .ok (.iconst 0, 1) := by decide +kernel
theorem dX10_seenFrom_87 : decode cX10_seenFrom 87 = .ok (.ior, 1) := by decide +kernel
theorem dX10_seenFrom_88 : decode cX10_seenFrom 88 = .ok (.istore_n 2, 1) := by decide +kernel
theorem dX10_seenFrom_89 : decode cX10_seenFrom 89 = .ok (.iload 6, 2) := by decide +kernel
theorem dX10_seenFrom_91 : decode cX10_seenFrom 91 = .ok (.iload 5, 2) := by decide +kernel
theorem dX10_seenFrom_93 : decode cX10_seenFrom 93 = .ok (.i2l, 1) := by decide +kernel
theorem dX10_seenFrom_94 : decode cX10_seenFrom 94 = .ok (.iload 7, 2) := by decide +kernel
theorem dX10_seenFrom_96 : decode cX10_seenFrom 96 = .ok (.invokestatic 137, 3) := by decide +kernel
theorem dX10_seenFrom_99 : decode cX10_seenFrom 99 = .ok (.ifCond .eq 16, 3) := by decide +kernel
theorem dX10_seenFrom_102 : decode cX10_seenFrom 102 = .ok (.aload_n 0, 1) := by decide +kernel
theorem dX10_seenFrom_103 : decode cX10_seenFrom 103 = .ok (.getfield 20, 3) := by decide +kernel
theorem dX10_seenFrom_106 : decode cX10_seenFrom 106 = .ok (.bipush 24, 2) := by decide +kernel
theorem dX10_seenFrom_108 : decode cX10_seenFrom 108 = .ok (.iload 7, 2) := by decide +kernel
theorem dX10_seenFrom_110 : decode cX10_seenFrom 110 = .ok (.iadd, 1) := by decide +kernel
theorem dX10_seenFrom_111 : decode cX10_seenFrom 111 = .ok (.iaload, 1) := by decide +kernel
theorem dX10_seenFrom_112 : decode cX10_seenFrom 112 = .ok (.goto 4, 3) := by decide +kernel
theorem dX10_seenFrom_115 : decode cX10_seenFrom 115 = .ok (.iconst 0, 1) := by decide +kernel
theorem dX10_seenFrom_116 : decode cX10_seenFrom 116 = .ok (.invokestatic 272, 3) := by decide +kernel
theorem dX10_seenFrom_119 : decode cX10_seenFrom 119 = .ok (.istore 6, 2) := by decide +kernel
theorem dX10_seenFrom_121 : decode cX10_seenFrom 121 = .ok (.iinc 7 1, 3) := by decide +kernel
theorem dX10_seenFrom_124 : decode cX10_seenFrom 124 = .ok (.goto (-83), 3) := by decide +kernel
theorem dX10_seenFrom_127 : decode cX10_seenFrom 127 = .ok (.iload_n 3, 1) := by decide +kernel
theorem dX10_seenFrom_128 : decode cX10_seenFrom 128 = .ok (.iload 6, 2) := by decide +kernel
theorem dX10_seenFrom_130 : decode cX10_seenFrom 130 = .ok (.invokestatic 272, 3) := by decide +kernel
theorem dX10_seenFrom_133 : decode cX10_seenFrom 133 = .ok (.istore_n 3, 1) := by decide +kernel
theorem dX10_seenFrom_134 : decode cX10_seenFrom 134 = .ok (.iinc 4 1, 3) := by decide +kernel
theorem dX10_seenFrom_137 : decode cX10_seenFrom 137 = .ok (.goto (-130), 3) := by decide +kernel
theorem dX10_seenFrom_140 : decode cX10_seenFrom 140 = .ok (.iload_n 2, 1) := by decide +kernel
theorem dX10_seenFrom_141 : decode cX10_seenFrom 141 = .ok (.ireturn, 1) := by decide +kernel
theorem dX10_seen_0 : decode cX10_seen 0 = .ok (.aload_n 0, 1) := by decide +kernel
theorem dX10_seen_1 : decode cX10_seen 1 = .ok (.iconst 0, 1) := by decide +kernel
theorem dX10_seen_2 : decode cX10_seen 2 = .ok (.putfield 103, 3) := by decide +kernel
theorem dX10_seen_5 : decode cX10_seen 5 = .ok (.iload_n 1, 1) := by decide +kernel
theorem dX10_seen_6 : decode cX10_seen 6 = .ok (.i2l, 1) := by decide +kernel
theorem dX10_seen_7 : decode cX10_seen 7 = .ok (.lconst 0, 1) := by decide +kernel
theorem dX10_seen_8 : decode cX10_seen 8 = .ok (.aload_n 0, 1) := by decide +kernel
theorem dX10_seen_9 : decode cX10_seen 9 = .ok (.getfield 13, 3) := by decide +kernel
theorem dX10_seen_12 : decode cX10_seen 12 = .ok (.iconst 1, 1) := by decide +kernel
theorem dX10_seen_13 : decode cX10_seen 13 = .ok (.isub, 1) := by decide +kernel
theorem dX10_seen_14 : decode cX10_seen 14 = .ok (.i2l, 1) := by decide +kernel
theorem dX10_seen_15 : decode cX10_seen 15 = .ok (.invokestatic 117, 3) := by decide +kernel
theorem dX10_seen_18 : decode cX10_seen 18 = .ok (.ifCond .ne 5, 3) := by decide +kernel
theorem dX10_seen_21 : decode cX10_seen 21 = .ok (.iconst (-1), 1) := by decide +kernel
theorem dX10_seen_22 : decode cX10_seen 22 = .ok (.ireturn, 1) := by decide +kernel
theorem dX10_seen_23 : decode cX10_seen 23 = .ok (.aload_n 0, 1) := by decide +kernel
theorem dX10_seen_24 : decode cX10_seen 24 = .ok (.iload_n 1, 1) := by decide +kernel
theorem dX10_seen_25 : decode cX10_seen 25 = .ok (.invokevirtual 409, 3) := by decide +kernel
theorem dX10_seen_28 : decode cX10_seen 28 = .ok (.istore_n 2, 1) := by decide +kernel
theorem dX10_seen_29 : decode cX10_seen 29 = .ok (.aload_n 0, 1) := by decide +kernel
theorem dX10_seen_30 : decode cX10_seen 30 = .ok (.iconst 0, 1) := by decide +kernel
theorem dX10_seen_31 : decode cX10_seen 31 = .ok (.putfield 110, 3) := by decide +kernel
theorem dX10_seen_34 : decode cX10_seen 34 = .ok (.aload_n 0, 1) := by decide +kernel
theorem dX10_seen_35 : decode cX10_seen 35 = .ok (.iload_n 2, 1) := by decide +kernel
theorem dX10_seen_36 : decode cX10_seen 36 = .ok (.invokestatic 264, 3) := by decide +kernel
theorem dX10_seen_39 : decode cX10_seen 39 = .ok (.i2l, 1) := by decide +kernel
theorem dX10_seen_40 : decode cX10_seen 40 = .ok (.invokevirtual 339, 3) := by decide +kernel
theorem dX10_seen_43 : decode cX10_seen 43 = .ok (.iload_n 2, 1) := by decide +kernel
theorem dX10_seen_44 : decode cX10_seen 44 = .ok (.ireturn, 1) := by decide +kernel
theorem dX10_seenBy_0 : decode cX10_seenBy 0 = .ok (.iconst 0, 1) := by decide +kernel
theorem dX10_seenBy_1 : decode cX10_seenBy 1 = .ok (.istore_n 2, 1) := by decide +kernel
theorem dX10_seenBy_2 : decode cX10_seenBy 2 = .ok (.iconst 0, 1) := by decide +kernel
theorem dX10_seenBy_3 : decode cX10_seenBy 3 = .ok (.istore_n 3, 1) := by decide +kernel
theorem dX10_seenBy_4 : decode cX10_seenBy 4 = .ok (.iload_n 3, 1) := by decide +kernel
theorem dX10_seenBy_5 : decode cX10_seenBy 5 = .ok (.aload_n 0, 1) := by decide +kernel
theorem dX10_seenBy_6 : decode cX10_seenBy 6 = .ok (.getfield 13, 3) := by decide +kernel
theorem dX10_seenBy_9 : decode cX10_seenBy 9 = .ok (.if_icmp .ge 30, 3) := by decide +kernel
theorem dX10_seenBy_12 : decode cX10_seenBy 12 = .ok (.iload_n 2, 1) := by decide +kernel
theorem dX10_seenBy_13 : decode cX10_seenBy 13 = .ok (.iload_n 1, 1) := by decide +kernel
theorem dX10_seenBy_14 : decode cX10_seenBy 14 = .ok (.i2l, 1) := by decide +kernel
theorem dX10_seenBy_15 : decode cX10_seenBy 15 = .ok (.iload_n 3, 1) := by decide +kernel
theorem dX10_seenBy_16 : decode cX10_seenBy 16 = .ok (.invokestatic 137, 3) := by decide +kernel
theorem dX10_seenBy_19 : decode cX10_seenBy 19 = .ok (.ifCond .eq 11, 3) := by decide +kernel
theorem dX10_seenBy_22 : decode cX10_seenBy 22 = .ok (.aload_n 0, 1) := by decide +kernel
theorem dX10_seenBy_23 : decode cX10_seenBy 23 = .ok (.iload_n 3, 1) := by decide +kernel
theorem dX10_seenBy_24 : decode cX10_seenBy 24 = .ok (.invokevirtual 409, 3) := by decide +kernel
theorem dX10_seenBy_27 : decode cX10_seenBy 27 = .ok (.goto 4, 3) := by decide +kernel
theorem dX10_seenBy_30 : decode cX10_seenBy 30 = .ok (.iconst 0, 1) := by decide +kernel
theorem dX10_seenBy_31 : decode cX10_seenBy 31 = .ok (.ior, 1) := by decide +kernel
theorem dX10_seenBy_32 : decode cX10_seenBy 32 = .ok (.istore_n 2, 1) := by decide +kernel
theorem dX10_seenBy_33 : decode cX10_seenBy 33 = .ok (.iinc 3 1, 3) := by decide +kernel
theorem dX10_seenBy_36 : decode cX10_seenBy 36 = .ok (.goto (-32), 3) := by decide +kernel
theorem dX10_seenBy_39 : decode cX10_seenBy 39 = .ok (.iload_n 2, 1) := by decide +kernel
theorem dX10_seenBy_40 : decode cX10_seenBy 40 = .ok (.ireturn, 1) := by decide +kernel
theorem dX10_seats_0 : decode cX10_seats 0 = .ok (.aload_n 0, 1) := by decide +kernel
theorem dX10_seats_1 : decode cX10_seats 1 = .ok (.iconst 0, 1) := by decide +kernel
theorem dX10_seats_2 : decode cX10_seats 2 = .ok (.putfield 103, 3) := by decide +kernel
theorem dX10_seats_5 : decode cX10_seats 5 = .ok (.aload_n 0, 1) := by decide +kernel
theorem dX10_seats_6 : decode cX10_seats 6 = .ok (.iconst 1, 1) := by decide +kernel
theorem dX10_seats_7 : decode cX10_seats 7 = .ok (.aload_n 0, 1) := by decide +kernel
theorem dX10_seats_8 : decode cX10_seats 8 = .ok (.getfield 13, 3) := by decide +kernel
theorem dX10_seats_11 : decode cX10_seats 11 = .ok (.ishl, 1) := by decide +kernel
theorem dX10_seats_12 : decode cX10_seats 12 = .ok (.iconst 1, 1) := by decide +kernel
theorem dX10_seats_13 : decode cX10_seats 13 = .ok (.isub, 1) := by decide +kernel
theorem dX10_seats_14 : decode cX10_seats 14 = .ok (.invokevirtual 412, 3) := by decide +kernel
theorem dX10_seats_17 : decode cX10_seats 17 = .ok (.istore_n 1, 1) := by decide +kernel
theorem dX10_seats_18 : decode cX10_seats 18 = .ok (.iconst (-1), 1) := by decide +kernel
theorem dX10_seats_19 : decode cX10_seats 19 = .ok (.istore_n 2, 1) := by decide +kernel
theorem dX10_seats_20 : decode cX10_seats 20 = .ok (.iconst 0, 1) := by decide +kernel
theorem dX10_seats_21 : decode cX10_seats 21 = .ok (.istore_n 3, 1) := by decide +kernel
theorem dX10_seats_22 : decode cX10_seats 22 = .ok (.iload_n 3, 1) := by decide +kernel
theorem dX10_seats_23 : decode cX10_seats 23 = .ok (.iconst 1, 1) := by decide +kernel
theorem dX10_seats_24 : decode cX10_seats 24 = .ok (.aload_n 0, 1) := by decide +kernel
theorem dX10_seats_25 : decode cX10_seats 25 = .ok (.getfield 13, 3) := by decide +kernel
theorem dX10_seats_28 : decode cX10_seats 28 = .ok (.ishl, 1) := by decide +kernel
theorem dX10_seats_29 : decode cX10_seats 29 = .ok (.if_icmp .ge 32, 3) := by decide +kernel
theorem dX10_seats_32 : decode cX10_seats 32 = .ok (.iload_n 3, 1) := by decide +kernel
theorem dX10_seats_33 : decode cX10_seats 33 = .ok (.iload_n 2, 1) := by decide +kernel
theorem dX10_seats_34 : decode cX10_seats 34 = .ok (.invokestatic 393, 3) := by decide +kernel
theorem dX10_seats_37 : decode cX10_seats 37 = .ok (.ifCond .eq 16, 3) := by decide +kernel
theorem dX10_seats_40 : decode cX10_seats 40 = .ok (.aload_n 0, 1) := by decide +kernel
theorem dX10_seats_41 : decode cX10_seats 41 = .ok (.iload_n 3, 1) := by decide +kernel
theorem dX10_seats_42 : decode cX10_seats 42 = .ok (.invokevirtual 412, 3) := by decide +kernel
theorem dX10_seats_45 : decode cX10_seats 45 = .ok (.iload_n 1, 1) := by decide +kernel
theorem dX10_seats_46 : decode cX10_seats 46 = .ok (.if_icmp .ne 7, 3) := by decide +kernel
theorem dX10_seats_49 : decode cX10_seats 49 = .ok (.iload_n 3, 1) := by decide +kernel
theorem dX10_seats_50 : decode cX10_seats 50 = .ok (.goto 4, 3) := by decide +kernel
theorem dX10_seats_53 : decode cX10_seats 53 = .ok (.iload_n 2, 1) := by decide +kernel
theorem dX10_seats_54 : decode cX10_seats 54 = .ok (.istore_n 2, 1) := by decide +kernel
theorem dX10_seats_55 : decode cX10_seats 55 = .ok (.iinc 3 1, 3) := by decide +kernel
theorem dX10_seats_58 : decode cX10_seats 58 = .ok (.goto (-36), 3) := by decide +kernel
theorem dX10_seats_61 : decode cX10_seats 61 = .ok (.aload_n 0, 1) := by decide +kernel
theorem dX10_seats_62 : decode cX10_seats 62 = .ok (.iconst 0, 1) := by decide +kernel
theorem dX10_seats_63 : decode cX10_seats 63 = .ok (.putfield 110, 3) := by decide +kernel
theorem dX10_seats_66 : decode cX10_seats 66 = .ok (.aload_n 0, 1) := by decide +kernel
theorem dX10_seats_67 : decode cX10_seats 67 = .ok (.iload_n 2, 1) := by decide +kernel
theorem dX10_seats_68 : decode cX10_seats 68 = .ok (.i2l, 1) := by decide +kernel
theorem dX10_seats_69 : decode cX10_seats 69 = .ok (.invokevirtual 339, 3) := by decide +kernel
theorem dX10_seats_72 : decode cX10_seats 72 = .ok (.aload_n 0, 1) := by decide +kernel
theorem dX10_seats_73 : decode cX10_seats 73 = .ok (.aload_n 0, 1) := by decide +kernel
theorem dX10_seats_74 : decode cX10_seats 74 = .ok (.getfield 20, 3) := by decide +kernel
theorem dX10_seats_77 : decode cX10_seats 77 = .ok (.invokestatic 311, 3) := by decide +kernel
theorem dX10_seats_80 : decode cX10_seats 80 = .ok (.iload_n 1, 1) := by decide +kernel
theorem dX10_seats_81 : decode cX10_seats 81 = .ok (.iconst (-1), 1) := by decide +kernel
theorem dX10_seats_82 : decode cX10_seats 82 = .ok (.ixor, 1) := by decide +kernel
theorem dX10_seats_83 : decode cX10_seats 83 = .ok (.iand, 1) := by decide +kernel
theorem dX10_seats_84 : decode cX10_seats 84 = .ok (.i2l, 1) := by decide +kernel
theorem dX10_seats_85 : decode cX10_seats 85 = .ok (.invokevirtual 339, 3) := by decide +kernel
theorem dX10_seats_88 : decode cX10_seats 88 = .ok (.iload_n 2, 1) := by decide +kernel
theorem dX10_seats_89 : decode cX10_seats 89 = .ok (.invokestatic 264, 3) := by decide +kernel
theorem dX10_seats_92 : decode cX10_seats 92 = .ok (.ireturn, 1) := by decide +kernel
theorem dX10_marked_0 : decode cX10_marked 0 = .ok (.aload_n 0, 1) := by decide +kernel
theorem dX10_marked_1 : decode cX10_marked 1 = .ok (.iconst 0, 1) := by decide +kernel
theorem dX10_marked_2 : decode cX10_marked 2 = .ok (.putfield 103, 3) := by decide +kernel
theorem dX10_marked_5 : decode cX10_marked 5 = .ok (.aload_n 0, 1) := by decide +kernel
theorem dX10_marked_6 : decode cX10_marked 6 = .ok (.iload_n 1, 1) := by decide +kernel
theorem dX10_marked_7 : decode cX10_marked 7 = .ok (.invokevirtual 278, 3) := by decide +kernel
theorem dX10_marked_10 : decode cX10_marked 10 = .ok (.ifCond .eq 34, 3) := by decide +kernel
theorem dX10_marked_13 : decode cX10_marked 13 = .ok (.iload_n 2, 1) := by decide +kernel
theorem dX10_marked_14 : decode cX10_marked 14 = .ok (.i2l, 1) := by decide +kernel
theorem dX10_marked_15 : decode cX10_marked 15 = .ok (.lconst 0, 1) := by decide +kernel
theorem dX10_marked_16 : decode cX10_marked 16 = .ok (.ldc2_w 415, 3) := by decide +kernel
theorem dX10_marked_19 : decode cX10_marked 19 = .ok (.invokestatic 117, 3) := by decide +kernel
theorem dX10_marked_22 : decode cX10_marked 22 = .ok (.ifCond .eq 22, 3) := by decide +kernel
theorem dX10_marked_25 : decode cX10_marked 25 = .ok (.iload_n 3, 1) := by decide +kernel
theorem dX10_marked_26 : decode cX10_marked 26 = .ok (.i2l, 1) := by decide +kernel
theorem dX10_marked_27 : decode cX10_marked 27 = .ok (.lconst 0, 1) := by decide +kernel
theorem dX10_marked_28 : decode cX10_marked 28 = .ok (.lconst 1, 1) := by decide +kernel
theorem dX10_marked_29 : decode cX10_marked 29 = .ok (.invokestatic 117, 3) := by decide +kernel
theorem dX10_marked_32 : decode cX10_marked 32 = .ok (.ifCond .eq 12, 3) := by decide +kernel
theorem dX10_marked_35 : decode cX10_marked 35 = .ok (.aload_n 0, 1) := by decide +kernel
theorem dX10_marked_36 : decode cX10_marked 36 = .ok (.getfield 197, 3) := by decide +kernel
theorem dX10_marked_39 : decode cX10_marked 39 = .ok (.bipush 10, 2) := by decide +kernel
theorem dX10_marked_41 : decode cX10_marked 41 = .ok (.if_icmp .ne 5, 3) := by decide +kernel
theorem dX10_marked_44 : decode cX10_marked 44 = .ok (.iconst (-1), 1) := by decide +kernel
theorem dX10_marked_45 : decode cX10_marked 45 = .ok (.ireturn, 1) := by decide +kernel
theorem dX10_marked_46 : decode cX10_marked 46 = .ok (.aload_n 0, 1) := by decide +kernel
theorem dX10_marked_47 : decode cX10_marked 47 = .ok (.getfield 66, 3) := by decide +kernel
theorem dX10_marked_50 : decode cX10_marked 50 = .ok (.aload_n 0, 1) := by decide +kernel
theorem dX10_marked_51 : decode cX10_marked 51 = .ok (.getfield 197, 3) := by decide +kernel
theorem dX10_marked_54 : decode cX10_marked 54 = .ok (.iload_n 1, 1) := by decide +kernel
theorem dX10_marked_55 : decode cX10_marked 55 = .ok (.iastore, 1) := by decide +kernel
theorem dX10_marked_56 : decode cX10_marked 56 = .ok (.aload_n 0, 1) := by decide +kernel
theorem dX10_marked_57 : decode cX10_marked 57 = .ok (.getfield 69, 3) := by decide +kernel
theorem dX10_marked_60 : decode cX10_marked 60 = .ok (.aload_n 0, 1) := by decide +kernel
theorem dX10_marked_61 : decode cX10_marked 61 = .ok (.getfield 197, 3) := by decide +kernel
theorem dX10_marked_64 : decode cX10_marked 64 = .ok (.iload_n 2, 1) := by decide +kernel
theorem dX10_marked_65 : decode cX10_marked 65 = .ok (.iastore, 1) := by decide +kernel
theorem dX10_marked_66 : decode cX10_marked 66 = .ok (.aload_n 0, 1) := by decide +kernel
theorem dX10_marked_67 : decode cX10_marked 67 = .ok (.getfield 72, 3) := by decide +kernel
theorem dX10_marked_70 : decode cX10_marked 70 = .ok (.aload_n 0, 1) := by decide +kernel
theorem dX10_marked_71 : decode cX10_marked 71 = .ok (.getfield 197, 3) := by decide +kernel
theorem dX10_marked_74 : decode cX10_marked 74 = .ok (.iload_n 3, 1) := by decide +kernel
theorem dX10_marked_75 : decode cX10_marked 75 = .ok (.iastore, 1) := by decide +kernel
theorem dX10_marked_76 : decode cX10_marked 76 = .ok (.aload_n 0, 1) := by decide +kernel
theorem dX10_marked_77 : decode cX10_marked 77 = .ok (.dup, 1) := by decide +kernel
theorem dX10_marked_78 : decode cX10_marked 78 = .ok (.getfield 197, 3) := by decide +kernel
theorem dX10_marked_81 : decode cX10_marked 81 = .ok (.iconst 1, 1) := by decide +kernel
theorem dX10_marked_82 : decode cX10_marked 82 = .ok (.iadd, 1) := by decide +kernel
theorem dX10_marked_83 : decode cX10_marked 83 = .ok (.putfield 197, 3) := by decide +kernel
theorem dX10_marked_86 : decode cX10_marked 86 = .ok (.aload_n 0, 1) := by decide +kernel
theorem dX10_marked_87 : decode cX10_marked 87 = .ok (.getfield 197, 3) := by decide +kernel
theorem dX10_marked_90 : decode cX10_marked 90 = .ok (.ireturn, 1) := by decide +kernel
theorem dX10_wiped_0 : decode cX10_wiped 0 = .ok (.aload_n 0, 1) := by decide +kernel
theorem dX10_wiped_1 : decode cX10_wiped 1 = .ok (.iconst 0, 1) := by decide +kernel
theorem dX10_wiped_2 : decode cX10_wiped 2 = .ok (.putfield 103, 3) := by decide +kernel
theorem dX10_wiped_5 : decode cX10_wiped 5 = .ok (.aload_n 0, 1) := by decide +kernel
theorem dX10_wiped_6 : decode cX10_wiped 6 = .ok (.getfield 197, 3) := by decide +kernel
theorem dX10_wiped_9 : decode cX10_wiped 9 = .ok (.istore_n 1, 1) := by decide +kernel
theorem dX10_wiped_10 : decode cX10_wiped 10 = .ok (.aload_n 0, 1) := by decide +kernel
theorem dX10_wiped_11 : decode cX10_wiped 11 = .ok (.iconst 0, 1) := by decide +kernel
theorem dX10_wiped_12 : decode cX10_wiped 12 = .ok (.putfield 197, 3) := by decide +kernel
theorem dX10_wiped_15 : decode cX10_wiped 15 = .ok (.iload_n 1, 1) := by decide +kernel
theorem dX10_wiped_16 : decode cX10_wiped 16 = .ok (.ireturn, 1) := by decide +kernel
theorem dX10_isLaw_0 : decode cX10_isLaw 0 = .ok (.aload_n 0, 1) := by decide +kernel
theorem dX10_isLaw_1 : decode cX10_isLaw 1 = .ok (.invokevirtual 379, 3) := by decide +kernel
theorem dX10_isLaw_4 : decode cX10_isLaw 4 = .ok (.aload_n 0, 1) := by decide +kernel
theorem dX10_isLaw_5 : decode cX10_isLaw 5 = .ok (.iload_n 1, 1) := by decide +kernel
theorem dX10_isLaw_6 : decode cX10_isLaw 6 = .ok (.putfield 45, 3) := by decide +kernel
theorem dX10_isLaw_9 : decode cX10_isLaw 9 = .ok (.iconst 0, 1) := by decide +kernel
theorem dX10_isLaw_10 : decode cX10_isLaw 10 = .ok (.istore_n 2, 1) := by decide +kernel
theorem dX10_isLaw_11 : decode cX10_isLaw 11 = .ok (.iload_n 2, 1) := by decide +kernel
theorem dX10_isLaw_12 : decode cX10_isLaw 12 = .ok (.bipush 30, 2) := by decide +kernel
theorem dX10_isLaw_14 : decode cX10_isLaw 14 = .ok (.if_icmp .gt 35, 3) := by decide +kernel
theorem dX10_isLaw_17 : decode cX10_isLaw 17 = .ok (.aload_n 0, 1) := by decide +kernel
theorem dX10_isLaw_18 : decode cX10_isLaw 18 = .ok (.getfield 75, 3) := by decide +kernel
theorem dX10_isLaw_21 : decode cX10_isLaw 21 = .ok (.iload_n 1, 1) := by decide +kernel
theorem dX10_isLaw_22 : decode cX10_isLaw 22 = .ok (.bipush 31, 2) := by decide +kernel
theorem dX10_isLaw_24 : decode cX10_isLaw 24 = .ok (.imul, 1) := by decide +kernel
theorem dX10_isLaw_25 : decode cX10_isLaw 25 = .ok (.iload_n 2, 1) := by decide +kernel
theorem dX10_isLaw_26 : decode cX10_isLaw 26 = .ok (.iadd, 1) := by decide +kernel
theorem dX10_isLaw_27 : decode cX10_isLaw 27 = .ok (.aload_n 0, 1) := by decide +kernel
theorem dX10_isLaw_28 : decode cX10_isLaw 28 = .ok (.getfield 24, 3) := by decide +kernel
theorem dX10_isLaw_31 : decode cX10_isLaw 31 = .ok (.invokestatic 311, 3) := by decide +kernel
theorem dX10_isLaw_34 : decode cX10_isLaw 34 = .ok (.iastore, 1) := by decide +kernel
theorem dX10_isLaw_35 : decode cX10_isLaw 35 = .ok (.aload_n 0, 1) := by decide +kernel
theorem dX10_isLaw_36 : decode cX10_isLaw 36 = .ok (.aload_n 0, 1) := by decide +kernel
theorem dX10_isLaw_37 : decode cX10_isLaw 37 = .ok (.getfield 24, 3) := by decide +kernel
theorem dX10_isLaw_40 : decode cX10_isLaw 40 = .ok (.invokevirtual 318, 3) := by decide +kernel
theorem dX10_isLaw_43 : decode cX10_isLaw 43 = .ok (.iinc 2 1, 3) := by decide +kernel
theorem dX10_isLaw_46 : decode cX10_isLaw 46 = .ok (.goto (-35), 3) := by decide +kernel
theorem dX10_isLaw_49 : decode cX10_isLaw 49 = .ok (.aload_n 0, 1) := by decide +kernel
theorem dX10_isLaw_50 : decode cX10_isLaw 50 = .ok (.iconst (-1), 1) := by decide +kernel
theorem dX10_isLaw_51 : decode cX10_isLaw 51 = .ok (.putfield 45, 3) := by decide +kernel
theorem dX10_isLaw_54 : decode cX10_isLaw 54 = .ok (.iconst 1, 1) := by decide +kernel
theorem dX10_isLaw_55 : decode cX10_isLaw 55 = .ok (.istore_n 2, 1) := by decide +kernel
theorem dX10_isLaw_56 : decode cX10_isLaw 56 = .ok (.iconst 0, 1) := by decide +kernel
theorem dX10_isLaw_57 : decode cX10_isLaw 57 = .ok (.istore_n 3, 1) := by decide +kernel
theorem dX10_isLaw_58 : decode cX10_isLaw 58 = .ok (.iload_n 3, 1) := by decide +kernel
theorem dX10_isLaw_59 : decode cX10_isLaw 59 = .ok (.aload_n 0, 1) := by decide +kernel
theorem dX10_isLaw_60 : decode cX10_isLaw 60 = .ok (.getfield 197, 3) := by decide +kernel
theorem dX10_isLaw_63 : decode cX10_isLaw 63 = .ok (.if_icmp .ge 57, 3) := by decide +kernel
theorem dX10_isLaw_66 : decode cX10_isLaw 66 = .ok (.iload_n 2, 1) := by decide +kernel
theorem dX10_isLaw_67 : decode cX10_isLaw 67 = .ok (.ifCond .eq 45, 3) := by decide +kernel
theorem dX10_isLaw_70 : decode cX10_isLaw 70 = .ok (.aload_n 0, 1) := by decide +kernel
theorem dX10_isLaw_71 : decode cX10_isLaw 71 = .ok (.getfield 75, 3) := by decide +kernel
theorem dX10_isLaw_74 : decode cX10_isLaw 74 = .ok (.iload_n 1, 1) := by decide +kernel
theorem dX10_isLaw_75 : decode cX10_isLaw 75 = .ok (.bipush 31, 2) := by decide +kernel
theorem dX10_isLaw_77 : decode cX10_isLaw 77 = .ok (.imul, 1) := by decide +kernel
theorem dX10_isLaw_78 : decode cX10_isLaw 78 = .ok (.aload_n 0, 1) := by decide +kernel
theorem dX10_isLaw_79 : decode cX10_isLaw 79 = .ok (.getfield 69, 3) := by decide +kernel
theorem dX10_isLaw_82 : decode cX10_isLaw 82 = .ok (.iload_n 3, 1) := by decide +kernel
theorem dX10_isLaw_83 : decode cX10_isLaw 83 = .ok (.iaload, 1) := by decide +kernel
theorem dX10_isLaw_84 : decode cX10_isLaw 84 = .ok (.iadd, 1) := by decide +kernel
theorem dX10_isLaw_85 : decode cX10_isLaw 85 = .ok (.iaload, 1) := by decide +kernel
theorem dX10_isLaw_86 : decode cX10_isLaw 86 = .ok (.i2l, 1) := by decide +kernel
theorem dX10_isLaw_87 : decode cX10_isLaw 87 = .ok (.aload_n 0, 1) := by decide +kernel
theorem dX10_isLaw_88 : decode cX10_isLaw 88 = .ok (.getfield 66, 3) := by decide +kernel
theorem dX10_isLaw_91 : decode cX10_isLaw 91 = .ok (.iload_n 3, 1) := by decide +kernel
theorem dX10_isLaw_92 : decode cX10_isLaw 92 = .ok (.iaload, 1) := by decide +kernel
theorem dX10_isLaw_93 : decode cX10_isLaw 93 = .ok (.invokestatic 137, 3) := by decide +kernel
theorem dX10_isLaw_96 : decode cX10_isLaw 96 = .ok (.invokestatic 163, 3) := by decide +kernel
theorem dX10_isLaw_99 : decode cX10_isLaw 99 = .ok (.aload_n 0, 1) := by decide +kernel
theorem dX10_isLaw_100 : decode cX10_isLaw 100 = .ok (.getfield 72, 3) := by decide +kernel
theorem dX10_isLaw_103 : decode cX10_isLaw 103 = .ok (.iload_n 3, 1) := by decide +kernel
theorem dX10_isLaw_104 : decode cX10_isLaw 104 = .ok (.iaload, 1) := by decide +kernel
theorem dX10_isLaw_105 : decode cX10_isLaw 105 = .ok (.if_icmp .ne 7, 3) := by decide +kernel
theorem dX10_isLaw_108 : decode cX10_isLaw 108 = .ok (.iconst 1, 1) := by decide +kernel
theorem dX10_isLaw_109 : decode cX10_isLaw 109 = .ok (.goto 4, 3) := by decide +kernel
theorem dX10_isLaw_112 : decode cX10_isLaw 112 = .ok (.iconst 0, 1) := by decide +kernel
theorem dX10_isLaw_113 : decode cX10_isLaw 113 = .ok (.istore_n 2, 1) := by decide +kernel
theorem dX10_isLaw_114 : decode cX10_isLaw 114 = .ok (.iinc 3 1, 3) := by decide +kernel
theorem dX10_isLaw_117 : decode cX10_isLaw 117 = .ok (.goto (-59), 3) := by decide +kernel
theorem dX10_isLaw_120 : decode cX10_isLaw 120 = .ok (.iload_n 2, 1) := by decide +kernel
theorem dX10_isLaw_121 : decode cX10_isLaw 121 = .ok (.ireturn, 1) := by decide +kernel
theorem dX10_laws_0 : decode cX10_laws 0 = .ok (.aload_n 0, 1) := by decide +kernel
theorem dX10_laws_1 : decode cX10_laws 1 = .ok (.iconst 0, 1) := by decide +kernel
theorem dX10_laws_2 : decode cX10_laws 2 = .ok (.putfield 103, 3) := by decide +kernel
theorem dX10_laws_5 : decode cX10_laws 5 = .ok (.iconst 0, 1) := by decide +kernel
theorem dX10_laws_6 : decode cX10_laws 6 = .ok (.istore_n 1, 1) := by decide +kernel
theorem dX10_laws_7 : decode cX10_laws 7 = .ok (.aload_n 0, 1) := by decide +kernel
theorem dX10_laws_8 : decode cX10_laws 8 = .ok (.iconst 0, 1) := by decide +kernel
theorem dX10_laws_9 : decode cX10_laws 9 = .ok (.putfield 110, 3) := by decide +kernel
theorem dX10_laws_12 : decode cX10_laws 12 = .ok (.iconst 0, 1) := by decide +kernel
theorem dX10_laws_13 : decode cX10_laws 13 = .ok (.istore_n 2, 1) := by decide +kernel
theorem dX10_laws_14 : decode cX10_laws 14 = .ok (.iload_n 2, 1) := by decide +kernel
theorem dX10_laws_15 : decode cX10_laws 15 = .ok (.bipush 16, 2) := by decide +kernel
theorem dX10_laws_17 : decode cX10_laws 17 = .ok (.if_icmp .ge 46, 3) := by decide +kernel
theorem dX10_laws_20 : decode cX10_laws 20 = .ok (.aload_n 0, 1) := by decide +kernel
theorem dX10_laws_21 : decode cX10_laws 21 = .ok (.iload_n 2, 1) := by decide +kernel
theorem dX10_laws_22 : decode cX10_laws 22 = .ok (.invokevirtual 417, 3) := by decide +kernel
theorem dX10_laws_25 : decode cX10_laws 25 = .ok (.istore_n 3, 1) := by decide +kernel
theorem dX10_laws_26 : decode cX10_laws 26 = .ok (.iload_n 3, 1) := by decide +kernel
theorem dX10_laws_27 : decode cX10_laws 27 = .ok (.ifCond .eq 23, 3) := by decide +kernel
theorem dX10_laws_30 : decode cX10_laws 30 = .ok (.iload_n 1, 1) := by decide +kernel
theorem dX10_laws_31 : decode cX10_laws 31 = .ok (.ifCond .ne 19, 3) := by decide +kernel
theorem dX10_laws_34 : decode cX10_laws 34 = .ok (.aload_n 0, 1) := by decide +kernel
theorem dX10_laws_35 : decode cX10_laws 35 = .ok (.iload_n 2, 1) := by decide +kernel
theorem dX10_laws_36 : decode cX10_laws 36 = .ok (.iconst 4, 1) := by decide +kernel
theorem dX10_laws_37 : decode cX10_laws 37 = .ok (.idiv, 1) := by decide +kernel
theorem dX10_laws_38 : decode cX10_laws 38 = .ok (.i2l, 1) := by decide +kernel
theorem dX10_laws_39 : decode cX10_laws 39 = .ok (.invokevirtual 339, 3) := by decide +kernel
theorem dX10_laws_42 : decode cX10_laws 42 = .ok (.aload_n 0, 1) := by decide +kernel
theorem dX10_laws_43 : decode cX10_laws 43 = .ok (.iload_n 2, 1) := by decide +kernel
theorem dX10_laws_44 : decode cX10_laws 44 = .ok (.iconst 4, 1) := by decide +kernel
theorem dX10_laws_45 : decode cX10_laws 45 = .ok (.irem, 1) := by decide +kernel
theorem dX10_laws_46 : decode cX10_laws 46 = .ok (.i2l, 1) := by decide +kernel
theorem dX10_laws_47 : decode cX10_laws 47 = .ok (.invokevirtual 339, 3) := by decide +kernel
theorem dX10_laws_50 : decode cX10_laws 50 = .ok (.iload_n 1, 1) := by decide +kernel
theorem dX10_laws_51 : decode cX10_laws 51 = .ok (.iload_n 3, 1) := by decide +kernel
theorem dX10_laws_52 : decode cX10_laws 52 = .ok (.invokestatic 163, 3) := by decide +kernel
theorem dX10_laws_55 : decode cX10_laws 55 = .ok (.iadd, 1) := by decide +kernel
theorem dX10_laws_56 : decode cX10_laws 56 = .ok (.istore_n 1, 1) := by decide +kernel
theorem dX10_laws_57 : decode cX10_laws 57 = .ok (.iinc 2 1, 3) := by decide +kernel
theorem dX10_laws_60 : decode cX10_laws 60 = .ok (.goto (-46), 3) := by decide +kernel
theorem dX10_laws_63 : decode cX10_laws 63 = .ok (.iload_n 1, 1) := by decide +kernel
theorem dX10_laws_64 : decode cX10_laws 64 = .ok (.ireturn, 1) := by decide +kernel
theorem dX10_watch_0 : decode cX10_watch 0 = .ok (.aload_n 0, 1) := by decide +kernel
theorem dX10_watch_1 : decode cX10_watch 1 = .ok (.iconst 0, 1) := by decide +kernel
theorem dX10_watch_2 : decode cX10_watch 2 = .ok (.putfield 103, 3) := by decide +kernel
theorem dX10_watch_5 : decode cX10_watch 5 = .ok (.iconst 0, 1) := by decide +kernel
theorem dX10_watch_6 : decode cX10_watch 6 = .ok (.istore_n 1, 1) := by decide +kernel
theorem dX10_watch_7 : decode cX10_watch 7 = .ok (.iconst 0, 1) := by decide +kernel
theorem dX10_watch_8 : decode cX10_watch 8 = .ok (.istore_n 2, 1) := by decide +kernel
theorem dX10_watch_9 : decode cX10_watch 9 = .ok (.iload_n 2, 1) := by decide +kernel
theorem dX10_watch_10 : decode cX10_watch 10 = .ok (.bipush 16, 2) := by decide +kernel
theorem dX10_watch_12 : decode cX10_watch 12 = .ok (.if_icmp .ge 27, 3) := by decide +kernel
theorem dX10_watch_15 : decode cX10_watch 15 = .ok (.iload_n 1, 1) := by decide +kernel
theorem dX10_watch_16 : decode cX10_watch 16 = .ok (.aload_n 0, 1) := by decide +kernel
theorem dX10_watch_17 : decode cX10_watch 17 = .ok (.iload_n 2, 1) := by decide +kernel
theorem dX10_watch_18 : decode cX10_watch 18 = .ok (.invokevirtual 417, 3) := by decide +kernel
theorem dX10_watch_21 : decode cX10_watch 21 = .ok (.ifCond .eq 9, 3) := by decide +kernel
theorem dX10_watch_24 : decode cX10_watch 24 = .ok (.iconst 1, 1) := by decide +kernel
theorem dX10_watch_25 : decode cX10_watch 25 = .ok (.iload_n 2, 1) := by decide +kernel
theorem dX10_watch_26 : decode cX10_watch 26 = .ok (.ishl, 1) := by decide +kernel
theorem dX10_watch_27 : decode cX10_watch 27 = .ok (.goto 4, 3) := by decide +kernel
theorem dX10_watch_30 : decode cX10_watch 30 = .ok (.iconst 0, 1) := by decide +kernel
theorem dX10_watch_31 : decode cX10_watch 31 = .ok (.ior, 1) := by decide +kernel
theorem dX10_watch_32 : decode cX10_watch 32 = .ok (.istore_n 1, 1) := by decide +kernel
theorem dX10_watch_33 : decode cX10_watch 33 = .ok (.iinc 2 1, 3) := by decide +kernel
theorem dX10_watch_36 : decode cX10_watch 36 = .ok (.goto (-27), 3) := by decide +kernel
theorem dX10_watch_39 : decode cX10_watch 39 = .ok (.bipush (-2), 2) := by decide +kernel
theorem dX10_watch_41 : decode cX10_watch 41 = .ok (.istore_n 2, 1) := by decide +kernel
theorem dX10_watch_42 : decode cX10_watch 42 = .ok (.ldc_w 392, 3) := by decide +kernel
theorem dX10_watch_45 : decode cX10_watch 45 = .ok (.istore_n 3, 1) := by decide +kernel
theorem dX10_watch_46 : decode cX10_watch 46 = .ok (.iconst 0, 1) := by decide +kernel
theorem dX10_watch_47 : decode cX10_watch 47 = .ok (.istore 4, 2) := by decide +kernel
theorem dX10_watch_49 : decode cX10_watch 49 = .ok (.iload 4, 2) := by decide +kernel
theorem dX10_watch_51 : decode cX10_watch 51 = .ok (.aload_n 0, 1) := by decide +kernel
theorem dX10_watch_52 : decode cX10_watch 52 = .ok (.getfield 20, 3) := by decide +kernel
theorem dX10_watch_55 : decode cX10_watch 55 = .ok (.bipush 48, 2) := by decide +kernel
theorem dX10_watch_57 : decode cX10_watch 57 = .ok (.iaload, 1) := by decide +kernel
theorem dX10_watch_58 : decode cX10_watch 58 = .ok (.if_icmp .ge 133, 3) := by decide +kernel
theorem dX10_watch_61 : decode cX10_watch 61 = .ok (.iload_n 1, 1) := by decide +kernel
theorem dX10_watch_62 : decode cX10_watch 62 = .ok (.ifCond .eq 129, 3) := by decide +kernel
theorem dX10_watch_65 : decode cX10_watch 65 = .ok (.iconst 0, 1) := by decide +kernel
theorem dX10_watch_66 : decode cX10_watch 66 = .ok (.istore 5, 2) := by decide +kernel
theorem dX10_watch_68 : decode cX10_watch 68 = .ok (.iload 5, 2) := by decide +kernel
theorem dX10_watch_70 : decode cX10_watch 70 = .ok (.bipush 30, 2) := by decide +kernel
theorem dX10_watch_72 : decode cX10_watch 72 = .ok (.if_icmp .gt 113, 3) := by decide +kernel
theorem dX10_watch_75 : decode cX10_watch 75 = .ok (.iconst 0, 1) := by decide +kernel
theorem dX10_watch_76 : decode cX10_watch 76 = .ok (.istore 6, 2) := by decide +kernel
theorem dX10_watch_78 : decode cX10_watch 78 = .ok (.iconst 0, 1) := by decide +kernel
theorem dX10_watch_79 : decode cX10_watch 79 = .ok (.istore 7, 2) := by decide +kernel
theorem dX10_watch_81 : decode cX10_watch 81 = .ok (.iload 7, 2) := by decide +kernel
theorem dX10_watch_83 : decode cX10_watch 83 = .ok (.bipush 16, 2) := by decide +kernel
theorem dX10_watch_85 : decode cX10_watch 85 = .ok (.if_icmp .ge 54, 3) := by decide +kernel
theorem dX10_watch_88 : decode cX10_watch 88 = .ok (.iload 6, 2) := by decide +kernel
theorem dX10_watch_90 : decode cX10_watch 90 = .ok (.iload_n 1, 1) := by decide +kernel
theorem dX10_watch_91 : decode cX10_watch 91 = .ok (.i2l, 1) := by decide +kernel
theorem dX10_watch_92 : decode cX10_watch 92 = .ok (.iload 7, 2) := by decide +kernel
theorem dX10_watch_94 : decode cX10_watch 94 = .ok (.invokestatic 137, 3) := by decide +kernel
theorem dX10_watch_97 : decode cX10_watch 97 = .ok (.ifCond .eq 29, 3) := by decide +kernel
theorem dX10_watch_100 : decode cX10_watch 100 = .ok (.aload_n 0, 1) := by decide +kernel
theorem dX10_watch_101 : decode cX10_watch 101 = .ok (.getfield 75, 3) := by decide +kernel
theorem dX10_watch_104 : decode cX10_watch 104 = .ok (.iload 7, 2) := by decide +kernel
theorem dX10_watch_106 : decode cX10_watch 106 = .ok (.bipush 31, 2) := by decide +kernel
theorem dX10_watch_108 : decode cX10_watch 108 = .ok (.imul, 1) := by decide +kernel
theorem dX10_watch_109 : decode cX10_watch 109 = .ok (.iload 5, 2) := by decide +kernel
theorem dX10_watch_111 : decode cX10_watch 111 = .ok (.iadd, 1) := by decide +kernel
theorem dX10_watch_112 : decode cX10_watch 112 = .ok (.iaload, 1) := by decide +kernel
theorem dX10_watch_113 : decode cX10_watch 113 = .ok (.i2l, 1) := by decide +kernel
theorem dX10_watch_114 : decode cX10_watch 114 = .ok (.iload 4, 2) := by decide +kernel
theorem dX10_watch_116 : decode cX10_watch 116 = .ok (.invokestatic 137, 3) := by decide +kernel
theorem dX10_watch_119 : decode cX10_watch 119 = .ok (.ifCond .eq 7, 3) := by decide +kernel
theorem dX10_watch_122 : decode cX10_watch 122 = .ok (.iconst 1, 1) := by decide +kernel
theorem dX10_watch_123 : decode cX10_watch 123 = .ok (.goto 4, 3) := by decide +kernel
theorem dX10_watch_126 : decode cX10_watch 126 = .ok (.iconst 0, 1) := by decide +kernel
theorem dX10_watch_127 : decode cX10_watch 127 = .ok (.invokestatic 163, 3) := by decide +kernel
theorem dX10_watch_130 : decode cX10_watch 130 = .ok (.iadd, 1) := by decide +kernel
theorem dX10_watch_131 : decode cX10_watch 131 = .ok (.istore 6, 2) := by decide +kernel
theorem dX10_watch_133 : decode cX10_watch 133 = .ok (.iinc 7 1, 3) := by decide +kernel
theorem dX10_watch_136 : decode cX10_watch 136 = .ok (.goto (-55), 3) := by decide +kernel
theorem dX10_watch_139 : decode cX10_watch 139 = .ok (.iload 6, 2) := by decide +kernel
theorem dX10_watch_141 : decode cX10_watch 141 = .ok (.iload_n 1, 1) := by decide +kernel
theorem dX10_watch_142 : decode cX10_watch 142 = .ok (.invokestatic 264, 3) := by decide +kernel
theorem dX10_watch_145 : decode cX10_watch 145 = .ok (.iload 6, 2) := by decide +kernel
theorem dX10_watch_147 : decode cX10_watch 147 = .ok (.isub, 1) := by decide +kernel
theorem dX10_watch_148 : decode cX10_watch 148 = .ok (.invokestatic 272, 3) := by decide +kernel
theorem dX10_watch_151 : decode cX10_watch 151 = .ok (.istore 7, 2) := by decide +kernel
theorem dX10_watch_153 : decode cX10_watch 153 = .ok (.iload 7, 2) := by decide +kernel
theorem dX10_watch_155 : decode cX10_watch 155 = .ok (.iload_n 3, 1) := by decide +kernel
theorem dX10_watch_156 : decode cX10_watch 156 = .ok (.if_icmp .ge 14, 3) := by decide +kernel
theorem dX10_watch_159 : decode cX10_watch 159 = .ok (.bipush 31, 2) := by decide +kernel
theorem dX10_watch_161 : decode cX10_watch 161 = .ok (.iload 4, 2) := by decide +kernel
theorem dX10_watch_163 : decode cX10_watch 163 = .ok (.imul, 1) := by decide +kernel
theorem dX10_watch_164 : decode cX10_watch 164 = .ok (.iload 5, 2) := by decide +kernel
theorem dX10_watch_166 : decode cX10_watch 166 = .ok (.iadd, 1) := by decide +kernel
theorem dX10_watch_167 : decode cX10_watch 167 = .ok (.goto 4, 3) := by decide +kernel
theorem dX10_watch_170 : decode cX10_watch 170 = .ok (.iload_n 2, 1) := by decide +kernel
theorem dX10_watch_171 : decode cX10_watch 171 = .ok (.istore_n 2, 1) := by decide +kernel
theorem dX10_watch_172 : decode cX10_watch 172 = .ok (.iload_n 3, 1) := by decide +kernel
theorem dX10_watch_173 : decode cX10_watch 173 = .ok (.iload 7, 2) := by decide +kernel
theorem dX10_watch_175 : decode cX10_watch 175 = .ok (.invokestatic 154, 3) := by decide +kernel
theorem dX10_watch_178 : decode cX10_watch 178 = .ok (.istore_n 3, 1) := by decide +kernel
theorem dX10_watch_179 : decode cX10_watch 179 = .ok (.iinc 5 1, 3) := by decide +kernel
theorem dX10_watch_182 : decode cX10_watch 182 = .ok (.goto (-114), 3) := by decide +kernel
theorem dX10_watch_185 : decode cX10_watch 185 = .ok (.iinc 4 1, 3) := by decide +kernel
theorem dX10_watch_188 : decode cX10_watch 188 = .ok (.goto (-139), 3) := by decide +kernel
theorem dX10_watch_191 : decode cX10_watch 191 = .ok (.iload_n 2, 1) := by decide +kernel
theorem dX10_watch_192 : decode cX10_watch 192 = .ok (.ifCond .lt 14, 3) := by decide +kernel
theorem dX10_watch_195 : decode cX10_watch 195 = .ok (.aload_n 0, 1) := by decide +kernel
theorem dX10_watch_196 : decode cX10_watch 196 = .ok (.iconst 0, 1) := by decide +kernel
theorem dX10_watch_197 : decode cX10_watch 197 = .ok (.putfield 110, 3) := by decide +kernel
theorem dX10_watch_200 : decode cX10_watch 200 = .ok (.aload_n 0, 1) := by decide +kernel
theorem dX10_watch_201 : decode cX10_watch 201 = .ok (.iload_n 3, 1) := by decide +kernel
theorem dX10_watch_202 : decode cX10_watch 202 = .ok (.i2l, 1) := by decide +kernel
theorem dX10_watch_203 : decode cX10_watch 203 = .ok (.invokevirtual 339, 3) := by decide +kernel
theorem dX10_watch_206 : decode cX10_watch 206 = .ok (.iload_n 2, 1) := by decide +kernel
theorem dX10_watch_207 : decode cX10_watch 207 = .ok (.ireturn, 1) := by decide +kernel
theorem dX10_heard_0 : decode cX10_heard 0 = .ok (.aload_n 0, 1) := by decide +kernel
theorem dX10_heard_1 : decode cX10_heard 1 = .ok (.iconst 0, 1) := by decide +kernel
theorem dX10_heard_2 : decode cX10_heard 2 = .ok (.putfield 103, 3) := by decide +kernel
theorem dX10_heard_5 : decode cX10_heard 5 = .ok (.iload_n 1, 1) := by decide +kernel
theorem dX10_heard_6 : decode cX10_heard 6 = .ok (.ifCond .ne 8, 3) := by decide +kernel
theorem dX10_heard_9 : decode cX10_heard 9 = .ok (.bipush 9, 2) := by decide +kernel
theorem dX10_heard_11 : decode cX10_heard 11 = .ok (.goto 24, 3) := by decide +kernel
theorem dX10_heard_14 : decode cX10_heard 14 = .ok (.iload_n 1, 1) := by decide +kernel
theorem dX10_heard_15 : decode cX10_heard 15 = .ok (.iconst 3, 1) := by decide +kernel
theorem dX10_heard_16 : decode cX10_heard 16 = .ok (.if_icmp .ne 8, 3) := by decide +kernel
theorem dX10_heard_19 : decode cX10_heard 19 = .ok (.bipush 99, 2) := by decide +kernel
theorem dX10_heard_21 : decode cX10_heard 21 = .ok (.goto 14, 3) := by decide +kernel
theorem dX10_heard_24 : decode cX10_heard 24 = .ok (.iload_n 1, 1) := by decide +kernel
theorem dX10_heard_25 : decode cX10_heard 25 = .ok (.iconst 4, 1) := by decide +kernel
theorem dX10_heard_26 : decode cX10_heard 26 = .ok (.if_icmp .ne 8, 3) := by decide +kernel
theorem dX10_heard_29 : decode cX10_heard 29 = .ok (.bipush 7, 2) := by decide +kernel
theorem dX10_heard_31 : decode cX10_heard 31 = .ok (.goto 4, 3) := by decide +kernel
theorem dX10_heard_34 : decode cX10_heard 34 = .ok (.iconst 5, 1) := by decide +kernel
theorem dX10_heard_35 : decode cX10_heard 35 = .ok (.istore_n 3, 1) := by decide +kernel
theorem dX10_heard_36 : decode cX10_heard 36 = .ok (.iload_n 1, 1) := by decide +kernel
theorem dX10_heard_37 : decode cX10_heard 37 = .ok (.i2l, 1) := by decide +kernel
theorem dX10_heard_38 : decode cX10_heard 38 = .ok (.lconst 0, 1) := by decide +kernel
theorem dX10_heard_39 : decode cX10_heard 39 = .ok (.ldc2_w 420, 3) := by decide +kernel
theorem dX10_heard_42 : decode cX10_heard 42 = .ok (.invokestatic 117, 3) := by decide +kernel
theorem dX10_heard_45 : decode cX10_heard 45 = .ok (.ifCond .eq 23, 3) := by decide +kernel
theorem dX10_heard_48 : decode cX10_heard 48 = .ok (.iload_n 2, 1) := by decide +kernel
theorem dX10_heard_49 : decode cX10_heard 49 = .ok (.i2l, 1) := by decide +kernel
theorem dX10_heard_50 : decode cX10_heard 50 = .ok (.lconst 0, 1) := by decide +kernel
theorem dX10_heard_51 : decode cX10_heard 51 = .ok (.iload_n 3, 1) := by decide +kernel
theorem dX10_heard_52 : decode cX10_heard 52 = .ok (.i2l, 1) := by decide +kernel
theorem dX10_heard_53 : decode cX10_heard 53 = .ok (.invokestatic 117, 3) := by decide +kernel
theorem dX10_heard_56 : decode cX10_heard 56 = .ok (.ifCond .eq 12, 3) := by decide +kernel
theorem dX10_heard_59 : decode cX10_heard 59 = .ok (.aload_n 0, 1) := by decide +kernel
theorem dX10_heard_60 : decode cX10_heard 60 = .ok (.getfield 422, 3) := by decide +kernel
theorem dX10_heard_63 : decode cX10_heard 63 = .ok (.bipush 12, 2) := by decide +kernel
theorem dX10_heard_65 : decode cX10_heard 65 = .ok (.if_icmp .ne 5, 3) := by decide +kernel
theorem dX10_heard_68 : decode cX10_heard 68 = .ok (.iconst (-1), 1) := by decide +kernel
theorem dX10_heard_69 : decode cX10_heard 69 = .ok (.ireturn, 1) := by decide +kernel
theorem dX10_heard_70 : decode cX10_heard 70 = .ok (.aload_n 0, 1) := by decide +kernel
theorem dX10_heard_71 : decode cX10_heard 71 = .ok (.getfield 78, 3) := by decide +kernel
theorem dX10_heard_74 : decode cX10_heard 74 = .ok (.aload_n 0, 1) := by decide +kernel
theorem dX10_heard_75 : decode cX10_heard 75 = .ok (.getfield 422, 3) := by decide +kernel
theorem dX10_heard_78 : decode cX10_heard 78 = .ok (.iload_n 1, 1) := by decide +kernel
theorem dX10_heard_79 : decode cX10_heard 79 = .ok (.iastore, 1) := by decide +kernel
theorem dX10_heard_80 : decode cX10_heard 80 = .ok (.aload_n 0, 1) := by decide +kernel
theorem dX10_heard_81 : decode cX10_heard 81 = .ok (.getfield 81, 3) := by decide +kernel
theorem dX10_heard_84 : decode cX10_heard 84 = .ok (.aload_n 0, 1) := by decide +kernel
theorem dX10_heard_85 : decode cX10_heard 85 = .ok (.getfield 422, 3) := by decide +kernel
theorem dX10_heard_88 : decode cX10_heard 88 = .ok (.iload_n 2, 1) := by decide +kernel
theorem dX10_heard_89 : decode cX10_heard 89 = .ok (.iastore, 1) := by decide +kernel
theorem dX10_heard_90 : decode cX10_heard 90 = .ok (.aload_n 0, 1) := by decide +kernel
theorem dX10_heard_91 : decode cX10_heard 91 = .ok (.dup, 1) := by decide +kernel
theorem dX10_heard_92 : decode cX10_heard 92 = .ok (.getfield 422, 3) := by decide +kernel
theorem dX10_heard_95 : decode cX10_heard 95 = .ok (.iconst 1, 1) := by decide +kernel
theorem dX10_heard_96 : decode cX10_heard 96 = .ok (.iadd, 1) := by decide +kernel
theorem dX10_heard_97 : decode cX10_heard 97 = .ok (.putfield 422, 3) := by decide +kernel
theorem dX10_heard_100 : decode cX10_heard 100 = .ok (.aload_n 0, 1) := by decide +kernel
theorem dX10_heard_101 : decode cX10_heard 101 = .ok (.getfield 422, 3) := by decide +kernel
theorem dX10_heard_104 : decode cX10_heard 104 = .ok (.ireturn, 1) := by decide +kernel
theorem dX10_forget_0 : decode cX10_forget 0 = .ok (.aload_n 0, 1) := by decide +kernel
theorem dX10_forget_1 : decode cX10_forget 1 = .ok (.iconst 0, 1) := by decide +kernel
theorem dX10_forget_2 : decode cX10_forget 2 = .ok (.putfield 103, 3) := by decide +kernel
theorem dX10_forget_5 : decode cX10_forget 5 = .ok (.aload_n 0, 1) := by decide +kernel
theorem dX10_forget_6 : decode cX10_forget 6 = .ok (.getfield 422, 3) := by decide +kernel
theorem dX10_forget_9 : decode cX10_forget 9 = .ok (.istore_n 1, 1) := by decide +kernel
theorem dX10_forget_10 : decode cX10_forget 10 = .ok (.aload_n 0, 1) := by decide +kernel
theorem dX10_forget_11 : decode cX10_forget 11 = .ok (.iconst 0, 1) := by decide +kernel
theorem dX10_forget_12 : decode cX10_forget 12 = .ok (.putfield 422, 3) := by decide +kernel
theorem dX10_forget_15 : decode cX10_forget 15 = .ok (.iload_n 1, 1) := by decide +kernel
theorem dX10_forget_16 : decode cX10_forget 16 = .ok (.ireturn, 1) := by decide +kernel
theorem dX10_isSo_0 : decode cX10_isSo 0 = .ok (.iload_n 2, 1) := by decide +kernel
theorem dX10_isSo_1 : decode cX10_isSo 1 = .ok (.tableswitch 131 0 3 #[31, 50, 81, 112], 31) := by decide +kernel
theorem dX10_isSo_32 : decode cX10_isSo 32 = .ok (.aload_n 0, 1) := by decide +kernel
theorem dX10_isSo_33 : decode cX10_isSo 33 = .ok (.getfield 20, 3) := by decide +kernel
theorem dX10_isSo_36 : decode cX10_isSo 36 = .ok (.bipush 24, 2) := by decide +kernel
theorem dX10_isSo_38 : decode cX10_isSo 38 = .ok (.iload_n 1, 1) := by decide +kernel
theorem dX10_isSo_39 : decode cX10_isSo 39 = .ok (.iadd, 1) := by decide +kernel
theorem dX10_isSo_40 : decode cX10_isSo 40 = .ok (.iaload, 1) := by decide +kernel
theorem dX10_isSo_41 : decode cX10_isSo 41 = .ok (.iload_n 3, 1) := by decide +kernel
theorem dX10_isSo_42 : decode cX10_isSo 42 = .ok (.if_icmp .gt 7, 3) := by decide +kernel
theorem dX10_isSo_45 : decode cX10_isSo 45 = .ok (.iconst 1, 1) := by decide +kernel
theorem dX10_isSo_46 : decode cX10_isSo 46 = .ok (.goto 4, 3) := by decide +kernel
theorem dX10_isSo_49 : decode cX10_isSo 49 = .ok (.iconst 0, 1) := by decide +kernel
theorem dX10_isSo_50 : decode cX10_isSo 50 = .ok (.ireturn, 1) := by decide +kernel
theorem dX10_isSo_51 : decode cX10_isSo 51 = .ok (.iload_n 3, 1) := by decide +kernel
theorem dX10_isSo_52 : decode cX10_isSo 52 = .ok (.aload_n 0, 1) := by decide +kernel
theorem dX10_isSo_53 : decode cX10_isSo 53 = .ok (.getfield 20, 3) := by decide +kernel
theorem dX10_isSo_56 : decode cX10_isSo 56 = .ok (.iload_n 1, 1) := by decide +kernel
theorem dX10_isSo_57 : decode cX10_isSo 57 = .ok (.iaload, 1) := by decide +kernel
theorem dX10_isSo_58 : decode cX10_isSo 58 = .ok (.aload_n 0, 1) := by decide +kernel
theorem dX10_isSo_59 : decode cX10_isSo 59 = .ok (.getfield 17, 3) := by decide +kernel
theorem dX10_isSo_62 : decode cX10_isSo 62 = .ok (.idiv, 1) := by decide +kernel
theorem dX10_isSo_63 : decode cX10_isSo 63 = .ok (.isub, 1) := by decide +kernel
theorem dX10_isSo_64 : decode cX10_isSo 64 = .ok (.i2l, 1) := by decide +kernel
theorem dX10_isSo_65 : decode cX10_isSo 65 = .ok (.lconst 0, 1) := by decide +kernel
theorem dX10_isSo_66 : decode cX10_isSo 66 = .ok (.aload_n 0, 1) := by decide +kernel
theorem dX10_isSo_67 : decode cX10_isSo 67 = .ok (.getfield 20, 3) := by decide +kernel
theorem dX10_isSo_70 : decode cX10_isSo 70 = .ok (.bipush 8, 2) := by decide +kernel
theorem dX10_isSo_72 : decode cX10_isSo 72 = .ok (.iload_n 1, 1) := by decide +kernel
theorem dX10_isSo_73 : decode cX10_isSo 73 = .ok (.iadd, 1) := by decide +kernel
theorem dX10_isSo_74 : decode cX10_isSo 74 = .ok (.iaload, 1) := by decide +kernel
theorem dX10_isSo_75 : decode cX10_isSo 75 = .ok (.iconst 1, 1) := by decide +kernel
theorem dX10_isSo_76 : decode cX10_isSo 76 = .ok (.isub, 1) := by decide +kernel
theorem dX10_isSo_77 : decode cX10_isSo 77 = .ok (.i2l, 1) := by decide +kernel
theorem dX10_isSo_78 : decode cX10_isSo 78 = .ok (.invokestatic 117, 3) := by decide +kernel
theorem dX10_isSo_81 : decode cX10_isSo 81 = .ok (.ireturn, 1) := by decide +kernel
theorem dX10_isSo_82 : decode cX10_isSo 82 = .ok (.iload_n 3, 1) := by decide +kernel
theorem dX10_isSo_83 : decode cX10_isSo 83 = .ok (.aload_n 0, 1) := by decide +kernel
theorem dX10_isSo_84 : decode cX10_isSo 84 = .ok (.getfield 20, 3) := by decide +kernel
theorem dX10_isSo_87 : decode cX10_isSo 87 = .ok (.iload_n 1, 1) := by decide +kernel
theorem dX10_isSo_88 : decode cX10_isSo 88 = .ok (.iaload, 1) := by decide +kernel
theorem dX10_isSo_89 : decode cX10_isSo 89 = .ok (.aload_n 0, 1) := by decide +kernel
theorem dX10_isSo_90 : decode cX10_isSo 90 = .ok (.getfield 17, 3) := by decide +kernel
theorem dX10_isSo_93 : decode cX10_isSo 93 = .ok (.irem, 1) := by decide +kernel
theorem dX10_isSo_94 : decode cX10_isSo 94 = .ok (.isub, 1) := by decide +kernel
theorem dX10_isSo_95 : decode cX10_isSo 95 = .ok (.i2l, 1) := by decide +kernel
theorem dX10_isSo_96 : decode cX10_isSo 96 = .ok (.lconst 0, 1) := by decide +kernel
theorem dX10_isSo_97 : decode cX10_isSo 97 = .ok (.aload_n 0, 1) := by decide +kernel
theorem dX10_isSo_98 : decode cX10_isSo 98 = .ok (.getfield 20, 3) := by decide +kernel
theorem dX10_isSo_101 : decode cX10_isSo 101 = .ok (.bipush 16, 2) := by decide +kernel
theorem dX10_isSo_103 : decode cX10_isSo 103 = .ok (.iload_n 1, 1) := by decide +kernel
theorem dX10_isSo_104 : decode cX10_isSo 104 = .ok (.iadd, 1) := by decide +kernel
theorem dX10_isSo_105 : decode cX10_isSo 105 = .ok (.iaload, 1) := by decide +kernel
theorem dX10_isSo_106 : decode cX10_isSo 106 = .ok (.iconst 1, 1) := by decide +kernel
theorem dX10_isSo_107 : decode cX10_isSo 107 = .ok (.isub, 1) := by decide +kernel
theorem dX10_isSo_108 : decode cX10_isSo 108 = .ok (.i2l, 1) := by decide +kernel
theorem dX10_isSo_109 : decode cX10_isSo 109 = .ok (.invokestatic 117, 3) := by decide +kernel
theorem dX10_isSo_112 : decode cX10_isSo 112 = .ok (.ireturn, 1) := by decide +kernel
theorem dX10_isSo_113 : decode cX10_isSo 113 = .ok (.aload_n 0, 1) := by decide +kernel
theorem dX10_isSo_114 : decode cX10_isSo 114 = .ok (.getfield 20, 3) := by decide +kernel
theorem dX10_isSo_117 : decode cX10_isSo 117 = .ok (.bipush 40, 2) := by decide +kernel
theorem dX10_isSo_119 : decode cX10_isSo 119 = .ok (.iload_n 1, 1) := by decide +kernel
theorem dX10_isSo_120 : decode cX10_isSo 120 = .ok (.iadd, 1) := by decide +kernel
theorem dX10_isSo_121 : decode cX10_isSo 121 = .ok (.iaload, 1) := by decide +kernel
theorem dX10_isSo_122 : decode cX10_isSo 122 = .ok (.iload_n 3, 1) := by decide +kernel
theorem dX10_isSo_123 : decode cX10_isSo 123 = .ok (.if_icmp .lt 7, 3) := by decide +kernel
theorem dX10_isSo_126 : decode cX10_isSo 126 = .ok (.iconst 1, 1) := by decide +kernel
theorem dX10_isSo_127 : decode cX10_isSo 127 = .ok (.goto 4, 3) := by decide +kernel
theorem dX10_isSo_130 : decode cX10_isSo 130 = .ok (.iconst 0, 1) := by decide +kernel
theorem dX10_isSo_131 : decode cX10_isSo 131 = .ok (.ireturn, 1) := by decide +kernel
theorem dX10_isSo_132 : decode cX10_isSo 132 = .ok (.aload_n 0, 1) := by decide +kernel
theorem dX10_isSo_133 : decode cX10_isSo 133 = .ok (.aload_n 0, 1) := by decide +kernel
theorem dX10_isSo_134 : decode cX10_isSo 134 = .ok (.getfield 20, 3) := by decide +kernel
theorem dX10_isSo_137 : decode cX10_isSo 137 = .ok (.iload_n 1, 1) := by decide +kernel
theorem dX10_isSo_138 : decode cX10_isSo 138 = .ok (.invokevirtual 260, 3) := by decide +kernel
theorem dX10_isSo_141 : decode cX10_isSo 141 = .ok (.invokestatic 264, 3) := by decide +kernel
theorem dX10_isSo_144 : decode cX10_isSo 144 = .ok (.iload_n 3, 1) := by decide +kernel
theorem dX10_isSo_145 : decode cX10_isSo 145 = .ok (.if_icmp .lt 7, 3) := by decide +kernel
theorem dX10_isSo_148 : decode cX10_isSo 148 = .ok (.iconst 1, 1) := by decide +kernel
theorem dX10_isSo_149 : decode cX10_isSo 149 = .ok (.goto 4, 3) := by decide +kernel
theorem dX10_isSo_152 : decode cX10_isSo 152 = .ok (.iconst 0, 1) := by decide +kernel
theorem dX10_isSo_153 : decode cX10_isSo 153 = .ok (.ireturn, 1) := by decide +kernel
theorem dX10_fits_0 : decode cX10_fits 0 = .ok (.aload_n 0, 1) := by decide +kernel
theorem dX10_fits_1 : decode cX10_fits 1 = .ok (.iconst 0, 1) := by decide +kernel
theorem dX10_fits_2 : decode cX10_fits 2 = .ok (.putfield 103, 3) := by decide +kernel
theorem dX10_fits_5 : decode cX10_fits 5 = .ok (.iconst 0, 1) := by decide +kernel
theorem dX10_fits_6 : decode cX10_fits 6 = .ok (.istore_n 1, 1) := by decide +kernel
theorem dX10_fits_7 : decode cX10_fits 7 = .ok (.iconst 0, 1) := by decide +kernel
theorem dX10_fits_8 : decode cX10_fits 8 = .ok (.istore_n 2, 1) := by decide +kernel
theorem dX10_fits_9 : decode cX10_fits 9 = .ok (.iload_n 2, 1) := by decide +kernel
theorem dX10_fits_10 : decode cX10_fits 10 = .ok (.aload_n 0, 1) := by decide +kernel
theorem dX10_fits_11 : decode cX10_fits 11 = .ok (.getfield 20, 3) := by decide +kernel
theorem dX10_fits_14 : decode cX10_fits 14 = .ok (.bipush 48, 2) := by decide +kernel
theorem dX10_fits_16 : decode cX10_fits 16 = .ok (.iaload, 1) := by decide +kernel
theorem dX10_fits_17 : decode cX10_fits 17 = .ok (.if_icmp .ge 82, 3) := by decide +kernel
theorem dX10_fits_20 : decode cX10_fits 20 = .ok (.aload_n 0, 1) := by decide +kernel
theorem dX10_fits_21 : decode cX10_fits 21 = .ok (.getfield 20, 3) := by decide +kernel
theorem dX10_fits_24 : decode cX10_fits 24 = .ok (.iload_n 2, 1) := by decide +kernel
theorem dX10_fits_25 : decode cX10_fits 25 = .ok (.invokestatic 129, 3) := by decide +kernel
theorem dX10_fits_28 : decode cX10_fits 28 = .ok (.istore_n 3, 1) := by decide +kernel
theorem dX10_fits_29 : decode cX10_fits 29 = .ok (.iconst 0, 1) := by decide +kernel
theorem dX10_fits_30 : decode cX10_fits 30 = .ok (.istore 4, 2) := by decide +kernel
theorem dX10_fits_32 : decode cX10_fits 32 = .ok (.iload 4, 2) := by decide +kernel
theorem dX10_fits_34 : decode cX10_fits 34 = .ok (.aload_n 0, 1) := by decide +kernel
theorem dX10_fits_35 : decode cX10_fits 35 = .ok (.getfield 422, 3) := by decide +kernel
theorem dX10_fits_38 : decode cX10_fits 38 = .ok (.if_icmp .ge 41, 3) := by decide +kernel
theorem dX10_fits_41 : decode cX10_fits 41 = .ok (.iload_n 3, 1) := by decide +kernel
theorem dX10_fits_42 : decode cX10_fits 42 = .ok (.ifCond .eq 29, 3) := by decide +kernel
theorem dX10_fits_45 : decode cX10_fits 45 = .ok (.aload_n 0, 1) := by decide +kernel
theorem dX10_fits_46 : decode cX10_fits 46 = .ok (.iload_n 2, 1) := by decide +kernel
theorem dX10_fits_47 : decode cX10_fits 47 = .ok (.aload_n 0, 1) := by decide +kernel
theorem dX10_fits_48 : decode cX10_fits 48 = .ok (.getfield 78, 3) := by decide +kernel
theorem dX10_fits_51 : decode cX10_fits 51 = .ok (.iload 4, 2) := by decide +kernel
theorem dX10_fits_53 : decode cX10_fits 53 = .ok (.iaload, 1) := by decide +kernel
theorem dX10_fits_54 : decode cX10_fits 54 = .ok (.aload_n 0, 1) := by decide +kernel
theorem dX10_fits_55 : decode cX10_fits 55 = .ok (.getfield 81, 3) := by decide +kernel
theorem dX10_fits_58 : decode cX10_fits 58 = .ok (.iload 4, 2) := by decide +kernel
theorem dX10_fits_60 : decode cX10_fits 60 = .ok (.iaload, 1) := by decide +kernel
theorem dX10_fits_61 : decode cX10_fits 61 = .ok (.invokevirtual 425, 3) := by decide +kernel
theorem dX10_fits_64 : decode cX10_fits 64 = .ok (.ifCond .eq 7, 3) := by decide +kernel
theorem dX10_fits_67 : decode cX10_fits 67 = .ok (.iconst 1, 1) := by decide +kernel
theorem dX10_fits_68 : decode cX10_fits 68 = .ok (.goto 4, 3) := by decide +kernel
theorem dX10_fits_71 : decode cX10_fits 71 = .ok (.iconst 0, 1) := by decide +kernel
theorem dX10_fits_72 : decode cX10_fits 72 = .ok (.istore_n 3, 1) := by decide +kernel
theorem dX10_fits_73 : decode cX10_fits 73 = .ok (.iinc 4 1, 3) := by decide +kernel
theorem dX10_fits_76 : decode cX10_fits 76 = .ok (.goto (-44), 3) := by decide +kernel
theorem dX10_fits_79 : decode cX10_fits 79 = .ok (.iload_n 1, 1) := by decide +kernel
theorem dX10_fits_80 : decode cX10_fits 80 = .ok (.iload_n 3, 1) := by decide +kernel
theorem dX10_fits_81 : decode cX10_fits 81 = .ok (.ifCond .eq 9, 3) := by decide +kernel
theorem dX10_fits_84 : decode cX10_fits 84 = .ok (.iconst 1, 1) := by decide +kernel
theorem dX10_fits_85 : decode cX10_fits 85 = .ok (.iload_n 2, 1) := by decide +kernel
theorem dX10_fits_86 : decode cX10_fits 86 = .ok (.ishl, 1) := by decide +kernel
theorem dX10_fits_87 : decode cX10_fits 87 = .ok (.goto 4, 3) := by decide +kernel
theorem dX10_fits_90 : decode cX10_fits 90 = .ok (.iconst 0, 1) := by decide +kernel
theorem dX10_fits_91 : decode cX10_fits 91 = .ok (.ior, 1) := by decide +kernel
theorem dX10_fits_92 : decode cX10_fits 92 = .ok (.istore_n 1, 1) := by decide +kernel
theorem dX10_fits_93 : decode cX10_fits 93 = .ok (.iinc 2 1, 3) := by decide +kernel
theorem dX10_fits_96 : decode cX10_fits 96 = .ok (.goto (-87), 3) := by decide +kernel
theorem dX10_fits_99 : decode cX10_fits 99 = .ok (.aload_n 0, 1) := by decide +kernel
theorem dX10_fits_100 : decode cX10_fits 100 = .ok (.iconst 0, 1) := by decide +kernel
theorem dX10_fits_101 : decode cX10_fits 101 = .ok (.putfield 110, 3) := by decide +kernel
theorem dX10_fits_104 : decode cX10_fits 104 = .ok (.aload_n 0, 1) := by decide +kernel
theorem dX10_fits_105 : decode cX10_fits 105 = .ok (.iload_n 1, 1) := by decide +kernel
theorem dX10_fits_106 : decode cX10_fits 106 = .ok (.invokestatic 264, 3) := by decide +kernel
theorem dX10_fits_109 : decode cX10_fits 109 = .ok (.i2l, 1) := by decide +kernel
theorem dX10_fits_110 : decode cX10_fits 110 = .ok (.invokevirtual 339, 3) := by decide +kernel
theorem dX10_fits_113 : decode cX10_fits 113 = .ok (.iload_n 1, 1) := by decide +kernel
theorem dX10_fits_114 : decode cX10_fits 114 = .ok (.ireturn, 1) := by decide +kernel
theorem dX10_sung_0 : decode cX10_sung 0 = .ok (.aload_n 0, 1) := by decide +kernel
theorem dX10_sung_1 : decode cX10_sung 1 = .ok (.iconst 0, 1) := by decide +kernel
theorem dX10_sung_2 : decode cX10_sung 2 = .ok (.putfield 103, 3) := by decide +kernel
theorem dX10_sung_5 : decode cX10_sung 5 = .ok (.aload_n 0, 1) := by decide +kernel
theorem dX10_sung_6 : decode cX10_sung 6 = .ok (.iload_n 1, 1) := by decide +kernel
theorem dX10_sung_7 : decode cX10_sung 7 = .ok (.invokevirtual 289, 3) := by decide +kernel
theorem dX10_sung_10 : decode cX10_sung 10 = .ok (.ifCond .eq 27, 3) := by decide +kernel
theorem dX10_sung_13 : decode cX10_sung 13 = .ok (.iload_n 2, 1) := by decide +kernel
theorem dX10_sung_14 : decode cX10_sung 14 = .ok (.i2l, 1) := by decide +kernel
theorem dX10_sung_15 : decode cX10_sung 15 = .ok (.lconst 0, 1) := by decide +kernel
theorem dX10_sung_16 : decode cX10_sung 16 = .ok (.ldc2_w 428, 3) := by decide +kernel
theorem dX10_sung_19 : decode cX10_sung 19 = .ok (.invokestatic 117, 3) := by decide +kernel
theorem dX10_sung_22 : decode cX10_sung 22 = .ok (.ifCond .eq 15, 3) := by decide +kernel
theorem dX10_sung_25 : decode cX10_sung 25 = .ok (.iload_n 3, 1) := by decide +kernel
theorem dX10_sung_26 : decode cX10_sung 26 = .ok (.i2l, 1) := by decide +kernel
theorem dX10_sung_27 : decode cX10_sung 27 = .ok (.lconst 0, 1) := by decide +kernel
theorem dX10_sung_28 : decode cX10_sung 28 = .ok (.ldc2_w 430, 3) := by decide +kernel
theorem dX10_sung_31 : decode cX10_sung 31 = .ok (.invokestatic 117, 3) := by decide +kernel
theorem dX10_sung_34 : decode cX10_sung 34 = .ok (.ifCond .ne 5, 3) := by decide +kernel
theorem dX10_sung_37 : decode cX10_sung 37 = .ok (.iconst (-1), 1) := by decide +kernel
theorem dX10_sung_38 : decode cX10_sung 38 = .ok (.ireturn, 1) := by decide +kernel
theorem dX10_sung_39 : decode cX10_sung 39 = .ok (.aload_n 0, 1) := by decide +kernel
theorem dX10_sung_40 : decode cX10_sung 40 = .ok (.aload_n 0, 1) := by decide +kernel
theorem dX10_sung_41 : decode cX10_sung 41 = .ok (.getfield 20, 3) := by decide +kernel
theorem dX10_sung_44 : decode cX10_sung 44 = .ok (.iload_n 1, 1) := by decide +kernel
theorem dX10_sung_45 : decode cX10_sung 45 = .ok (.invokevirtual 294, 3) := by decide +kernel
theorem dX10_sung_48 : decode cX10_sung 48 = .ok (.invokestatic 264, 3) := by decide +kernel
theorem dX10_sung_51 : decode cX10_sung 51 = .ok (.istore 4, 2) := by decide +kernel
theorem dX10_sung_53 : decode cX10_sung 53 = .ok (.lconst 0, 1) := by decide +kernel
theorem dX10_sung_54 : decode cX10_sung 54 = .ok (.lstore 5, 2) := by decide +kernel
theorem dX10_sung_56 : decode cX10_sung 56 = .ok (.lconst 1, 1) := by decide +kernel
theorem dX10_sung_57 : decode cX10_sung 57 = .ok (.lstore 7, 2) := by decide +kernel
theorem dX10_sung_59 : decode cX10_sung 59 = .ok (.iconst 0, 1) := by decide +kernel
theorem dX10_sung_60 : decode cX10_sung 60 = .ok (.istore 9, 2) := by decide +kernel
theorem dX10_sung_62 : decode cX10_sung 62 = .ok (.iload 9, 2) := by decide +kernel
theorem dX10_sung_64 : decode cX10_sung 64 = .ok (.iload 4, 2) := by decide +kernel
theorem dX10_sung_66 : decode cX10_sung 66 = .ok (.if_icmp .ge 17, 3) := by decide +kernel
theorem dX10_sung_69 : decode cX10_sung 69 = .ok (.lload 7, 2) := by decide +kernel
theorem dX10_sung_71 : decode cX10_sung 71 = .ok (.ldc2_w 430, 3) := by decide +kernel
theorem dX10_sung_74 : decode cX10_sung 74 = .ok (.lmul, 1) := by decide +kernel
theorem dX10_sung_75 : decode cX10_sung 75 = .ok (.lstore 7, 2) := by decide +kernel
theorem dX10_sung_77 : decode cX10_sung 77 = .ok (.iinc 9 1, 3) := by decide +kernel
theorem dX10_sung_80 : decode cX10_sung 80 = .ok (.goto (-18), 3) := by decide +kernel
theorem dX10_sung_83 : decode cX10_sung 83 = .ok (.iconst 0, 1) := by decide +kernel
theorem dX10_sung_84 : decode cX10_sung 84 = .ok (.istore 9, 2) := by decide +kernel
theorem dX10_sung_86 : decode cX10_sung 86 = .ok (.iload 9, 2) := by decide +kernel
theorem dX10_sung_88 : decode cX10_sung 88 = .ok (.iconst 1, 1) := by decide +kernel
theorem dX10_sung_89 : decode cX10_sung 89 = .ok (.iload 4, 2) := by decide +kernel
theorem dX10_sung_91 : decode cX10_sung 91 = .ok (.ishl, 1) := by decide +kernel
theorem dX10_sung_92 : decode cX10_sung 92 = .ok (.if_icmp .ge 78, 3) := by decide +kernel
theorem dX10_sung_95 : decode cX10_sung 95 = .ok (.iload 9, 2) := by decide +kernel
theorem dX10_sung_97 : decode cX10_sung 97 = .ok (.invokestatic 264, 3) := by decide +kernel
theorem dX10_sung_100 : decode cX10_sung 100 = .ok (.iload_n 2, 1) := by decide +kernel
theorem dX10_sung_101 : decode cX10_sung 101 = .ok (.if_icmp .lt 7, 3) := by decide +kernel
theorem dX10_sung_104 : decode cX10_sung 104 = .ok (.iconst 1, 1) := by decide +kernel
theorem dX10_sung_105 : decode cX10_sung 105 = .ok (.goto 4, 3) := by decide +kernel
theorem dX10_sung_108 : decode cX10_sung 108 = .ok (.iconst 0, 1) := by decide +kernel
theorem dX10_sung_109 : decode cX10_sung 109 = .ok (.invokestatic 163, 3) := by decide +kernel
theorem dX10_sung_112 : decode cX10_sung 112 = .ok (.i2l, 1) := by decide +kernel
theorem dX10_sung_113 : decode cX10_sung 113 = .ok (.lstore 10, 2) := by decide +kernel
theorem dX10_sung_115 : decode cX10_sung 115 = .ok (.iconst 0, 1) := by decide +kernel
theorem dX10_sung_116 : decode cX10_sung 116 = .ok (.istore 12, 2) := by decide +kernel
theorem dX10_sung_118 : decode cX10_sung 118 = .ok (.iload 12, 2) := by decide +kernel
theorem dX10_sung_120 : decode cX10_sung 120 = .ok (.iload 4, 2) := by decide +kernel
theorem dX10_sung_122 : decode cX10_sung 122 = .ok (.if_icmp .ge 35, 3) := by decide +kernel
theorem dX10_sung_125 : decode cX10_sung 125 = .ok (.lload 10, 2) := by decide +kernel
theorem dX10_sung_127 : decode cX10_sung 127 = .ok (.iload 9, 2) := by decide +kernel
theorem dX10_sung_129 : decode cX10_sung 129 = .ok (.i2l, 1) := by decide +kernel
theorem dX10_sung_130 : decode cX10_sung 130 = .ok (.iload 12, 2) := by decide +kernel
theorem dX10_sung_132 : decode cX10_sung 132 = .ok (.invokestatic 137, 3) := by decide +kernel
theorem dX10_sung_135 : decode cX10_sung 135 = .ok (.ifCond .eq 8, 3) := by decide +kernel
theorem dX10_sung_138 : decode cX10_sung 138 = .ok (.iload_n 3, 1) := by decide +kernel
theorem dX10_sung_139 : decode cX10_sung 139 = .ok (.i2l, 1) := by decide +kernel
theorem dX10_sung_140 : decode cX10_sung 140 = .ok (.goto 8, 3) := by decide +kernel
theorem dX10_sung_143 : decode cX10_sung 143 = .ok (.bipush 10, 2) := by decide +kernel
theorem dX10_sung_145 : decode cX10_sung 145 = .ok (.iload_n 3, 1) := by decide +kernel
theorem dX10_sung_146 : decode cX10_sung 146 = .ok (.isub, 1) := by decide +kernel
theorem dX10_sung_147 : decode cX10_sung 147 = .ok (.i2l, 1) := by decide +kernel
theorem dX10_sung_148 : decode cX10_sung 148 = .ok (.lmul, 1) := by decide +kernel
theorem dX10_sung_149 : decode cX10_sung 149 = .ok (.lstore 10, 2) := by decide +kernel
theorem dX10_sung_151 : decode cX10_sung 151 = .ok (.iinc 12 1, 3) := by decide +kernel
theorem dX10_sung_154 : decode cX10_sung 154 = .ok (.goto (-36), 3) := by decide +kernel
theorem dX10_sung_157 : decode cX10_sung 157 = .ok (.lload 5, 2) := by decide +kernel
theorem dX10_sung_159 : decode cX10_sung 159 = .ok (.lload 10, 2) := by decide +kernel
theorem dX10_sung_161 : decode cX10_sung 161 = .ok (.ladd, 1) := by decide +kernel
theorem dX10_sung_162 : decode cX10_sung 162 = .ok (.lstore 5, 2) := by decide +kernel
theorem dX10_sung_164 : decode cX10_sung 164 = .ok (.iinc 9 1, 3) := by decide +kernel
theorem dX10_sung_167 : decode cX10_sung 167 = .ok (.goto (-81), 3) := by decide +kernel
theorem dX10_sung_170 : decode cX10_sung 170 = .ok (.lload 5, 2) := by decide +kernel
theorem dX10_sung_172 : decode cX10_sung 172 = .ok (.lload 7, 2) := by decide +kernel
theorem dX10_sung_174 : decode cX10_sung 174 = .ok (.invokestatic 106, 3) := by decide +kernel
theorem dX10_sung_177 : decode cX10_sung 177 = .ok (.lstore 9, 2) := by decide +kernel
theorem dX10_sung_179 : decode cX10_sung 179 = .ok (.aload_n 0, 1) := by decide +kernel
theorem dX10_sung_180 : decode cX10_sung 180 = .ok (.iconst 0, 1) := by decide +kernel
theorem dX10_sung_181 : decode cX10_sung 181 = .ok (.putfield 110, 3) := by decide +kernel
theorem dX10_sung_184 : decode cX10_sung 184 = .ok (.aload_n 0, 1) := by decide +kernel
theorem dX10_sung_185 : decode cX10_sung 185 = .ok (.lload 5, 2) := by decide +kernel
theorem dX10_sung_187 : decode cX10_sung 187 = .ok (.lload 9, 2) := by decide +kernel
theorem dX10_sung_189 : decode cX10_sung 189 = .ok (.ldiv, 1) := by decide +kernel
theorem dX10_sung_190 : decode cX10_sung 190 = .ok (.invokevirtual 339, 3) := by decide +kernel
theorem dX10_sung_193 : decode cX10_sung 193 = .ok (.aload_n 0, 1) := by decide +kernel
theorem dX10_sung_194 : decode cX10_sung 194 = .ok (.lload 7, 2) := by decide +kernel
theorem dX10_sung_196 : decode cX10_sung 196 = .ok (.lload 9, 2) := by decide +kernel
theorem dX10_sung_198 : decode cX10_sung 198 = .ok (.ldiv, 1) := by decide +kernel
theorem dX10_sung_199 : decode cX10_sung 199 = .ok (.invokevirtual 339, 3) := by decide +kernel
theorem dX10_sung_202 : decode cX10_sung 202 = .ok (.iconst 0, 1) := by decide +kernel
theorem dX10_sung_203 : decode cX10_sung 203 = .ok (.ireturn, 1) := by decide +kernel
theorem dX10_worthOf_0 : decode cX10_worthOf 0 = .ok (.iconst 0, 1) := by decide +kernel
theorem dX10_worthOf_1 : decode cX10_worthOf 1 = .ok (.istore_n 2, 1) := by decide +kernel
theorem dX10_worthOf_2 : decode cX10_worthOf 2 = .ok (.iload_n 2, 1) := by decide +kernel
theorem dX10_worthOf_3 : decode cX10_worthOf 3 = .ok (.bipush 64, 2) := by decide +kernel
theorem dX10_worthOf_5 : decode cX10_worthOf 5 = .ok (.if_icmp .ge 16, 3) := by decide +kernel
theorem dX10_worthOf_8 : decode cX10_worthOf 8 = .ok (.aload_n 0, 1) := by decide +kernel
theorem dX10_worthOf_9 : decode cX10_worthOf 9 = .ok (.getfield 87, 3) := by decide +kernel
theorem dX10_worthOf_12 : decode cX10_worthOf 12 = .ok (.iload_n 2, 1) := by decide +kernel
theorem dX10_worthOf_13 : decode cX10_worthOf 13 = .ok (.iconst 0, 1) := by decide +kernel
theorem dX10_worthOf_14 : decode cX10_worthOf 14 = .ok (.bastore, 1) := by decide +kernel
theorem dX10_worthOf_15 : decode cX10_worthOf 15 = .ok (.iinc 2 1, 3) := by decide +kernel
theorem dX10_worthOf_18 : decode cX10_worthOf 18 = .ok (.goto (-16), 3) := by decide +kernel
theorem dX10_worthOf_21 : decode cX10_worthOf 21 = .ok (.iconst 1, 1) := by decide +kernel
theorem dX10_worthOf_22 : decode cX10_worthOf 22 = .ok (.istore_n 2, 1) := by decide +kernel
theorem dX10_worthOf_23 : decode cX10_worthOf 23 = .ok (.iload_n 2, 1) := by decide +kernel
theorem dX10_worthOf_24 : decode cX10_worthOf 24 = .ok (.iconst 3, 1) := by decide +kernel
theorem dX10_worthOf_25 : decode cX10_worthOf 25 = .ok (.if_icmp .gt 47, 3) := by decide +kernel
theorem dX10_worthOf_28 : decode cX10_worthOf 28 = .ok (.iconst 0, 1) := by decide +kernel
theorem dX10_worthOf_29 : decode cX10_worthOf 29 = .ok (.istore_n 3, 1) := by decide +kernel
theorem dX10_worthOf_30 : decode cX10_worthOf 30 = .ok (.iload_n 3, 1) := by decide +kernel
theorem dX10_worthOf_31 : decode cX10_worthOf 31 = .ok (.iload_n 2, 1) := by decide +kernel
theorem dX10_worthOf_32 : decode cX10_worthOf 32 = .ok (.iadd, 1) := by decide +kernel
theorem dX10_worthOf_33 : decode cX10_worthOf 33 = .ok (.iload_n 1, 1) := by decide +kernel
theorem dX10_worthOf_34 : decode cX10_worthOf 34 = .ok (.if_icmp .gt 32, 3) := by decide +kernel
theorem dX10_worthOf_37 : decode cX10_worthOf 37 = .ok (.aload_n 0, 1) := by decide +kernel
theorem dX10_worthOf_38 : decode cX10_worthOf 38 = .ok (.getfield 87, 3) := by decide +kernel
theorem dX10_worthOf_41 : decode cX10_worthOf 41 = .ok (.aload_n 0, 1) := by decide +kernel
theorem dX10_worthOf_42 : decode cX10_worthOf 42 = .ok (.getfield 84, 3) := by decide +kernel
theorem dX10_worthOf_45 : decode cX10_worthOf 45 = .ok (.iload_n 3, 1) := by decide +kernel
theorem dX10_worthOf_46 : decode cX10_worthOf 46 = .ok (.iaload, 1) := by decide +kernel
theorem dX10_worthOf_47 : decode cX10_worthOf 47 = .ok (.aload_n 0, 1) := by decide +kernel
theorem dX10_worthOf_48 : decode cX10_worthOf 48 = .ok (.getfield 84, 3) := by decide +kernel
theorem dX10_worthOf_51 : decode cX10_worthOf 51 = .ok (.iload_n 1, 1) := by decide +kernel
theorem dX10_worthOf_52 : decode cX10_worthOf 52 = .ok (.iload_n 2, 1) := by decide +kernel
theorem dX10_worthOf_53 : decode cX10_worthOf 53 = .ok (.isub, 1) := by decide +kernel
theorem dX10_worthOf_54 : decode cX10_worthOf 54 = .ok (.iload_n 3, 1) := by decide +kernel
theorem dX10_worthOf_55 : decode cX10_worthOf 55 = .ok (.isub, 1) := by decide +kernel
theorem dX10_worthOf_56 : decode cX10_worthOf 56 = .ok (.iaload, 1) := by decide +kernel
theorem dX10_worthOf_57 : decode cX10_worthOf 57 = .ok (.ixor, 1) := by decide +kernel
theorem dX10_worthOf_58 : decode cX10_worthOf 58 = .ok (.iconst 1, 1) := by decide +kernel
theorem dX10_worthOf_59 : decode cX10_worthOf 59 = .ok (.bastore, 1) := by decide +kernel
theorem dX10_worthOf_60 : decode cX10_worthOf 60 = .ok (.iinc 3 1, 3) := by decide +kernel
theorem dX10_worthOf_63 : decode cX10_worthOf 63 = .ok (.goto (-33), 3) := by decide +kernel
theorem dX10_worthOf_66 : decode cX10_worthOf 66 = .ok (.iinc 2 1, 3) := by decide +kernel
theorem dX10_worthOf_69 : decode cX10_worthOf 69 = .ok (.goto (-46), 3) := by decide +kernel
theorem dX10_worthOf_72 : decode cX10_worthOf 72 = .ok (.iconst 0, 1) := by decide +kernel
theorem dX10_worthOf_73 : decode cX10_worthOf 73 = .ok (.istore_n 2, 1) := by decide +kernel
theorem dX10_worthOf_74 : decode cX10_worthOf 74 = .ok (.aload_n 0, 1) := by decide +kernel
theorem dX10_worthOf_75 : decode cX10_worthOf 75 = .ok (.getfield 87, 3) := by decide +kernel
theorem dX10_worthOf_78 : decode cX10_worthOf 78 = .ok (.iload_n 2, 1) := by decide +kernel
theorem dX10_worthOf_79 : decode cX10_worthOf 79 = .ok (.baload, 1) := by decide +kernel
theorem dX10_worthOf_80 : decode cX10_worthOf 80 = .ok (.ifCond .eq 9, 3) := by decide +kernel
theorem dX10_worthOf_83 : decode cX10_worthOf 83 = .ok (.iinc 2 1, 3) := by decide +kernel
theorem dX10_worthOf_86 : decode cX10_worthOf 86 = .ok (.goto (-12), 3) := by decide +kernel
theorem dX10_worthOf_89 : decode cX10_worthOf 89 = .ok (.iload_n 2, 1) := by decide +kernel
theorem dX10_worthOf_90 : decode cX10_worthOf 90 = .ok (.ireturn, 1) := by decide +kernel
theorem dX10_fence_0 : decode cX10_fence 0 = .ok (.aload_n 0, 1) := by decide +kernel
theorem dX10_fence_1 : decode cX10_fence 1 = .ok (.iconst 0, 1) := by decide +kernel
theorem dX10_fence_2 : decode cX10_fence 2 = .ok (.putfield 103, 3) := by decide +kernel
theorem dX10_fence_5 : decode cX10_fence 5 = .ok (.iload_n 1, 1) := by decide +kernel
theorem dX10_fence_6 : decode cX10_fence 6 = .ok (.i2l, 1) := by decide +kernel
theorem dX10_fence_7 : decode cX10_fence 7 = .ok (.lconst 0, 1) := by decide +kernel
theorem dX10_fence_8 : decode cX10_fence 8 = .ok (.ldc2_w 432, 3) := by decide +kernel
theorem dX10_fence_11 : decode cX10_fence 11 = .ok (.invokestatic 117, 3) := by decide +kernel
theorem dX10_fence_14 : decode cX10_fence 14 = .ok (.ifCond .ne 5, 3) := by decide +kernel
theorem dX10_fence_17 : decode cX10_fence 17 = .ok (.iconst (-1), 1) := by decide +kernel
theorem dX10_fence_18 : decode cX10_fence 18 = .ok (.ireturn, 1) := by decide +kernel
theorem dX10_fence_19 : decode cX10_fence 19 = .ok (.iconst 0, 1) := by decide +kernel
theorem dX10_fence_20 : decode cX10_fence 20 = .ok (.istore_n 2, 1) := by decide +kernel
theorem dX10_fence_21 : decode cX10_fence 21 = .ok (.iload_n 2, 1) := by decide +kernel
theorem dX10_fence_22 : decode cX10_fence 22 = .ok (.iload_n 1, 1) := by decide +kernel
theorem dX10_fence_23 : decode cX10_fence 23 = .ok (.if_icmp .gt 20, 3) := by decide +kernel
theorem dX10_fence_26 : decode cX10_fence 26 = .ok (.aload_n 0, 1) := by decide +kernel
theorem dX10_fence_27 : decode cX10_fence 27 = .ok (.getfield 84, 3) := by decide +kernel
theorem dX10_fence_30 : decode cX10_fence 30 = .ok (.iload_n 2, 1) := by decide +kernel
theorem dX10_fence_31 : decode cX10_fence 31 = .ok (.aload_n 0, 1) := by decide +kernel
theorem dX10_fence_32 : decode cX10_fence 32 = .ok (.iload_n 2, 1) := by decide +kernel
theorem dX10_fence_33 : decode cX10_fence 33 = .ok (.invokevirtual 434, 3) := by decide +kernel
theorem dX10_fence_36 : decode cX10_fence 36 = .ok (.iastore, 1) := by decide +kernel
theorem dX10_fence_37 : decode cX10_fence 37 = .ok (.iinc 2 1, 3) := by decide +kernel
theorem dX10_fence_40 : decode cX10_fence 40 = .ok (.goto (-19), 3) := by decide +kernel
theorem dX10_fence_43 : decode cX10_fence 43 = .ok (.aload_n 0, 1) := by decide +kernel
theorem dX10_fence_44 : decode cX10_fence 44 = .ok (.iconst 0, 1) := by decide +kernel
theorem dX10_fence_45 : decode cX10_fence 45 = .ok (.putfield 110, 3) := by decide +kernel
theorem dX10_fence_48 : decode cX10_fence 48 = .ok (.iconst 0, 1) := by decide +kernel
theorem dX10_fence_49 : decode cX10_fence 49 = .ok (.istore_n 2, 1) := by decide +kernel
theorem dX10_fence_50 : decode cX10_fence 50 = .ok (.iload_n 2, 1) := by decide +kernel
theorem dX10_fence_51 : decode cX10_fence 51 = .ok (.iload_n 1, 1) := by decide +kernel
theorem dX10_fence_52 : decode cX10_fence 52 = .ok (.if_icmp .ge 66, 3) := by decide +kernel
theorem dX10_fence_55 : decode cX10_fence 55 = .ok (.iconst 1, 1) := by decide +kernel
theorem dX10_fence_56 : decode cX10_fence 56 = .ok (.istore_n 3, 1) := by decide +kernel
theorem dX10_fence_57 : decode cX10_fence 57 = .ok (.iload_n 3, 1) := by decide +kernel
theorem dX10_fence_58 : decode cX10_fence 58 = .ok (.iconst 3, 1) := by decide +kernel
theorem dX10_fence_59 : decode cX10_fence 59 = .ok (.iload_n 1, 1) := by decide +kernel
theorem dX10_fence_60 : decode cX10_fence 60 = .ok (.iload_n 2, 1) := by decide +kernel
theorem dX10_fence_61 : decode cX10_fence 61 = .ok (.isub, 1) := by decide +kernel
theorem dX10_fence_62 : decode cX10_fence 62 = .ok (.invokestatic 154, 3) := by decide +kernel
theorem dX10_fence_65 : decode cX10_fence 65 = .ok (.if_icmp .gt 47, 3) := by decide +kernel
theorem dX10_fence_68 : decode cX10_fence 68 = .ok (.aload_n 0, 1) := by decide +kernel
theorem dX10_fence_69 : decode cX10_fence 69 = .ok (.getfield 110, 3) := by decide +kernel
theorem dX10_fence_72 : decode cX10_fence 72 = .ok (.ifCond .ne 34, 3) := by decide +kernel
theorem dX10_fence_75 : decode cX10_fence 75 = .ok (.aload_n 0, 1) := by decide +kernel
theorem dX10_fence_76 : decode cX10_fence 76 = .ok (.getfield 84, 3) := by decide +kernel
theorem dX10_fence_79 : decode cX10_fence 79 = .ok (.iload_n 2, 1) := by decide +kernel
theorem dX10_fence_80 : decode cX10_fence 80 = .ok (.iaload, 1) := by decide +kernel
theorem dX10_fence_81 : decode cX10_fence 81 = .ok (.aload_n 0, 1) := by decide +kernel
theorem dX10_fence_82 : decode cX10_fence 82 = .ok (.getfield 84, 3) := by decide +kernel
theorem dX10_fence_85 : decode cX10_fence 85 = .ok (.iload_n 1, 1) := by decide +kernel
theorem dX10_fence_86 : decode cX10_fence 86 = .ok (.iload_n 3, 1) := by decide +kernel
theorem dX10_fence_87 : decode cX10_fence 87 = .ok (.isub, 1) := by decide +kernel
theorem dX10_fence_88 : decode cX10_fence 88 = .ok (.iload_n 2, 1) := by decide +kernel
theorem dX10_fence_89 : decode cX10_fence 89 = .ok (.isub, 1) := by decide +kernel
theorem dX10_fence_90 : decode cX10_fence 90 = .ok (.iaload, 1) := by decide +kernel
theorem dX10_fence_91 : decode cX10_fence 91 = .ok (.if_icmp .ne 15, 3) := by decide +kernel
theorem dX10_fence_94 : decode cX10_fence 94 = .ok (.aload_n 0, 1) := by decide +kernel
theorem dX10_fence_95 : decode cX10_fence 95 = .ok (.iload_n 2, 1) := by decide +kernel
theorem dX10_fence_96 : decode cX10_fence 96 = .ok (.i2l, 1) := by decide +kernel
theorem dX10_fence_97 : decode cX10_fence 97 = .ok (.invokevirtual 339, 3) := by decide +kernel
theorem dX10_fence_100 : decode cX10_fence 100 = .ok (.aload_n 0, 1) := by decide +kernel
theorem dX10_fence_101 : decode cX10_fence 101 = .ok (.iload_n 3, 1) := by decide +kernel
theorem dX10_fence_102 : decode cX10_fence 102 = .ok (.i2l, 1) := by decide +kernel
theorem dX10_fence_103 : decode cX10_fence 103 = .ok (.invokevirtual 339, 3) := by decide +kernel
theorem dX10_fence_106 : decode cX10_fence 106 = .ok (.iinc 3 1, 3) := by decide +kernel
theorem dX10_fence_109 : decode cX10_fence 109 = .ok (.goto (-52), 3) := by decide +kernel
theorem dX10_fence_112 : decode cX10_fence 112 = .ok (.iinc 2 1, 3) := by decide +kernel
theorem dX10_fence_115 : decode cX10_fence 115 = .ok (.goto (-65), 3) := by decide +kernel
theorem dX10_fence_118 : decode cX10_fence 118 = .ok (.aload_n 0, 1) := by decide +kernel
theorem dX10_fence_119 : decode cX10_fence 119 = .ok (.getfield 110, 3) := by decide +kernel
theorem dX10_fence_122 : decode cX10_fence 122 = .ok (.ifCond .le 7, 3) := by decide +kernel
theorem dX10_fence_125 : decode cX10_fence 125 = .ok (.iconst 1, 1) := by decide +kernel
theorem dX10_fence_126 : decode cX10_fence 126 = .ok (.goto 4, 3) := by decide +kernel
theorem dX10_fence_129 : decode cX10_fence 129 = .ok (.iconst 0, 1) := by decide +kernel
theorem dX10_fence_130 : decode cX10_fence 130 = .ok (.invokestatic 163, 3) := by decide +kernel
theorem dX10_fence_133 : decode cX10_fence 133 = .ok (.ireturn, 1) := by decide +kernel
theorem dX10_onIn_0 : decode cX10_onIn 0 = .ok (.aload_n 0, 1) := by decide +kernel
theorem dX10_onIn_1 : decode cX10_onIn 1 = .ok (.invokevirtual 379, 3) := by decide +kernel
theorem dX10_onIn_4 : decode cX10_onIn 4 = .ok (.aload_n 0, 1) := by decide +kernel
theorem dX10_onIn_5 : decode cX10_onIn 5 = .ok (.aload_n 0, 1) := by decide +kernel
theorem dX10_onIn_6 : decode cX10_onIn 6 = .ok (.getfield 24, 3) := by decide +kernel
theorem dX10_onIn_9 : decode cX10_onIn 9 = .ok (.iload_n 1, 1) := by decide +kernel
theorem dX10_onIn_10 : decode cX10_onIn 10 = .ok (.invokevirtual 336, 3) := by decide +kernel
theorem dX10_onIn_13 : decode cX10_onIn 13 = .ok (.aload_n 0, 1) := by decide +kernel
theorem dX10_onIn_14 : decode cX10_onIn 14 = .ok (.getfield 24, 3) := by decide +kernel
theorem dX10_onIn_17 : decode cX10_onIn 17 = .ok (.invokestatic 311, 3) := by decide +kernel
theorem dX10_onIn_20 : decode cX10_onIn 20 = .ok (.invokestatic 264, 3) := by decide +kernel
theorem dX10_onIn_23 : decode cX10_onIn 23 = .ok (.ireturn, 1) := by decide +kernel
theorem dX10_law_0 : decode cX10_law 0 = .ok (.aload_n 0, 1) := by decide +kernel
theorem dX10_law_1 : decode cX10_law 1 = .ok (.iconst 0, 1) := by decide +kernel
theorem dX10_law_2 : decode cX10_law 2 = .ok (.putfield 103, 3) := by decide +kernel
theorem dX10_law_5 : decode cX10_law 5 = .ok (.aload_n 0, 1) := by decide +kernel
theorem dX10_law_6 : decode cX10_law 6 = .ok (.invokevirtual 249, 3) := by decide +kernel
theorem dX10_law_9 : decode cX10_law 9 = .ok (.istore_n 1, 1) := by decide +kernel
theorem dX10_law_10 : decode cX10_law 10 = .ok (.iload_n 1, 1) := by decide +kernel
theorem dX10_law_11 : decode cX10_law 11 = .ok (.ifCond .ge 11, 3) := by decide +kernel
theorem dX10_law_14 : decode cX10_law 14 = .ok (.iload_n 1, 1) := by decide +kernel
theorem dX10_law_15 : decode cX10_law 15 = .ok (.iconst 1, 1) := by decide +kernel
theorem dX10_law_16 : decode cX10_law 16 = .ok (.iadd, 1) := by decide +kernel
theorem dX10_law_17 : decode cX10_law 17 = .ok (.sipush 10000, 3) := by decide +kernel
theorem dX10_law_20 : decode cX10_law 20 = .ok (.isub, 1) := by decide +kernel
theorem dX10_law_21 : decode cX10_law 21 = .ok (.ireturn, 1) := by decide +kernel
theorem dX10_law_22 : decode cX10_law 22 = .ok (.aload_n 0, 1) := by decide +kernel
theorem dX10_law_23 : decode cX10_law 23 = .ok (.bipush 9, 2) := by decide +kernel
theorem dX10_law_25 : decode cX10_law 25 = .ok (.invokevirtual 437, 3) := by decide +kernel
theorem dX10_law_28 : decode cX10_law 28 = .ok (.istore_n 2, 1) := by decide +kernel
theorem dX10_law_29 : decode cX10_law 29 = .ok (.aload_n 0, 1) := by decide +kernel
theorem dX10_law_30 : decode cX10_law 30 = .ok (.getfield 246, 3) := by decide +kernel
theorem dX10_law_33 : decode cX10_law 33 = .ok (.istore_n 3, 1) := by decide +kernel
theorem dX10_law_34 : decode cX10_law 34 = .ok (.iconst 0, 1) := by decide +kernel
theorem dX10_law_35 : decode cX10_law 35 = .ok (.istore 4, 2) := by decide +kernel
theorem dX10_law_37 : decode cX10_law 37 = .ok (.iload 4, 2) := by decide +kernel
theorem dX10_law_39 : decode cX10_law 39 = .ok (.aload_n 0, 1) := by decide +kernel
theorem dX10_law_40 : decode cX10_law 40 = .ok (.getfield 246, 3) := by decide +kernel
theorem dX10_law_43 : decode cX10_law 43 = .ok (.if_icmp .ge 23, 3) := by decide +kernel
theorem dX10_law_46 : decode cX10_law 46 = .ok (.aload_n 0, 1) := by decide +kernel
theorem dX10_law_47 : decode cX10_law 47 = .ok (.getfield 91, 3) := by decide +kernel
theorem dX10_law_50 : decode cX10_law 50 = .ok (.iload 4, 2) := by decide +kernel
theorem dX10_law_52 : decode cX10_law 52 = .ok (.aload_n 0, 1) := by decide +kernel
theorem dX10_law_53 : decode cX10_law 53 = .ok (.getfield 33, 3) := by decide +kernel
theorem dX10_law_56 : decode cX10_law 56 = .ok (.iload 4, 2) := by decide +kernel
theorem dX10_law_58 : decode cX10_law 58 = .ok (.iaload, 1) := by decide +kernel
theorem dX10_law_59 : decode cX10_law 59 = .ok (.iastore, 1) := by decide +kernel
theorem dX10_law_60 : decode cX10_law 60 = .ok (.iinc 4 1, 3) := by decide +kernel
theorem dX10_law_63 : decode cX10_law 63 = .ok (.goto (-26), 3) := by decide +kernel
theorem dX10_law_66 : decode cX10_law 66 = .ok (.aload_n 0, 1) := by decide +kernel
theorem dX10_law_67 : decode cX10_law 67 = .ok (.aload_n 0, 1) := by decide +kernel
theorem dX10_law_68 : decode cX10_law 68 = .ok (.getfield 36, 3) := by decide +kernel
theorem dX10_law_71 : decode cX10_law 71 = .ok (.aload_n 0, 1) := by decide +kernel
theorem dX10_law_72 : decode cX10_law 72 = .ok (.getfield 218, 3) := by decide +kernel
theorem dX10_law_75 : decode cX10_law 75 = .ok (.invokevirtual 252, 3) := by decide +kernel
theorem dX10_law_78 : decode cX10_law 78 = .ok (.aload_n 0, 1) := by decide +kernel
theorem dX10_law_79 : decode cX10_law 79 = .ok (.bipush 9, 2) := by decide +kernel
theorem dX10_law_81 : decode cX10_law 81 = .ok (.invokevirtual 437, 3) := by decide +kernel
theorem dX10_law_84 : decode cX10_law 84 = .ok (.istore 4, 2) := by decide +kernel
theorem dX10_law_86 : decode cX10_law 86 = .ok (.aload_n 0, 1) := by decide +kernel
theorem dX10_law_87 : decode cX10_law 87 = .ok (.iconst 0, 1) := by decide +kernel
theorem dX10_law_88 : decode cX10_law 88 = .ok (.putfield 110, 3) := by decide +kernel
theorem dX10_law_91 : decode cX10_law 91 = .ok (.aload_n 0, 1) := by decide +kernel
theorem dX10_law_92 : decode cX10_law 92 = .ok (.iload 4, 2) := by decide +kernel
theorem dX10_law_94 : decode cX10_law 94 = .ok (.i2l, 1) := by decide +kernel
theorem dX10_law_95 : decode cX10_law 95 = .ok (.invokevirtual 339, 3) := by decide +kernel
theorem dX10_law_98 : decode cX10_law 98 = .ok (.aload_n 0, 1) := by decide +kernel
theorem dX10_law_99 : decode cX10_law 99 = .ok (.iload_n 2, 1) := by decide +kernel
theorem dX10_law_100 : decode cX10_law 100 = .ok (.i2l, 1) := by decide +kernel
theorem dX10_law_101 : decode cX10_law 101 = .ok (.invokevirtual 339, 3) := by decide +kernel
theorem dX10_law_104 : decode cX10_law 104 = .ok (.iconst 0, 1) := by decide +kernel
theorem dX10_law_105 : decode cX10_law 105 = .ok (.istore 5, 2) := by decide +kernel
theorem dX10_law_107 : decode cX10_law 107 = .ok (.iload 5, 2) := by decide +kernel
theorem dX10_law_109 : decode cX10_law 109 = .ok (.aload_n 0, 1) := by decide +kernel
theorem dX10_law_110 : decode cX10_law 110 = .ok (.getfield 20, 3) := by decide +kernel
theorem dX10_law_113 : decode cX10_law 113 = .ok (.bipush 48, 2) := by decide +kernel
theorem dX10_law_115 : decode cX10_law 115 = .ok (.iaload, 1) := by decide +kernel
theorem dX10_law_116 : decode cX10_law 116 = .ok (.if_icmp .ge 20, 3) := by decide +kernel
theorem dX10_law_119 : decode cX10_law 119 = .ok (.aload_n 0, 1) := by decide +kernel
theorem dX10_law_120 : decode cX10_law 120 = .ok (.aload_n 0, 1) := by decide +kernel
theorem dX10_law_121 : decode cX10_law 121 = .ok (.iload 5, 2) := by decide +kernel
theorem dX10_law_123 : decode cX10_law 123 = .ok (.invokevirtual 286, 3) := by decide +kernel
theorem dX10_law_126 : decode cX10_law 126 = .ok (.i2l, 1) := by decide +kernel
theorem dX10_law_127 : decode cX10_law 127 = .ok (.invokevirtual 339, 3) := by decide +kernel
theorem dX10_law_130 : decode cX10_law 130 = .ok (.iinc 5 1, 3) := by decide +kernel
theorem dX10_law_133 : decode cX10_law 133 = .ok (.goto (-26), 3) := by decide +kernel
theorem dX10_law_136 : decode cX10_law 136 = .ok (.aload_n 0, 1) := by decide +kernel
theorem dX10_law_137 : decode cX10_law 137 = .ok (.aload_n 0, 1) := by decide +kernel
theorem dX10_law_138 : decode cX10_law 138 = .ok (.getfield 91, 3) := by decide +kernel
theorem dX10_law_141 : decode cX10_law 141 = .ok (.iload_n 3, 1) := by decide +kernel
theorem dX10_law_142 : decode cX10_law 142 = .ok (.invokevirtual 252, 3) := by decide +kernel
theorem dX10_law_145 : decode cX10_law 145 = .ok (.iload 4, 2) := by decide +kernel
theorem dX10_law_147 : decode cX10_law 147 = .ok (.iload_n 2, 1) := by decide +kernel
theorem dX10_law_148 : decode cX10_law 148 = .ok (.isub, 1) := by decide +kernel
theorem dX10_law_149 : decode cX10_law 149 = .ok (.ireturn, 1) := by decide +kernel
theorem dX10_gets_0 : decode cX10_gets 0 = .ok (.iload_n 0, 1) := by decide +kernel
theorem dX10_gets_1 : decode cX10_gets 1 = .ok (.iload_n 1, 1) := by decide +kernel
theorem dX10_gets_2 : decode cX10_gets 2 = .ok (.iadd, 1) := by decide +kernel
theorem dX10_gets_3 : decode cX10_gets 3 = .ok (.iconst 4, 1) := by decide +kernel
theorem dX10_gets_4 : decode cX10_gets 4 = .ok (.if_icmp .le 7, 3) := by decide +kernel
theorem dX10_gets_7 : decode cX10_gets 7 = .ok (.iload_n 2, 1) := by decide +kernel
theorem dX10_gets_8 : decode cX10_gets 8 = .ok (.goto 4, 3) := by decide +kernel
theorem dX10_gets_11 : decode cX10_gets 11 = .ok (.iconst 0, 1) := by decide +kernel
theorem dX10_gets_12 : decode cX10_gets 12 = .ok (.iload_n 0, 1) := by decide +kernel
theorem dX10_gets_13 : decode cX10_gets 13 = .ok (.isub, 1) := by decide +kernel
theorem dX10_gets_14 : decode cX10_gets 14 = .ok (.iconst 0, 1) := by decide +kernel
theorem dX10_gets_15 : decode cX10_gets 15 = .ok (.iload_n 0, 1) := by decide +kernel
theorem dX10_gets_16 : decode cX10_gets 16 = .ok (.iload_n 1, 1) := by decide +kernel
theorem dX10_gets_17 : decode cX10_gets 17 = .ok (.iadd, 1) := by decide +kernel
theorem dX10_gets_18 : decode cX10_gets 18 = .ok (.bipush 9, 2) := by decide +kernel
theorem dX10_gets_20 : decode cX10_gets 20 = .ok (.isub, 1) := by decide +kernel
theorem dX10_gets_21 : decode cX10_gets 21 = .ok (.invokestatic 272, 3) := by decide +kernel
theorem dX10_gets_24 : decode cX10_gets 24 = .ok (.isub, 1) := by decide +kernel
theorem dX10_gets_25 : decode cX10_gets 25 = .ok (.ireturn, 1) := by decide +kernel
theorem dX10_isRest_0 : decode cX10_isRest 0 = .ok (.iconst 1, 1) := by decide +kernel
theorem dX10_isRest_1 : decode cX10_isRest 1 = .ok (.istore_n 3, 1) := by decide +kernel
theorem dX10_isRest_2 : decode cX10_isRest 2 = .ok (.iconst 0, 1) := by decide +kernel
theorem dX10_isRest_3 : decode cX10_isRest 3 = .ok (.istore 4, 2) := by decide +kernel
theorem dX10_isRest_5 : decode cX10_isRest 5 = .ok (.iload 4, 2) := by decide +kernel
theorem dX10_isRest_7 : decode cX10_isRest 7 = .ok (.bipush 9, 2) := by decide +kernel
theorem dX10_isRest_9 : decode cX10_isRest 9 = .ok (.if_icmp .gt 35, 3) := by decide +kernel
theorem dX10_isRest_12 : decode cX10_isRest 12 = .ok (.iload_n 3, 1) := by decide +kernel
theorem dX10_isRest_13 : decode cX10_isRest 13 = .ok (.ifCond .eq 23, 3) := by decide +kernel
theorem dX10_isRest_16 : decode cX10_isRest 16 = .ok (.iload 4, 2) := by decide +kernel
theorem dX10_isRest_18 : decode cX10_isRest 18 = .ok (.iload_n 1, 1) := by decide +kernel
theorem dX10_isRest_19 : decode cX10_isRest 19 = .ok (.iload_n 2, 1) := by decide +kernel
theorem dX10_isRest_20 : decode cX10_isRest 20 = .ok (.invokestatic 440, 3) := by decide +kernel
theorem dX10_isRest_23 : decode cX10_isRest 23 = .ok (.iload_n 0, 1) := by decide +kernel
theorem dX10_isRest_24 : decode cX10_isRest 24 = .ok (.iload_n 1, 1) := by decide +kernel
theorem dX10_isRest_25 : decode cX10_isRest 25 = .ok (.iload_n 2, 1) := by decide +kernel
theorem dX10_isRest_26 : decode cX10_isRest 26 = .ok (.invokestatic 440, 3) := by decide +kernel
theorem dX10_isRest_29 : decode cX10_isRest 29 = .ok (.if_icmp .gt 7, 3) := by decide +kernel
theorem dX10_isRest_32 : decode cX10_isRest 32 = .ok (.iconst 1, 1) := by decide +kernel
theorem dX10_isRest_33 : decode cX10_isRest 33 = .ok (.goto 4, 3) := by decide +kernel
theorem dX10_isRest_36 : decode cX10_isRest 36 = .ok (.iconst 0, 1) := by decide +kernel
theorem dX10_isRest_37 : decode cX10_isRest 37 = .ok (.istore_n 3, 1) := by decide +kernel
theorem dX10_isRest_38 : decode cX10_isRest 38 = .ok (.iinc 4 1, 3) := by decide +kernel
theorem dX10_isRest_41 : decode cX10_isRest 41 = .ok (.goto (-36), 3) := by decide +kernel
theorem dX10_isRest_44 : decode cX10_isRest 44 = .ok (.iload_n 3, 1) := by decide +kernel
theorem dX10_isRest_45 : decode cX10_isRest 45 = .ok (.ireturn, 1) := by decide +kernel
theorem dX10_rests_0 : decode cX10_rests 0 = .ok (.aload_n 0, 1) := by decide +kernel
theorem dX10_rests_1 : decode cX10_rests 1 = .ok (.iconst 0, 1) := by decide +kernel
theorem dX10_rests_2 : decode cX10_rests 2 = .ok (.putfield 103, 3) := by decide +kernel
theorem dX10_rests_5 : decode cX10_rests 5 = .ok (.iload_n 1, 1) := by decide +kernel
theorem dX10_rests_6 : decode cX10_rests 6 = .ok (.i2l, 1) := by decide +kernel
theorem dX10_rests_7 : decode cX10_rests 7 = .ok (.lconst 0, 1) := by decide +kernel
theorem dX10_rests_8 : decode cX10_rests 8 = .ok (.ldc2_w 443, 3) := by decide +kernel
theorem dX10_rests_11 : decode cX10_rests 11 = .ok (.invokestatic 117, 3) := by decide +kernel
theorem dX10_rests_14 : decode cX10_rests 14 = .ok (.ifCond .ne 5, 3) := by decide +kernel
theorem dX10_rests_17 : decode cX10_rests 17 = .ok (.iconst (-1), 1) := by decide +kernel
theorem dX10_rests_18 : decode cX10_rests 18 = .ok (.ireturn, 1) := by decide +kernel
theorem dX10_rests_19 : decode cX10_rests 19 = .ok (.iconst 0, 1) := by decide +kernel
theorem dX10_rests_20 : decode cX10_rests 20 = .ok (.istore_n 2, 1) := by decide +kernel
theorem dX10_rests_21 : decode cX10_rests 21 = .ok (.aload_n 0, 1) := by decide +kernel
theorem dX10_rests_22 : decode cX10_rests 22 = .ok (.iconst 0, 1) := by decide +kernel
theorem dX10_rests_23 : decode cX10_rests 23 = .ok (.putfield 110, 3) := by decide +kernel
theorem dX10_rests_26 : decode cX10_rests 26 = .ok (.iconst 0, 1) := by decide +kernel
theorem dX10_rests_27 : decode cX10_rests 27 = .ok (.istore_n 3, 1) := by decide +kernel
theorem dX10_rests_28 : decode cX10_rests 28 = .ok (.iload_n 3, 1) := by decide +kernel
theorem dX10_rests_29 : decode cX10_rests 29 = .ok (.bipush 9, 2) := by decide +kernel
theorem dX10_rests_31 : decode cX10_rests 31 = .ok (.if_icmp .gt 65, 3) := by decide +kernel
theorem dX10_rests_34 : decode cX10_rests 34 = .ok (.iconst 0, 1) := by decide +kernel
theorem dX10_rests_35 : decode cX10_rests 35 = .ok (.istore 4, 2) := by decide +kernel
theorem dX10_rests_37 : decode cX10_rests 37 = .ok (.iload 4, 2) := by decide +kernel
theorem dX10_rests_39 : decode cX10_rests 39 = .ok (.bipush 9, 2) := by decide +kernel
theorem dX10_rests_41 : decode cX10_rests 41 = .ok (.if_icmp .gt 49, 3) := by decide +kernel
theorem dX10_rests_44 : decode cX10_rests 44 = .ok (.iload_n 3, 1) := by decide +kernel
theorem dX10_rests_45 : decode cX10_rests 45 = .ok (.iload 4, 2) := by decide +kernel
theorem dX10_rests_47 : decode cX10_rests 47 = .ok (.iload_n 1, 1) := by decide +kernel
theorem dX10_rests_48 : decode cX10_rests 48 = .ok (.invokestatic 445, 3) := by decide +kernel
theorem dX10_rests_51 : decode cX10_rests 51 = .ok (.ifCond .eq 33, 3) := by decide +kernel
theorem dX10_rests_54 : decode cX10_rests 54 = .ok (.iload 4, 2) := by decide +kernel
theorem dX10_rests_56 : decode cX10_rests 56 = .ok (.iload_n 3, 1) := by decide +kernel
theorem dX10_rests_57 : decode cX10_rests 57 = .ok (.iload_n 1, 1) := by decide +kernel
theorem dX10_rests_58 : decode cX10_rests 58 = .ok (.invokestatic 445, 3) := by decide +kernel
theorem dX10_rests_61 : decode cX10_rests 61 = .ok (.ifCond .eq 23, 3) := by decide +kernel
theorem dX10_rests_64 : decode cX10_rests 64 = .ok (.iload_n 2, 1) := by decide +kernel
theorem dX10_rests_65 : decode cX10_rests 65 = .ok (.ifCond .ne 16, 3) := by decide +kernel
theorem dX10_rests_68 : decode cX10_rests 68 = .ok (.aload_n 0, 1) := by decide +kernel
theorem dX10_rests_69 : decode cX10_rests 69 = .ok (.iload_n 3, 1) := by decide +kernel
theorem dX10_rests_70 : decode cX10_rests 70 = .ok (.i2l, 1) := by decide +kernel
theorem dX10_rests_71 : decode cX10_rests 71 = .ok (.invokevirtual 339, 3) := by decide +kernel
theorem dX10_rests_74 : decode cX10_rests 74 = .ok (.aload_n 0, 1) := by decide +kernel
theorem dX10_rests_75 : decode cX10_rests 75 = .ok (.iload 4, 2) := by decide +kernel
theorem dX10_rests_77 : decode cX10_rests 77 = .ok (.i2l, 1) := by decide +kernel
theorem dX10_rests_78 : decode cX10_rests 78 = .ok (.invokevirtual 339, 3) := by decide +kernel
theorem dX10_rests_81 : decode cX10_rests 81 = .ok (.iinc 2 1, 3) := by decide +kernel
theorem dX10_rests_84 : decode cX10_rests 84 = .ok (.iinc 4 1, 3) := by decide +kernel
theorem dX10_rests_87 : decode cX10_rests 87 = .ok (.goto (-50), 3) := by decide +kernel
theorem dX10_rests_90 : decode cX10_rests 90 = .ok (.iinc 3 1, 3) := by decide +kernel
theorem dX10_rests_93 : decode cX10_rests 93 = .ok (.goto (-65), 3) := by decide +kernel
theorem dX10_rests_96 : decode cX10_rests 96 = .ok (.iload_n 2, 1) := by decide +kernel
theorem dX10_rests_97 : decode cX10_rests 97 = .ok (.ireturn, 1) := by decide +kernel
theorem dX10_draws_0 : decode cX10_draws 0 = .ok (.aload_n 0, 1) := by decide +kernel
theorem dX10_draws_1 : decode cX10_draws 1 = .ok (.aload_n 0, 1) := by decide +kernel
theorem dX10_draws_2 : decode cX10_draws 2 = .ok (.getfield 448, 3) := by decide +kernel
theorem dX10_draws_5 : decode cX10_draws 5 = .ok (.ldc_w 451, 3) := by decide +kernel
theorem dX10_draws_8 : decode cX10_draws 8 = .ok (.imul, 1) := by decide +kernel
theorem dX10_draws_9 : decode cX10_draws 9 = .ok (.sipush 12345, 3) := by decide +kernel
theorem dX10_draws_12 : decode cX10_draws 12 = .ok (.iadd, 1) := by decide +kernel
theorem dX10_draws_13 : decode cX10_draws 13 = .ok (.putfield 448, 3) := by decide +kernel
theorem dX10_draws_16 : decode cX10_draws 16 = .ok (.aload_n 0, 1) := by decide +kernel
theorem dX10_draws_17 : decode cX10_draws 17 = .ok (.getfield 448, 3) := by decide +kernel
theorem dX10_draws_20 : decode cX10_draws 20 = .ok (.bipush 16, 2) := by decide +kernel
theorem dX10_draws_22 : decode cX10_draws 22 = .ok (.iushr, 1) := by decide +kernel
theorem dX10_draws_23 : decode cX10_draws 23 = .ok (.iload_n 1, 1) := by decide +kernel
theorem dX10_draws_24 : decode cX10_draws 24 = .ok (.irem, 1) := by decide +kernel
theorem dX10_draws_25 : decode cX10_draws 25 = .ok (.ireturn, 1) := by decide +kernel
theorem dX10_drawn_0 : decode cX10_drawn 0 = .ok (.aload_n 0, 1) := by decide +kernel
theorem dX10_drawn_1 : decode cX10_drawn 1 = .ok (.iconst 0, 1) := by decide +kernel
theorem dX10_drawn_2 : decode cX10_drawn 2 = .ok (.putfield 103, 3) := by decide +kernel
theorem dX10_drawn_5 : decode cX10_drawn 5 = .ok (.iload_n 2, 1) := by decide +kernel
theorem dX10_drawn_6 : decode cX10_drawn 6 = .ok (.i2l, 1) := by decide +kernel
theorem dX10_drawn_7 : decode cX10_drawn 7 = .ok (.lconst 1, 1) := by decide +kernel
theorem dX10_drawn_8 : decode cX10_drawn 8 = .ok (.ldc2_w 331, 3) := by decide +kernel
theorem dX10_drawn_11 : decode cX10_drawn 11 = .ok (.invokestatic 117, 3) := by decide +kernel
theorem dX10_drawn_14 : decode cX10_drawn 14 = .ok (.ifCond .ne 5, 3) := by decide +kernel
theorem dX10_drawn_17 : decode cX10_drawn 17 = .ok (.iconst (-1), 1) := by decide +kernel
theorem dX10_drawn_18 : decode cX10_drawn 18 = .ok (.ireturn, 1) := by decide +kernel
theorem dX10_drawn_19 : decode cX10_drawn 19 = .ok (.aload_n 0, 1) := by decide +kernel
theorem dX10_drawn_20 : decode cX10_drawn 20 = .ok (.iload_n 1, 1) := by decide +kernel
theorem dX10_drawn_21 : decode cX10_drawn 21 = .ok (.putfield 448, 3) := by decide +kernel
theorem dX10_drawn_24 : decode cX10_drawn 24 = .ok (.aload_n 0, 1) := by decide +kernel
theorem dX10_drawn_25 : decode cX10_drawn 25 = .ok (.invokevirtual 379, 3) := by decide +kernel
theorem dX10_drawn_28 : decode cX10_drawn 28 = .ok (.aload_n 0, 1) := by decide +kernel
theorem dX10_drawn_29 : decode cX10_drawn 29 = .ok (.aload_n 0, 1) := by decide +kernel
theorem dX10_drawn_30 : decode cX10_drawn 30 = .ok (.getfield 24, 3) := by decide +kernel
theorem dX10_drawn_33 : decode cX10_drawn 33 = .ok (.iconst 0, 1) := by decide +kernel
theorem dX10_drawn_34 : decode cX10_drawn 34 = .ok (.invokevirtual 336, 3) := by decide +kernel
theorem dX10_drawn_37 : decode cX10_drawn 37 = .ok (.iconst 0, 1) := by decide +kernel
theorem dX10_drawn_38 : decode cX10_drawn 38 = .ok (.istore_n 3, 1) := by decide +kernel
theorem dX10_drawn_39 : decode cX10_drawn 39 = .ok (.iload_n 3, 1) := by decide +kernel
theorem dX10_drawn_40 : decode cX10_drawn 40 = .ok (.iload_n 2, 1) := by decide +kernel
theorem dX10_drawn_41 : decode cX10_drawn 41 = .ok (.if_icmp .ge 133, 3) := by decide +kernel
theorem dX10_drawn_44 : decode cX10_drawn 44 = .ok (.aload_n 0, 1) := by decide +kernel
theorem dX10_drawn_45 : decode cX10_drawn 45 = .ok (.iconst 4, 1) := by decide +kernel
theorem dX10_drawn_46 : decode cX10_drawn 46 = .ok (.invokevirtual 452, 3) := by decide +kernel
theorem dX10_drawn_49 : decode cX10_drawn 49 = .ok (.istore 4, 2) := by decide +kernel
theorem dX10_drawn_51 : decode cX10_drawn 51 = .ok (.iload 4, 2) := by decide +kernel
theorem dX10_drawn_53 : decode cX10_drawn 53 = .ok (.iconst 2, 1) := by decide +kernel
theorem dX10_drawn_54 : decode cX10_drawn 54 = .ok (.if_icmp .ge 14, 3) := by decide +kernel
theorem dX10_drawn_57 : decode cX10_drawn 57 = .ok (.aload_n 0, 1) := by decide +kernel
theorem dX10_drawn_58 : decode cX10_drawn 58 = .ok (.aload_n 0, 1) := by decide +kernel
theorem dX10_drawn_59 : decode cX10_drawn 59 = .ok (.getfield 24, 3) := by decide +kernel
theorem dX10_drawn_62 : decode cX10_drawn 62 = .ok (.invokevirtual 318, 3) := by decide +kernel
theorem dX10_drawn_65 : decode cX10_drawn 65 = .ok (.goto 103, 3) := by decide +kernel
theorem dX10_drawn_68 : decode cX10_drawn 68 = .ok (.iload 4, 2) := by decide +kernel
theorem dX10_drawn_70 : decode cX10_drawn 70 = .ok (.iconst 2, 1) := by decide +kernel
theorem dX10_drawn_71 : decode cX10_drawn 71 = .ok (.if_icmp .ne 58, 3) := by decide +kernel
theorem dX10_drawn_74 : decode cX10_drawn 74 = .ok (.aload_n 0, 1) := by decide +kernel
theorem dX10_drawn_75 : decode cX10_drawn 75 = .ok (.aload_n 0, 1) := by decide +kernel
theorem dX10_drawn_76 : decode cX10_drawn 76 = .ok (.invokevirtual 113, 3) := by decide +kernel
theorem dX10_drawn_79 : decode cX10_drawn 79 = .ok (.invokevirtual 452, 3) := by decide +kernel
theorem dX10_drawn_82 : decode cX10_drawn 82 = .ok (.istore 5, 2) := by decide +kernel
theorem dX10_drawn_84 : decode cX10_drawn 84 = .ok (.iconst 1, 1) := by decide +kernel
theorem dX10_drawn_85 : decode cX10_drawn 85 = .ok (.aload_n 0, 1) := by decide +kernel
theorem dX10_drawn_86 : decode cX10_drawn 86 = .ok (.iconst 3, 1) := by decide +kernel
theorem dX10_drawn_87 : decode cX10_drawn 87 = .ok (.invokevirtual 452, 3) := by decide +kernel
theorem dX10_drawn_90 : decode cX10_drawn 90 = .ok (.iadd, 1) := by decide +kernel
theorem dX10_drawn_91 : decode cX10_drawn 91 = .ok (.istore 6, 2) := by decide +kernel
theorem dX10_drawn_93 : decode cX10_drawn 93 = .ok (.iconst 1, 1) := by decide +kernel
theorem dX10_drawn_94 : decode cX10_drawn 94 = .ok (.aload_n 0, 1) := by decide +kernel
theorem dX10_drawn_95 : decode cX10_drawn 95 = .ok (.iconst 3, 1) := by decide +kernel
theorem dX10_drawn_96 : decode cX10_drawn 96 = .ok (.invokevirtual 452, 3) := by decide +kernel
theorem dX10_drawn_99 : decode cX10_drawn 99 = .ok (.iadd, 1) := by decide +kernel
theorem dX10_drawn_100 : decode cX10_drawn 100 = .ok (.istore 7, 2) := by decide +kernel
theorem dX10_drawn_102 : decode cX10_drawn 102 = .ok (.aload_n 0, 1) := by decide +kernel
theorem dX10_drawn_103 : decode cX10_drawn 103 = .ok (.aload_n 0, 1) := by decide +kernel
theorem dX10_drawn_104 : decode cX10_drawn 104 = .ok (.getfield 24, 3) := by decide +kernel
theorem dX10_drawn_107 : decode cX10_drawn 107 = .ok (.iload 5, 2) := by decide +kernel
theorem dX10_drawn_109 : decode cX10_drawn 109 = .ok (.iload 6, 2) := by decide +kernel
theorem dX10_drawn_111 : decode cX10_drawn 111 = .ok (.iload 7, 2) := by decide +kernel
theorem dX10_drawn_113 : decode cX10_drawn 113 = .ok (.iconst 1, 1) := by decide +kernel
theorem dX10_drawn_114 : decode cX10_drawn 114 = .ok (.aload_n 0, 1) := by decide +kernel
theorem dX10_drawn_115 : decode cX10_drawn 115 = .ok (.bipush 9, 2) := by decide +kernel
theorem dX10_drawn_117 : decode cX10_drawn 117 = .ok (.invokevirtual 452, 3) := by decide +kernel
theorem dX10_drawn_120 : decode cX10_drawn 120 = .ok (.iadd, 1) := by decide +kernel
theorem dX10_drawn_121 : decode cX10_drawn 121 = .ok (.iconst 0, 1) := by decide +kernel
theorem dX10_drawn_122 : decode cX10_drawn 122 = .ok (.invokevirtual 343, 3) := by decide +kernel
theorem dX10_drawn_125 : decode cX10_drawn 125 = .ok (.pop, 1) := by decide +kernel
theorem dX10_drawn_126 : decode cX10_drawn 126 = .ok (.goto 42, 3) := by decide +kernel
theorem dX10_drawn_129 : decode cX10_drawn 129 = .ok (.aload_n 0, 1) := by decide +kernel
theorem dX10_drawn_130 : decode cX10_drawn 130 = .ok (.getfield 24, 3) := by decide +kernel
theorem dX10_drawn_133 : decode cX10_drawn 133 = .ok (.bipush 48, 2) := by decide +kernel
theorem dX10_drawn_135 : decode cX10_drawn 135 = .ok (.iaload, 1) := by decide +kernel
theorem dX10_drawn_136 : decode cX10_drawn 136 = .ok (.ifCond .le 32, 3) := by decide +kernel
theorem dX10_drawn_139 : decode cX10_drawn 139 = .ok (.aload_n 0, 1) := by decide +kernel
theorem dX10_drawn_140 : decode cX10_drawn 140 = .ok (.aload_n 0, 1) := by decide +kernel
theorem dX10_drawn_141 : decode cX10_drawn 141 = .ok (.getfield 24, 3) := by decide +kernel
theorem dX10_drawn_144 : decode cX10_drawn 144 = .ok (.bipush 48, 2) := by decide +kernel
theorem dX10_drawn_146 : decode cX10_drawn 146 = .ok (.iaload, 1) := by decide +kernel
theorem dX10_drawn_147 : decode cX10_drawn 147 = .ok (.invokevirtual 452, 3) := by decide +kernel
theorem dX10_drawn_150 : decode cX10_drawn 150 = .ok (.istore 5, 2) := by decide +kernel
theorem dX10_drawn_152 : decode cX10_drawn 152 = .ok (.aload_n 0, 1) := by decide +kernel
theorem dX10_drawn_153 : decode cX10_drawn 153 = .ok (.aload_n 0, 1) := by decide +kernel
theorem dX10_drawn_154 : decode cX10_drawn 154 = .ok (.getfield 24, 3) := by decide +kernel
theorem dX10_drawn_157 : decode cX10_drawn 157 = .ok (.iload 5, 2) := by decide +kernel
theorem dX10_drawn_159 : decode cX10_drawn 159 = .ok (.aload_n 0, 1) := by decide +kernel
theorem dX10_drawn_160 : decode cX10_drawn 160 = .ok (.iconst 4, 1) := by decide +kernel
theorem dX10_drawn_161 : decode cX10_drawn 161 = .ok (.invokevirtual 452, 3) := by decide +kernel
theorem dX10_drawn_164 : decode cX10_drawn 164 = .ok (.invokevirtual 356, 3) := by decide +kernel
theorem dX10_drawn_167 : decode cX10_drawn 167 = .ok (.pop, 1) := by decide +kernel
theorem dX10_drawn_168 : decode cX10_drawn 168 = .ok (.iinc 3 1, 3) := by decide +kernel
theorem dX10_drawn_171 : decode cX10_drawn 171 = .ok (.goto (-132), 3) := by decide +kernel
theorem dX10_drawn_174 : decode cX10_drawn 174 = .ok (.aload_n 0, 1) := by decide +kernel
theorem dX10_drawn_175 : decode cX10_drawn 175 = .ok (.iconst 0, 1) := by decide +kernel
theorem dX10_drawn_176 : decode cX10_drawn 176 = .ok (.putfield 110, 3) := by decide +kernel
theorem dX10_drawn_179 : decode cX10_drawn 179 = .ok (.aload_n 0, 1) := by decide +kernel
theorem dX10_drawn_180 : decode cX10_drawn 180 = .ok (.aload_n 0, 1) := by decide +kernel
theorem dX10_drawn_181 : decode cX10_drawn 181 = .ok (.getfield 24, 3) := by decide +kernel
theorem dX10_drawn_184 : decode cX10_drawn 184 = .ok (.bipush 48, 2) := by decide +kernel
theorem dX10_drawn_186 : decode cX10_drawn 186 = .ok (.iaload, 1) := by decide +kernel
theorem dX10_drawn_187 : decode cX10_drawn 187 = .ok (.i2l, 1) := by decide +kernel
theorem dX10_drawn_188 : decode cX10_drawn 188 = .ok (.invokevirtual 339, 3) := by decide +kernel
theorem dX10_drawn_191 : decode cX10_drawn 191 = .ok (.aload_n 0, 1) := by decide +kernel
theorem dX10_drawn_192 : decode cX10_drawn 192 = .ok (.aload_n 0, 1) := by decide +kernel
theorem dX10_drawn_193 : decode cX10_drawn 193 = .ok (.getfield 315, 3) := by decide +kernel
theorem dX10_drawn_196 : decode cX10_drawn 196 = .ok (.i2l, 1) := by decide +kernel
theorem dX10_drawn_197 : decode cX10_drawn 197 = .ok (.invokevirtual 339, 3) := by decide +kernel
theorem dX10_drawn_200 : decode cX10_drawn 200 = .ok (.aload_n 0, 1) := by decide +kernel
theorem dX10_drawn_201 : decode cX10_drawn 201 = .ok (.getfield 24, 3) := by decide +kernel
theorem dX10_drawn_204 : decode cX10_drawn 204 = .ok (.invokestatic 311, 3) := by decide +kernel
theorem dX10_drawn_207 : decode cX10_drawn 207 = .ok (.invokestatic 264, 3) := by decide +kernel
theorem dX10_drawn_210 : decode cX10_drawn 210 = .ok (.ireturn, 1) := by decide +kernel
theorem dX10_keep_0 : decode cX10_keep 0 = .ok (.aload_n 0, 1) := by decide +kernel
theorem dX10_keep_1 : decode cX10_keep 1 = .ok (.iconst 0, 1) := by decide +kernel
theorem dX10_keep_2 : decode cX10_keep 2 = .ok (.putfield 103, 3) := by decide +kernel
theorem dX10_keep_5 : decode cX10_keep 5 = .ok (.iload_n 1, 1) := by decide +kernel
theorem dX10_keep_6 : decode cX10_keep 6 = .ok (.i2l, 1) := by decide +kernel
theorem dX10_keep_7 : decode cX10_keep 7 = .ok (.lconst 0, 1) := by decide +kernel
theorem dX10_keep_8 : decode cX10_keep 8 = .ok (.ldc2_w 292, 3) := by decide +kernel
theorem dX10_keep_11 : decode cX10_keep 11 = .ok (.invokestatic 117, 3) := by decide +kernel
theorem dX10_keep_14 : decode cX10_keep 14 = .ok (.ifCond .ne 5, 3) := by decide +kernel
theorem dX10_keep_17 : decode cX10_keep 17 = .ok (.iconst 0, 1) := by decide +kernel
theorem dX10_keep_18 : decode cX10_keep 18 = .ok (.ireturn, 1) := by decide +kernel
theorem dX10_keep_19 : decode cX10_keep 19 = .ok (.aload_n 0, 1) := by decide +kernel
theorem dX10_keep_20 : decode cX10_keep 20 = .ok (.getfield 94, 3) := by decide +kernel
theorem dX10_keep_23 : decode cX10_keep 23 = .ok (.iload_n 1, 1) := by decide +kernel
theorem dX10_keep_24 : decode cX10_keep 24 = .ok (.iconst 1, 1) := by decide +kernel
theorem dX10_keep_25 : decode cX10_keep 25 = .ok (.bastore, 1) := by decide +kernel
theorem dX10_keep_26 : decode cX10_keep 26 = .ok (.aload_n 0, 1) := by decide +kernel
theorem dX10_keep_27 : decode cX10_keep 27 = .ok (.getfield 97, 3) := by decide +kernel
theorem dX10_keep_30 : decode cX10_keep 30 = .ok (.iload_n 1, 1) := by decide +kernel
theorem dX10_keep_31 : decode cX10_keep 31 = .ok (.aload_n 0, 1) := by decide +kernel
theorem dX10_keep_32 : decode cX10_keep 32 = .ok (.getfield 194, 3) := by decide +kernel
theorem dX10_keep_35 : decode cX10_keep 35 = .ok (.iastore, 1) := by decide +kernel
theorem dX10_keep_36 : decode cX10_keep 36 = .ok (.iconst 0, 1) := by decide +kernel
theorem dX10_keep_37 : decode cX10_keep 37 = .ok (.istore_n 2, 1) := by decide +kernel
theorem dX10_keep_38 : decode cX10_keep 38 = .ok (.iload_n 2, 1) := by decide +kernel
theorem dX10_keep_39 : decode cX10_keep 39 = .ok (.bipush 51, 2) := by decide +kernel
theorem dX10_keep_41 : decode cX10_keep 41 = .ok (.if_icmp .ge 26, 3) := by decide +kernel
theorem dX10_keep_44 : decode cX10_keep 44 = .ok (.aload_n 0, 1) := by decide +kernel
theorem dX10_keep_45 : decode cX10_keep 45 = .ok (.getfield 100, 3) := by decide +kernel
theorem dX10_keep_48 : decode cX10_keep 48 = .ok (.bipush 51, 2) := by decide +kernel
theorem dX10_keep_50 : decode cX10_keep 50 = .ok (.iload_n 1, 1) := by decide +kernel
theorem dX10_keep_51 : decode cX10_keep 51 = .ok (.imul, 1) := by decide +kernel
theorem dX10_keep_52 : decode cX10_keep 52 = .ok (.iload_n 2, 1) := by decide +kernel
theorem dX10_keep_53 : decode cX10_keep 53 = .ok (.iadd, 1) := by decide +kernel
theorem dX10_keep_54 : decode cX10_keep 54 = .ok (.aload_n 0, 1) := by decide +kernel
theorem dX10_keep_55 : decode cX10_keep 55 = .ok (.getfield 20, 3) := by decide +kernel
theorem dX10_keep_58 : decode cX10_keep 58 = .ok (.iload_n 2, 1) := by decide +kernel
theorem dX10_keep_59 : decode cX10_keep 59 = .ok (.iaload, 1) := by decide +kernel
theorem dX10_keep_60 : decode cX10_keep 60 = .ok (.iastore, 1) := by decide +kernel
theorem dX10_keep_61 : decode cX10_keep 61 = .ok (.iinc 2 1, 3) := by decide +kernel
theorem dX10_keep_64 : decode cX10_keep 64 = .ok (.goto (-26), 3) := by decide +kernel
theorem dX10_keep_67 : decode cX10_keep 67 = .ok (.iconst 1, 1) := by decide +kernel
theorem dX10_keep_68 : decode cX10_keep 68 = .ok (.ireturn, 1) := by decide +kernel
theorem dX10_again_0 : decode cX10_again 0 = .ok (.aload_n 0, 1) := by decide +kernel
theorem dX10_again_1 : decode cX10_again 1 = .ok (.iconst 0, 1) := by decide +kernel
theorem dX10_again_2 : decode cX10_again 2 = .ok (.putfield 103, 3) := by decide +kernel
theorem dX10_again_5 : decode cX10_again 5 = .ok (.iload_n 1, 1) := by decide +kernel
theorem dX10_again_6 : decode cX10_again 6 = .ok (.i2l, 1) := by decide +kernel
theorem dX10_again_7 : decode cX10_again 7 = .ok (.lconst 0, 1) := by decide +kernel
theorem dX10_again_8 : decode cX10_again 8 = .ok (.ldc2_w 292, 3) := by decide +kernel
theorem dX10_again_11 : decode cX10_again 11 = .ok (.invokestatic 117, 3) := by decide +kernel
theorem dX10_again_14 : decode cX10_again 14 = .ok (.ifCond .eq 25, 3) := by decide +kernel
theorem dX10_again_17 : decode cX10_again 17 = .ok (.aload_n 0, 1) := by decide +kernel
theorem dX10_again_18 : decode cX10_again 18 = .ok (.getfield 94, 3) := by decide +kernel
theorem dX10_again_21 : decode cX10_again 21 = .ok (.iload_n 1, 1) := by decide +kernel
theorem dX10_again_22 : decode cX10_again 22 = .ok (.baload, 1) := by decide +kernel
theorem dX10_again_23 : decode cX10_again 23 = .ok (.ifCond .eq 16, 3) := by decide +kernel
theorem dX10_again_26 : decode cX10_again 26 = .ok (.aload_n 0, 1) := by decide +kernel
theorem dX10_again_27 : decode cX10_again 27 = .ok (.getfield 97, 3) := by decide +kernel
theorem dX10_again_30 : decode cX10_again 30 = .ok (.iload_n 1, 1) := by decide +kernel
theorem dX10_again_31 : decode cX10_again 31 = .ok (.iaload, 1) := by decide +kernel
theorem dX10_again_32 : decode cX10_again 32 = .ok (.aload_n 0, 1) := by decide +kernel
theorem dX10_again_33 : decode cX10_again 33 = .ok (.getfield 194, 3) := by decide +kernel
theorem dX10_again_36 : decode cX10_again 36 = .ok (.if_icmp .eq 5, 3) := by decide +kernel
theorem dX10_again_39 : decode cX10_again 39 = .ok (.iconst 0, 1) := by decide +kernel
theorem dX10_again_40 : decode cX10_again 40 = .ok (.ireturn, 1) := by decide +kernel
theorem dX10_again_41 : decode cX10_again 41 = .ok (.iconst 0, 1) := by decide +kernel
theorem dX10_again_42 : decode cX10_again 42 = .ok (.istore_n 2, 1) := by decide +kernel
theorem dX10_again_43 : decode cX10_again 43 = .ok (.iload_n 2, 1) := by decide +kernel
theorem dX10_again_44 : decode cX10_again 44 = .ok (.bipush 51, 2) := by decide +kernel
theorem dX10_again_46 : decode cX10_again 46 = .ok (.if_icmp .ge 26, 3) := by decide +kernel
theorem dX10_again_49 : decode cX10_again 49 = .ok (.aload_n 0, 1) := by decide +kernel
theorem dX10_again_50 : decode cX10_again 50 = .ok (.getfield 20, 3) := by decide +kernel
theorem dX10_again_53 : decode cX10_again 53 = .ok (.iload_n 2, 1) := by decide +kernel
theorem dX10_again_54 : decode cX10_again 54 = .ok (.aload_n 0, 1) := by decide +kernel
theorem dX10_again_55 : decode cX10_again 55 = .ok (.getfield 100, 3) := by decide +kernel
theorem dX10_again_58 : decode cX10_again 58 = .ok (.bipush 51, 2) := by decide +kernel
theorem dX10_again_60 : decode cX10_again 60 = .ok (.iload_n 1, 1) := by decide +kernel
theorem dX10_again_61 : decode cX10_again 61 = .ok (.imul, 1) := by decide +kernel
theorem dX10_again_62 : decode cX10_again 62 = .ok (.iload_n 2, 1) := by decide +kernel
theorem dX10_again_63 : decode cX10_again 63 = .ok (.iadd, 1) := by decide +kernel
theorem dX10_again_64 : decode cX10_again 64 = .ok (.iaload, 1) := by decide +kernel
theorem dX10_again_65 : decode cX10_again 65 = .ok (.iastore, 1) := by decide +kernel
theorem dX10_again_66 : decode cX10_again 66 = .ok (.iinc 2 1, 3) := by decide +kernel
theorem dX10_again_69 : decode cX10_again 69 = .ok (.goto (-26), 3) := by decide +kernel
theorem dX10_again_72 : decode cX10_again 72 = .ok (.aload_n 0, 1) := by decide +kernel
theorem dX10_again_73 : decode cX10_again 73 = .ok (.iconst 0, 1) := by decide +kernel
theorem dX10_again_74 : decode cX10_again 74 = .ok (.putfield 191, 3) := by decide +kernel
theorem dX10_again_77 : decode cX10_again 77 = .ok (.iconst 1, 1) := by decide +kernel
theorem dX10_again_78 : decode cX10_again 78 = .ok (.ireturn, 1) := by decide +kernel
theorem dX10_count_0 : decode cX10_count 0 = .ok (.aload_n 0, 1) := by decide +kernel
theorem dX10_count_1 : decode cX10_count 1 = .ok (.iconst 0, 1) := by decide +kernel
theorem dX10_count_2 : decode cX10_count 2 = .ok (.putfield 103, 3) := by decide +kernel
theorem dX10_count_5 : decode cX10_count 5 = .ok (.iload_n 1, 1) := by decide +kernel
theorem dX10_count_6 : decode cX10_count 6 = .ok (.tableswitch 142 0 11 #[62, 67, 72, 80, 91, 99, 107, 117, 122, 127, 132, 137], 62) := by decide +kernel
theorem dX10_count_68 : decode cX10_count 68 = .ok (.aload_n 0, 1) := by decide +kernel
theorem dX10_count_69 : decode cX10_count 69 = .ok (.getfield 13, 3) := by decide +kernel
theorem dX10_count_72 : decode cX10_count 72 = .ok (.ireturn, 1) := by decide +kernel
theorem dX10_count_73 : decode cX10_count 73 = .ok (.aload_n 0, 1) := by decide +kernel
theorem dX10_count_74 : decode cX10_count 74 = .ok (.getfield 17, 3) := by decide +kernel
theorem dX10_count_77 : decode cX10_count 77 = .ok (.ireturn, 1) := by decide +kernel
theorem dX10_count_78 : decode cX10_count 78 = .ok (.aload_n 0, 1) := by decide +kernel
theorem dX10_count_79 : decode cX10_count 79 = .ok (.getfield 20, 3) := by decide +kernel
theorem dX10_count_82 : decode cX10_count 82 = .ok (.bipush 48, 2) := by decide +kernel
theorem dX10_count_84 : decode cX10_count 84 = .ok (.iaload, 1) := by decide +kernel
theorem dX10_count_85 : decode cX10_count 85 = .ok (.ireturn, 1) := by decide +kernel
theorem dX10_count_86 : decode cX10_count 86 = .ok (.aload_n 0, 1) := by decide +kernel
theorem dX10_count_87 : decode cX10_count 87 = .ok (.getfield 20, 3) := by decide +kernel
theorem dX10_count_90 : decode cX10_count 90 = .ok (.invokestatic 311, 3) := by decide +kernel
theorem dX10_count_93 : decode cX10_count 93 = .ok (.invokestatic 264, 3) := by decide +kernel
theorem dX10_count_96 : decode cX10_count 96 = .ok (.ireturn, 1) := by decide +kernel
theorem dX10_count_97 : decode cX10_count 97 = .ok (.aload_n 0, 1) := by decide +kernel
theorem dX10_count_98 : decode cX10_count 98 = .ok (.getfield 20, 3) := by decide +kernel
theorem dX10_count_101 : decode cX10_count 101 = .ok (.bipush 49, 2) := by decide +kernel
theorem dX10_count_103 : decode cX10_count 103 = .ok (.iaload, 1) := by decide +kernel
theorem dX10_count_104 : decode cX10_count 104 = .ok (.ireturn, 1) := by decide +kernel
theorem dX10_count_105 : decode cX10_count 105 = .ok (.aload_n 0, 1) := by decide +kernel
theorem dX10_count_106 : decode cX10_count 106 = .ok (.getfield 20, 3) := by decide +kernel
theorem dX10_count_109 : decode cX10_count 109 = .ok (.bipush 50, 2) := by decide +kernel
theorem dX10_count_111 : decode cX10_count 111 = .ok (.iaload, 1) := by decide +kernel
theorem dX10_count_112 : decode cX10_count 112 = .ok (.ireturn, 1) := by decide +kernel
theorem dX10_count_113 : decode cX10_count 113 = .ok (.aload_n 0, 1) := by decide +kernel
theorem dX10_count_114 : decode cX10_count 114 = .ok (.getfield 20, 3) := by decide +kernel
theorem dX10_count_117 : decode cX10_count 117 = .ok (.bipush 24, 2) := by decide +kernel
theorem dX10_count_119 : decode cX10_count 119 = .ok (.invokestatic 305, 3) := by decide +kernel
theorem dX10_count_122 : decode cX10_count 122 = .ok (.ireturn, 1) := by decide +kernel
theorem dX10_count_123 : decode cX10_count 123 = .ok (.aload_n 0, 1) := by decide +kernel
theorem dX10_count_124 : decode cX10_count 124 = .ok (.getfield 197, 3) := by decide +kernel
theorem dX10_count_127 : decode cX10_count 127 = .ok (.ireturn, 1) := by decide +kernel
theorem dX10_count_128 : decode cX10_count 128 = .ok (.aload_n 0, 1) := by decide +kernel
theorem dX10_count_129 : decode cX10_count 129 = .ok (.getfield 422, 3) := by decide +kernel
theorem dX10_count_132 : decode cX10_count 132 = .ok (.ireturn, 1) := by decide +kernel
theorem dX10_count_133 : decode cX10_count 133 = .ok (.aload_n 0, 1) := by decide +kernel
theorem dX10_count_134 : decode cX10_count 134 = .ok (.getfield 191, 3) := by decide +kernel
theorem dX10_count_137 : decode cX10_count 137 = .ok (.ireturn, 1) := by decide +kernel
theorem dX10_count_138 : decode cX10_count 138 = .ok (.aload_n 0, 1) := by decide +kernel
theorem dX10_count_139 : decode cX10_count 139 = .ok (.getfield 110, 3) := by decide +kernel
theorem dX10_count_142 : decode cX10_count 142 = .ok (.ireturn, 1) := by decide +kernel
theorem dX10_count_143 : decode cX10_count 143 = .ok (.aload_n 0, 1) := by decide +kernel
theorem dX10_count_144 : decode cX10_count 144 = .ok (.getfield 145, 3) := by decide +kernel
theorem dX10_count_147 : decode cX10_count 147 = .ok (.ireturn, 1) := by decide +kernel
theorem dX10_count_148 : decode cX10_count 148 = .ok (.bipush (-100), 2) := by decide +kernel
theorem dX10_count_150 : decode cX10_count 150 = .ok (.ireturn, 1) := by decide +kernel
theorem dX10_row_0 : decode cX10_row 0 = .ok (.aload_n 0, 1) := by decide +kernel
theorem dX10_row_1 : decode cX10_row 1 = .ok (.iconst 0, 1) := by decide +kernel
theorem dX10_row_2 : decode cX10_row 2 = .ok (.putfield 103, 3) := by decide +kernel
theorem dX10_row_5 : decode cX10_row 5 = .ok (.iload_n 1, 1) := by decide +kernel
theorem dX10_row_6 : decode cX10_row 6 = .ok (.i2l, 1) := by decide +kernel
theorem dX10_row_7 : decode cX10_row 7 = .ok (.lconst 0, 1) := by decide +kernel
theorem dX10_row_8 : decode cX10_row 8 = .ok (.aload_n 0, 1) := by decide +kernel
theorem dX10_row_9 : decode cX10_row 9 = .ok (.getfield 110, 3) := by decide +kernel
theorem dX10_row_12 : decode cX10_row 12 = .ok (.iconst 1, 1) := by decide +kernel
theorem dX10_row_13 : decode cX10_row 13 = .ok (.isub, 1) := by decide +kernel
theorem dX10_row_14 : decode cX10_row 14 = .ok (.i2l, 1) := by decide +kernel
theorem dX10_row_15 : decode cX10_row 15 = .ok (.invokestatic 117, 3) := by decide +kernel
theorem dX10_row_18 : decode cX10_row 18 = .ok (.ifCond .ne 10, 3) := by decide +kernel
theorem dX10_row_21 : decode cX10_row 21 = .ok (.aload_n 0, 1) := by decide +kernel
theorem dX10_row_22 : decode cX10_row 22 = .ok (.iconst 1, 1) := by decide +kernel
theorem dX10_row_23 : decode cX10_row 23 = .ok (.putfield 103, 3) := by decide +kernel
theorem dX10_row_26 : decode cX10_row 26 = .ok (.lconst 0, 1) := by decide +kernel
theorem dX10_row_27 : decode cX10_row 27 = .ok (.lreturn, 1) := by decide +kernel
theorem dX10_row_28 : decode cX10_row 28 = .ok (.aload_n 0, 1) := by decide +kernel
theorem dX10_row_29 : decode cX10_row 29 = .ok (.getfield 9, 3) := by decide +kernel
theorem dX10_row_32 : decode cX10_row 32 = .ok (.iload_n 1, 1) := by decide +kernel
theorem dX10_row_33 : decode cX10_row 33 = .ok (.laload, 1) := by decide +kernel
theorem dX10_row_34 : decode cX10_row 34 = .ok (.lreturn, 1) := by decide +kernel
theorem dJ6_numberOfTrailingZeros_0f7a4_0 : decode cJ6_numberOfTrailingZeros_0f7a4 0 = .ok (.iload_n 0, 1) := by decide +kernel
theorem dJ6_numberOfTrailingZeros_0f7a4_1 : decode cJ6_numberOfTrailingZeros_0f7a4 1 = .ok (.iconst (-1), 1) := by decide +kernel
theorem dJ6_numberOfTrailingZeros_0f7a4_2 : decode cJ6_numberOfTrailingZeros_0f7a4 2 = .ok (.ixor, 1) := by decide +kernel
theorem dJ6_numberOfTrailingZeros_0f7a4_3 : decode cJ6_numberOfTrailingZeros_0f7a4 3 = .ok (.iload_n 0, 1) := by decide +kernel
theorem dJ6_numberOfTrailingZeros_0f7a4_4 : decode cJ6_numberOfTrailingZeros_0f7a4 4 = .ok (.iconst 1, 1) := by decide +kernel
theorem dJ6_numberOfTrailingZeros_0f7a4_5 : decode cJ6_numberOfTrailingZeros_0f7a4 5 = .ok (.isub, 1) := by decide +kernel
theorem dJ6_numberOfTrailingZeros_0f7a4_6 : decode cJ6_numberOfTrailingZeros_0f7a4 6 = .ok (.iand, 1) := by decide +kernel
theorem dJ6_numberOfTrailingZeros_0f7a4_7 : decode cJ6_numberOfTrailingZeros_0f7a4 7 = .ok (.istore_n 0, 1) := by decide +kernel
theorem dJ6_numberOfTrailingZeros_0f7a4_8 : decode cJ6_numberOfTrailingZeros_0f7a4 8 = .ok (.iload_n 0, 1) := by decide +kernel
theorem dJ6_numberOfTrailingZeros_0f7a4_9 : decode cJ6_numberOfTrailingZeros_0f7a4 9 = .ok (.ifCond .gt 8, 3) := by decide +kernel
theorem dJ6_numberOfTrailingZeros_0f7a4_12 : decode cJ6_numberOfTrailingZeros_0f7a4 12 = .ok (.iload_n 0, 1) := by decide +kernel
theorem dJ6_numberOfTrailingZeros_0f7a4_13 : decode cJ6_numberOfTrailingZeros_0f7a4 13 = .ok (.bipush 32, 2) := by decide +kernel
theorem dJ6_numberOfTrailingZeros_0f7a4_15 : decode cJ6_numberOfTrailingZeros_0f7a4 15 = .ok (.iand, 1) := by decide +kernel
theorem dJ6_numberOfTrailingZeros_0f7a4_16 : decode cJ6_numberOfTrailingZeros_0f7a4 16 = .ok (.ireturn, 1) := by decide +kernel
theorem dJ6_numberOfTrailingZeros_0f7a4_17 : decode cJ6_numberOfTrailingZeros_0f7a4 17 = .ok (.iconst 1, 1) := by decide +kernel
theorem dJ6_numberOfTrailingZeros_0f7a4_18 : decode cJ6_numberOfTrailingZeros_0f7a4 18 = .ok (.istore_n 1, 1) := by decide +kernel
theorem dJ6_numberOfTrailingZeros_0f7a4_19 : decode cJ6_numberOfTrailingZeros_0f7a4 19 = .ok (.iload_n 0, 1) := by decide +kernel
theorem dJ6_numberOfTrailingZeros_0f7a4_20 : decode cJ6_numberOfTrailingZeros_0f7a4 20 = .ok (.ldc_w 264, 3) := by decide +kernel
theorem dJ6_numberOfTrailingZeros_0f7a4_23 : decode cJ6_numberOfTrailingZeros_0f7a4 23 = .ok (.if_icmp .le 11, 3) := by decide +kernel
theorem dJ6_numberOfTrailingZeros_0f7a4_26 : decode cJ6_numberOfTrailingZeros_0f7a4 26 = .ok (.iinc 1 16, 3) := by decide +kernel
theorem dJ6_numberOfTrailingZeros_0f7a4_29 : decode cJ6_numberOfTrailingZeros_0f7a4 29 = .ok (.iload_n 0, 1) := by decide +kernel
theorem dJ6_numberOfTrailingZeros_0f7a4_30 : decode cJ6_numberOfTrailingZeros_0f7a4 30 = .ok (.bipush 16, 2) := by decide +kernel
theorem dJ6_numberOfTrailingZeros_0f7a4_32 : decode cJ6_numberOfTrailingZeros_0f7a4 32 = .ok (.iushr, 1) := by decide +kernel
theorem dJ6_numberOfTrailingZeros_0f7a4_33 : decode cJ6_numberOfTrailingZeros_0f7a4 33 = .ok (.istore_n 0, 1) := by decide +kernel
theorem dJ6_numberOfTrailingZeros_0f7a4_34 : decode cJ6_numberOfTrailingZeros_0f7a4 34 = .ok (.iload_n 0, 1) := by decide +kernel
theorem dJ6_numberOfTrailingZeros_0f7a4_35 : decode cJ6_numberOfTrailingZeros_0f7a4 35 = .ok (.sipush 256, 3) := by decide +kernel
theorem dJ6_numberOfTrailingZeros_0f7a4_38 : decode cJ6_numberOfTrailingZeros_0f7a4 38 = .ok (.if_icmp .le 11, 3) := by decide +kernel
theorem dJ6_numberOfTrailingZeros_0f7a4_41 : decode cJ6_numberOfTrailingZeros_0f7a4 41 = .ok (.iinc 1 8, 3) := by decide +kernel
theorem dJ6_numberOfTrailingZeros_0f7a4_44 : decode cJ6_numberOfTrailingZeros_0f7a4 44 = .ok (.iload_n 0, 1) := by decide +kernel
theorem dJ6_numberOfTrailingZeros_0f7a4_45 : decode cJ6_numberOfTrailingZeros_0f7a4 45 = .ok (.bipush 8, 2) := by decide +kernel
theorem dJ6_numberOfTrailingZeros_0f7a4_47 : decode cJ6_numberOfTrailingZeros_0f7a4 47 = .ok (.iushr, 1) := by decide +kernel
theorem dJ6_numberOfTrailingZeros_0f7a4_48 : decode cJ6_numberOfTrailingZeros_0f7a4 48 = .ok (.istore_n 0, 1) := by decide +kernel
theorem dJ6_numberOfTrailingZeros_0f7a4_49 : decode cJ6_numberOfTrailingZeros_0f7a4 49 = .ok (.iload_n 0, 1) := by decide +kernel
theorem dJ6_numberOfTrailingZeros_0f7a4_50 : decode cJ6_numberOfTrailingZeros_0f7a4 50 = .ok (.bipush 16, 2) := by decide +kernel
theorem dJ6_numberOfTrailingZeros_0f7a4_52 : decode cJ6_numberOfTrailingZeros_0f7a4 52 = .ok (.if_icmp .le 10, 3) := by decide +kernel
theorem dJ6_numberOfTrailingZeros_0f7a4_55 : decode cJ6_numberOfTrailingZeros_0f7a4 55 = .ok (.iinc 1 4, 3) := by decide +kernel
theorem dJ6_numberOfTrailingZeros_0f7a4_58 : decode cJ6_numberOfTrailingZeros_0f7a4 58 = .ok (.iload_n 0, 1) := by decide +kernel
theorem dJ6_numberOfTrailingZeros_0f7a4_59 : decode cJ6_numberOfTrailingZeros_0f7a4 59 = .ok (.iconst 4, 1) := by decide +kernel
theorem dJ6_numberOfTrailingZeros_0f7a4_60 : decode cJ6_numberOfTrailingZeros_0f7a4 60 = .ok (.iushr, 1) := by decide +kernel
theorem dJ6_numberOfTrailingZeros_0f7a4_61 : decode cJ6_numberOfTrailingZeros_0f7a4 61 = .ok (.istore_n 0, 1) := by decide +kernel
theorem dJ6_numberOfTrailingZeros_0f7a4_62 : decode cJ6_numberOfTrailingZeros_0f7a4 62 = .ok (.iload_n 0, 1) := by decide +kernel
theorem dJ6_numberOfTrailingZeros_0f7a4_63 : decode cJ6_numberOfTrailingZeros_0f7a4 63 = .ok (.iconst 4, 1) := by decide +kernel
theorem dJ6_numberOfTrailingZeros_0f7a4_64 : decode cJ6_numberOfTrailingZeros_0f7a4 64 = .ok (.if_icmp .le 10, 3) := by decide +kernel
theorem dJ6_numberOfTrailingZeros_0f7a4_67 : decode cJ6_numberOfTrailingZeros_0f7a4 67 = .ok (.iinc 1 2, 3) := by decide +kernel
theorem dJ6_numberOfTrailingZeros_0f7a4_70 : decode cJ6_numberOfTrailingZeros_0f7a4 70 = .ok (.iload_n 0, 1) := by decide +kernel
theorem dJ6_numberOfTrailingZeros_0f7a4_71 : decode cJ6_numberOfTrailingZeros_0f7a4 71 = .ok (.iconst 2, 1) := by decide +kernel
theorem dJ6_numberOfTrailingZeros_0f7a4_72 : decode cJ6_numberOfTrailingZeros_0f7a4 72 = .ok (.iushr, 1) := by decide +kernel
theorem dJ6_numberOfTrailingZeros_0f7a4_73 : decode cJ6_numberOfTrailingZeros_0f7a4 73 = .ok (.istore_n 0, 1) := by decide +kernel
theorem dJ6_numberOfTrailingZeros_0f7a4_74 : decode cJ6_numberOfTrailingZeros_0f7a4 74 = .ok (.iload_n 1, 1) := by decide +kernel
theorem dJ6_numberOfTrailingZeros_0f7a4_75 : decode cJ6_numberOfTrailingZeros_0f7a4 75 = .ok (.iload_n 0, 1) := by decide +kernel
theorem dJ6_numberOfTrailingZeros_0f7a4_76 : decode cJ6_numberOfTrailingZeros_0f7a4 76 = .ok (.iconst 1, 1) := by decide +kernel
theorem dJ6_numberOfTrailingZeros_0f7a4_77 : decode cJ6_numberOfTrailingZeros_0f7a4 77 = .ok (.iushr, 1) := by decide +kernel
theorem dJ6_numberOfTrailingZeros_0f7a4_78 : decode cJ6_numberOfTrailingZeros_0f7a4 78 = .ok (.iadd, 1) := by decide +kernel
theorem dJ6_numberOfTrailingZeros_0f7a4_79 : decode cJ6_numberOfTrailingZeros_0f7a4 79 = .ok (.ireturn, 1) := by decide +kernel
theorem dJ6_bitCount_0f7a4_0 : decode cJ6_bitCount_0f7a4 0 = .ok (.iload_n 0, 1) := by decide +kernel
theorem dJ6_bitCount_0f7a4_1 : decode cJ6_bitCount_0f7a4 1 = .ok (.iload_n 0, 1) := by decide +kernel
theorem dJ6_bitCount_0f7a4_2 : decode cJ6_bitCount_0f7a4 2 = .ok (.iconst 1, 1) := by decide +kernel
theorem dJ6_bitCount_0f7a4_3 : decode cJ6_bitCount_0f7a4 3 = .ok (.iushr, 1) := by decide +kernel
theorem dJ6_bitCount_0f7a4_4 : decode cJ6_bitCount_0f7a4 4 = .ok (.ldc_w 265, 3) := by decide +kernel
theorem dJ6_bitCount_0f7a4_7 : decode cJ6_bitCount_0f7a4 7 = .ok (.iand, 1) := by decide +kernel
theorem dJ6_bitCount_0f7a4_8 : decode cJ6_bitCount_0f7a4 8 = .ok (.isub, 1) := by decide +kernel
theorem dJ6_bitCount_0f7a4_9 : decode cJ6_bitCount_0f7a4 9 = .ok (.istore_n 0, 1) := by decide +kernel
theorem dJ6_bitCount_0f7a4_10 : decode cJ6_bitCount_0f7a4 10 = .ok (.iload_n 0, 1) := by decide +kernel
theorem dJ6_bitCount_0f7a4_11 : decode cJ6_bitCount_0f7a4 11 = .ok (.ldc_w 266, 3) := by decide +kernel
theorem dJ6_bitCount_0f7a4_14 : decode cJ6_bitCount_0f7a4 14 = .ok (.iand, 1) := by decide +kernel
theorem dJ6_bitCount_0f7a4_15 : decode cJ6_bitCount_0f7a4 15 = .ok (.iload_n 0, 1) := by decide +kernel
theorem dJ6_bitCount_0f7a4_16 : decode cJ6_bitCount_0f7a4 16 = .ok (.iconst 2, 1) := by decide +kernel
theorem dJ6_bitCount_0f7a4_17 : decode cJ6_bitCount_0f7a4 17 = .ok (.iushr, 1) := by decide +kernel
theorem dJ6_bitCount_0f7a4_18 : decode cJ6_bitCount_0f7a4 18 = .ok (.ldc_w 266, 3) := by decide +kernel
theorem dJ6_bitCount_0f7a4_21 : decode cJ6_bitCount_0f7a4 21 = .ok (.iand, 1) := by decide +kernel
theorem dJ6_bitCount_0f7a4_22 : decode cJ6_bitCount_0f7a4 22 = .ok (.iadd, 1) := by decide +kernel
theorem dJ6_bitCount_0f7a4_23 : decode cJ6_bitCount_0f7a4 23 = .ok (.istore_n 0, 1) := by decide +kernel
theorem dJ6_bitCount_0f7a4_24 : decode cJ6_bitCount_0f7a4 24 = .ok (.iload_n 0, 1) := by decide +kernel
theorem dJ6_bitCount_0f7a4_25 : decode cJ6_bitCount_0f7a4 25 = .ok (.iload_n 0, 1) := by decide +kernel
theorem dJ6_bitCount_0f7a4_26 : decode cJ6_bitCount_0f7a4 26 = .ok (.iconst 4, 1) := by decide +kernel
theorem dJ6_bitCount_0f7a4_27 : decode cJ6_bitCount_0f7a4 27 = .ok (.iushr, 1) := by decide +kernel
theorem dJ6_bitCount_0f7a4_28 : decode cJ6_bitCount_0f7a4 28 = .ok (.iadd, 1) := by decide +kernel
theorem dJ6_bitCount_0f7a4_29 : decode cJ6_bitCount_0f7a4 29 = .ok (.ldc_w 267, 3) := by decide +kernel
theorem dJ6_bitCount_0f7a4_32 : decode cJ6_bitCount_0f7a4 32 = .ok (.iand, 1) := by decide +kernel
theorem dJ6_bitCount_0f7a4_33 : decode cJ6_bitCount_0f7a4 33 = .ok (.istore_n 0, 1) := by decide +kernel
theorem dJ6_bitCount_0f7a4_34 : decode cJ6_bitCount_0f7a4 34 = .ok (.iload_n 0, 1) := by decide +kernel
theorem dJ6_bitCount_0f7a4_35 : decode cJ6_bitCount_0f7a4 35 = .ok (.iload_n 0, 1) := by decide +kernel
theorem dJ6_bitCount_0f7a4_36 : decode cJ6_bitCount_0f7a4 36 = .ok (.bipush 8, 2) := by decide +kernel
theorem dJ6_bitCount_0f7a4_38 : decode cJ6_bitCount_0f7a4 38 = .ok (.iushr, 1) := by decide +kernel
theorem dJ6_bitCount_0f7a4_39 : decode cJ6_bitCount_0f7a4 39 = .ok (.iadd, 1) := by decide +kernel
theorem dJ6_bitCount_0f7a4_40 : decode cJ6_bitCount_0f7a4 40 = .ok (.istore_n 0, 1) := by decide +kernel
theorem dJ6_bitCount_0f7a4_41 : decode cJ6_bitCount_0f7a4 41 = .ok (.iload_n 0, 1) := by decide +kernel
theorem dJ6_bitCount_0f7a4_42 : decode cJ6_bitCount_0f7a4 42 = .ok (.iload_n 0, 1) := by decide +kernel
theorem dJ6_bitCount_0f7a4_43 : decode cJ6_bitCount_0f7a4 43 = .ok (.bipush 16, 2) := by decide +kernel
theorem dJ6_bitCount_0f7a4_45 : decode cJ6_bitCount_0f7a4 45 = .ok (.iushr, 1) := by decide +kernel
theorem dJ6_bitCount_0f7a4_46 : decode cJ6_bitCount_0f7a4 46 = .ok (.iadd, 1) := by decide +kernel
theorem dJ6_bitCount_0f7a4_47 : decode cJ6_bitCount_0f7a4 47 = .ok (.istore_n 0, 1) := by decide +kernel
theorem dJ6_bitCount_0f7a4_48 : decode cJ6_bitCount_0f7a4 48 = .ok (.iload_n 0, 1) := by decide +kernel
theorem dJ6_bitCount_0f7a4_49 : decode cJ6_bitCount_0f7a4 49 = .ok (.bipush 63, 2) := by decide +kernel
theorem dJ6_bitCount_0f7a4_51 : decode cJ6_bitCount_0f7a4 51 = .ok (.iand, 1) := by decide +kernel
theorem dJ6_bitCount_0f7a4_52 : decode cJ6_bitCount_0f7a4 52 = .ok (.ireturn, 1) := by decide +kernel
theorem dJ13_bitCount_95d88_0 : decode cJ13_bitCount_95d88 0 = .ok (.lload_n 0, 1) := by decide +kernel
theorem dJ13_bitCount_95d88_1 : decode cJ13_bitCount_95d88 1 = .ok (.lload_n 0, 1) := by decide +kernel
theorem dJ13_bitCount_95d88_2 : decode cJ13_bitCount_95d88 2 = .ok (.iconst 1, 1) := by decide +kernel
theorem dJ13_bitCount_95d88_3 : decode cJ13_bitCount_95d88 3 = .ok (.lushr, 1) := by decide +kernel
theorem dJ13_bitCount_95d88_4 : decode cJ13_bitCount_95d88 4 = .ok (.ldc2_w 314, 3) := by decide +kernel
theorem dJ13_bitCount_95d88_7 : decode cJ13_bitCount_95d88 7 = .ok (.land, 1) := by decide +kernel
theorem dJ13_bitCount_95d88_8 : decode cJ13_bitCount_95d88 8 = .ok (.lsub, 1) := by decide +kernel
theorem dJ13_bitCount_95d88_9 : decode cJ13_bitCount_95d88 9 = .ok (.lstore_n 0, 1) := by decide +kernel
theorem dJ13_bitCount_95d88_10 : decode cJ13_bitCount_95d88 10 = .ok (.lload_n 0, 1) := by decide +kernel
theorem dJ13_bitCount_95d88_11 : decode cJ13_bitCount_95d88 11 = .ok (.ldc2_w 316, 3) := by decide +kernel
theorem dJ13_bitCount_95d88_14 : decode cJ13_bitCount_95d88 14 = .ok (.land, 1) := by decide +kernel
theorem dJ13_bitCount_95d88_15 : decode cJ13_bitCount_95d88 15 = .ok (.lload_n 0, 1) := by decide +kernel
theorem dJ13_bitCount_95d88_16 : decode cJ13_bitCount_95d88 16 = .ok (.iconst 2, 1) := by decide +kernel
theorem dJ13_bitCount_95d88_17 : decode cJ13_bitCount_95d88 17 = .ok (.lushr, 1) := by decide +kernel
theorem dJ13_bitCount_95d88_18 : decode cJ13_bitCount_95d88 18 = .ok (.ldc2_w 316, 3) := by decide +kernel
theorem dJ13_bitCount_95d88_21 : decode cJ13_bitCount_95d88 21 = .ok (.land, 1) := by decide +kernel
theorem dJ13_bitCount_95d88_22 : decode cJ13_bitCount_95d88 22 = .ok (.ladd, 1) := by decide +kernel
theorem dJ13_bitCount_95d88_23 : decode cJ13_bitCount_95d88 23 = .ok (.lstore_n 0, 1) := by decide +kernel
theorem dJ13_bitCount_95d88_24 : decode cJ13_bitCount_95d88 24 = .ok (.lload_n 0, 1) := by decide +kernel
theorem dJ13_bitCount_95d88_25 : decode cJ13_bitCount_95d88 25 = .ok (.lload_n 0, 1) := by decide +kernel
theorem dJ13_bitCount_95d88_26 : decode cJ13_bitCount_95d88 26 = .ok (.iconst 4, 1) := by decide +kernel
theorem dJ13_bitCount_95d88_27 : decode cJ13_bitCount_95d88 27 = .ok (.lushr, 1) := by decide +kernel
theorem dJ13_bitCount_95d88_28 : decode cJ13_bitCount_95d88 28 = .ok (.ladd, 1) := by decide +kernel
theorem dJ13_bitCount_95d88_29 : decode cJ13_bitCount_95d88 29 = .ok (.ldc2_w 318, 3) := by decide +kernel
theorem dJ13_bitCount_95d88_32 : decode cJ13_bitCount_95d88 32 = .ok (.land, 1) := by decide +kernel
theorem dJ13_bitCount_95d88_33 : decode cJ13_bitCount_95d88 33 = .ok (.lstore_n 0, 1) := by decide +kernel
theorem dJ13_bitCount_95d88_34 : decode cJ13_bitCount_95d88 34 = .ok (.lload_n 0, 1) := by decide +kernel
theorem dJ13_bitCount_95d88_35 : decode cJ13_bitCount_95d88 35 = .ok (.lload_n 0, 1) := by decide +kernel
theorem dJ13_bitCount_95d88_36 : decode cJ13_bitCount_95d88 36 = .ok (.bipush 8, 2) := by decide +kernel
theorem dJ13_bitCount_95d88_38 : decode cJ13_bitCount_95d88 38 = .ok (.lushr, 1) := by decide +kernel
theorem dJ13_bitCount_95d88_39 : decode cJ13_bitCount_95d88 39 = .ok (.ladd, 1) := by decide +kernel
theorem dJ13_bitCount_95d88_40 : decode cJ13_bitCount_95d88 40 = .ok (.lstore_n 0, 1) := by decide +kernel
theorem dJ13_bitCount_95d88_41 : decode cJ13_bitCount_95d88 41 = .ok (.lload_n 0, 1) := by decide +kernel
theorem dJ13_bitCount_95d88_42 : decode cJ13_bitCount_95d88 42 = .ok (.lload_n 0, 1) := by decide +kernel
theorem dJ13_bitCount_95d88_43 : decode cJ13_bitCount_95d88 43 = .ok (.bipush 16, 2) := by decide +kernel
theorem dJ13_bitCount_95d88_45 : decode cJ13_bitCount_95d88 45 = .ok (.lushr, 1) := by decide +kernel
theorem dJ13_bitCount_95d88_46 : decode cJ13_bitCount_95d88 46 = .ok (.ladd, 1) := by decide +kernel
theorem dJ13_bitCount_95d88_47 : decode cJ13_bitCount_95d88 47 = .ok (.lstore_n 0, 1) := by decide +kernel
theorem dJ13_bitCount_95d88_48 : decode cJ13_bitCount_95d88 48 = .ok (.lload_n 0, 1) := by decide +kernel
theorem dJ13_bitCount_95d88_49 : decode cJ13_bitCount_95d88 49 = .ok (.lload_n 0, 1) := by decide +kernel
theorem dJ13_bitCount_95d88_50 : decode cJ13_bitCount_95d88 50 = .ok (.bipush 32, 2) := by decide +kernel
theorem dJ13_bitCount_95d88_52 : decode cJ13_bitCount_95d88 52 = .ok (.lushr, 1) := by decide +kernel
theorem dJ13_bitCount_95d88_53 : decode cJ13_bitCount_95d88 53 = .ok (.ladd, 1) := by decide +kernel
theorem dJ13_bitCount_95d88_54 : decode cJ13_bitCount_95d88 54 = .ok (.lstore_n 0, 1) := by decide +kernel
theorem dJ13_bitCount_95d88_55 : decode cJ13_bitCount_95d88 55 = .ok (.lload_n 0, 1) := by decide +kernel
theorem dJ13_bitCount_95d88_56 : decode cJ13_bitCount_95d88 56 = .ok (.l2i, 1) := by decide +kernel
theorem dJ13_bitCount_95d88_57 : decode cJ13_bitCount_95d88 57 = .ok (.bipush 127, 2) := by decide +kernel
theorem dJ13_bitCount_95d88_59 : decode cJ13_bitCount_95d88 59 = .ok (.iand, 1) := by decide +kernel
theorem dJ13_bitCount_95d88_60 : decode cJ13_bitCount_95d88 60 = .ok (.ireturn, 1) := by decide +kernel
theorem dJ9_max_7cf53_0 : decode cJ9_max_7cf53 0 = .ok (.iload_n 0, 1) := by decide +kernel
theorem dJ9_max_7cf53_1 : decode cJ9_max_7cf53 1 = .ok (.iload_n 1, 1) := by decide +kernel
theorem dJ9_max_7cf53_2 : decode cJ9_max_7cf53 2 = .ok (.if_icmp .lt 7, 3) := by decide +kernel
theorem dJ9_max_7cf53_5 : decode cJ9_max_7cf53 5 = .ok (.iload_n 0, 1) := by decide +kernel
theorem dJ9_max_7cf53_6 : decode cJ9_max_7cf53 6 = .ok (.goto 4, 3) := by decide +kernel
theorem dJ9_max_7cf53_9 : decode cJ9_max_7cf53 9 = .ok (.iload_n 1, 1) := by decide +kernel
theorem dJ9_max_7cf53_10 : decode cJ9_max_7cf53 10 = .ok (.ireturn, 1) := by decide +kernel
theorem dJ9_min_7cf53_0 : decode cJ9_min_7cf53 0 = .ok (.iload_n 0, 1) := by decide +kernel
theorem dJ9_min_7cf53_1 : decode cJ9_min_7cf53 1 = .ok (.iload_n 1, 1) := by decide +kernel
theorem dJ9_min_7cf53_2 : decode cJ9_min_7cf53 2 = .ok (.if_icmp .gt 7, 3) := by decide +kernel
theorem dJ9_min_7cf53_5 : decode cJ9_min_7cf53 5 = .ok (.iload_n 0, 1) := by decide +kernel
theorem dJ9_min_7cf53_6 : decode cJ9_min_7cf53 6 = .ok (.goto 4, 3) := by decide +kernel
theorem dJ9_min_7cf53_9 : decode cJ9_min_7cf53 9 = .ok (.iload_n 1, 1) := by decide +kernel
theorem dJ9_min_7cf53_10 : decode cJ9_min_7cf53 10 = .ok (.ireturn, 1) := by decide +kernel
theorem dJ0_length_8abf5_0 : decode cJ0_length_8abf5 0 = .ok (.aload_n 0, 1) := by decide +kernel
theorem dJ0_length_8abf5_1 : decode cJ0_length_8abf5 1 = .ok (.getfield 9, 3) := by decide +kernel
theorem dJ0_length_8abf5_4 : decode cJ0_length_8abf5 4 = .ok (.arraylength, 1) := by decide +kernel
theorem dJ0_length_8abf5_5 : decode cJ0_length_8abf5 5 = .ok (.aload_n 0, 1) := by decide +kernel
theorem dJ0_length_8abf5_6 : decode cJ0_length_8abf5 6 = .ok (.invokevirtual 335, 3) := by decide +kernel
theorem dJ0_length_8abf5_9 : decode cJ0_length_8abf5 9 = .ok (.ishr, 1) := by decide +kernel
theorem dJ0_length_8abf5_10 : decode cJ0_length_8abf5 10 = .ok (.ireturn, 1) := by decide +kernel
theorem dJ0_charAt_5068e_0 : decode cJ0_charAt_5068e 0 = .ok (.aload_n 0, 1) := by decide +kernel
theorem dJ0_charAt_5068e_1 : decode cJ0_charAt_5068e 1 = .ok (.invokevirtual 492, 3) := by decide +kernel
theorem dJ0_charAt_5068e_4 : decode cJ0_charAt_5068e 4 = .ok (.ifCond .eq 12, 3) := by decide +kernel
theorem dJ0_charAt_5068e_7 : decode cJ0_charAt_5068e 7 = .ok (.aload_n 0, 1) := by decide +kernel
theorem dJ0_charAt_5068e_8 : decode cJ0_charAt_5068e 8 = .ok (.getfield 9, 3) := by decide +kernel
theorem dJ0_charAt_5068e_11 : decode cJ0_charAt_5068e 11 = .ok (.iload_n 1, 1) := by decide +kernel
theorem dJ0_charAt_5068e_12 : decode cJ0_charAt_5068e 12 = .ok (.invokestatic 495, 3) := by decide +kernel
theorem dJ0_charAt_5068e_15 : decode cJ0_charAt_5068e 15 = .ok (.ireturn, 1) := by decide +kernel
theorem dJ0_charAt_5068e_16 : decode cJ0_charAt_5068e 16 = .ok (.aload_n 0, 1) := by decide +kernel
theorem dJ0_charAt_5068e_17 : decode cJ0_charAt_5068e 17 = .ok (.getfield 9, 3) := by decide +kernel
theorem dJ0_charAt_5068e_20 : decode cJ0_charAt_5068e 20 = .ok (.iload_n 1, 1) := by decide +kernel
theorem dJ0_charAt_5068e_21 : decode cJ0_charAt_5068e 21 = .ok (.invokestatic 498, 3) := by decide +kernel
theorem dJ0_charAt_5068e_24 : decode cJ0_charAt_5068e 24 = .ok (.ireturn, 1) := by decide +kernel
theorem dJ0_coder_7d493_0 : decode cJ0_coder_7d493 0 = .ok (.getstatic 38, 3) := by decide +kernel
theorem dJ0_coder_7d493_3 : decode cJ0_coder_7d493 3 = .ok (.ifCond .eq 10, 3) := by decide +kernel
