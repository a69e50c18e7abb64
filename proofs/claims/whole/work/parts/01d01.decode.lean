theorem dX4_addNumber_27 : decode cX4_addNumber 27 = .ok (.iconst 1, 1) := by decide +kernel
theorem dX4_addNumber_28 : decode cX4_addNumber 28 = .ok (.iadd, 1) := by decide +kernel
theorem dX4_addNumber_29 : decode cX4_addNumber 29 = .ok (.putfield 21, 3) := by decide +kernel
theorem dX4_addNumber_32 : decode cX4_addNumber 32 = .ok (.return_, 1) := by decide +kernel
theorem dX4_addSign_0 : decode cX4_addSign 0 = .ok (.aload_n 0, 1) := by decide +kernel
theorem dX4_addSign_1 : decode cX4_addSign 1 = .ok (.iload_n 1, 1) := by decide +kernel
theorem dX4_addSign_2 : decode cX4_addSign 2 = .ok (.ineg, 1) := by decide +kernel
theorem dX4_addSign_3 : decode cX4_addSign 3 = .ok (.invokevirtual 25, 3) := by decide +kernel
theorem dX4_addSign_6 : decode cX4_addSign 6 = .ok (.return_, 1) := by decide +kernel
theorem dX4_copy_0 : decode cX4_copy 0 = .ok (.aload_n 0, 1) := by decide +kernel
theorem dX4_copy_1 : decode cX4_copy 1 = .ok (.aload_n 1, 1) := by decide +kernel
theorem dX4_copy_2 : decode cX4_copy 2 = .ok (.getfield 21, 3) := by decide +kernel
theorem dX4_copy_5 : decode cX4_copy 5 = .ok (.putfield 21, 3) := by decide +kernel
theorem dX4_copy_8 : decode cX4_copy 8 = .ok (.aload_n 1, 1) := by decide +kernel
theorem dX4_copy_9 : decode cX4_copy 9 = .ok (.getfield 9, 3) := by decide +kernel
theorem dX4_copy_12 : decode cX4_copy 12 = .ok (.iconst 0, 1) := by decide +kernel
theorem dX4_copy_13 : decode cX4_copy 13 = .ok (.aload_n 0, 1) := by decide +kernel
theorem dX4_copy_14 : decode cX4_copy 14 = .ok (.getfield 9, 3) := by decide +kernel
theorem dX4_copy_17 : decode cX4_copy 17 = .ok (.iconst 0, 1) := by decide +kernel
theorem dX4_copy_18 : decode cX4_copy 18 = .ok (.bipush 40, 2) := by decide +kernel
theorem dX4_copy_20 : decode cX4_copy 20 = .ok (.invokestatic 29, 3) := by decide +kernel
theorem dX4_copy_23 : decode cX4_copy 23 = .ok (.return_, 1) := by decide +kernel
theorem dX4_putNone_0 : decode cX4_putNone 0 = .ok (.aload_n 0, 1) := by decide +kernel
theorem dX4_putNone_1 : decode cX4_putNone 1 = .ok (.invokevirtual 35, 3) := by decide +kernel
theorem dX4_putNone_4 : decode cX4_putNone 4 = .ok (.aload_n 0, 1) := by decide +kernel
theorem dX4_putNone_5 : decode cX4_putNone 5 = .ok (.iconst 1, 1) := by decide +kernel
theorem dX4_putNone_6 : decode cX4_putNone 6 = .ok (.invokevirtual 25, 3) := by decide +kernel
theorem dX4_putNone_9 : decode cX4_putNone 9 = .ok (.aload_n 0, 1) := by decide +kernel
theorem dX4_putNone_10 : decode cX4_putNone 10 = .ok (.bipush 111, 2) := by decide +kernel
theorem dX4_putNone_12 : decode cX4_putNone 12 = .ok (.invokevirtual 38, 3) := by decide +kernel
theorem dX4_putNone_15 : decode cX4_putNone 15 = .ok (.aload_n 0, 1) := by decide +kernel
theorem dX4_putNone_16 : decode cX4_putNone 16 = .ok (.iconst 1, 1) := by decide +kernel
theorem dX4_putNone_17 : decode cX4_putNone 17 = .ok (.invokevirtual 25, 3) := by decide +kernel
theorem dX4_putNone_20 : decode cX4_putNone 20 = .ok (.aload_n 0, 1) := by decide +kernel
theorem dX4_putNone_21 : decode cX4_putNone 21 = .ok (.bipush 62, 2) := by decide +kernel
theorem dX4_putNone_23 : decode cX4_putNone 23 = .ok (.invokevirtual 38, 3) := by decide +kernel
theorem dX4_putNone_26 : decode cX4_putNone 26 = .ok (.aload_n 0, 1) := by decide +kernel
theorem dX4_putNone_27 : decode cX4_putNone 27 = .ok (.bipush 43, 2) := by decide +kernel
theorem dX4_putNone_29 : decode cX4_putNone 29 = .ok (.invokevirtual 38, 3) := by decide +kernel
theorem dX4_putNone_32 : decode cX4_putNone 32 = .ok (.return_, 1) := by decide +kernel
theorem dX4_putLaw_0 : decode cX4_putLaw 0 = .ok (.aload_n 0, 1) := by decide +kernel
theorem dX4_putLaw_1 : decode cX4_putLaw 1 = .ok (.invokevirtual 35, 3) := by decide +kernel
theorem dX4_putLaw_4 : decode cX4_putLaw 4 = .ok (.aload_n 0, 1) := by decide +kernel
theorem dX4_putLaw_5 : decode cX4_putLaw 5 = .ok (.iload_n 1, 1) := by decide +kernel
theorem dX4_putLaw_6 : decode cX4_putLaw 6 = .ok (.invokevirtual 25, 3) := by decide +kernel
theorem dX4_putLaw_9 : decode cX4_putLaw 9 = .ok (.aload_n 0, 1) := by decide +kernel
theorem dX4_putLaw_10 : decode cX4_putLaw 10 = .ok (.iload_n 2, 1) := by decide +kernel
theorem dX4_putLaw_11 : decode cX4_putLaw 11 = .ok (.invokevirtual 25, 3) := by decide +kernel
theorem dX4_putLaw_14 : decode cX4_putLaw 14 = .ok (.aload_n 0, 1) := by decide +kernel
theorem dX4_putLaw_15 : decode cX4_putLaw 15 = .ok (.bipush 111, 2) := by decide +kernel
theorem dX4_putLaw_17 : decode cX4_putLaw 17 = .ok (.invokevirtual 38, 3) := by decide +kernel
theorem dX4_putLaw_20 : decode cX4_putLaw 20 = .ok (.aload_n 0, 1) := by decide +kernel
theorem dX4_putLaw_21 : decode cX4_putLaw 21 = .ok (.bipush 42, 2) := by decide +kernel
theorem dX4_putLaw_23 : decode cX4_putLaw 23 = .ok (.invokevirtual 38, 3) := by decide +kernel
theorem dX4_putLaw_26 : decode cX4_putLaw 26 = .ok (.aload_n 0, 1) := by decide +kernel
theorem dX4_putLaw_27 : decode cX4_putLaw 27 = .ok (.bipush 43, 2) := by decide +kernel
theorem dX4_putLaw_29 : decode cX4_putLaw 29 = .ok (.invokevirtual 38, 3) := by decide +kernel
theorem dX4_putLaw_32 : decode cX4_putLaw 32 = .ok (.return_, 1) := by decide +kernel
theorem dX4_losses_0 : decode cX4_losses 0 = .ok (.iconst 0, 1) := by decide +kernel
theorem dX4_losses_1 : decode cX4_losses 1 = .ok (.istore_n 2, 1) := by decide +kernel
theorem dX4_losses_2 : decode cX4_losses 2 = .ok (.iload_n 2, 1) := by decide +kernel
theorem dX4_losses_3 : decode cX4_losses 3 = .ok (.bipush 8, 2) := by decide +kernel
theorem dX4_losses_5 : decode cX4_losses 5 = .ok (.if_icmp .ge 48, 3) := by decide +kernel
theorem dX4_losses_8 : decode cX4_losses 8 = .ok (.aload_n 0, 1) := by decide +kernel
theorem dX4_losses_9 : decode cX4_losses 9 = .ok (.getfield 18, 3) := by decide +kernel
theorem dX4_losses_12 : decode cX4_losses 12 = .ok (.iload_n 2, 1) := by decide +kernel
theorem dX4_losses_13 : decode cX4_losses 13 = .ok (.iconst 0, 1) := by decide +kernel
theorem dX4_losses_14 : decode cX4_losses 14 = .ok (.iastore, 1) := by decide +kernel
theorem dX4_losses_15 : decode cX4_losses 15 = .ok (.aload_n 1, 1) := by decide +kernel
theorem dX4_losses_16 : decode cX4_losses 16 = .ok (.iload_n 2, 1) := by decide +kernel
theorem dX4_losses_17 : decode cX4_losses 17 = .ok (.invokevirtual 41, 3) := by decide +kernel
theorem dX4_losses_20 : decode cX4_losses 20 = .ok (.ifCond .eq 27, 3) := by decide +kernel
theorem dX4_losses_23 : decode cX4_losses 23 = .ok (.aload_n 0, 1) := by decide +kernel
theorem dX4_losses_24 : decode cX4_losses 24 = .ok (.aload_n 1, 1) := by decide +kernel
theorem dX4_losses_25 : decode cX4_losses 25 = .ok (.iload_n 2, 1) := by decide +kernel
theorem dX4_losses_26 : decode cX4_losses 26 = .ok (.invokevirtual 47, 3) := by decide +kernel
theorem dX4_losses_29 : decode cX4_losses 29 = .ok (.invokestatic 51, 3) := by decide +kernel
theorem dX4_losses_32 : decode cX4_losses 32 = .ok (.putfield 56, 3) := by decide +kernel
theorem dX4_losses_35 : decode cX4_losses 35 = .ok (.aload_n 0, 1) := by decide +kernel
theorem dX4_losses_36 : decode cX4_losses 36 = .ok (.getfield 18, 3) := by decide +kernel
theorem dX4_losses_39 : decode cX4_losses 39 = .ok (.iload_n 2, 1) := by decide +kernel
theorem dX4_losses_40 : decode cX4_losses 40 = .ok (.aload_n 0, 1) := by decide +kernel
theorem dX4_losses_41 : decode cX4_losses 41 = .ok (.aload_n 1, 1) := by decide +kernel
theorem dX4_losses_42 : decode cX4_losses 42 = .ok (.iload_n 2, 1) := by decide +kernel
theorem dX4_losses_43 : decode cX4_losses 43 = .ok (.invokevirtual 59, 3) := by decide +kernel
theorem dX4_losses_46 : decode cX4_losses 46 = .ok (.iastore, 1) := by decide +kernel
theorem dX4_losses_47 : decode cX4_losses 47 = .ok (.iinc 2 1, 3) := by decide +kernel
theorem dX4_losses_50 : decode cX4_losses 50 = .ok (.goto (-48), 3) := by decide +kernel
theorem dX4_losses_53 : decode cX4_losses 53 = .ok (.aload_n 0, 1) := by decide +kernel
theorem dX4_losses_54 : decode cX4_losses 54 = .ok (.getfield 18, 3) := by decide +kernel
theorem dX4_losses_57 : decode cX4_losses 57 = .ok (.areturn, 1) := by decide +kernel
theorem dX4_loss_0 : decode cX4_loss 0 = .ok (.aload_n 0, 1) := by decide +kernel
theorem dX4_loss_1 : decode cX4_loss 1 = .ok (.iconst 0, 1) := by decide +kernel
theorem dX4_loss_2 : decode cX4_loss 2 = .ok (.putfield 63, 3) := by decide +kernel
theorem dX4_loss_5 : decode cX4_loss 5 = .ok (.iconst 0, 1) := by decide +kernel
theorem dX4_loss_6 : decode cX4_loss 6 = .ok (.istore_n 3, 1) := by decide +kernel
theorem dX4_loss_7 : decode cX4_loss 7 = .ok (.iload_n 3, 1) := by decide +kernel
theorem dX4_loss_8 : decode cX4_loss 8 = .ok (.aload_n 0, 1) := by decide +kernel
theorem dX4_loss_9 : decode cX4_loss 9 = .ok (.getfield 21, 3) := by decide +kernel
theorem dX4_loss_12 : decode cX4_loss 12 = .ok (.if_icmp .ge 101, 3) := by decide +kernel
theorem dX4_loss_15 : decode cX4_loss 15 = .ok (.aload_n 0, 1) := by decide +kernel
theorem dX4_loss_16 : decode cX4_loss 16 = .ok (.getfield 9, 3) := by decide +kernel
theorem dX4_loss_19 : decode cX4_loss 19 = .ok (.iload_n 3, 1) := by decide +kernel
theorem dX4_loss_20 : decode cX4_loss 20 = .ok (.iaload, 1) := by decide +kernel
theorem dX4_loss_21 : decode cX4_loss 21 = .ok (.istore 4, 2) := by decide +kernel
theorem dX4_loss_23 : decode cX4_loss 23 = .ok (.iload 4, 2) := by decide +kernel
theorem dX4_loss_25 : decode cX4_loss 25 = .ok (.ifCond .lt 12, 3) := by decide +kernel
theorem dX4_loss_28 : decode cX4_loss 28 = .ok (.aload_n 0, 1) := by decide +kernel
theorem dX4_loss_29 : decode cX4_loss 29 = .ok (.iload 4, 2) := by decide +kernel
theorem dX4_loss_31 : decode cX4_loss 31 = .ok (.invokevirtual 66, 3) := by decide +kernel
theorem dX4_loss_34 : decode cX4_loss 34 = .ok (.goto 73, 3) := by decide +kernel
theorem dX4_loss_37 : decode cX4_loss 37 = .ok (.iload 4, 2) := by decide +kernel
theorem dX4_loss_39 : decode cX4_loss 39 = .ok (.bipush (-126), 2) := by decide +kernel
theorem dX4_loss_41 : decode cX4_loss 41 = .ok (.if_icmp .ne 15, 3) := by decide +kernel
theorem dX4_loss_44 : decode cX4_loss 44 = .ok (.aload_n 0, 1) := by decide +kernel
theorem dX4_loss_45 : decode cX4_loss 45 = .ok (.aload_n 0, 1) := by decide +kernel
theorem dX4_loss_46 : decode cX4_loss 46 = .ok (.invokevirtual 69, 3) := by decide +kernel
theorem dX4_loss_49 : decode cX4_loss 49 = .ok (.ineg, 1) := by decide +kernel
theorem dX4_loss_50 : decode cX4_loss 50 = .ok (.invokevirtual 66, 3) := by decide +kernel
theorem dX4_loss_53 : decode cX4_loss 53 = .ok (.goto 54, 3) := by decide +kernel
theorem dX4_loss_56 : decode cX4_loss 56 = .ok (.iload 4, 2) := by decide +kernel
theorem dX4_loss_58 : decode cX4_loss 58 = .ok (.ineg, 1) := by decide +kernel
theorem dX4_loss_59 : decode cX4_loss 59 = .ok (.invokestatic 73, 3) := by decide +kernel
theorem dX4_loss_62 : decode cX4_loss 62 = .ok (.ifCond .eq 32, 3) := by decide +kernel
theorem dX4_loss_65 : decode cX4_loss 65 = .ok (.aload_n 0, 1) := by decide +kernel
theorem dX4_loss_66 : decode cX4_loss 66 = .ok (.invokevirtual 69, 3) := by decide +kernel
theorem dX4_loss_69 : decode cX4_loss 69 = .ok (.istore 5, 2) := by decide +kernel
theorem dX4_loss_71 : decode cX4_loss 71 = .ok (.aload_n 0, 1) := by decide +kernel
theorem dX4_loss_72 : decode cX4_loss 72 = .ok (.invokevirtual 69, 3) := by decide +kernel
theorem dX4_loss_75 : decode cX4_loss 75 = .ok (.istore 6, 2) := by decide +kernel
theorem dX4_loss_77 : decode cX4_loss 77 = .ok (.aload_n 0, 1) := by decide +kernel
theorem dX4_loss_78 : decode cX4_loss 78 = .ok (.iload 4, 2) := by decide +kernel
theorem dX4_loss_80 : decode cX4_loss 80 = .ok (.ineg, 1) := by decide +kernel
theorem dX4_loss_81 : decode cX4_loss 81 = .ok (.iload 6, 2) := by decide +kernel
theorem dX4_loss_83 : decode cX4_loss 83 = .ok (.iload 5, 2) := by decide +kernel
theorem dX4_loss_85 : decode cX4_loss 85 = .ok (.invokestatic 76, 3) := by decide +kernel
theorem dX4_loss_88 : decode cX4_loss 88 = .ok (.invokevirtual 66, 3) := by decide +kernel
theorem dX4_loss_91 : decode cX4_loss 91 = .ok (.goto 16, 3) := by decide +kernel
theorem dX4_loss_94 : decode cX4_loss 94 = .ok (.aload_n 0, 1) := by decide +kernel
theorem dX4_loss_95 : decode cX4_loss 95 = .ok (.aload_n 0, 1) := by decide +kernel
theorem dX4_loss_96 : decode cX4_loss 96 = .ok (.iload 4, 2) := by decide +kernel
theorem dX4_loss_98 : decode cX4_loss 98 = .ok (.ineg, 1) := by decide +kernel
theorem dX4_loss_99 : decode cX4_loss 99 = .ok (.aload_n 1, 1) := by decide +kernel
theorem dX4_loss_100 : decode cX4_loss 100 = .ok (.iload_n 2, 1) := by decide +kernel
theorem dX4_loss_101 : decode cX4_loss 101 = .ok (.invokevirtual 80, 3) := by decide +kernel
theorem dX4_loss_104 : decode cX4_loss 104 = .ok (.invokevirtual 66, 3) := by decide +kernel
theorem dX4_loss_107 : decode cX4_loss 107 = .ok (.iinc 3 1, 3) := by decide +kernel
theorem dX4_loss_110 : decode cX4_loss 110 = .ok (.goto (-103), 3) := by decide +kernel
theorem dX4_loss_113 : decode cX4_loss 113 = .ok (.aload_n 0, 1) := by decide +kernel
theorem dX4_loss_114 : decode cX4_loss 114 = .ok (.invokevirtual 69, 3) := by decide +kernel
theorem dX4_loss_117 : decode cX4_loss 117 = .ok (.invokestatic 84, 3) := by decide +kernel
theorem dX4_loss_120 : decode cX4_loss 120 = .ok (.ireturn, 1) := by decide +kernel
theorem dX4_meaning_0 : decode cX4_meaning 0 = .ok (.iload_n 1, 1) := by decide +kernel
theorem dX4_meaning_1 : decode cX4_meaning 1 = .ok (.tableswitch 154 97 119 #[114, 154, 140, 154, 154, 154, 154, 126, 154, 154, 154, 154, 154, 154, 121, 154, 154, 147, 107, 154, 154, 154, 133], 107) := by decide +kernel
theorem dX4_meaning_108 : decode cX4_meaning 108 = .ok (.aload_n 2, 1) := by decide +kernel
theorem dX4_meaning_109 : decode cX4_meaning 109 = .ok (.getfield 87, 3) := by decide +kernel
theorem dX4_meaning_112 : decode cX4_meaning 112 = .ok (.iload_n 3, 1) := by decide +kernel
theorem dX4_meaning_113 : decode cX4_meaning 113 = .ok (.iaload, 1) := by decide +kernel
theorem dX4_meaning_114 : decode cX4_meaning 114 = .ok (.ireturn, 1) := by decide +kernel
theorem dX4_meaning_115 : decode cX4_meaning 115 = .ok (.aload_n 2, 1) := by decide +kernel
theorem dX4_meaning_116 : decode cX4_meaning 116 = .ok (.getfield 90, 3) := by decide +kernel
theorem dX4_meaning_119 : decode cX4_meaning 119 = .ok (.iload_n 3, 1) := by decide +kernel
theorem dX4_meaning_120 : decode cX4_meaning 120 = .ok (.iaload, 1) := by decide +kernel
theorem dX4_meaning_121 : decode cX4_meaning 121 = .ok (.ireturn, 1) := by decide +kernel
theorem dX4_meaning_122 : decode cX4_meaning 122 = .ok (.aload_n 0, 1) := by decide +kernel
theorem dX4_meaning_123 : decode cX4_meaning 123 = .ok (.getfield 56, 3) := by decide +kernel
theorem dX4_meaning_126 : decode cX4_meaning 126 = .ok (.ireturn, 1) := by decide +kernel
theorem dX4_meaning_127 : decode cX4_meaning 127 = .ok (.aload_n 2, 1) := by decide +kernel
theorem dX4_meaning_128 : decode cX4_meaning 128 = .ok (.getfield 93, 3) := by decide +kernel
theorem dX4_meaning_131 : decode cX4_meaning 131 = .ok (.iload_n 3, 1) := by decide +kernel
theorem dX4_meaning_132 : decode cX4_meaning 132 = .ok (.iaload, 1) := by decide +kernel
theorem dX4_meaning_133 : decode cX4_meaning 133 = .ok (.ireturn, 1) := by decide +kernel
theorem dX4_meaning_134 : decode cX4_meaning 134 = .ok (.aload_n 2, 1) := by decide +kernel
theorem dX4_meaning_135 : decode cX4_meaning 135 = .ok (.getfield 96, 3) := by decide +kernel
theorem dX4_meaning_138 : decode cX4_meaning 138 = .ok (.iload_n 3, 1) := by decide +kernel
theorem dX4_meaning_139 : decode cX4_meaning 139 = .ok (.iaload, 1) := by decide +kernel
theorem dX4_meaning_140 : decode cX4_meaning 140 = .ok (.ireturn, 1) := by decide +kernel
theorem dX4_meaning_141 : decode cX4_meaning 141 = .ok (.aload_n 2, 1) := by decide +kernel
theorem dX4_meaning_142 : decode cX4_meaning 142 = .ok (.getfield 99, 3) := by decide +kernel
theorem dX4_meaning_145 : decode cX4_meaning 145 = .ok (.iload_n 3, 1) := by decide +kernel
theorem dX4_meaning_146 : decode cX4_meaning 146 = .ok (.iaload, 1) := by decide +kernel
theorem dX4_meaning_147 : decode cX4_meaning 147 = .ok (.ireturn, 1) := by decide +kernel
theorem dX4_meaning_148 : decode cX4_meaning 148 = .ok (.aload_n 2, 1) := by decide +kernel
theorem dX4_meaning_149 : decode cX4_meaning 149 = .ok (.getfield 102, 3) := by decide +kernel
theorem dX4_meaning_152 : decode cX4_meaning 152 = .ok (.iload_n 3, 1) := by decide +kernel
theorem dX4_meaning_153 : decode cX4_meaning 153 = .ok (.iaload, 1) := by decide +kernel
theorem dX4_meaning_154 : decode cX4_meaning 154 = .ok (.ireturn, 1) := by decide +kernel
theorem dX4_meaning_155 : decode cX4_meaning 155 = .ok (.aload_n 2, 1) := by decide +kernel
theorem dX4_meaning_156 : decode cX4_meaning 156 = .ok (.getfield 105, 3) := by decide +kernel
theorem dX4_meaning_159 : decode cX4_meaning 159 = .ok (.bipush 7, 2) := by decide +kernel
theorem dX4_meaning_161 : decode cX4_meaning 161 = .ok (.irem, 1) := by decide +kernel
theorem dX4_meaning_162 : decode cX4_meaning 162 = .ok (.ireturn, 1) := by decide +kernel
theorem dX4_push_0 : decode cX4_push 0 = .ok (.aload_n 0, 1) := by decide +kernel
theorem dX4_push_1 : decode cX4_push 1 = .ok (.getfield 63, 3) := by decide +kernel
theorem dX4_push_4 : decode cX4_push 4 = .ok (.aload_n 0, 1) := by decide +kernel
theorem dX4_push_5 : decode cX4_push 5 = .ok (.getfield 15, 3) := by decide +kernel
theorem dX4_push_8 : decode cX4_push 8 = .ok (.arraylength, 1) := by decide +kernel
theorem dX4_push_9 : decode cX4_push 9 = .ok (.if_icmp .ge 23, 3) := by decide +kernel
theorem dX4_push_12 : decode cX4_push 12 = .ok (.aload_n 0, 1) := by decide +kernel
theorem dX4_push_13 : decode cX4_push 13 = .ok (.getfield 15, 3) := by decide +kernel
theorem dX4_push_16 : decode cX4_push 16 = .ok (.aload_n 0, 1) := by decide +kernel
theorem dX4_push_17 : decode cX4_push 17 = .ok (.getfield 63, 3) := by decide +kernel
theorem dX4_push_20 : decode cX4_push 20 = .ok (.iload_n 1, 1) := by decide +kernel
theorem dX4_push_21 : decode cX4_push 21 = .ok (.iastore, 1) := by decide +kernel
theorem dX4_push_22 : decode cX4_push 22 = .ok (.aload_n 0, 1) := by decide +kernel
theorem dX4_push_23 : decode cX4_push 23 = .ok (.dup, 1) := by decide +kernel
theorem dX4_push_24 : decode cX4_push 24 = .ok (.getfield 63, 3) := by decide +kernel
theorem dX4_push_27 : decode cX4_push 27 = .ok (.iconst 1, 1) := by decide +kernel
theorem dX4_push_28 : decode cX4_push 28 = .ok (.iadd, 1) := by decide +kernel
theorem dX4_push_29 : decode cX4_push 29 = .ok (.putfield 63, 3) := by decide +kernel
theorem dX4_push_32 : decode cX4_push 32 = .ok (.return_, 1) := by decide +kernel
theorem dX4_pop_0 : decode cX4_pop 0 = .ok (.aload_n 0, 1) := by decide +kernel
theorem dX4_pop_1 : decode cX4_pop 1 = .ok (.getfield 63, 3) := by decide +kernel
theorem dX4_pop_4 : decode cX4_pop 4 = .ok (.ifCond .gt 5, 3) := by decide +kernel
theorem dX4_pop_7 : decode cX4_pop 7 = .ok (.iconst 0, 1) := by decide +kernel
theorem dX4_pop_8 : decode cX4_pop 8 = .ok (.ireturn, 1) := by decide +kernel
theorem dX4_pop_9 : decode cX4_pop 9 = .ok (.aload_n 0, 1) := by decide +kernel
theorem dX4_pop_10 : decode cX4_pop 10 = .ok (.dup, 1) := by decide +kernel
theorem dX4_pop_11 : decode cX4_pop 11 = .ok (.getfield 63, 3) := by decide +kernel
theorem dX4_pop_14 : decode cX4_pop 14 = .ok (.iconst 1, 1) := by decide +kernel
theorem dX4_pop_15 : decode cX4_pop 15 = .ok (.isub, 1) := by decide +kernel
theorem dX4_pop_16 : decode cX4_pop 16 = .ok (.putfield 63, 3) := by decide +kernel
theorem dX4_pop_19 : decode cX4_pop 19 = .ok (.aload_n 0, 1) := by decide +kernel
theorem dX4_pop_20 : decode cX4_pop 20 = .ok (.getfield 15, 3) := by decide +kernel
theorem dX4_pop_23 : decode cX4_pop 23 = .ok (.aload_n 0, 1) := by decide +kernel
theorem dX4_pop_24 : decode cX4_pop 24 = .ok (.getfield 63, 3) := by decide +kernel
theorem dX4_pop_27 : decode cX4_pop 27 = .ok (.iaload, 1) := by decide +kernel
theorem dX4_pop_28 : decode cX4_pop 28 = .ok (.ireturn, 1) := by decide +kernel
theorem dX4_isOperator_0 : decode cX4_isOperator 0 = .ok (.iload_n 0, 1) := by decide +kernel
theorem dX4_isOperator_1 : decode cX4_isOperator 1 = .ok (.tableswitch 101 42 62 #[99, 99, 101, 99, 101, 99, 101, 101, 101, 101, 101, 101, 101, 101, 101, 101, 101, 101, 99, 99, 99], 99) := by decide +kernel
theorem dX4_isOperator_100 : decode cX4_isOperator 100 = .ok (.iconst 1, 1) := by decide +kernel
theorem dX4_isOperator_101 : decode cX4_isOperator 101 = .ok (.ireturn, 1) := by decide +kernel
theorem dX4_isOperator_102 : decode cX4_isOperator 102 = .ok (.iconst 0, 1) := by decide +kernel
theorem dX4_isOperator_103 : decode cX4_isOperator 103 = .ok (.ireturn, 1) := by decide +kernel
theorem dX4_isComparison_0 : decode cX4_isComparison 0 = .ok (.iload_n 0, 1) := by decide +kernel
theorem dX4_isComparison_1 : decode cX4_isComparison 1 = .ok (.bipush 60, 2) := by decide +kernel
theorem dX4_isComparison_3 : decode cX4_isComparison 3 = .ok (.if_icmp .eq 15, 3) := by decide +kernel
theorem dX4_isComparison_6 : decode cX4_isComparison 6 = .ok (.iload_n 0, 1) := by decide +kernel
theorem dX4_isComparison_7 : decode cX4_isComparison 7 = .ok (.bipush 62, 2) := by decide +kernel
theorem dX4_isComparison_9 : decode cX4_isComparison 9 = .ok (.if_icmp .eq 9, 3) := by decide +kernel
theorem dX4_isComparison_12 : decode cX4_isComparison 12 = .ok (.iload_n 0, 1) := by decide +kernel
theorem dX4_isComparison_13 : decode cX4_isComparison 13 = .ok (.bipush 61, 2) := by decide +kernel
theorem dX4_isComparison_15 : decode cX4_isComparison 15 = .ok (.if_icmp .ne 7, 3) := by decide +kernel
theorem dX4_isComparison_18 : decode cX4_isComparison 18 = .ok (.iconst 1, 1) := by decide +kernel
theorem dX4_isComparison_19 : decode cX4_isComparison 19 = .ok (.goto 4, 3) := by decide +kernel
theorem dX4_isComparison_22 : decode cX4_isComparison 22 = .ok (.iconst 0, 1) := by decide +kernel
theorem dX4_isComparison_23 : decode cX4_isComparison 23 = .ok (.ireturn, 1) := by decide +kernel
theorem dX4_joined_0 : decode cX4_joined 0 = .ok (.iload_n 0, 1) := by decide +kernel
theorem dX4_joined_1 : decode cX4_joined 1 = .ok (.lookupswitch 105 #[(42, 67), (43, 59), (45, 63), (47, 71), (60, 83), (62, 94)], 59) := by decide +kernel
theorem dX4_joined_60 : decode cX4_joined 60 = .ok (.iload_n 1, 1) := by decide +kernel
theorem dX4_joined_61 : decode cX4_joined 61 = .ok (.iload_n 2, 1) := by decide +kernel
theorem dX4_joined_62 : decode cX4_joined 62 = .ok (.iadd, 1) := by decide +kernel
theorem dX4_joined_63 : decode cX4_joined 63 = .ok (.ireturn, 1) := by decide +kernel
theorem dX4_joined_64 : decode cX4_joined 64 = .ok (.iload_n 1, 1) := by decide +kernel
theorem dX4_joined_65 : decode cX4_joined 65 = .ok (.iload_n 2, 1) := by decide +kernel
theorem dX4_joined_66 : decode cX4_joined 66 = .ok (.isub, 1) := by decide +kernel
theorem dX4_joined_67 : decode cX4_joined 67 = .ok (.ireturn, 1) := by decide +kernel
theorem dX4_joined_68 : decode cX4_joined 68 = .ok (.iload_n 1, 1) := by decide +kernel
theorem dX4_joined_69 : decode cX4_joined 69 = .ok (.iload_n 2, 1) := by decide +kernel
theorem dX4_joined_70 : decode cX4_joined 70 = .ok (.imul, 1) := by decide +kernel
theorem dX4_joined_71 : decode cX4_joined 71 = .ok (.ireturn, 1) := by decide +kernel
theorem dX4_joined_72 : decode cX4_joined 72 = .ok (.iload_n 2, 1) := by decide +kernel
theorem dX4_joined_73 : decode cX4_joined 73 = .ok (.ifCond .ne 7, 3) := by decide +kernel
theorem dX4_joined_76 : decode cX4_joined 76 = .ok (.iconst 0, 1) := by decide +kernel
theorem dX4_joined_77 : decode cX4_joined 77 = .ok (.goto 6, 3) := by decide +kernel
theorem dX4_joined_80 : decode cX4_joined 80 = .ok (.iload_n 1, 1) := by decide +kernel
theorem dX4_joined_81 : decode cX4_joined 81 = .ok (.iload_n 2, 1) := by decide +kernel
theorem dX4_joined_82 : decode cX4_joined 82 = .ok (.idiv, 1) := by decide +kernel
theorem dX4_joined_83 : decode cX4_joined 83 = .ok (.ireturn, 1) := by decide +kernel
theorem dX4_joined_84 : decode cX4_joined 84 = .ok (.iload_n 1, 1) := by decide +kernel
theorem dX4_joined_85 : decode cX4_joined 85 = .ok (.iload_n 2, 1) := by decide +kernel
theorem dX4_joined_86 : decode cX4_joined 86 = .ok (.if_icmp .ge 7, 3) := by decide +kernel
theorem dX4_joined_89 : decode cX4_joined 89 = .ok (.iconst 1, 1) := by decide +kernel
theorem dX4_joined_90 : decode cX4_joined 90 = .ok (.goto 4, 3) := by decide +kernel
theorem dX4_joined_93 : decode cX4_joined 93 = .ok (.iconst 0, 1) := by decide +kernel
theorem dX4_joined_94 : decode cX4_joined 94 = .ok (.ireturn, 1) := by decide +kernel
theorem dX4_joined_95 : decode cX4_joined 95 = .ok (.iload_n 1, 1) := by decide +kernel
theorem dX4_joined_96 : decode cX4_joined 96 = .ok (.iload_n 2, 1) := by decide +kernel
theorem dX4_joined_97 : decode cX4_joined 97 = .ok (.if_icmp .le 7, 3) := by decide +kernel
theorem dX4_joined_100 : decode cX4_joined 100 = .ok (.iconst 1, 1) := by decide +kernel
theorem dX4_joined_101 : decode cX4_joined 101 = .ok (.goto 4, 3) := by decide +kernel
theorem dX4_joined_104 : decode cX4_joined 104 = .ok (.iconst 0, 1) := by decide +kernel
theorem dX4_joined_105 : decode cX4_joined 105 = .ok (.ireturn, 1) := by decide +kernel
theorem dX4_joined_106 : decode cX4_joined 106 = .ok (.iload_n 1, 1) := by decide +kernel
theorem dX4_joined_107 : decode cX4_joined 107 = .ok (.iload_n 2, 1) := by decide +kernel
theorem dX4_joined_108 : decode cX4_joined 108 = .ok (.if_icmp .ne 7, 3) := by decide +kernel
theorem dX4_joined_111 : decode cX4_joined 111 = .ok (.iconst 1, 1) := by decide +kernel
theorem dX4_joined_112 : decode cX4_joined 112 = .ok (.goto 4, 3) := by decide +kernel
theorem dX4_joined_115 : decode cX4_joined 115 = .ok (.iconst 0, 1) := by decide +kernel
theorem dX4_joined_116 : decode cX4_joined 116 = .ok (.ireturn, 1) := by decide +kernel
theorem dX5_init_0 : decode cX5_init 0 = .ok (.aload_n 0, 1) := by decide +kernel
theorem dX5_init_1 : decode cX5_init 1 = .ok (.invokespecial 3, 3) := by decide +kernel
theorem dX5_init_4 : decode cX5_init 4 = .ok (.return_, 1) := by decide +kernel
theorem dX5_read_0 : decode cX5_read 0 = .ok (.aload_n 0, 1) := by decide +kernel
theorem dX5_read_1 : decode cX5_read 1 = .ok (.aload_n 1, 1) := by decide +kernel
theorem dX5_read_2 : decode cX5_read 2 = .ok (.putfield 9, 3) := by decide +kernel
theorem dX5_read_5 : decode cX5_read 5 = .ok (.aload_n 0, 1) := by decide +kernel
theorem dX5_read_6 : decode cX5_read 6 = .ok (.aload_n 2, 1) := by decide +kernel
theorem dX5_read_7 : decode cX5_read 7 = .ok (.putfield 15, 3) := by decide +kernel
theorem dX5_read_10 : decode cX5_read 10 = .ok (.aload_n 0, 1) := by decide +kernel
theorem dX5_read_11 : decode cX5_read 11 = .ok (.iconst 0, 1) := by decide +kernel
theorem dX5_read_12 : decode cX5_read 12 = .ok (.putfield 19, 3) := by decide +kernel
theorem dX5_read_15 : decode cX5_read 15 = .ok (.aload_n 0, 1) := by decide +kernel
theorem dX5_read_16 : decode cX5_read 16 = .ok (.aload_n 1, 1) := by decide +kernel
theorem dX5_read_17 : decode cX5_read 17 = .ok (.getfield 23, 3) := by decide +kernel
theorem dX5_read_20 : decode cX5_read 20 = .ok (.bipush 40, 2) := by decide +kernel
theorem dX5_read_22 : decode cX5_read 22 = .ok (.invokestatic 28, 3) := by decide +kernel
theorem dX5_read_25 : decode cX5_read 25 = .ok (.putfield 34, 3) := by decide +kernel
theorem dX5_read_28 : decode cX5_read 28 = .ok (.aload_n 1, 1) := by decide +kernel
theorem dX5_read_29 : decode cX5_read 29 = .ok (.getfield 23, 3) := by decide +kernel
theorem dX5_read_32 : decode cX5_read 32 = .ok (.ifCond .ne 9, 3) := by decide +kernel
theorem dX5_read_35 : decode cX5_read 35 = .ok (.aload_n 2, 1) := by decide +kernel
theorem dX5_read_36 : decode cX5_read 36 = .ok (.invokevirtual 37, 3) := by decide +kernel
theorem dX5_read_39 : decode cX5_read 39 = .ok (.iconst (-1), 1) := by decide +kernel
theorem dX5_read_40 : decode cX5_read 40 = .ok (.ireturn, 1) := by decide +kernel
theorem dX5_read_41 : decode cX5_read 41 = .ok (.aload_n 2, 1) := by decide +kernel
theorem dX5_read_42 : decode cX5_read 42 = .ok (.invokevirtual 42, 3) := by decide +kernel
theorem dX5_read_45 : decode cX5_read 45 = .ok (.aload_n 0, 1) := by decide +kernel
theorem dX5_read_46 : decode cX5_read 46 = .ok (.iconst 0, 1) := by decide +kernel
theorem dX5_read_47 : decode cX5_read 47 = .ok (.invokevirtual 45, 3) := by decide +kernel
theorem dX5_read_50 : decode cX5_read 50 = .ok (.ifCond .eq 27, 3) := by decide +kernel
theorem dX5_read_53 : decode cX5_read 53 = .ok (.aload_n 0, 1) := by decide +kernel
theorem dX5_read_54 : decode cX5_read 54 = .ok (.getfield 19, 3) := by decide +kernel
theorem dX5_read_57 : decode cX5_read 57 = .ok (.aload_n 0, 1) := by decide +kernel
theorem dX5_read_58 : decode cX5_read 58 = .ok (.getfield 34, 3) := by decide +kernel
theorem dX5_read_61 : decode cX5_read 61 = .ok (.if_icmp .ne 16, 3) := by decide +kernel
theorem dX5_read_64 : decode cX5_read 64 = .ok (.aload_n 1, 1) := by decide +kernel
theorem dX5_read_65 : decode cX5_read 65 = .ok (.getfield 23, 3) := by decide +kernel
theorem dX5_read_68 : decode cX5_read 68 = .ok (.bipush 40, 2) := by decide +kernel
theorem dX5_read_70 : decode cX5_read 70 = .ok (.if_icmp .gt 7, 3) := by decide +kernel
theorem dX5_read_73 : decode cX5_read 73 = .ok (.iconst 1, 1) := by decide +kernel
theorem dX5_read_74 : decode cX5_read 74 = .ok (.goto 4, 3) := by decide +kernel
theorem dX5_read_77 : decode cX5_read 77 = .ok (.iconst 0, 1) := by decide +kernel
theorem dX5_read_78 : decode cX5_read 78 = .ok (.istore_n 3, 1) := by decide +kernel
theorem dX5_read_79 : decode cX5_read 79 = .ok (.iload_n 3, 1) := by decide +kernel
theorem dX5_read_80 : decode cX5_read 80 = .ok (.ifCond .eq 7, 3) := by decide +kernel
theorem dX5_read_83 : decode cX5_read 83 = .ok (.iconst (-1), 1) := by decide +kernel
theorem dX5_read_84 : decode cX5_read 84 = .ok (.goto 7, 3) := by decide +kernel
theorem dX5_read_87 : decode cX5_read 87 = .ok (.aload_n 0, 1) := by decide +kernel
theorem dX5_read_88 : decode cX5_read 88 = .ok (.getfield 19, 3) := by decide +kernel
theorem dX5_read_91 : decode cX5_read 91 = .ok (.ireturn, 1) := by decide +kernel
theorem dX5_next_0 : decode cX5_next 0 = .ok (.aload_n 0, 1) := by decide +kernel
theorem dX5_next_1 : decode cX5_next 1 = .ok (.getfield 19, 3) := by decide +kernel
theorem dX5_next_4 : decode cX5_next 4 = .ok (.aload_n 0, 1) := by decide +kernel
theorem dX5_next_5 : decode cX5_next 5 = .ok (.getfield 34, 3) := by decide +kernel
theorem dX5_next_8 : decode cX5_next 8 = .ok (.if_icmp .ge 24, 3) := by decide +kernel
theorem dX5_next_11 : decode cX5_next 11 = .ok (.aload_n 0, 1) := by decide +kernel
theorem dX5_next_12 : decode cX5_next 12 = .ok (.getfield 9, 3) := by decide +kernel
theorem dX5_next_15 : decode cX5_next 15 = .ok (.ifnull 17, 3) := by decide +kernel
theorem dX5_next_18 : decode cX5_next 18 = .ok (.aload_n 0, 1) := by decide +kernel
theorem dX5_next_19 : decode cX5_next 19 = .ok (.getfield 9, 3) := by decide +kernel
theorem dX5_next_22 : decode cX5_next 22 = .ok (.aload_n 0, 1) := by decide +kernel
theorem dX5_next_23 : decode cX5_next 23 = .ok (.getfield 19, 3) := by decide +kernel
theorem dX5_next_26 : decode cX5_next 26 = .ok (.invokevirtual 49, 3) := by decide +kernel
theorem dX5_next_29 : decode cX5_next 29 = .ok (.goto 4, 3) := by decide +kernel
theorem dX5_next_32 : decode cX5_next 32 = .ok (.iconst (-1), 1) := by decide +kernel
theorem dX5_next_33 : decode cX5_next 33 = .ok (.ireturn, 1) := by decide +kernel
theorem dX5_write_0 : decode cX5_write 0 = .ok (.aload_n 0, 1) := by decide +kernel
theorem dX5_write_1 : decode cX5_write 1 = .ok (.getfield 15, 3) := by decide +kernel
theorem dX5_write_4 : decode cX5_write 4 = .ok (.ifnull 11, 3) := by decide +kernel
theorem dX5_write_7 : decode cX5_write 7 = .ok (.aload_n 0, 1) := by decide +kernel
theorem dX5_write_8 : decode cX5_write 8 = .ok (.getfield 15, 3) := by decide +kernel
theorem dX5_write_11 : decode cX5_write 11 = .ok (.iload_n 1, 1) := by decide +kernel
theorem dX5_write_12 : decode cX5_write 12 = .ok (.invokevirtual 53, 3) := by decide +kernel
theorem dX5_write_15 : decode cX5_write 15 = .ok (.return_, 1) := by decide +kernel
theorem dX5_expression_0 : decode cX5_expression 0 = .ok (.aload_n 0, 1) := by decide +kernel
theorem dX5_expression_1 : decode cX5_expression 1 = .ok (.iload_n 1, 1) := by decide +kernel
theorem dX5_expression_2 : decode cX5_expression 2 = .ok (.invokevirtual 57, 3) := by decide +kernel
theorem dX5_expression_5 : decode cX5_expression 5 = .ok (.ifCond .ne 5, 3) := by decide +kernel
theorem dX5_expression_8 : decode cX5_expression 8 = .ok (.iconst 0, 1) := by decide +kernel
theorem dX5_expression_9 : decode cX5_expression 9 = .ok (.ireturn, 1) := by decide +kernel
theorem dX5_expression_10 : decode cX5_expression 10 = .ok (.aload_n 0, 1) := by decide +kernel
theorem dX5_expression_11 : decode cX5_expression 11 = .ok (.invokevirtual 60, 3) := by decide +kernel
theorem dX5_expression_14 : decode cX5_expression 14 = .ok (.istore_n 2, 1) := by decide +kernel
theorem dX5_expression_15 : decode cX5_expression 15 = .ok (.iload_n 2, 1) := by decide +kernel
theorem dX5_expression_16 : decode cX5_expression 16 = .ok (.invokestatic 64, 3) := by decide +kernel
theorem dX5_expression_19 : decode cX5_expression 19 = .ok (.ifCond .ne 5, 3) := by decide +kernel
theorem dX5_expression_22 : decode cX5_expression 22 = .ok (.iconst 1, 1) := by decide +kernel
theorem dX5_expression_23 : decode cX5_expression 23 = .ok (.ireturn, 1) := by decide +kernel
theorem dX5_expression_24 : decode cX5_expression 24 = .ok (.aload_n 0, 1) := by decide +kernel
theorem dX5_expression_25 : decode cX5_expression 25 = .ok (.dup, 1) := by decide +kernel
theorem dX5_expression_26 : decode cX5_expression 26 = .ok (.getfield 19, 3) := by decide +kernel
theorem dX5_expression_29 : decode cX5_expression 29 = .ok (.iconst 1, 1) := by decide +kernel
theorem dX5_expression_30 : decode cX5_expression 30 = .ok (.iadd, 1) := by decide +kernel
theorem dX5_expression_31 : decode cX5_expression 31 = .ok (.putfield 19, 3) := by decide +kernel
theorem dX5_expression_34 : decode cX5_expression 34 = .ok (.aload_n 0, 1) := by decide +kernel
theorem dX5_expression_35 : decode cX5_expression 35 = .ok (.iload_n 1, 1) := by decide +kernel
theorem dX5_expression_36 : decode cX5_expression 36 = .ok (.invokevirtual 57, 3) := by decide +kernel
theorem dX5_expression_39 : decode cX5_expression 39 = .ok (.ifCond .ne 5, 3) := by decide +kernel
theorem dX5_expression_42 : decode cX5_expression 42 = .ok (.iconst 0, 1) := by decide +kernel
theorem dX5_expression_43 : decode cX5_expression 43 = .ok (.ireturn, 1) := by decide +kernel
theorem dX5_expression_44 : decode cX5_expression 44 = .ok (.aload_n 0, 1) := by decide +kernel
theorem dX5_expression_45 : decode cX5_expression 45 = .ok (.iload_n 2, 1) := by decide +kernel
theorem dX5_expression_46 : decode cX5_expression 46 = .ok (.invokevirtual 67, 3) := by decide +kernel
theorem dX5_expression_49 : decode cX5_expression 49 = .ok (.iconst 1, 1) := by decide +kernel
theorem dX5_expression_50 : decode cX5_expression 50 = .ok (.ireturn, 1) := by decide +kernel
theorem dX5_sum_0 : decode cX5_sum 0 = .ok (.aload_n 0, 1) := by decide +kernel
theorem dX5_sum_1 : decode cX5_sum 1 = .ok (.iload_n 1, 1) := by decide +kernel
theorem dX5_sum_2 : decode cX5_sum 2 = .ok (.invokevirtual 70, 3) := by decide +kernel
theorem dX5_sum_5 : decode cX5_sum 5 = .ok (.ifCond .ne 5, 3) := by decide +kernel
theorem dX5_sum_8 : decode cX5_sum 8 = .ok (.iconst 0, 1) := by decide +kernel
theorem dX5_sum_9 : decode cX5_sum 9 = .ok (.ireturn, 1) := by decide +kernel
theorem dX5_sum_10 : decode cX5_sum 10 = .ok (.iconst 0, 1) := by decide +kernel
theorem dX5_sum_11 : decode cX5_sum 11 = .ok (.istore_n 2, 1) := by decide +kernel
theorem dX5_sum_12 : decode cX5_sum 12 = .ok (.iload_n 2, 1) := by decide +kernel
theorem dX5_sum_13 : decode cX5_sum 13 = .ok (.bipush 40, 2) := by decide +kernel
theorem dX5_sum_15 : decode cX5_sum 15 = .ok (.if_icmp .ge 57, 3) := by decide +kernel
theorem dX5_sum_18 : decode cX5_sum 18 = .ok (.aload_n 0, 1) := by decide +kernel
theorem dX5_sum_19 : decode cX5_sum 19 = .ok (.invokevirtual 60, 3) := by decide +kernel
theorem dX5_sum_22 : decode cX5_sum 22 = .ok (.bipush 43, 2) := by decide +kernel
theorem dX5_sum_24 : decode cX5_sum 24 = .ok (.if_icmp .eq 12, 3) := by decide +kernel
theorem dX5_sum_27 : decode cX5_sum 27 = .ok (.aload_n 0, 1) := by decide +kernel
theorem dX5_sum_28 : decode cX5_sum 28 = .ok (.invokevirtual 60, 3) := by decide +kernel
theorem dX5_sum_31 : decode cX5_sum 31 = .ok (.bipush 45, 2) := by decide +kernel
theorem dX5_sum_33 : decode cX5_sum 33 = .ok (.if_icmp .ne 39, 3) := by decide +kernel
theorem dX5_sum_36 : decode cX5_sum 36 = .ok (.aload_n 0, 1) := by decide +kernel
theorem dX5_sum_37 : decode cX5_sum 37 = .ok (.invokevirtual 60, 3) := by decide +kernel
theorem dX5_sum_40 : decode cX5_sum 40 = .ok (.istore_n 3, 1) := by decide +kernel
theorem dX5_sum_41 : decode cX5_sum 41 = .ok (.aload_n 0, 1) := by decide +kernel
theorem dX5_sum_42 : decode cX5_sum 42 = .ok (.dup, 1) := by decide +kernel
theorem dX5_sum_43 : decode cX5_sum 43 = .ok (.getfield 19, 3) := by decide +kernel
theorem dX5_sum_46 : decode cX5_sum 46 = .ok (.iconst 1, 1) := by decide +kernel
theorem dX5_sum_47 : decode cX5_sum 47 = .ok (.iadd, 1) := by decide +kernel
theorem dX5_sum_48 : decode cX5_sum 48 = .ok (.putfield 19, 3) := by decide +kernel
theorem dX5_sum_51 : decode cX5_sum 51 = .ok (.aload_n 0, 1) := by decide +kernel
theorem dX5_sum_52 : decode cX5_sum 52 = .ok (.iload_n 1, 1) := by decide +kernel
theorem dX5_sum_53 : decode cX5_sum 53 = .ok (.invokevirtual 70, 3) := by decide +kernel
theorem dX5_sum_56 : decode cX5_sum 56 = .ok (.ifCond .ne 5, 3) := by decide +kernel
theorem dX5_sum_59 : decode cX5_sum 59 = .ok (.iconst 0, 1) := by decide +kernel
theorem dX5_sum_60 : decode cX5_sum 60 = .ok (.ireturn, 1) := by decide +kernel
theorem dX5_sum_61 : decode cX5_sum 61 = .ok (.aload_n 0, 1) := by decide +kernel
theorem dX5_sum_62 : decode cX5_sum 62 = .ok (.iload_n 3, 1) := by decide +kernel
theorem dX5_sum_63 : decode cX5_sum 63 = .ok (.invokevirtual 67, 3) := by decide +kernel
theorem dX5_sum_66 : decode cX5_sum 66 = .ok (.iinc 2 1, 3) := by decide +kernel
theorem dX5_sum_69 : decode cX5_sum 69 = .ok (.goto (-57), 3) := by decide +kernel
theorem dX5_sum_72 : decode cX5_sum 72 = .ok (.iconst 1, 1) := by decide +kernel
theorem dX5_sum_73 : decode cX5_sum 73 = .ok (.ireturn, 1) := by decide +kernel
theorem dX5_product_0 : decode cX5_product 0 = .ok (.aload_n 0, 1) := by decide +kernel
theorem dX5_product_1 : decode cX5_product 1 = .ok (.iload_n 1, 1) := by decide +kernel
theorem dX5_product_2 : decode cX5_product 2 = .ok (.invokevirtual 73, 3) := by decide +kernel
theorem dX5_product_5 : decode cX5_product 5 = .ok (.ifCond .ne 5, 3) := by decide +kernel
theorem dX5_product_8 : decode cX5_product 8 = .ok (.iconst 0, 1) := by decide +kernel
theorem dX5_product_9 : decode cX5_product 9 = .ok (.ireturn, 1) := by decide +kernel
theorem dX5_product_10 : decode cX5_product 10 = .ok (.iconst 0, 1) := by decide +kernel
theorem dX5_product_11 : decode cX5_product 11 = .ok (.istore_n 2, 1) := by decide +kernel
theorem dX5_product_12 : decode cX5_product 12 = .ok (.iload_n 2, 1) := by decide +kernel
theorem dX5_product_13 : decode cX5_product 13 = .ok (.bipush 40, 2) := by decide +kernel
theorem dX5_product_15 : decode cX5_product 15 = .ok (.if_icmp .ge 57, 3) := by decide +kernel
theorem dX5_product_18 : decode cX5_product 18 = .ok (.aload_n 0, 1) := by decide +kernel
theorem dX5_product_19 : decode cX5_product 19 = .ok (.invokevirtual 60, 3) := by decide +kernel
theorem dX5_product_22 : decode cX5_product 22 = .ok (.bipush 42, 2) := by decide +kernel
theorem dX5_product_24 : decode cX5_product 24 = .ok (.if_icmp .eq 12, 3) := by decide +kernel
theorem dX5_product_27 : decode cX5_product 27 = .ok (.aload_n 0, 1) := by decide +kernel
theorem dX5_product_28 : decode cX5_product 28 = .ok (.invokevirtual 60, 3) := by decide +kernel
theorem dX5_product_31 : decode cX5_product 31 = .ok (.bipush 47, 2) := by decide +kernel
theorem dX5_product_33 : decode cX5_product 33 = .ok (.if_icmp .ne 39, 3) := by decide +kernel
theorem dX5_product_36 : decode cX5_product 36 = .ok (.aload_n 0, 1) := by decide +kernel
theorem dX5_product_37 : decode cX5_product 37 = .ok (.invokevirtual 60, 3) := by decide +kernel
theorem dX5_product_40 : decode cX5_product 40 = .ok (.istore_n 3, 1) := by decide +kernel
theorem dX5_product_41 : decode cX5_product 41 = .ok (.aload_n 0, 1) := by decide +kernel
theorem dX5_product_42 : decode cX5_product 42 = .ok (.dup, 1) := by decide +kernel
theorem dX5_product_43 : decode cX5_product 43 = .ok (.getfield 19, 3) := by decide +kernel
theorem dX5_product_46 : decode cX5_product 46 = .ok (.iconst 1, 1) := by decide +kernel
theorem dX5_product_47 : decode cX5_product 47 = .ok (.iadd, 1) := by decide +kernel
theorem dX5_product_48 : decode cX5_product 48 = .ok (.putfield 19, 3) := by decide +kernel
theorem dX5_product_51 : decode cX5_product 51 = .ok (.aload_n 0, 1) := by decide +kernel
theorem dX5_product_52 : decode cX5_product 52 = .ok (.iload_n 1, 1) := by decide +kernel
theorem dX5_product_53 : decode cX5_product 53 = .ok (.invokevirtual 73, 3) := by decide +kernel
theorem dX5_product_56 : decode cX5_product 56 = .ok (.ifCond .ne 5, 3) := by decide +kernel
theorem dX5_product_59 : decode cX5_product 59 = .ok (.iconst 0, 1) := by decide +kernel
theorem dX5_product_60 : decode cX5_product 60 = .ok (.ireturn, 1) := by decide +kernel
theorem dX5_product_61 : decode cX5_product 61 = .ok (.aload_n 0, 1) := by decide +kernel
theorem dX5_product_62 : decode cX5_product 62 = .ok (.iload_n 3, 1) := by decide +kernel
theorem dX5_product_63 : decode cX5_product 63 = .ok (.invokevirtual 67, 3) := by decide +kernel
theorem dX5_product_66 : decode cX5_product 66 = .ok (.iinc 2 1, 3) := by decide +kernel
theorem dX5_product_69 : decode cX5_product 69 = .ok (.goto (-57), 3) := by decide +kernel
theorem dX5_product_72 : decode cX5_product 72 = .ok (.iconst 1, 1) := by decide +kernel
theorem dX5_product_73 : decode cX5_product 73 = .ok (.ireturn, 1) := by decide +kernel
theorem dX5_signedThing_0 : decode cX5_signedThing 0 = .ok (.iconst 0, 1) := by decide +kernel
theorem dX5_signedThing_1 : decode cX5_signedThing 1 = .ok (.istore_n 2, 1) := by decide +kernel
theorem dX5_signedThing_2 : decode cX5_signedThing 2 = .ok (.iconst 0, 1) := by decide +kernel
theorem dX5_signedThing_3 : decode cX5_signedThing 3 = .ok (.istore_n 3, 1) := by decide +kernel
theorem dX5_signedThing_4 : decode cX5_signedThing 4 = .ok (.iload_n 3, 1) := by decide +kernel
theorem dX5_signedThing_5 : decode cX5_signedThing 5 = .ok (.bipush 40, 2) := by decide +kernel
theorem dX5_signedThing_7 : decode cX5_signedThing 7 = .ok (.if_icmp .ge 38, 3) := by decide +kernel
theorem dX5_signedThing_10 : decode cX5_signedThing 10 = .ok (.aload_n 0, 1) := by decide +kernel
theorem dX5_signedThing_11 : decode cX5_signedThing 11 = .ok (.invokevirtual 60, 3) := by decide +kernel
theorem dX5_signedThing_14 : decode cX5_signedThing 14 = .ok (.bipush 45, 2) := by decide +kernel
theorem dX5_signedThing_16 : decode cX5_signedThing 16 = .ok (.if_icmp .ne 29, 3) := by decide +kernel
theorem dX5_signedThing_19 : decode cX5_signedThing 19 = .ok (.iload_n 2, 1) := by decide +kernel
theorem dX5_signedThing_20 : decode cX5_signedThing 20 = .ok (.ifCond .ne 7, 3) := by decide +kernel
theorem dX5_signedThing_23 : decode cX5_signedThing 23 = .ok (.iconst 1, 1) := by decide +kernel
theorem dX5_signedThing_24 : decode cX5_signedThing 24 = .ok (.goto 4, 3) := by decide +kernel
theorem dX5_signedThing_27 : decode cX5_signedThing 27 = .ok (.iconst 0, 1) := by decide +kernel
theorem dX5_signedThing_28 : decode cX5_signedThing 28 = .ok (.istore_n 2, 1) := by decide +kernel
theorem dX5_signedThing_29 : decode cX5_signedThing 29 = .ok (.aload_n 0, 1) := by decide +kernel
theorem dX5_signedThing_30 : decode cX5_signedThing 30 = .ok (.dup, 1) := by decide +kernel
theorem dX5_signedThing_31 : decode cX5_signedThing 31 = .ok (.getfield 19, 3) := by decide +kernel
theorem dX5_signedThing_34 : decode cX5_signedThing 34 = .ok (.iconst 1, 1) := by decide +kernel
theorem dX5_signedThing_35 : decode cX5_signedThing 35 = .ok (.iadd, 1) := by decide +kernel
theorem dX5_signedThing_36 : decode cX5_signedThing 36 = .ok (.putfield 19, 3) := by decide +kernel
theorem dX5_signedThing_39 : decode cX5_signedThing 39 = .ok (.iinc 3 1, 3) := by decide +kernel
theorem dX5_signedThing_42 : decode cX5_signedThing 42 = .ok (.goto (-38), 3) := by decide +kernel
theorem dX5_signedThing_45 : decode cX5_signedThing 45 = .ok (.aload_n 0, 1) := by decide +kernel
theorem dX5_signedThing_46 : decode cX5_signedThing 46 = .ok (.iload_n 1, 1) := by decide +kernel
theorem dX5_signedThing_47 : decode cX5_signedThing 47 = .ok (.invokevirtual 76, 3) := by decide +kernel
theorem dX5_signedThing_50 : decode cX5_signedThing 50 = .ok (.ifCond .ne 5, 3) := by decide +kernel
theorem dX5_signedThing_53 : decode cX5_signedThing 53 = .ok (.iconst 0, 1) := by decide +kernel
theorem dX5_signedThing_54 : decode cX5_signedThing 54 = .ok (.ireturn, 1) := by decide +kernel
theorem dX5_signedThing_55 : decode cX5_signedThing 55 = .ok (.iload_n 2, 1) := by decide +kernel
theorem dX5_signedThing_56 : decode cX5_signedThing 56 = .ok (.ifCond .eq 9, 3) := by decide +kernel
theorem dX5_signedThing_59 : decode cX5_signedThing 59 = .ok (.aload_n 0, 1) := by decide +kernel
theorem dX5_signedThing_60 : decode cX5_signedThing 60 = .ok (.bipush 126, 2) := by decide +kernel
theorem dX5_signedThing_62 : decode cX5_signedThing 62 = .ok (.invokevirtual 67, 3) := by decide +kernel
theorem dX5_signedThing_65 : decode cX5_signedThing 65 = .ok (.iconst 1, 1) := by decide +kernel
theorem dX5_signedThing_66 : decode cX5_signedThing 66 = .ok (.ireturn, 1) := by decide +kernel
theorem dX5_thing_0 : decode cX5_thing 0 = .ok (.aload_n 0, 1) := by decide +kernel
theorem dX5_thing_1 : decode cX5_thing 1 = .ok (.invokevirtual 60, 3) := by decide +kernel
theorem dX5_thing_4 : decode cX5_thing 4 = .ok (.istore_n 2, 1) := by decide +kernel
theorem dX5_thing_5 : decode cX5_thing 5 = .ok (.iload_n 2, 1) := by decide +kernel
theorem dX5_thing_6 : decode cX5_thing 6 = .ok (.bipush 48, 2) := by decide +kernel
theorem dX5_thing_8 : decode cX5_thing 8 = .ok (.if_icmp .lt 15, 3) := by decide +kernel
theorem dX5_thing_11 : decode cX5_thing 11 = .ok (.iload_n 2, 1) := by decide +kernel
theorem dX5_thing_12 : decode cX5_thing 12 = .ok (.bipush 57, 2) := by decide +kernel
theorem dX5_thing_14 : decode cX5_thing 14 = .ok (.if_icmp .gt 9, 3) := by decide +kernel
theorem dX5_thing_17 : decode cX5_thing 17 = .ok (.aload_n 0, 1) := by decide +kernel
theorem dX5_thing_18 : decode cX5_thing 18 = .ok (.invokevirtual 79, 3) := by decide +kernel
theorem dX5_thing_21 : decode cX5_thing 21 = .ok (.iconst 1, 1) := by decide +kernel
theorem dX5_thing_22 : decode cX5_thing 22 = .ok (.ireturn, 1) := by decide +kernel
theorem dX5_thing_23 : decode cX5_thing 23 = .ok (.iload_n 2, 1) := by decide +kernel
theorem dX5_thing_24 : decode cX5_thing 24 = .ok (.invokestatic 82, 3) := by decide +kernel
theorem dX5_thing_27 : decode cX5_thing 27 = .ok (.ifCond .eq 20, 3) := by decide +kernel
theorem dX5_thing_30 : decode cX5_thing 30 = .ok (.aload_n 0, 1) := by decide +kernel
theorem dX5_thing_31 : decode cX5_thing 31 = .ok (.dup, 1) := by decide +kernel
theorem dX5_thing_32 : decode cX5_thing 32 = .ok (.getfield 19, 3) := by decide +kernel
theorem dX5_thing_35 : decode cX5_thing 35 = .ok (.iconst 1, 1) := by decide +kernel
theorem dX5_thing_36 : decode cX5_thing 36 = .ok (.iadd, 1) := by decide +kernel
theorem dX5_thing_37 : decode cX5_thing 37 = .ok (.putfield 19, 3) := by decide +kernel
theorem dX5_thing_40 : decode cX5_thing 40 = .ok (.aload_n 0, 1) := by decide +kernel
theorem dX5_thing_41 : decode cX5_thing 41 = .ok (.iload_n 2, 1) := by decide +kernel
theorem dX5_thing_42 : decode cX5_thing 42 = .ok (.invokevirtual 67, 3) := by decide +kernel
theorem dX5_thing_45 : decode cX5_thing 45 = .ok (.iconst 1, 1) := by decide +kernel
theorem dX5_thing_46 : decode cX5_thing 46 = .ok (.ireturn, 1) := by decide +kernel
theorem dX5_thing_47 : decode cX5_thing 47 = .ok (.iload_n 2, 1) := by decide +kernel
theorem dX5_thing_48 : decode cX5_thing 48 = .ok (.bipush 40, 2) := by decide +kernel
theorem dX5_thing_50 : decode cX5_thing 50 = .ok (.if_icmp .ne 8, 3) := by decide +kernel
theorem dX5_thing_53 : decode cX5_thing 53 = .ok (.iload_n 1, 1) := by decide +kernel
theorem dX5_thing_54 : decode cX5_thing 54 = .ok (.iconst 4, 1) := by decide +kernel
theorem dX5_thing_55 : decode cX5_thing 55 = .ok (.if_icmp .lt 5, 3) := by decide +kernel
theorem dX5_thing_58 : decode cX5_thing 58 = .ok (.iconst 0, 1) := by decide +kernel
theorem dX5_thing_59 : decode cX5_thing 59 = .ok (.ireturn, 1) := by decide +kernel
theorem dX5_thing_60 : decode cX5_thing 60 = .ok (.aload_n 0, 1) := by decide +kernel
theorem dX5_thing_61 : decode cX5_thing 61 = .ok (.dup, 1) := by decide +kernel
theorem dX5_thing_62 : decode cX5_thing 62 = .ok (.getfield 19, 3) := by decide +kernel
theorem dX5_thing_65 : decode cX5_thing 65 = .ok (.iconst 1, 1) := by decide +kernel
theorem dX5_thing_66 : decode cX5_thing 66 = .ok (.iadd, 1) := by decide +kernel
theorem dX5_thing_67 : decode cX5_thing 67 = .ok (.putfield 19, 3) := by decide +kernel
theorem dX5_thing_70 : decode cX5_thing 70 = .ok (.aload_n 0, 1) := by decide +kernel
theorem dX5_thing_71 : decode cX5_thing 71 = .ok (.iload_n 1, 1) := by decide +kernel
theorem dX5_thing_72 : decode cX5_thing 72 = .ok (.iconst 1, 1) := by decide +kernel
theorem dX5_thing_73 : decode cX5_thing 73 = .ok (.iadd, 1) := by decide +kernel
theorem dX5_thing_74 : decode cX5_thing 74 = .ok (.invokevirtual 45, 3) := by decide +kernel
theorem dX5_thing_77 : decode cX5_thing 77 = .ok (.ifCond .eq 12, 3) := by decide +kernel
theorem dX5_thing_80 : decode cX5_thing 80 = .ok (.aload_n 0, 1) := by decide +kernel
theorem dX5_thing_81 : decode cX5_thing 81 = .ok (.invokevirtual 60, 3) := by decide +kernel
theorem dX5_thing_84 : decode cX5_thing 84 = .ok (.bipush 41, 2) := by decide +kernel
theorem dX5_thing_86 : decode cX5_thing 86 = .ok (.if_icmp .eq 5, 3) := by decide +kernel
theorem dX5_thing_89 : decode cX5_thing 89 = .ok (.iconst 0, 1) := by decide +kernel
theorem dX5_thing_90 : decode cX5_thing 90 = .ok (.ireturn, 1) := by decide +kernel
theorem dX5_thing_91 : decode cX5_thing 91 = .ok (.aload_n 0, 1) := by decide +kernel
theorem dX5_thing_92 : decode cX5_thing 92 = .ok (.dup, 1) := by decide +kernel
theorem dX5_thing_93 : decode cX5_thing 93 = .ok (.getfield 19, 3) := by decide +kernel
theorem dX5_thing_96 : decode cX5_thing 96 = .ok (.iconst 1, 1) := by decide +kernel
theorem dX5_thing_97 : decode cX5_thing 97 = .ok (.iadd, 1) := by decide +kernel
theorem dX5_thing_98 : decode cX5_thing 98 = .ok (.putfield 19, 3) := by decide +kernel
theorem dX5_thing_101 : decode cX5_thing 101 = .ok (.iconst 1, 1) := by decide +kernel
theorem dX5_thing_102 : decode cX5_thing 102 = .ok (.ireturn, 1) := by decide +kernel
theorem dX5_number_0 : decode cX5_number 0 = .ok (.iconst 0, 1) := by decide +kernel
theorem dX5_number_1 : decode cX5_number 1 = .ok (.istore_n 1, 1) := by decide +kernel
theorem dX5_number_2 : decode cX5_number 2 = .ok (.iconst 0, 1) := by decide +kernel
theorem dX5_number_3 : decode cX5_number 3 = .ok (.istore_n 2, 1) := by decide +kernel
theorem dX5_number_4 : decode cX5_number 4 = .ok (.iload_n 2, 1) := by decide +kernel
theorem dX5_number_5 : decode cX5_number 5 = .ok (.iconst 3, 1) := by decide +kernel
theorem dX5_number_6 : decode cX5_number 6 = .ok (.if_icmp .ge 50, 3) := by decide +kernel
theorem dX5_number_9 : decode cX5_number 9 = .ok (.aload_n 0, 1) := by decide +kernel
theorem dX5_number_10 : decode cX5_number 10 = .ok (.invokevirtual 60, 3) := by decide +kernel
theorem dX5_number_13 : decode cX5_number 13 = .ok (.bipush 48, 2) := by decide +kernel
theorem dX5_number_15 : decode cX5_number 15 = .ok (.if_icmp .lt 41, 3) := by decide +kernel
theorem dX5_number_18 : decode cX5_number 18 = .ok (.aload_n 0, 1) := by decide +kernel
theorem dX5_number_19 : decode cX5_number 19 = .ok (.invokevirtual 60, 3) := by decide +kernel
theorem dX5_number_22 : decode cX5_number 22 = .ok (.bipush 57, 2) := by decide +kernel
theorem dX5_number_24 : decode cX5_number 24 = .ok (.if_icmp .gt 32, 3) := by decide +kernel
theorem dX5_number_27 : decode cX5_number 27 = .ok (.iload_n 1, 1) := by decide +kernel
theorem dX5_number_28 : decode cX5_number 28 = .ok (.bipush 10, 2) := by decide +kernel
theorem dX5_number_30 : decode cX5_number 30 = .ok (.imul, 1) := by decide +kernel
theorem dX5_number_31 : decode cX5_number 31 = .ok (.aload_n 0, 1) := by decide +kernel
theorem dX5_number_32 : decode cX5_number 32 = .ok (.invokevirtual 60, 3) := by decide +kernel
theorem dX5_number_35 : decode cX5_number 35 = .ok (.iadd, 1) := by decide +kernel
theorem dX5_number_36 : decode cX5_number 36 = .ok (.bipush 48, 2) := by decide +kernel
theorem dX5_number_38 : decode cX5_number 38 = .ok (.isub, 1) := by decide +kernel
theorem dX5_number_39 : decode cX5_number 39 = .ok (.istore_n 1, 1) := by decide +kernel
theorem dX5_number_40 : decode cX5_number 40 = .ok (.aload_n 0, 1) := by decide +kernel
theorem dX5_number_41 : decode cX5_number 41 = .ok (.dup, 1) := by decide +kernel
theorem dX5_number_42 : decode cX5_number 42 = .ok (.getfield 19, 3) := by decide +kernel
theorem dX5_number_45 : decode cX5_number 45 = .ok (.iconst 1, 1) := by decide +kernel
theorem dX5_number_46 : decode cX5_number 46 = .ok (.iadd, 1) := by decide +kernel
theorem dX5_number_47 : decode cX5_number 47 = .ok (.putfield 19, 3) := by decide +kernel
theorem dX5_number_50 : decode cX5_number 50 = .ok (.iinc 2 1, 3) := by decide +kernel
theorem dX5_number_53 : decode cX5_number 53 = .ok (.goto (-49), 3) := by decide +kernel
theorem dX5_number_56 : decode cX5_number 56 = .ok (.aload_n 0, 1) := by decide +kernel
theorem dX5_number_57 : decode cX5_number 57 = .ok (.getfield 15, 3) := by decide +kernel
theorem dX5_number_60 : decode cX5_number 60 = .ok (.ifnull 11, 3) := by decide +kernel
theorem dX5_number_63 : decode cX5_number 63 = .ok (.aload_n 0, 1) := by decide +kernel
theorem dX5_number_64 : decode cX5_number 64 = .ok (.getfield 15, 3) := by decide +kernel
theorem dX5_number_67 : decode cX5_number 67 = .ok (.iload_n 1, 1) := by decide +kernel
theorem dX5_number_68 : decode cX5_number 68 = .ok (.invokevirtual 85, 3) := by decide +kernel
theorem dX5_number_71 : decode cX5_number 71 = .ok (.return_, 1) := by decide +kernel
theorem dX5_isLetter_0 : decode cX5_isLetter 0 = .ok (.iload_n 0, 1) := by decide +kernel
theorem dX5_isLetter_1 : decode cX5_isLetter 1 = .ok (.tableswitch 109 97 119 #[107, 109, 107, 109, 109, 109, 109, 107, 109, 109, 109, 109, 109, 107, 107, 109, 109, 107, 107, 109, 109, 109, 107], 107) := by decide +kernel
theorem dX5_isLetter_108 : decode cX5_isLetter 108 = .ok (.iconst 1, 1) := by decide +kernel
theorem dX5_isLetter_109 : decode cX5_isLetter 109 = .ok (.ireturn, 1) := by decide +kernel
theorem dX5_isLetter_110 : decode cX5_isLetter 110 = .ok (.iconst 0, 1) := by decide +kernel
theorem dX5_isLetter_111 : decode cX5_isLetter 111 = .ok (.ireturn, 1) := by decide +kernel
theorem dX6_init_0 : decode cX6_init 0 = .ok (.aload_n 0, 1) := by decide +kernel
theorem dX6_init_1 : decode cX6_init 1 = .ok (.invokespecial 3, 3) := by decide +kernel
theorem dX6_init_4 : decode cX6_init 4 = .ok (.aload_n 0, 1) := by decide +kernel
theorem dX6_init_5 : decode cX6_init 5 = .ok (.bipush 80, 2) := by decide +kernel
theorem dX6_init_7 : decode cX6_init 7 = .ok (.newarray .int, 2) := by decide +kernel
theorem dX6_init_9 : decode cX6_init 9 = .ok (.putfield 9, 3) := by decide +kernel
theorem dX6_init_12 : decode cX6_init 12 = .ok (.return_, 1) := by decide +kernel
theorem dX6_add_0 : decode cX6_add 0 = .ok (.aload_n 0, 1) := by decide +kernel
theorem dX6_add_1 : decode cX6_add 1 = .ok (.getfield 15, 3) := by decide +kernel
theorem dX6_add_4 : decode cX6_add 4 = .ok (.ifCond .lt 35, 3) := by decide +kernel
theorem dX6_add_7 : decode cX6_add 7 = .ok (.aload_n 0, 1) := by decide +kernel
theorem dX6_add_8 : decode cX6_add 8 = .ok (.getfield 15, 3) := by decide +kernel
theorem dX6_add_11 : decode cX6_add 11 = .ok (.aload_n 0, 1) := by decide +kernel
theorem dX6_add_12 : decode cX6_add 12 = .ok (.getfield 9, 3) := by decide +kernel
theorem dX6_add_15 : decode cX6_add 15 = .ok (.arraylength, 1) := by decide +kernel
theorem dX6_add_16 : decode cX6_add 16 = .ok (.if_icmp .ge 23, 3) := by decide +kernel
theorem dX6_add_19 : decode cX6_add 19 = .ok (.aload_n 0, 1) := by decide +kernel
theorem dX6_add_20 : decode cX6_add 20 = .ok (.getfield 9, 3) := by decide +kernel
theorem dX6_add_23 : decode cX6_add 23 = .ok (.aload_n 0, 1) := by decide +kernel
theorem dX6_add_24 : decode cX6_add 24 = .ok (.getfield 15, 3) := by decide +kernel
theorem dX6_add_27 : decode cX6_add 27 = .ok (.iload_n 1, 1) := by decide +kernel
theorem dX6_add_28 : decode cX6_add 28 = .ok (.iastore, 1) := by decide +kernel
theorem dX6_add_29 : decode cX6_add 29 = .ok (.aload_n 0, 1) := by decide +kernel
theorem dX6_add_30 : decode cX6_add 30 = .ok (.dup, 1) := by decide +kernel
theorem dX6_add_31 : decode cX6_add 31 = .ok (.getfield 15, 3) := by decide +kernel
theorem dX6_add_34 : decode cX6_add 34 = .ok (.iconst 1, 1) := by decide +kernel
theorem dX6_add_35 : decode cX6_add 35 = .ok (.iadd, 1) := by decide +kernel
theorem dX6_add_36 : decode cX6_add 36 = .ok (.putfield 15, 3) := by decide +kernel
theorem dX6_add_39 : decode cX6_add 39 = .ok (.return_, 1) := by decide +kernel
theorem dX6_get_0 : decode cX6_get 0 = .ok (.iload_n 1, 1) := by decide +kernel
theorem dX6_get_1 : decode cX6_get 1 = .ok (.ifCond .lt 20, 3) := by decide +kernel
theorem dX6_get_4 : decode cX6_get 4 = .ok (.iload_n 1, 1) := by decide +kernel
theorem dX6_get_5 : decode cX6_get 5 = .ok (.aload_n 0, 1) := by decide +kernel
theorem dX6_get_6 : decode cX6_get 6 = .ok (.getfield 15, 3) := by decide +kernel
theorem dX6_get_9 : decode cX6_get 9 = .ok (.if_icmp .ge 12, 3) := by decide +kernel
theorem dX6_get_12 : decode cX6_get 12 = .ok (.aload_n 0, 1) := by decide +kernel
theorem dX6_get_13 : decode cX6_get 13 = .ok (.getfield 9, 3) := by decide +kernel
theorem dX6_get_16 : decode cX6_get 16 = .ok (.iload_n 1, 1) := by decide +kernel
theorem dX6_get_17 : decode cX6_get 17 = .ok (.iaload, 1) := by decide +kernel
theorem dX6_get_18 : decode cX6_get 18 = .ok (.goto 4, 3) := by decide +kernel
theorem dX6_get_21 : decode cX6_get 21 = .ok (.iconst (-1), 1) := by decide +kernel
theorem dX6_get_22 : decode cX6_get 22 = .ok (.ireturn, 1) := by decide +kernel
theorem dX6_digit_0 : decode cX6_digit 0 = .ok (.iload_n 1, 1) := by decide +kernel
theorem dX6_digit_1 : decode cX6_digit 1 = .ok (.iload_n 2, 1) := by decide +kernel
theorem dX6_digit_2 : decode cX6_digit 2 = .ok (.if_icmp .ge 11, 3) := by decide +kernel
theorem dX6_digit_5 : decode cX6_digit 5 = .ok (.aload_n 0, 1) := by decide +kernel
theorem dX6_digit_6 : decode cX6_digit 6 = .ok (.iload_n 1, 1) := by decide +kernel
theorem dX6_digit_7 : decode cX6_digit 7 = .ok (.invokevirtual 19, 3) := by decide +kernel
theorem dX6_digit_10 : decode cX6_digit 10 = .ok (.goto 4, 3) := by decide +kernel
theorem dX6_digit_13 : decode cX6_digit 13 = .ok (.iconst (-1), 1) := by decide +kernel
theorem dX6_digit_14 : decode cX6_digit 14 = .ok (.istore_n 3, 1) := by decide +kernel
theorem dX6_digit_15 : decode cX6_digit 15 = .ok (.iload_n 3, 1) := by decide +kernel
theorem dX6_digit_16 : decode cX6_digit 16 = .ok (.bipush 48, 2) := by decide +kernel
theorem dX6_digit_18 : decode cX6_digit 18 = .ok (.if_icmp .lt 16, 3) := by decide +kernel
theorem dX6_digit_21 : decode cX6_digit 21 = .ok (.iload_n 3, 1) := by decide +kernel
theorem dX6_digit_22 : decode cX6_digit 22 = .ok (.bipush 57, 2) := by decide +kernel
theorem dX6_digit_24 : decode cX6_digit 24 = .ok (.if_icmp .gt 10, 3) := by decide +kernel
theorem dX6_digit_27 : decode cX6_digit 27 = .ok (.iload_n 3, 1) := by decide +kernel
theorem dX6_digit_28 : decode cX6_digit 28 = .ok (.bipush 48, 2) := by decide +kernel
theorem dX6_digit_30 : decode cX6_digit 30 = .ok (.isub, 1) := by decide +kernel
theorem dX6_digit_31 : decode cX6_digit 31 = .ok (.goto 4, 3) := by decide +kernel
theorem dX6_digit_34 : decode cX6_digit 34 = .ok (.iconst (-1), 1) := by decide +kernel
theorem dX6_digit_35 : decode cX6_digit 35 = .ok (.ireturn, 1) := by decide +kernel
theorem dX7_init_0 : decode cX7_init 0 = .ok (.aload_n 0, 1) := by decide +kernel
theorem dX7_init_1 : decode cX7_init 1 = .ok (.invokespecial 1, 3) := by decide +kernel
theorem dX7_init_4 : decode cX7_init 4 = .ok (.aload_n 0, 1) := by decide +kernel
theorem dX7_init_5 : decode cX7_init 5 = .ok (.sipush 128, 3) := by decide +kernel
theorem dX7_init_8 : decode cX7_init 8 = .ok (.newarray .long, 2) := by decide +kernel
theorem dX7_init_10 : decode cX7_init 10 = .ok (.putfield 7, 3) := by decide +kernel
theorem dX7_init_13 : decode cX7_init 13 = .ok (.return_, 1) := by decide +kernel
theorem dX7_start_0 : decode cX7_start 0 = .ok (.aload_n 0, 1) := by decide +kernel
theorem dX7_start_1 : decode cX7_start 1 = .ok (.iconst 0, 1) := by decide +kernel
theorem dX7_start_2 : decode cX7_start 2 = .ok (.putfield 13, 3) := by decide +kernel
theorem dX7_start_5 : decode cX7_start 5 = .ok (.return_, 1) := by decide +kernel
theorem dX7_add_0 : decode cX7_add 0 = .ok (.aload_n 0, 1) := by decide +kernel
theorem dX7_add_1 : decode cX7_add 1 = .ok (.getfield 13, 3) := by decide +kernel
theorem dX7_add_4 : decode cX7_add 4 = .ok (.aload_n 0, 1) := by decide +kernel
theorem dX7_add_5 : decode cX7_add 5 = .ok (.getfield 7, 3) := by decide +kernel
theorem dX7_add_8 : decode cX7_add 8 = .ok (.arraylength, 1) := by decide +kernel
theorem dX7_add_9 : decode cX7_add 9 = .ok (.if_icmp .ge 23, 3) := by decide +kernel
theorem dX7_add_12 : decode cX7_add 12 = .ok (.aload_n 0, 1) := by decide +kernel
theorem dX7_add_13 : decode cX7_add 13 = .ok (.getfield 7, 3) := by decide +kernel
theorem dX7_add_16 : decode cX7_add 16 = .ok (.aload_n 0, 1) := by decide +kernel
theorem dX7_add_17 : decode cX7_add 17 = .ok (.getfield 13, 3) := by decide +kernel
theorem dX7_add_20 : decode cX7_add 20 = .ok (.lload_n 1, 1) := by decide +kernel
theorem dX7_add_21 : decode cX7_add 21 = .ok (.lastore, 1) := by decide +kernel
theorem dX7_add_22 : decode cX7_add 22 = .ok (.aload_n 0, 1) := by decide +kernel
theorem dX7_add_23 : decode cX7_add 23 = .ok (.dup, 1) := by decide +kernel
theorem dX7_add_24 : decode cX7_add 24 = .ok (.getfield 13, 3) := by decide +kernel
theorem dX7_add_27 : decode cX7_add 27 = .ok (.iconst 1, 1) := by decide +kernel
theorem dX7_add_28 : decode cX7_add 28 = .ok (.iadd, 1) := by decide +kernel
theorem dX7_add_29 : decode cX7_add 29 = .ok (.putfield 13, 3) := by decide +kernel
theorem dX7_add_32 : decode cX7_add 32 = .ok (.return_, 1) := by decide +kernel
theorem dX7_turnRound_0 : decode cX7_turnRound 0 = .ok (.iconst 0, 1) := by decide +kernel
theorem dX7_turnRound_1 : decode cX7_turnRound 1 = .ok (.istore_n 1, 1) := by decide +kernel
theorem dX7_turnRound_2 : decode cX7_turnRound 2 = .ok (.iload_n 1, 1) := by decide +kernel
theorem dX7_turnRound_3 : decode cX7_turnRound 3 = .ok (.aload_n 0, 1) := by decide +kernel
theorem dX7_turnRound_4 : decode cX7_turnRound 4 = .ok (.getfield 13, 3) := by decide +kernel
theorem dX7_turnRound_7 : decode cX7_turnRound 7 = .ok (.iconst 2, 1) := by decide +kernel
theorem dX7_turnRound_8 : decode cX7_turnRound 8 = .ok (.idiv, 1) := by decide +kernel
theorem dX7_turnRound_9 : decode cX7_turnRound 9 = .ok (.if_icmp .ge 49, 3) := by decide +kernel
theorem dX7_turnRound_12 : decode cX7_turnRound 12 = .ok (.aload_n 0, 1) := by decide +kernel
theorem dX7_turnRound_13 : decode cX7_turnRound 13 = .ok (.getfield 7, 3) := by decide +kernel
theorem dX7_turnRound_16 : decode cX7_turnRound 16 = .ok (.iload_n 1, 1) := by decide +kernel
theorem dX7_turnRound_17 : decode cX7_turnRound 17 = .ok (.laload, 1) := by decide +kernel
theorem dX7_turnRound_18 : decode cX7_turnRound 18 = .ok (.lstore_n 2, 1) := by decide +kernel
theorem dX7_turnRound_19 : decode cX7_turnRound 19 = .ok (.aload_n 0, 1) := by decide +kernel
theorem dX7_turnRound_20 : decode cX7_turnRound 20 = .ok (.getfield 7, 3) := by decide +kernel
theorem dX7_turnRound_23 : decode cX7_turnRound 23 = .ok (.iload_n 1, 1) := by decide +kernel
theorem dX7_turnRound_24 : decode cX7_turnRound 24 = .ok (.aload_n 0, 1) := by decide +kernel
theorem dX7_turnRound_25 : decode cX7_turnRound 25 = .ok (.getfield 7, 3) := by decide +kernel
theorem dX7_turnRound_28 : decode cX7_turnRound 28 = .ok (.aload_n 0, 1) := by decide +kernel
theorem dX7_turnRound_29 : decode cX7_turnRound 29 = .ok (.getfield 13, 3) := by decide +kernel
theorem dX7_turnRound_32 : decode cX7_turnRound 32 = .ok (.iconst 1, 1) := by decide +kernel
theorem dX7_turnRound_33 : decode cX7_turnRound 33 = .ok (.isub, 1) := by decide +kernel
theorem dX7_turnRound_34 : decode cX7_turnRound 34 = .ok (.iload_n 1, 1) := by decide +kernel
theorem dX7_turnRound_35 : decode cX7_turnRound 35 = .ok (.isub, 1) := by decide +kernel
theorem dX7_turnRound_36 : decode cX7_turnRound 36 = .ok (.laload, 1) := by decide +kernel
theorem dX7_turnRound_37 : decode cX7_turnRound 37 = .ok (.lastore, 1) := by decide +kernel
theorem dX7_turnRound_38 : decode cX7_turnRound 38 = .ok (.aload_n 0, 1) := by decide +kernel
theorem dX7_turnRound_39 : decode cX7_turnRound 39 = .ok (.getfield 7, 3) := by decide +kernel
theorem dX7_turnRound_42 : decode cX7_turnRound 42 = .ok (.aload_n 0, 1) := by decide +kernel
theorem dX7_turnRound_43 : decode cX7_turnRound 43 = .ok (.getfield 13, 3) := by decide +kernel
theorem dX7_turnRound_46 : decode cX7_turnRound 46 = .ok (.iconst 1, 1) := by decide +kernel
theorem dX7_turnRound_47 : decode cX7_turnRound 47 = .ok (.isub, 1) := by decide +kernel
theorem dX7_turnRound_48 : decode cX7_turnRound 48 = .ok (.iload_n 1, 1) := by decide +kernel
theorem dX7_turnRound_49 : decode cX7_turnRound 49 = .ok (.isub, 1) := by decide +kernel
theorem dX7_turnRound_50 : decode cX7_turnRound 50 = .ok (.lload_n 2, 1) := by decide +kernel
theorem dX7_turnRound_51 : decode cX7_turnRound 51 = .ok (.lastore, 1) := by decide +kernel
theorem dX7_turnRound_52 : decode cX7_turnRound 52 = .ok (.iinc 1 1, 3) := by decide +kernel
theorem dX7_turnRound_55 : decode cX7_turnRound 55 = .ok (.goto (-53), 3) := by decide +kernel
theorem dX7_turnRound_58 : decode cX7_turnRound 58 = .ok (.return_, 1) := by decide +kernel
theorem dX8_init_0 : decode cX8_init 0 = .ok (.aload_n 0, 1) := by decide +kernel
theorem dX8_init_1 : decode cX8_init 1 = .ok (.invokespecial 3, 3) := by decide +kernel
theorem dX8_init_4 : decode cX8_init 4 = .ok (.aload_n 0, 1) := by decide +kernel
theorem dX8_init_5 : decode cX8_init 5 = .ok (.sipush 9216, 3) := by decide +kernel
theorem dX8_init_8 : decode cX8_init 8 = .ok (.newarray .int, 2) := by decide +kernel
theorem dX8_init_10 : decode cX8_init 10 = .ok (.putfield 11, 3) := by decide +kernel
theorem dX8_init_13 : decode cX8_init 13 = .ok (.aload_n 0, 1) := by decide +kernel
theorem dX8_init_14 : decode cX8_init 14 = .ok (.sipush 256, 3) := by decide +kernel
theorem dX8_init_17 : decode cX8_init 17 = .ok (.newarray .long, 2) := by decide +kernel
theorem dX8_init_19 : decode cX8_init 19 = .ok (.putfield 15, 3) := by decide +kernel
theorem dX8_init_22 : decode cX8_init 22 = .ok (.aload_n 0, 1) := by decide +kernel
theorem dX8_init_23 : decode cX8_init 23 = .ok (.bipush 36, 2) := by decide +kernel
theorem dX8_init_25 : decode cX8_init 25 = .ok (.newarray .int, 2) := by decide +kernel
theorem dX8_init_27 : decode cX8_init 27 = .ok (.putfield 19, 3) := by decide +kernel
theorem dX8_init_30 : decode cX8_init 30 = .ok (.aload_n 0, 1) := by decide +kernel
theorem dX8_init_31 : decode cX8_init 31 = .ok (.bipush 36, 2) := by decide +kernel
theorem dX8_init_33 : decode cX8_init 33 = .ok (.newarray .int, 2) := by decide +kernel
theorem dX8_init_35 : decode cX8_init 35 = .ok (.putfield 22, 3) := by decide +kernel
theorem dX8_init_38 : decode cX8_init 38 = .ok (.aload_n 0, 1) := by decide +kernel
theorem dX8_init_39 : decode cX8_init 39 = .ok (.bipush 36, 2) := by decide +kernel
theorem dX8_init_41 : decode cX8_init 41 = .ok (.newarray .int, 2) := by decide +kernel
theorem dX8_init_43 : decode cX8_init 43 = .ok (.putfield 25, 3) := by decide +kernel
theorem dX8_init_46 : decode cX8_init 46 = .ok (.return_, 1) := by decide +kernel
theorem dX8_shortest_0 : decode cX8_shortest 0 = .ok (.aload_n 0, 1) := by decide +kernel
theorem dX8_shortest_1 : decode cX8_shortest 1 = .ok (.getfield 15, 3) := by decide +kernel
theorem dX8_shortest_4 : decode cX8_shortest 4 = .ok (.lconst 0, 1) := by decide +kernel
theorem dX8_shortest_5 : decode cX8_shortest 5 = .ok (.invokestatic 28, 3) := by decide +kernel
theorem dX8_shortest_8 : decode cX8_shortest 8 = .ok (.iconst 0, 1) := by decide +kernel
theorem dX8_shortest_9 : decode cX8_shortest 9 = .ok (.istore 8, 2) := by decide +kernel
theorem dX8_shortest_11 : decode cX8_shortest 11 = .ok (.iload 8, 2) := by decide +kernel
theorem dX8_shortest_13 : decode cX8_shortest 13 = .ok (.aload_n 1, 1) := by decide +kernel
theorem dX8_shortest_14 : decode cX8_shortest 14 = .ok (.invokevirtual 34, 3) := by decide +kernel
theorem dX8_shortest_17 : decode cX8_shortest 17 = .ok (.if_icmp .ge 32, 3) := by decide +kernel
theorem dX8_shortest_20 : decode cX8_shortest 20 = .ok (.iload 8, 2) := by decide +kernel
theorem dX8_shortest_22 : decode cX8_shortest 22 = .ok (.bipush 36, 2) := by decide +kernel
theorem dX8_shortest_24 : decode cX8_shortest 24 = .ok (.if_icmp .ge 25, 3) := by decide +kernel
theorem dX8_shortest_27 : decode cX8_shortest 27 = .ok (.aload_n 0, 1) := by decide +kernel
theorem dX8_shortest_28 : decode cX8_shortest 28 = .ok (.getfield 19, 3) := by decide +kernel
theorem dX8_shortest_31 : decode cX8_shortest 31 = .ok (.iload 8, 2) := by decide +kernel
theorem dX8_shortest_33 : decode cX8_shortest 33 = .ok (.aload_n 1, 1) := by decide +kernel
theorem dX8_shortest_34 : decode cX8_shortest 34 = .ok (.iload 8, 2) := by decide +kernel
theorem dX8_shortest_36 : decode cX8_shortest 36 = .ok (.invokevirtual 40, 3) := by decide +kernel
theorem dX8_shortest_39 : decode cX8_shortest 39 = .ok (.iload 4, 2) := by decide +kernel
theorem dX8_shortest_41 : decode cX8_shortest 41 = .ok (.iand, 1) := by decide +kernel
theorem dX8_shortest_42 : decode cX8_shortest 42 = .ok (.iastore, 1) := by decide +kernel
theorem dX8_shortest_43 : decode cX8_shortest 43 = .ok (.iinc 8 1, 3) := by decide +kernel
theorem dX8_shortest_46 : decode cX8_shortest 46 = .ok (.goto (-35), 3) := by decide +kernel
theorem dX8_shortest_49 : decode cX8_shortest 49 = .ok (.aload_n 0, 1) := by decide +kernel
theorem dX8_shortest_50 : decode cX8_shortest 50 = .ok (.iload_n 2, 1) := by decide +kernel
theorem dX8_shortest_51 : decode cX8_shortest 51 = .ok (.iconst 0, 1) := by decide +kernel
theorem dX8_shortest_52 : decode cX8_shortest 52 = .ok (.iconst 0, 1) := by decide +kernel
theorem dX8_shortest_53 : decode cX8_shortest 53 = .ok (.iconst 0, 1) := by decide +kernel
theorem dX8_shortest_54 : decode cX8_shortest 54 = .ok (.invokevirtual 44, 3) := by decide +kernel
theorem dX8_shortest_57 : decode cX8_shortest 57 = .ok (.istore 8, 2) := by decide +kernel
theorem dX8_shortest_59 : decode cX8_shortest 59 = .ok (.iconst 0, 1) := by decide +kernel
theorem dX8_shortest_60 : decode cX8_shortest 60 = .ok (.istore 9, 2) := by decide +kernel
theorem dX8_shortest_62 : decode cX8_shortest 62 = .ok (.iload 9, 2) := by decide +kernel
theorem dX8_shortest_64 : decode cX8_shortest 64 = .ok (.iload 8, 2) := by decide +kernel
theorem dX8_shortest_66 : decode cX8_shortest 66 = .ok (.if_icmp .ge 127, 3) := by decide +kernel
theorem dX8_shortest_69 : decode cX8_shortest 69 = .ok (.iload 9, 2) := by decide +kernel
theorem dX8_shortest_71 : decode cX8_shortest 71 = .ok (.aload_n 0, 1) := by decide +kernel
theorem dX8_shortest_72 : decode cX8_shortest 72 = .ok (.getfield 11, 3) := by decide +kernel
theorem dX8_shortest_75 : decode cX8_shortest 75 = .ok (.arraylength, 1) := by decide +kernel
theorem dX8_shortest_76 : decode cX8_shortest 76 = .ok (.if_icmp .ge 117, 3) := by decide +kernel
theorem dX8_shortest_79 : decode cX8_shortest 79 = .ok (.aload_n 0, 1) := by decide +kernel
theorem dX8_shortest_80 : decode cX8_shortest 80 = .ok (.getfield 11, 3) := by decide +kernel
theorem dX8_shortest_83 : decode cX8_shortest 83 = .ok (.iload 9, 2) := by decide +kernel
theorem dX8_shortest_85 : decode cX8_shortest 85 = .ok (.iaload, 1) := by decide +kernel
theorem dX8_shortest_86 : decode cX8_shortest 86 = .ok (.sipush 16384, 3) := by decide +kernel
theorem dX8_shortest_89 : decode cX8_shortest 89 = .ok (.irem, 1) := by decide +kernel
theorem dX8_shortest_90 : decode cX8_shortest 90 = .ok (.istore 10, 2) := by decide +kernel
theorem dX8_shortest_92 : decode cX8_shortest 92 = .ok (.iload 10, 2) := by decide +kernel
theorem dX8_shortest_94 : decode cX8_shortest 94 = .ok (.sipush 256, 3) := by decide +kernel
theorem dX8_shortest_97 : decode cX8_shortest 97 = .ok (.idiv, 1) := by decide +kernel
theorem dX8_shortest_98 : decode cX8_shortest 98 = .ok (.istore 11, 2) := by decide +kernel
theorem dX8_shortest_100 : decode cX8_shortest 100 = .ok (.iload 10, 2) := by decide +kernel
theorem dX8_shortest_102 : decode cX8_shortest 102 = .ok (.sipush 256, 3) := by decide +kernel
theorem dX8_shortest_105 : decode cX8_shortest 105 = .ok (.irem, 1) := by decide +kernel
theorem dX8_shortest_106 : decode cX8_shortest 106 = .ok (.istore 12, 2) := by decide +kernel
theorem dX8_shortest_108 : decode cX8_shortest 108 = .ok (.iload 11, 2) := by decide +kernel
theorem dX8_shortest_110 : decode cX8_shortest 110 = .ok (.iload_n 3, 1) := by decide +kernel
theorem dX8_shortest_111 : decode cX8_shortest 111 = .ok (.if_icmp .ne 19, 3) := by decide +kernel
theorem dX8_shortest_114 : decode cX8_shortest 114 = .ok (.iload 12, 2) := by decide +kernel
theorem dX8_shortest_116 : decode cX8_shortest 116 = .ok (.iload 4, 2) := by decide +kernel
theorem dX8_shortest_118 : decode cX8_shortest 118 = .ok (.if_icmp .ne 12, 3) := by decide +kernel
theorem dX8_shortest_121 : decode cX8_shortest 121 = .ok (.aload_n 0, 1) := by decide +kernel
theorem dX8_shortest_122 : decode cX8_shortest 122 = .ok (.iload 9, 2) := by decide +kernel
theorem dX8_shortest_124 : decode cX8_shortest 124 = .ok (.aload 7, 2) := by decide +kernel
theorem dX8_shortest_126 : decode cX8_shortest 126 = .ok (.invokevirtual 48, 3) := by decide +kernel
theorem dX8_shortest_129 : decode cX8_shortest 129 = .ok (.ireturn, 1) := by decide +kernel
theorem dX8_shortest_130 : decode cX8_shortest 130 = .ok (.iconst 0, 1) := by decide +kernel
theorem dX8_shortest_131 : decode cX8_shortest 131 = .ok (.istore 13, 2) := by decide +kernel
theorem dX8_shortest_133 : decode cX8_shortest 133 = .ok (.iload 13, 2) := by decide +kernel
theorem dX8_shortest_135 : decode cX8_shortest 135 = .ok (.iconst 4, 1) := by decide +kernel
theorem dX8_shortest_136 : decode cX8_shortest 136 = .ok (.if_icmp .ge 51, 3) := by decide +kernel
theorem dX8_shortest_139 : decode cX8_shortest 139 = .ok (.aload_n 1, 1) := by decide +kernel
theorem dX8_shortest_140 : decode cX8_shortest 140 = .ok (.iload 11, 2) := by decide +kernel
theorem dX8_shortest_142 : decode cX8_shortest 142 = .ok (.iload 13, 2) := by decide +kernel
theorem dX8_shortest_144 : decode cX8_shortest 144 = .ok (.invokevirtual 52, 3) := by decide +kernel
theorem dX8_shortest_147 : decode cX8_shortest 147 = .ok (.istore 14, 2) := by decide +kernel
theorem dX8_shortest_149 : decode cX8_shortest 149 = .ok (.iload 14, 2) := by decide +kernel
theorem dX8_shortest_151 : decode cX8_shortest 151 = .ok (.iconst (-1), 1) := by decide +kernel
theorem dX8_shortest_152 : decode cX8_shortest 152 = .ok (.if_icmp .eq 29, 3) := by decide +kernel
theorem dX8_shortest_155 : decode cX8_shortest 155 = .ok (.lload 5, 2) := by decide +kernel
theorem dX8_shortest_157 : decode cX8_shortest 157 = .ok (.iload 14, 2) := by decide +kernel
theorem dX8_shortest_159 : decode cX8_shortest 159 = .ok (.lshr, 1) := by decide +kernel
theorem dX8_shortest_160 : decode cX8_shortest 160 = .ok (.lconst 1, 1) := by decide +kernel
theorem dX8_shortest_161 : decode cX8_shortest 161 = .ok (.land, 1) := by decide +kernel
theorem dX8_shortest_162 : decode cX8_shortest 162 = .ok (.lconst 0, 1) := by decide +kernel
theorem dX8_shortest_163 : decode cX8_shortest 163 = .ok (.lcmp, 1) := by decide +kernel
theorem dX8_shortest_164 : decode cX8_shortest 164 = .ok (.ifCond .eq 17, 3) := by decide +kernel
theorem dX8_shortest_167 : decode cX8_shortest 167 = .ok (.aload_n 0, 1) := by decide +kernel
theorem dX8_shortest_168 : decode cX8_shortest 168 = .ok (.iload 14, 2) := by decide +kernel
theorem dX8_shortest_170 : decode cX8_shortest 170 = .ok (.iload 12, 2) := by decide +kernel
theorem dX8_shortest_172 : decode cX8_shortest 172 = .ok (.iload 9, 2) := by decide +kernel
theorem dX8_shortest_174 : decode cX8_shortest 174 = .ok (.iload 8, 2) := by decide +kernel
theorem dX8_shortest_176 : decode cX8_shortest 176 = .ok (.invokevirtual 44, 3) := by decide +kernel
theorem dX8_shortest_179 : decode cX8_shortest 179 = .ok (.istore 8, 2) := by decide +kernel
theorem dX8_shortest_181 : decode cX8_shortest 181 = .ok (.iinc 13 1, 3) := by decide +kernel
theorem dX8_shortest_184 : decode cX8_shortest 184 = .ok (.goto (-51), 3) := by decide +kernel
theorem dX8_shortest_187 : decode cX8_shortest 187 = .ok (.iinc 9 1, 3) := by decide +kernel
theorem dX8_shortest_190 : decode cX8_shortest 190 = .ok (.goto (-128), 3) := by decide +kernel
theorem dX8_shortest_193 : decode cX8_shortest 193 = .ok (.bipush (-2), 2) := by decide +kernel
theorem dX8_shortest_195 : decode cX8_shortest 195 = .ok (.ireturn, 1) := by decide +kernel
theorem dX8_reach_0 : decode cX8_reach 0 = .ok (.iload_n 1, 1) := by decide +kernel
theorem dX8_reach_1 : decode cX8_reach 1 = .ok (.ifCond .lt 19, 3) := by decide +kernel
theorem dX8_reach_4 : decode cX8_reach 4 = .ok (.iload_n 1, 1) := by decide +kernel
theorem dX8_reach_5 : decode cX8_reach 5 = .ok (.bipush 36, 2) := by decide +kernel
theorem dX8_reach_7 : decode cX8_reach 7 = .ok (.if_icmp .ge 13, 3) := by decide +kernel
theorem dX8_reach_10 : decode cX8_reach 10 = .ok (.iload 4, 2) := by decide +kernel
theorem dX8_reach_12 : decode cX8_reach 12 = .ok (.aload_n 0, 1) := by decide +kernel
theorem dX8_reach_13 : decode cX8_reach 13 = .ok (.getfield 11, 3) := by decide +kernel
theorem dX8_reach_16 : decode cX8_reach 16 = .ok (.arraylength, 1) := by decide +kernel
theorem dX8_reach_17 : decode cX8_reach 17 = .ok (.if_icmp .lt 6, 3) := by decide +kernel
theorem dX8_reach_20 : decode cX8_reach 20 = .ok (.iload 4, 2) := by decide +kernel
theorem dX8_reach_22 : decode cX8_reach 22 = .ok (.ireturn, 1) := by decide +kernel
theorem dX8_reach_23 : decode cX8_reach 23 = .ok (.iload_n 2, 1) := by decide +kernel
theorem dX8_reach_24 : decode cX8_reach 24 = .ok (.aload_n 0, 1) := by decide +kernel
theorem dX8_reach_25 : decode cX8_reach 25 = .ok (.getfield 19, 3) := by decide +kernel
theorem dX8_reach_28 : decode cX8_reach 28 = .ok (.iload_n 1, 1) := by decide +kernel
theorem dX8_reach_29 : decode cX8_reach 29 = .ok (.iaload, 1) := by decide +kernel
theorem dX8_reach_30 : decode cX8_reach 30 = .ok (.ior, 1) := by decide +kernel
theorem dX8_reach_31 : decode cX8_reach 31 = .ok (.sipush 256, 3) := by decide +kernel
theorem dX8_reach_34 : decode cX8_reach 34 = .ok (.irem, 1) := by decide +kernel
theorem dX8_reach_35 : decode cX8_reach 35 = .ok (.istore 5, 2) := by decide +kernel
theorem dX8_reach_37 : decode cX8_reach 37 = .ok (.aload_n 0, 1) := by decide +kernel
theorem dX8_reach_38 : decode cX8_reach 38 = .ok (.getfield 15, 3) := by decide +kernel
theorem dX8_reach_41 : decode cX8_reach 41 = .ok (.iload 5, 2) := by decide +kernel
theorem dX8_reach_43 : decode cX8_reach 43 = .ok (.laload, 1) := by decide +kernel
theorem dX8_reach_44 : decode cX8_reach 44 = .ok (.iload_n 1, 1) := by decide +kernel
theorem dX8_reach_45 : decode cX8_reach 45 = .ok (.lshr, 1) := by decide +kernel
theorem dX8_reach_46 : decode cX8_reach 46 = .ok (.lconst 1, 1) := by decide +kernel
theorem dX8_reach_47 : decode cX8_reach 47 = .ok (.land, 1) := by decide +kernel
theorem dX8_reach_48 : decode cX8_reach 48 = .ok (.lconst 0, 1) := by decide +kernel
theorem dX8_reach_49 : decode cX8_reach 49 = .ok (.lcmp, 1) := by decide +kernel
theorem dX8_reach_50 : decode cX8_reach 50 = .ok (.ifCond .eq 6, 3) := by decide +kernel
theorem dX8_reach_53 : decode cX8_reach 53 = .ok (.iload 4, 2) := by decide +kernel
theorem dX8_reach_55 : decode cX8_reach 55 = .ok (.ireturn, 1) := by decide +kernel
theorem dX8_reach_56 : decode cX8_reach 56 = .ok (.aload_n 0, 1) := by decide +kernel
theorem dX8_reach_57 : decode cX8_reach 57 = .ok (.getfield 15, 3) := by decide +kernel
theorem dX8_reach_60 : decode cX8_reach 60 = .ok (.iload 5, 2) := by decide +kernel
theorem dX8_reach_62 : decode cX8_reach 62 = .ok (.dup2, 1) := by decide +kernel
theorem dX8_reach_63 : decode cX8_reach 63 = .ok (.laload, 1) := by decide +kernel
theorem dX8_reach_64 : decode cX8_reach 64 = .ok (.lconst 1, 1) := by decide +kernel
theorem dX8_reach_65 : decode cX8_reach 65 = .ok (.iload_n 1, 1) := by decide +kernel
theorem dX8_reach_66 : decode cX8_reach 66 = .ok (.lshl, 1) := by decide +kernel
theorem dX8_reach_67 : decode cX8_reach 67 = .ok (.lor, 1) := by decide +kernel
theorem dX8_reach_68 : decode cX8_reach 68 = .ok (.lastore, 1) := by decide +kernel
theorem dX8_reach_69 : decode cX8_reach 69 = .ok (.aload_n 0, 1) := by decide +kernel
theorem dX8_reach_70 : decode cX8_reach 70 = .ok (.getfield 11, 3) := by decide +kernel
theorem dX8_reach_73 : decode cX8_reach 73 = .ok (.iload 4, 2) := by decide +kernel
theorem dX8_reach_75 : decode cX8_reach 75 = .ok (.iload_n 3, 1) := by decide +kernel
theorem dX8_reach_76 : decode cX8_reach 76 = .ok (.sipush 16384, 3) := by decide +kernel
theorem dX8_reach_79 : decode cX8_reach 79 = .ok (.imul, 1) := by decide +kernel
theorem dX8_reach_80 : decode cX8_reach 80 = .ok (.iload_n 1, 1) := by decide +kernel
theorem dX8_reach_81 : decode cX8_reach 81 = .ok (.sipush 256, 3) := by decide +kernel
theorem dX8_reach_84 : decode cX8_reach 84 = .ok (.imul, 1) := by decide +kernel
theorem dX8_reach_85 : decode cX8_reach 85 = .ok (.iadd, 1) := by decide +kernel
theorem dX8_reach_86 : decode cX8_reach 86 = .ok (.iload 5, 2) := by decide +kernel
theorem dX8_reach_88 : decode cX8_reach 88 = .ok (.iadd, 1) := by decide +kernel
theorem dX8_reach_89 : decode cX8_reach 89 = .ok (.iastore, 1) := by decide +kernel
theorem dX8_reach_90 : decode cX8_reach 90 = .ok (.iload 4, 2) := by decide +kernel
theorem dX8_reach_92 : decode cX8_reach 92 = .ok (.iconst 1, 1) := by decide +kernel
theorem dX8_reach_93 : decode cX8_reach 93 = .ok (.iadd, 1) := by decide +kernel
theorem dX8_reach_94 : decode cX8_reach 94 = .ok (.ireturn, 1) := by decide +kernel
theorem dX8_tellWay_0 : decode cX8_tellWay 0 = .ok (.aload_n 2, 1) := by decide +kernel
theorem dX8_tellWay_1 : decode cX8_tellWay 1 = .ok (.invokevirtual 56, 3) := by decide +kernel
theorem dX8_tellWay_4 : decode cX8_tellWay 4 = .ok (.iload_n 1, 1) := by decide +kernel
theorem dX8_tellWay_5 : decode cX8_tellWay 5 = .ok (.istore_n 3, 1) := by decide +kernel
theorem dX8_tellWay_6 : decode cX8_tellWay 6 = .ok (.iconst 0, 1) := by decide +kernel
theorem dX8_tellWay_7 : decode cX8_tellWay 7 = .ok (.istore 4, 2) := by decide +kernel
theorem dX8_tellWay_9 : decode cX8_tellWay 9 = .ok (.iload 4, 2) := by decide +kernel
theorem dX8_tellWay_11 : decode cX8_tellWay 11 = .ok (.aload_n 0, 1) := by decide +kernel
theorem dX8_tellWay_12 : decode cX8_tellWay 12 = .ok (.getfield 11, 3) := by decide +kernel
theorem dX8_tellWay_15 : decode cX8_tellWay 15 = .ok (.arraylength, 1) := by decide +kernel
theorem dX8_tellWay_16 : decode cX8_tellWay 16 = .ok (.if_icmp .ge 52, 3) := by decide +kernel
theorem dX8_tellWay_19 : decode cX8_tellWay 19 = .ok (.iload_n 3, 1) := by decide +kernel
theorem dX8_tellWay_20 : decode cX8_tellWay 20 = .ok (.ifCond .le 48, 3) := by decide +kernel
theorem dX8_tellWay_23 : decode cX8_tellWay 23 = .ok (.iload_n 3, 1) := by decide +kernel
theorem dX8_tellWay_24 : decode cX8_tellWay 24 = .ok (.aload_n 0, 1) := by decide +kernel
theorem dX8_tellWay_25 : decode cX8_tellWay 25 = .ok (.getfield 11, 3) := by decide +kernel
theorem dX8_tellWay_28 : decode cX8_tellWay 28 = .ok (.arraylength, 1) := by decide +kernel
theorem dX8_tellWay_29 : decode cX8_tellWay 29 = .ok (.if_icmp .ge 39, 3) := by decide +kernel
theorem dX8_tellWay_32 : decode cX8_tellWay 32 = .ok (.aload_n 2, 1) := by decide +kernel
theorem dX8_tellWay_33 : decode cX8_tellWay 33 = .ok (.aload_n 0, 1) := by decide +kernel
theorem dX8_tellWay_34 : decode cX8_tellWay 34 = .ok (.getfield 11, 3) := by decide +kernel
theorem dX8_tellWay_37 : decode cX8_tellWay 37 = .ok (.iload_n 3, 1) := by decide +kernel
theorem dX8_tellWay_38 : decode cX8_tellWay 38 = .ok (.iaload, 1) := by decide +kernel
theorem dX8_tellWay_39 : decode cX8_tellWay 39 = .ok (.sipush 16384, 3) := by decide +kernel
theorem dX8_tellWay_42 : decode cX8_tellWay 42 = .ok (.irem, 1) := by decide +kernel
theorem dX8_tellWay_43 : decode cX8_tellWay 43 = .ok (.sipush 256, 3) := by decide +kernel
theorem dX8_tellWay_46 : decode cX8_tellWay 46 = .ok (.idiv, 1) := by decide +kernel
theorem dX8_tellWay_47 : decode cX8_tellWay 47 = .ok (.i2l, 1) := by decide +kernel
theorem dX8_tellWay_48 : decode cX8_tellWay 48 = .ok (.invokevirtual 61, 3) := by decide +kernel
theorem dX8_tellWay_51 : decode cX8_tellWay 51 = .ok (.aload_n 0, 1) := by decide +kernel
theorem dX8_tellWay_52 : decode cX8_tellWay 52 = .ok (.getfield 11, 3) := by decide +kernel
theorem dX8_tellWay_55 : decode cX8_tellWay 55 = .ok (.iload_n 3, 1) := by decide +kernel
theorem dX8_tellWay_56 : decode cX8_tellWay 56 = .ok (.iaload, 1) := by decide +kernel
theorem dX8_tellWay_57 : decode cX8_tellWay 57 = .ok (.sipush 16384, 3) := by decide +kernel
theorem dX8_tellWay_60 : decode cX8_tellWay 60 = .ok (.idiv, 1) := by decide +kernel
theorem dX8_tellWay_61 : decode cX8_tellWay 61 = .ok (.istore_n 3, 1) := by decide +kernel
theorem dX8_tellWay_62 : decode cX8_tellWay 62 = .ok (.iinc 4 1, 3) := by decide +kernel
theorem dX8_tellWay_65 : decode cX8_tellWay 65 = .ok (.goto (-56), 3) := by decide +kernel
theorem dX8_tellWay_68 : decode cX8_tellWay 68 = .ok (.aload_n 2, 1) := by decide +kernel
theorem dX8_tellWay_69 : decode cX8_tellWay 69 = .ok (.aload_n 0, 1) := by decide +kernel
theorem dX8_tellWay_70 : decode cX8_tellWay 70 = .ok (.getfield 11, 3) := by decide +kernel
theorem dX8_tellWay_73 : decode cX8_tellWay 73 = .ok (.iconst 0, 1) := by decide +kernel
theorem dX8_tellWay_74 : decode cX8_tellWay 74 = .ok (.iaload, 1) := by decide +kernel
theorem dX8_tellWay_75 : decode cX8_tellWay 75 = .ok (.sipush 16384, 3) := by decide +kernel
theorem dX8_tellWay_78 : decode cX8_tellWay 78 = .ok (.irem, 1) := by decide +kernel
theorem dX8_tellWay_79 : decode cX8_tellWay 79 = .ok (.sipush 256, 3) := by decide +kernel
theorem dX8_tellWay_82 : decode cX8_tellWay 82 = .ok (.idiv, 1) := by decide +kernel
theorem dX8_tellWay_83 : decode cX8_tellWay 83 = .ok (.i2l, 1) := by decide +kernel
theorem dX8_tellWay_84 : decode cX8_tellWay 84 = .ok (.invokevirtual 61, 3) := by decide +kernel
theorem dX8_tellWay_87 : decode cX8_tellWay 87 = .ok (.aload_n 2, 1) := by decide +kernel
theorem dX8_tellWay_88 : decode cX8_tellWay 88 = .ok (.invokevirtual 65, 3) := by decide +kernel
theorem dX8_tellWay_91 : decode cX8_tellWay 91 = .ok (.aload_n 2, 1) := by decide +kernel
theorem dX8_tellWay_92 : decode cX8_tellWay 92 = .ok (.getfield 68, 3) := by decide +kernel
theorem dX8_tellWay_95 : decode cX8_tellWay 95 = .ok (.iconst 1, 1) := by decide +kernel
theorem dX8_tellWay_96 : decode cX8_tellWay 96 = .ok (.isub, 1) := by decide +kernel
theorem dX8_tellWay_97 : decode cX8_tellWay 97 = .ok (.ireturn, 1) := by decide +kernel
theorem dX8_softest_0 : decode cX8_softest 0 = .ok (.iload_n 2, 1) := by decide +kernel
theorem dX8_softest_1 : decode cX8_softest 1 = .ok (.ifCond .lt 19, 3) := by decide +kernel
theorem dX8_softest_4 : decode cX8_softest 4 = .ok (.iload_n 2, 1) := by decide +kernel
theorem dX8_softest_5 : decode cX8_softest 5 = .ok (.bipush 36, 2) := by decide +kernel
theorem dX8_softest_7 : decode cX8_softest 7 = .ok (.if_icmp .ge 13, 3) := by decide +kernel
theorem dX8_softest_10 : decode cX8_softest 10 = .ok (.iload_n 3, 1) := by decide +kernel
theorem dX8_softest_11 : decode cX8_softest 11 = .ok (.ifCond .lt 9, 3) := by decide +kernel
theorem dX8_softest_14 : decode cX8_softest 14 = .ok (.iload_n 3, 1) := by decide +kernel
theorem dX8_softest_15 : decode cX8_softest 15 = .ok (.bipush 36, 2) := by decide +kernel
theorem dX8_softest_17 : decode cX8_softest 17 = .ok (.if_icmp .lt 5, 3) := by decide +kernel
theorem dX8_softest_20 : decode cX8_softest 20 = .ok (.iconst (-1), 1) := by decide +kernel
theorem dX8_softest_21 : decode cX8_softest 21 = .ok (.ireturn, 1) := by decide +kernel
theorem dX8_softest_22 : decode cX8_softest 22 = .ok (.aload_n 1, 1) := by decide +kernel
theorem dX8_softest_23 : decode cX8_softest 23 = .ok (.invokevirtual 34, 3) := by decide +kernel
theorem dX8_softest_26 : decode cX8_softest 26 = .ok (.bipush 36, 2) := by decide +kernel
theorem dX8_softest_28 : decode cX8_softest 28 = .ok (.invokestatic 72, 3) := by decide +kernel
theorem dX8_softest_31 : decode cX8_softest 31 = .ok (.istore 5, 2) := by decide +kernel
theorem dX8_softest_33 : decode cX8_softest 33 = .ok (.iconst 0, 1) := by decide +kernel
theorem dX8_softest_34 : decode cX8_softest 34 = .ok (.istore 6, 2) := by decide +kernel
theorem dX8_softest_36 : decode cX8_softest 36 = .ok (.iload 6, 2) := by decide +kernel
theorem dX8_softest_38 : decode cX8_softest 38 = .ok (.iload 5, 2) := by decide +kernel
theorem dX8_softest_40 : decode cX8_softest 40 = .ok (.if_icmp .ge 36, 3) := by decide +kernel
theorem dX8_softest_43 : decode cX8_softest 43 = .ok (.aload_n 0, 1) := by decide +kernel
theorem dX8_softest_44 : decode cX8_softest 44 = .ok (.getfield 22, 3) := by decide +kernel
theorem dX8_softest_47 : decode cX8_softest 47 = .ok (.iload 6, 2) := by decide +kernel
theorem dX8_softest_49 : decode cX8_softest 49 = .ok (.aload_n 1, 1) := by decide +kernel
theorem dX8_softest_50 : decode cX8_softest 50 = .ok (.iload 6, 2) := by decide +kernel
theorem dX8_softest_52 : decode cX8_softest 52 = .ok (.invokevirtual 77, 3) := by decide +kernel
theorem dX8_softest_55 : decode cX8_softest 55 = .ok (.bipush 64, 2) := by decide +kernel
theorem dX8_softest_57 : decode cX8_softest 57 = .ok (.imul, 1) := by decide +kernel
theorem dX8_softest_58 : decode cX8_softest 58 = .ok (.iconst 1, 1) := by decide +kernel
theorem dX8_softest_59 : decode cX8_softest 59 = .ok (.iadd, 1) := by decide +kernel
theorem dX8_softest_60 : decode cX8_softest 60 = .ok (.iastore, 1) := by decide +kernel
theorem dX8_softest_61 : decode cX8_softest 61 = .ok (.aload_n 0, 1) := by decide +kernel
theorem dX8_softest_62 : decode cX8_softest 62 = .ok (.getfield 25, 3) := by decide +kernel
theorem dX8_softest_65 : decode cX8_softest 65 = .ok (.iload 6, 2) := by decide +kernel
theorem dX8_softest_67 : decode cX8_softest 67 = .ok (.ldc 80, 2) := by decide +kernel
theorem dX8_softest_69 : decode cX8_softest 69 = .ok (.iastore, 1) := by decide +kernel
theorem dX8_softest_70 : decode cX8_softest 70 = .ok (.iinc 6 1, 3) := by decide +kernel
theorem dX8_softest_73 : decode cX8_softest 73 = .ok (.goto (-37), 3) := by decide +kernel
theorem dX8_softest_76 : decode cX8_softest 76 = .ok (.aload_n 0, 1) := by decide +kernel
theorem dX8_softest_77 : decode cX8_softest 77 = .ok (.getfield 25, 3) := by decide +kernel
theorem dX8_softest_80 : decode cX8_softest 80 = .ok (.iload_n 3, 1) := by decide +kernel
theorem dX8_softest_81 : decode cX8_softest 81 = .ok (.aload_n 0, 1) := by decide +kernel
theorem dX8_softest_82 : decode cX8_softest 82 = .ok (.getfield 22, 3) := by decide +kernel
theorem dX8_softest_85 : decode cX8_softest 85 = .ok (.iload_n 3, 1) := by decide +kernel
theorem dX8_softest_86 : decode cX8_softest 86 = .ok (.iaload, 1) := by decide +kernel
theorem dX8_softest_87 : decode cX8_softest 87 = .ok (.iastore, 1) := by decide +kernel
theorem dX8_softest_88 : decode cX8_softest 88 = .ok (.iconst 1, 1) := by decide +kernel
theorem dX8_softest_89 : decode cX8_softest 89 = .ok (.istore 6, 2) := by decide +kernel
theorem dX8_softest_91 : decode cX8_softest 91 = .ok (.iconst 0, 1) := by decide +kernel
theorem dX8_softest_92 : decode cX8_softest 92 = .ok (.istore 7, 2) := by decide +kernel
theorem dX8_softest_94 : decode cX8_softest 94 = .ok (.iload 7, 2) := by decide +kernel
theorem dX8_softest_96 : decode cX8_softest 96 = .ok (.iload 5, 2) := by decide +kernel
theorem dX8_softest_98 : decode cX8_softest 98 = .ok (.if_icmp .ge 23, 3) := by decide +kernel
theorem dX8_softest_101 : decode cX8_softest 101 = .ok (.iload 6, 2) := by decide +kernel
theorem dX8_softest_103 : decode cX8_softest 103 = .ok (.ifCond .eq 18, 3) := by decide +kernel
theorem dX8_softest_106 : decode cX8_softest 106 = .ok (.aload_n 0, 1) := by decide +kernel
theorem dX8_softest_107 : decode cX8_softest 107 = .ok (.aload_n 1, 1) := by decide +kernel
theorem dX8_softest_108 : decode cX8_softest 108 = .ok (.iload 5, 2) := by decide +kernel
theorem dX8_softest_110 : decode cX8_softest 110 = .ok (.invokevirtual 81, 3) := by decide +kernel
theorem dX8_softest_113 : decode cX8_softest 113 = .ok (.istore 6, 2) := by decide +kernel
theorem dX8_softest_115 : decode cX8_softest 115 = .ok (.iinc 7 1, 3) := by decide +kernel
theorem dX8_softest_118 : decode cX8_softest 118 = .ok (.goto (-24), 3) := by decide +kernel
theorem dX8_softest_121 : decode cX8_softest 121 = .ok (.aload 4, 2) := by decide +kernel
theorem dX8_softest_123 : decode cX8_softest 123 = .ok (.invokevirtual 56, 3) := by decide +kernel
theorem dX8_softest_126 : decode cX8_softest 126 = .ok (.aload 4, 2) := by decide +kernel
theorem dX8_softest_128 : decode cX8_softest 128 = .ok (.iload_n 2, 1) := by decide +kernel
theorem dX8_softest_129 : decode cX8_softest 129 = .ok (.i2l, 1) := by decide +kernel
theorem dX8_softest_130 : decode cX8_softest 130 = .ok (.invokevirtual 61, 3) := by decide +kernel
theorem dX8_softest_133 : decode cX8_softest 133 = .ok (.iload_n 2, 1) := by decide +kernel
theorem dX8_softest_134 : decode cX8_softest 134 = .ok (.istore 7, 2) := by decide +kernel
theorem dX8_softest_136 : decode cX8_softest 136 = .ok (.iconst 0, 1) := by decide +kernel
theorem dX8_softest_137 : decode cX8_softest 137 = .ok (.istore 8, 2) := by decide +kernel
theorem dX8_softest_139 : decode cX8_softest 139 = .ok (.iload 8, 2) := by decide +kernel
theorem dX8_softest_141 : decode cX8_softest 141 = .ok (.iload 5, 2) := by decide +kernel
theorem dX8_softest_143 : decode cX8_softest 143 = .ok (.if_icmp .ge 32, 3) := by decide +kernel
theorem dX8_softest_146 : decode cX8_softest 146 = .ok (.iload 7, 2) := by decide +kernel
theorem dX8_softest_148 : decode cX8_softest 148 = .ok (.iload_n 3, 1) := by decide +kernel
theorem dX8_softest_149 : decode cX8_softest 149 = .ok (.if_icmp .eq 26, 3) := by decide +kernel
theorem dX8_softest_152 : decode cX8_softest 152 = .ok (.aload_n 0, 1) := by decide +kernel
theorem dX8_softest_153 : decode cX8_softest 153 = .ok (.aload_n 1, 1) := by decide +kernel
theorem dX8_softest_154 : decode cX8_softest 154 = .ok (.iload 7, 2) := by decide +kernel
theorem dX8_softest_156 : decode cX8_softest 156 = .ok (.invokevirtual 85, 3) := by decide +kernel
theorem dX8_softest_159 : decode cX8_softest 159 = .ok (.istore 7, 2) := by decide +kernel
theorem dX8_softest_161 : decode cX8_softest 161 = .ok (.aload 4, 2) := by decide +kernel
theorem dX8_softest_163 : decode cX8_softest 163 = .ok (.iload 7, 2) := by decide +kernel
theorem dX8_softest_165 : decode cX8_softest 165 = .ok (.i2l, 1) := by decide +kernel
theorem dX8_softest_166 : decode cX8_softest 166 = .ok (.invokevirtual 61, 3) := by decide +kernel
theorem dX8_softest_169 : decode cX8_softest 169 = .ok (.iinc 8 1, 3) := by decide +kernel
theorem dX8_softest_172 : decode cX8_softest 172 = .ok (.goto (-33), 3) := by decide +kernel
theorem dX8_softest_175 : decode cX8_softest 175 = .ok (.aload_n 0, 1) := by decide +kernel
theorem dX8_softest_176 : decode cX8_softest 176 = .ok (.getfield 25, 3) := by decide +kernel
theorem dX8_softest_179 : decode cX8_softest 179 = .ok (.iload_n 2, 1) := by decide +kernel
theorem dX8_softest_180 : decode cX8_softest 180 = .ok (.iaload, 1) := by decide +kernel
theorem dX8_softest_181 : decode cX8_softest 181 = .ok (.bipush 64, 2) := by decide +kernel
theorem dX8_softest_183 : decode cX8_softest 183 = .ok (.idiv, 1) := by decide +kernel
theorem dX8_softest_184 : decode cX8_softest 184 = .ok (.ireturn, 1) := by decide +kernel
theorem dX8_improve_0 : decode cX8_improve 0 = .ok (.iconst 0, 1) := by decide +kernel
theorem dX8_improve_1 : decode cX8_improve 1 = .ok (.istore_n 3, 1) := by decide +kernel
theorem dX8_improve_2 : decode cX8_improve 2 = .ok (.iconst 0, 1) := by decide +kernel
theorem dX8_improve_3 : decode cX8_improve 3 = .ok (.istore 4, 2) := by decide +kernel
theorem dX8_improve_5 : decode cX8_improve 5 = .ok (.iload 4, 2) := by decide +kernel
theorem dX8_improve_7 : decode cX8_improve 7 = .ok (.iload_n 2, 1) := by decide +kernel
theorem dX8_improve_8 : decode cX8_improve 8 = .ok (.if_icmp .ge 95, 3) := by decide +kernel
theorem dX8_improve_11 : decode cX8_improve 11 = .ok (.iconst 0, 1) := by decide +kernel
theorem dX8_improve_12 : decode cX8_improve 12 = .ok (.istore 5, 2) := by decide +kernel
theorem dX8_improve_14 : decode cX8_improve 14 = .ok (.iload 5, 2) := by decide +kernel
theorem dX8_improve_16 : decode cX8_improve 16 = .ok (.iconst 4, 1) := by decide +kernel
theorem dX8_improve_17 : decode cX8_improve 17 = .ok (.if_icmp .ge 80, 3) := by decide +kernel
theorem dX8_improve_20 : decode cX8_improve 20 = .ok (.aload_n 1, 1) := by decide +kernel
theorem dX8_improve_21 : decode cX8_improve 21 = .ok (.iload 4, 2) := by decide +kernel
theorem dX8_improve_23 : decode cX8_improve 23 = .ok (.iload 5, 2) := by decide +kernel
theorem dX8_improve_25 : decode cX8_improve 25 = .ok (.invokevirtual 52, 3) := by decide +kernel
theorem dX8_improve_28 : decode cX8_improve 28 = .ok (.istore 6, 2) := by decide +kernel
theorem dX8_improve_30 : decode cX8_improve 30 = .ok (.iload 6, 2) := by decide +kernel
theorem dX8_improve_32 : decode cX8_improve 32 = .ok (.ifCond .lt 59, 3) := by decide +kernel
theorem dX8_improve_35 : decode cX8_improve 35 = .ok (.iload 6, 2) := by decide +kernel
theorem dX8_improve_37 : decode cX8_improve 37 = .ok (.bipush 36, 2) := by decide +kernel
theorem dX8_improve_39 : decode cX8_improve 39 = .ok (.if_icmp .ge 52, 3) := by decide +kernel
theorem dX8_improve_42 : decode cX8_improve 42 = .ok (.aload_n 0, 1) := by decide +kernel
theorem dX8_improve_43 : decode cX8_improve 43 = .ok (.getfield 22, 3) := by decide +kernel
theorem dX8_improve_46 : decode cX8_improve 46 = .ok (.iload 4, 2) := by decide +kernel
theorem dX8_improve_48 : decode cX8_improve 48 = .ok (.iaload, 1) := by decide +kernel
theorem dX8_improve_49 : decode cX8_improve 49 = .ok (.aload_n 0, 1) := by decide +kernel
theorem dX8_improve_50 : decode cX8_improve 50 = .ok (.getfield 25, 3) := by decide +kernel
theorem dX8_improve_53 : decode cX8_improve 53 = .ok (.iload 6, 2) := by decide +kernel
theorem dX8_improve_55 : decode cX8_improve 55 = .ok (.iaload, 1) := by decide +kernel
theorem dX8_improve_56 : decode cX8_improve 56 = .ok (.iadd, 1) := by decide +kernel
theorem dX8_improve_57 : decode cX8_improve 57 = .ok (.aload_n 0, 1) := by decide +kernel
theorem dX8_improve_58 : decode cX8_improve 58 = .ok (.getfield 25, 3) := by decide +kernel
theorem dX8_improve_61 : decode cX8_improve 61 = .ok (.iload 4, 2) := by decide +kernel
theorem dX8_improve_63 : decode cX8_improve 63 = .ok (.iaload, 1) := by decide +kernel
theorem dX8_improve_64 : decode cX8_improve 64 = .ok (.if_icmp .ge 27, 3) := by decide +kernel
theorem dX8_improve_67 : decode cX8_improve 67 = .ok (.aload_n 0, 1) := by decide +kernel
theorem dX8_improve_68 : decode cX8_improve 68 = .ok (.getfield 25, 3) := by decide +kernel
theorem dX8_improve_71 : decode cX8_improve 71 = .ok (.iload 4, 2) := by decide +kernel
theorem dX8_improve_73 : decode cX8_improve 73 = .ok (.aload_n 0, 1) := by decide +kernel
theorem dX8_improve_74 : decode cX8_improve 74 = .ok (.getfield 22, 3) := by decide +kernel
theorem dX8_improve_77 : decode cX8_improve 77 = .ok (.iload 4, 2) := by decide +kernel
theorem dX8_improve_79 : decode cX8_improve 79 = .ok (.iaload, 1) := by decide +kernel
theorem dX8_improve_80 : decode cX8_improve 80 = .ok (.aload_n 0, 1) := by decide +kernel
theorem dX8_improve_81 : decode cX8_improve 81 = .ok (.getfield 25, 3) := by decide +kernel
theorem dX8_improve_84 : decode cX8_improve 84 = .ok (.iload 6, 2) := by decide +kernel
theorem dX8_improve_86 : decode cX8_improve 86 = .ok (.iaload, 1) := by decide +kernel
theorem dX8_improve_87 : decode cX8_improve 87 = .ok (.iadd, 1) := by decide +kernel
theorem dX8_improve_88 : decode cX8_improve 88 = .ok (.iastore, 1) := by decide +kernel
theorem dX8_improve_89 : decode cX8_improve 89 = .ok (.iconst 1, 1) := by decide +kernel
theorem dX8_improve_90 : decode cX8_improve 90 = .ok (.istore_n 3, 1) := by decide +kernel
theorem dX8_improve_91 : decode cX8_improve 91 = .ok (.iinc 5 1, 3) := by decide +kernel
theorem dX8_improve_94 : decode cX8_improve 94 = .ok (.goto (-80), 3) := by decide +kernel
theorem dX8_improve_97 : decode cX8_improve 97 = .ok (.iinc 4 1, 3) := by decide +kernel
theorem dX8_improve_100 : decode cX8_improve 100 = .ok (.goto (-95), 3) := by decide +kernel
theorem dX8_improve_103 : decode cX8_improve 103 = .ok (.iload_n 3, 1) := by decide +kernel
theorem dX8_improve_104 : decode cX8_improve 104 = .ok (.ireturn, 1) := by decide +kernel
theorem dX8_softStep_0 : decode cX8_softStep 0 = .ok (.iconst 0, 1) := by decide +kernel
theorem dX8_softStep_1 : decode cX8_softStep 1 = .ok (.istore_n 3, 1) := by decide +kernel
theorem dX8_softStep_2 : decode cX8_softStep 2 = .ok (.iload_n 3, 1) := by decide +kernel
theorem dX8_softStep_3 : decode cX8_softStep 3 = .ok (.iconst 4, 1) := by decide +kernel
theorem dX8_softStep_4 : decode cX8_softStep 4 = .ok (.if_icmp .ge 55, 3) := by decide +kernel
theorem dX8_softStep_7 : decode cX8_softStep 7 = .ok (.aload_n 1, 1) := by decide +kernel
theorem dX8_softStep_8 : decode cX8_softStep 8 = .ok (.iload_n 2, 1) := by decide +kernel
theorem dX8_softStep_9 : decode cX8_softStep 9 = .ok (.iload_n 3, 1) := by decide +kernel
theorem dX8_softStep_10 : decode cX8_softStep 10 = .ok (.invokevirtual 52, 3) := by decide +kernel
theorem dX8_softStep_13 : decode cX8_softStep 13 = .ok (.istore 4, 2) := by decide +kernel
theorem dX8_softStep_15 : decode cX8_softStep 15 = .ok (.iload 4, 2) := by decide +kernel
theorem dX8_softStep_17 : decode cX8_softStep 17 = .ok (.ifCond .lt 36, 3) := by decide +kernel
theorem dX8_softStep_20 : decode cX8_softStep 20 = .ok (.iload 4, 2) := by decide +kernel
theorem dX8_softStep_22 : decode cX8_softStep 22 = .ok (.bipush 36, 2) := by decide +kernel
theorem dX8_softStep_24 : decode cX8_softStep 24 = .ok (.if_icmp .ge 29, 3) := by decide +kernel
theorem dX8_softStep_27 : decode cX8_softStep 27 = .ok (.aload_n 0, 1) := by decide +kernel
theorem dX8_softStep_28 : decode cX8_softStep 28 = .ok (.getfield 25, 3) := by decide +kernel
theorem dX8_softStep_31 : decode cX8_softStep 31 = .ok (.iload_n 2, 1) := by decide +kernel
theorem dX8_softStep_32 : decode cX8_softStep 32 = .ok (.iaload, 1) := by decide +kernel
theorem dX8_softStep_33 : decode cX8_softStep 33 = .ok (.aload_n 0, 1) := by decide +kernel
theorem dX8_softStep_34 : decode cX8_softStep 34 = .ok (.getfield 22, 3) := by decide +kernel
theorem dX8_softStep_37 : decode cX8_softStep 37 = .ok (.iload_n 2, 1) := by decide +kernel
theorem dX8_softStep_38 : decode cX8_softStep 38 = .ok (.iaload, 1) := by decide +kernel
theorem dX8_softStep_39 : decode cX8_softStep 39 = .ok (.aload_n 0, 1) := by decide +kernel
theorem dX8_softStep_40 : decode cX8_softStep 40 = .ok (.getfield 25, 3) := by decide +kernel
theorem dX8_softStep_43 : decode cX8_softStep 43 = .ok (.iload 4, 2) := by decide +kernel
theorem dX8_softStep_45 : decode cX8_softStep 45 = .ok (.iaload, 1) := by decide +kernel
theorem dX8_softStep_46 : decode cX8_softStep 46 = .ok (.iadd, 1) := by decide +kernel
theorem dX8_softStep_47 : decode cX8_softStep 47 = .ok (.if_icmp .ne 6, 3) := by decide +kernel
theorem dX8_softStep_50 : decode cX8_softStep 50 = .ok (.iload 4, 2) := by decide +kernel
theorem dX8_softStep_52 : decode cX8_softStep 52 = .ok (.ireturn, 1) := by decide +kernel
theorem dX8_softStep_53 : decode cX8_softStep 53 = .ok (.iinc 3 1, 3) := by decide +kernel
theorem dX8_softStep_56 : decode cX8_softStep 56 = .ok (.goto (-54), 3) := by decide +kernel
theorem dX8_softStep_59 : decode cX8_softStep 59 = .ok (.iload_n 2, 1) := by decide +kernel
theorem dX8_softStep_60 : decode cX8_softStep 60 = .ok (.ireturn, 1) := by decide +kernel
theorem dX9_init_0 : decode cX9_init 0 = .ok (.aload_n 0, 1) := by decide +kernel
theorem dX9_init_1 : decode cX9_init 1 = .ok (.invokespecial 1, 3) := by decide +kernel
theorem dX9_init_4 : decode cX9_init 4 = .ok (.aload_n 0, 1) := by decide +kernel
theorem dX9_init_5 : decode cX9_init 5 = .ok (.new 7, 3) := by decide +kernel
theorem dX9_init_8 : decode cX9_init 8 = .ok (.dup, 1) := by decide +kernel
theorem dX9_init_9 : decode cX9_init 9 = .ok (.invokespecial 9, 3) := by decide +kernel
theorem dX9_init_12 : decode cX9_init 12 = .ok (.putfield 10, 3) := by decide +kernel
theorem dX9_init_15 : decode cX9_init 15 = .ok (.aload_n 0, 1) := by decide +kernel
theorem dX9_init_16 : decode cX9_init 16 = .ok (.new 16, 3) := by decide +kernel
theorem dX9_init_19 : decode cX9_init 19 = .ok (.dup, 1) := by decide +kernel
theorem dX9_init_20 : decode cX9_init 20 = .ok (.invokespecial 18, 3) := by decide +kernel
theorem dX9_init_23 : decode cX9_init 23 = .ok (.putfield 19, 3) := by decide +kernel
theorem dX9_init_26 : decode cX9_init 26 = .ok (.aload_n 0, 1) := by decide +kernel
theorem dX9_init_27 : decode cX9_init 27 = .ok (.new 23, 3) := by decide +kernel
theorem dX9_init_30 : decode cX9_init 30 = .ok (.dup, 1) := by decide +kernel
theorem dX9_init_31 : decode cX9_init 31 = .ok (.invokespecial 25, 3) := by decide +kernel
theorem dX9_init_34 : decode cX9_init 34 = .ok (.putfield 26, 3) := by decide +kernel
theorem dX9_init_37 : decode cX9_init 37 = .ok (.aload_n 0, 1) := by decide +kernel
theorem dX9_init_38 : decode cX9_init 38 = .ok (.new 23, 3) := by decide +kernel
theorem dX9_init_41 : decode cX9_init 41 = .ok (.dup, 1) := by decide +kernel
theorem dX9_init_42 : decode cX9_init 42 = .ok (.invokespecial 25, 3) := by decide +kernel
theorem dX9_init_45 : decode cX9_init 45 = .ok (.putfield 30, 3) := by decide +kernel
theorem dX9_init_48 : decode cX9_init 48 = .ok (.aload_n 0, 1) := by decide +kernel
theorem dX9_init_49 : decode cX9_init 49 = .ok (.new 23, 3) := by decide +kernel
theorem dX9_init_52 : decode cX9_init 52 = .ok (.dup, 1) := by decide +kernel
theorem dX9_init_53 : decode cX9_init 53 = .ok (.invokespecial 25, 3) := by decide +kernel
theorem dX9_init_56 : decode cX9_init 56 = .ok (.putfield 33, 3) := by decide +kernel
theorem dX9_init_59 : decode cX9_init 59 = .ok (.aload_n 0, 1) := by decide +kernel
theorem dX9_init_60 : decode cX9_init 60 = .ok (.new 36, 3) := by decide +kernel
theorem dX9_init_63 : decode cX9_init 63 = .ok (.dup, 1) := by decide +kernel
theorem dX9_init_64 : decode cX9_init 64 = .ok (.invokespecial 38, 3) := by decide +kernel
theorem dX9_init_67 : decode cX9_init 67 = .ok (.putfield 39, 3) := by decide +kernel
theorem dX9_init_70 : decode cX9_init 70 = .ok (.aload_n 0, 1) := by decide +kernel
theorem dX9_init_71 : decode cX9_init 71 = .ok (.iconst 3, 1) := by decide +kernel
theorem dX9_init_72 : decode cX9_init 72 = .ok (.anewarray 23, 3) := by decide +kernel
theorem dX9_init_75 : decode cX9_init 75 = .ok (.putfield 43, 3) := by decide +kernel
theorem dX9_init_78 : decode cX9_init 78 = .ok (.aload_n 0, 1) := by decide +kernel
theorem dX9_init_79 : decode cX9_init 79 = .ok (.new 47, 3) := by decide +kernel
theorem dX9_init_82 : decode cX9_init 82 = .ok (.dup, 1) := by decide +kernel
theorem dX9_init_83 : decode cX9_init 83 = .ok (.invokespecial 49, 3) := by decide +kernel
theorem dX9_init_86 : decode cX9_init 86 = .ok (.putfield 50, 3) := by decide +kernel
theorem dX9_init_89 : decode cX9_init 89 = .ok (.aload_n 0, 1) := by decide +kernel
theorem dX9_init_90 : decode cX9_init 90 = .ok (.new 47, 3) := by decide +kernel
theorem dX9_init_93 : decode cX9_init 93 = .ok (.dup, 1) := by decide +kernel
theorem dX9_init_94 : decode cX9_init 94 = .ok (.invokespecial 49, 3) := by decide +kernel
theorem dX9_init_97 : decode cX9_init 97 = .ok (.putfield 54, 3) := by decide +kernel
theorem dX9_init_100 : decode cX9_init 100 = .ok (.aload_n 0, 1) := by decide +kernel
theorem dX9_init_101 : decode cX9_init 101 = .ok (.new 57, 3) := by decide +kernel
theorem dX9_init_104 : decode cX9_init 104 = .ok (.dup, 1) := by decide +kernel
theorem dX9_init_105 : decode cX9_init 105 = .ok (.invokespecial 59, 3) := by decide +kernel
theorem dX9_init_108 : decode cX9_init 108 = .ok (.putfield 60, 3) := by decide +kernel
theorem dX9_init_111 : decode cX9_init 111 = .ok (.aload_n 0, 1) := by decide +kernel
theorem dX9_init_112 : decode cX9_init 112 = .ok (.new 64, 3) := by decide +kernel
theorem dX9_init_115 : decode cX9_init 115 = .ok (.dup, 1) := by decide +kernel
theorem dX9_init_116 : decode cX9_init 116 = .ok (.bipush 10, 2) := by decide +kernel
theorem dX9_init_118 : decode cX9_init 118 = .ok (.invokespecial 66, 3) := by decide +kernel
theorem dX9_init_121 : decode cX9_init 121 = .ok (.putfield 69, 3) := by decide +kernel
theorem dX9_init_124 : decode cX9_init 124 = .ok (.aload_n 0, 1) := by decide +kernel
theorem dX9_init_125 : decode cX9_init 125 = .ok (.new 64, 3) := by decide +kernel
theorem dX9_init_128 : decode cX9_init 128 = .ok (.dup, 1) := by decide +kernel
theorem dX9_init_129 : decode cX9_init 129 = .ok (.bipush 12, 2) := by decide +kernel
theorem dX9_init_131 : decode cX9_init 131 = .ok (.invokespecial 66, 3) := by decide +kernel
theorem dX9_init_134 : decode cX9_init 134 = .ok (.putfield 73, 3) := by decide +kernel
theorem dX9_init_137 : decode cX9_init 137 = .ok (.aload_n 0, 1) := by decide +kernel
theorem dX9_init_138 : decode cX9_init 138 = .ok (.new 76, 3) := by decide +kernel
theorem dX9_init_141 : decode cX9_init 141 = .ok (.dup, 1) := by decide +kernel
theorem dX9_init_142 : decode cX9_init 142 = .ok (.invokespecial 78, 3) := by decide +kernel
theorem dX9_init_145 : decode cX9_init 145 = .ok (.putfield 79, 3) := by decide +kernel
theorem dX9_init_148 : decode cX9_init 148 = .ok (.aload_n 0, 1) := by decide +kernel
theorem dX9_init_149 : decode cX9_init 149 = .ok (.sipush 496, 3) := by decide +kernel
theorem dX9_init_152 : decode cX9_init 152 = .ok (.newarray .int, 2) := by decide +kernel
theorem dX9_init_154 : decode cX9_init 154 = .ok (.putfield 83, 3) := by decide +kernel
theorem dX9_init_157 : decode cX9_init 157 = .ok (.aload_n 0, 1) := by decide +kernel
theorem dX9_init_158 : decode cX9_init 158 = .ok (.bipush 41, 2) := by decide +kernel
theorem dX9_init_160 : decode cX9_init 160 = .ok (.newarray .int, 2) := by decide +kernel
theorem dX9_init_162 : decode cX9_init 162 = .ok (.putfield 87, 3) := by decide +kernel
theorem dX9_init_165 : decode cX9_init 165 = .ok (.iconst 0, 1) := by decide +kernel
theorem dX9_init_166 : decode cX9_init 166 = .ok (.istore_n 1, 1) := by decide +kernel
theorem dX9_init_167 : decode cX9_init 167 = .ok (.iload_n 1, 1) := by decide +kernel
theorem dX9_init_168 : decode cX9_init 168 = .ok (.iconst 3, 1) := by decide +kernel
theorem dX9_init_169 : decode cX9_init 169 = .ok (.if_icmp .ge 22, 3) := by decide +kernel
theorem dX9_init_172 : decode cX9_init 172 = .ok (.aload_n 0, 1) := by decide +kernel
theorem dX9_init_173 : decode cX9_init 173 = .ok (.getfield 43, 3) := by decide +kernel
theorem dX9_init_176 : decode cX9_init 176 = .ok (.iload_n 1, 1) := by decide +kernel
theorem dX9_init_177 : decode cX9_init 177 = .ok (.new 23, 3) := by decide +kernel
theorem dX9_init_180 : decode cX9_init 180 = .ok (.dup, 1) := by decide +kernel
theorem dX9_init_181 : decode cX9_init 181 = .ok (.invokespecial 25, 3) := by decide +kernel
theorem dX9_init_184 : decode cX9_init 184 = .ok (.aastore, 1) := by decide +kernel
theorem dX9_init_185 : decode cX9_init 185 = .ok (.iinc 1 1, 3) := by decide +kernel
theorem dX9_init_188 : decode cX9_init 188 = .ok (.goto (-21), 3) := by decide +kernel
theorem dX9_init_191 : decode cX9_init 191 = .ok (.aload_n 0, 1) := by decide +kernel
theorem dX9_init_192 : decode cX9_init 192 = .ok (.getfield 50, 3) := by decide +kernel
theorem dX9_init_195 : decode cX9_init 195 = .ok (.invokevirtual 90, 3) := by decide +kernel
theorem dX9_init_198 : decode cX9_init 198 = .ok (.aload_n 0, 1) := by decide +kernel
theorem dX9_init_199 : decode cX9_init 199 = .ok (.getfield 54, 3) := by decide +kernel
theorem dX9_init_202 : decode cX9_init 202 = .ok (.invokevirtual 90, 3) := by decide +kernel
theorem dX9_init_205 : decode cX9_init 205 = .ok (.return_, 1) := by decide +kernel
theorem dX9_sign_0 : decode cX9_sign 0 = .ok (.aload_n 0, 1) := by decide +kernel
theorem dX9_sign_1 : decode cX9_sign 1 = .ok (.getfield 10, 3) := by decide +kernel
theorem dX9_sign_4 : decode cX9_sign 4 = .ok (.getfield 93, 3) := by decide +kernel
theorem dX9_sign_7 : decode cX9_sign 7 = .ok (.iconst 4, 1) := by decide +kernel
theorem dX9_sign_8 : decode cX9_sign 8 = .ok (.iadd, 1) := by decide +kernel
theorem dX9_sign_9 : decode cX9_sign 9 = .ok (.bipush 80, 2) := by decide +kernel
theorem dX9_sign_11 : decode cX9_sign 11 = .ok (.if_icmp .le 5, 3) := by decide +kernel
theorem dX9_sign_14 : decode cX9_sign 14 = .ok (.iconst (-1), 1) := by decide +kernel
theorem dX9_sign_15 : decode cX9_sign 15 = .ok (.ireturn, 1) := by decide +kernel
theorem dX9_sign_16 : decode cX9_sign 16 = .ok (.bipush 24, 2) := by decide +kernel
theorem dX9_sign_18 : decode cX9_sign 18 = .ok (.istore_n 2, 1) := by decide +kernel
theorem dX9_sign_19 : decode cX9_sign 19 = .ok (.iload_n 2, 1) := by decide +kernel
theorem dX9_sign_20 : decode cX9_sign 20 = .ok (.ifCond .lt 23, 3) := by decide +kernel
theorem dX9_sign_23 : decode cX9_sign 23 = .ok (.aload_n 0, 1) := by decide +kernel
theorem dX9_sign_24 : decode cX9_sign 24 = .ok (.getfield 10, 3) := by decide +kernel
theorem dX9_sign_27 : decode cX9_sign 27 = .ok (.iload_n 1, 1) := by decide +kernel
theorem dX9_sign_28 : decode cX9_sign 28 = .ok (.iload_n 2, 1) := by decide +kernel
theorem dX9_sign_29 : decode cX9_sign 29 = .ok (.iushr, 1) := by decide +kernel
theorem dX9_sign_30 : decode cX9_sign 30 = .ok (.sipush 255, 3) := by decide +kernel
theorem dX9_sign_33 : decode cX9_sign 33 = .ok (.iand, 1) := by decide +kernel
theorem dX9_sign_34 : decode cX9_sign 34 = .ok (.invokevirtual 97, 3) := by decide +kernel
theorem dX9_sign_37 : decode cX9_sign 37 = .ok (.iinc 2 (-8), 3) := by decide +kernel
theorem dX9_sign_40 : decode cX9_sign 40 = .ok (.goto (-21), 3) := by decide +kernel
theorem dX9_sign_43 : decode cX9_sign 43 = .ok (.aload_n 0, 1) := by decide +kernel
theorem dX9_sign_44 : decode cX9_sign 44 = .ok (.getfield 10, 3) := by decide +kernel
theorem dX9_sign_47 : decode cX9_sign 47 = .ok (.getfield 93, 3) := by decide +kernel
theorem dX9_sign_50 : decode cX9_sign 50 = .ok (.ireturn, 1) := by decide +kernel
theorem dX9_end_0 : decode cX9_end 0 = .ok (.iload_n 1, 1) := by decide +kernel
theorem dX9_end_1 : decode cX9_end 1 = .ok (.ifCond .lt 14, 3) := by decide +kernel
theorem dX9_end_4 : decode cX9_end 4 = .ok (.iload_n 1, 1) := by decide +kernel
theorem dX9_end_5 : decode cX9_end 5 = .ok (.aload_n 0, 1) := by decide +kernel
theorem dX9_end_6 : decode cX9_end 6 = .ok (.getfield 10, 3) := by decide +kernel
theorem dX9_end_9 : decode cX9_end 9 = .ok (.getfield 93, 3) := by decide +kernel
theorem dX9_end_12 : decode cX9_end 12 = .ok (.if_icmp .le 5, 3) := by decide +kernel
theorem dX9_end_15 : decode cX9_end 15 = .ok (.iconst 0, 1) := by decide +kernel
theorem dX9_end_16 : decode cX9_end 16 = .ok (.ireturn, 1) := by decide +kernel
theorem dX9_end_17 : decode cX9_end 17 = .ok (.aload_n 0, 1) := by decide +kernel
theorem dX9_end_18 : decode cX9_end 18 = .ok (.getfield 10, 3) := by decide +kernel
theorem dX9_end_21 : decode cX9_end 21 = .ok (.iload_n 1, 1) := by decide +kernel
theorem dX9_end_22 : decode cX9_end 22 = .ok (.putfield 93, 3) := by decide +kernel
theorem dX9_end_25 : decode cX9_end 25 = .ok (.iconst 1, 1) := by decide +kernel
theorem dX9_end_26 : decode cX9_end 26 = .ok (.ireturn, 1) := by decide +kernel
theorem dX9_field_0 : decode cX9_field 0 = .ok (.aload_n 0, 1) := by decide +kernel
theorem dX9_field_1 : decode cX9_field 1 = .ok (.invokevirtual 100, 3) := by decide +kernel
theorem dX9_field_4 : decode cX9_field 4 = .ok (.istore_n 1, 1) := by decide +kernel
theorem dX9_field_5 : decode cX9_field 5 = .ok (.aload_n 0, 1) := by decide +kernel
theorem dX9_field_6 : decode cX9_field 6 = .ok (.getfield 10, 3) := by decide +kernel
theorem dX9_field_9 : decode cX9_field 9 = .ok (.iconst 0, 1) := by decide +kernel
theorem dX9_field_10 : decode cX9_field 10 = .ok (.putfield 93, 3) := by decide +kernel
theorem dX9_field_13 : decode cX9_field 13 = .ok (.iload_n 1, 1) := by decide +kernel
theorem dX9_field_14 : decode cX9_field 14 = .ok (.ireturn, 1) := by decide +kernel
theorem dX9_fieldTold_0 : decode cX9_fieldTold 0 = .ok (.iconst 0, 1) := by decide +kernel
theorem dX9_fieldTold_1 : decode cX9_fieldTold 1 = .ok (.istore_n 1, 1) := by decide +kernel
theorem dX9_fieldTold_2 : decode cX9_fieldTold 2 = .ok (.iload_n 1, 1) := by decide +kernel
theorem dX9_fieldTold_3 : decode cX9_fieldTold 3 = .ok (.iconst 2, 1) := by decide +kernel
theorem dX9_fieldTold_4 : decode cX9_fieldTold 4 = .ok (.if_icmp .ge 40, 3) := by decide +kernel
theorem dX9_fieldTold_7 : decode cX9_fieldTold 7 = .ok (.aload_n 0, 1) := by decide +kernel
theorem dX9_fieldTold_8 : decode cX9_fieldTold 8 = .ok (.getfield 10, 3) := by decide +kernel
theorem dX9_fieldTold_11 : decode cX9_fieldTold 11 = .ok (.iload_n 1, 1) := by decide +kernel
theorem dX9_fieldTold_12 : decode cX9_fieldTold 12 = .ok (.aload_n 0, 1) := by decide +kernel
theorem dX9_fieldTold_13 : decode cX9_fieldTold 13 = .ok (.getfield 10, 3) := by decide +kernel
theorem dX9_fieldTold_16 : decode cX9_fieldTold 16 = .ok (.getfield 93, 3) := by decide +kernel
theorem dX9_fieldTold_19 : decode cX9_fieldTold 19 = .ok (.invokevirtual 104, 3) := by decide +kernel
theorem dX9_fieldTold_22 : decode cX9_fieldTold 22 = .ok (.istore_n 2, 1) := by decide +kernel
theorem dX9_fieldTold_23 : decode cX9_fieldTold 23 = .ok (.iload_n 2, 1) := by decide +kernel
theorem dX9_fieldTold_24 : decode cX9_fieldTold 24 = .ok (.iconst 3, 1) := by decide +kernel
theorem dX9_fieldTold_25 : decode cX9_fieldTold 25 = .ok (.if_icmp .lt 9, 3) := by decide +kernel
theorem dX9_fieldTold_28 : decode cX9_fieldTold 28 = .ok (.iload_n 2, 1) := by decide +kernel
theorem dX9_fieldTold_29 : decode cX9_fieldTold 29 = .ok (.bipush 6, 2) := by decide +kernel
theorem dX9_fieldTold_31 : decode cX9_fieldTold 31 = .ok (.if_icmp .le 7, 3) := by decide +kernel
theorem dX9_fieldTold_34 : decode cX9_fieldTold 34 = .ok (.iconst (-1), 1) := by decide +kernel
theorem dX9_fieldTold_35 : decode cX9_fieldTold 35 = .ok (.iload_n 1, 1) := by decide +kernel
theorem dX9_fieldTold_36 : decode cX9_fieldTold 36 = .ok (.isub, 1) := by decide +kernel
theorem dX9_fieldTold_37 : decode cX9_fieldTold 37 = .ok (.ireturn, 1) := by decide +kernel
theorem dX9_fieldTold_38 : decode cX9_fieldTold 38 = .ok (.iinc 1 1, 3) := by decide +kernel
theorem dX9_fieldTold_41 : decode cX9_fieldTold 41 = .ok (.goto (-39), 3) := by decide +kernel
theorem dX9_fieldTold_44 : decode cX9_fieldTold 44 = .ok (.aload_n 0, 1) := by decide +kernel
theorem dX9_fieldTold_45 : decode cX9_fieldTold 45 = .ok (.getfield 10, 3) := by decide +kernel
theorem dX9_fieldTold_48 : decode cX9_fieldTold 48 = .ok (.getfield 93, 3) := by decide +kernel
theorem dX9_fieldTold_51 : decode cX9_fieldTold 51 = .ok (.iconst 2, 1) := by decide +kernel
theorem dX9_fieldTold_52 : decode cX9_fieldTold 52 = .ok (.if_icmp .le 6, 3) := by decide +kernel
theorem dX9_fieldTold_55 : decode cX9_fieldTold 55 = .ok (.bipush (-3), 2) := by decide +kernel
theorem dX9_fieldTold_57 : decode cX9_fieldTold 57 = .ok (.ireturn, 1) := by decide +kernel
theorem dX9_fieldTold_58 : decode cX9_fieldTold 58 = .ok (.aload_n 0, 1) := by decide +kernel
theorem dX9_fieldTold_59 : decode cX9_fieldTold 59 = .ok (.getfield 26, 3) := by decide +kernel
theorem dX9_fieldTold_62 : decode cX9_fieldTold 62 = .ok (.aload_n 0, 1) := by decide +kernel
theorem dX9_fieldTold_63 : decode cX9_fieldTold 63 = .ok (.getfield 10, 3) := by decide +kernel
theorem dX9_fieldTold_66 : decode cX9_fieldTold 66 = .ok (.iconst 0, 1) := by decide +kernel
theorem dX9_fieldTold_67 : decode cX9_fieldTold 67 = .ok (.aload_n 0, 1) := by decide +kernel
theorem dX9_fieldTold_68 : decode cX9_fieldTold 68 = .ok (.getfield 10, 3) := by decide +kernel
theorem dX9_fieldTold_71 : decode cX9_fieldTold 71 = .ok (.getfield 93, 3) := by decide +kernel
theorem dX9_fieldTold_74 : decode cX9_fieldTold 74 = .ok (.invokevirtual 104, 3) := by decide +kernel
theorem dX9_fieldTold_77 : decode cX9_fieldTold 77 = .ok (.aload_n 0, 1) := by decide +kernel
theorem dX9_fieldTold_78 : decode cX9_fieldTold 78 = .ok (.getfield 10, 3) := by decide +kernel
theorem dX9_fieldTold_81 : decode cX9_fieldTold 81 = .ok (.iconst 1, 1) := by decide +kernel
theorem dX9_fieldTold_82 : decode cX9_fieldTold 82 = .ok (.aload_n 0, 1) := by decide +kernel
theorem dX9_fieldTold_83 : decode cX9_fieldTold 83 = .ok (.getfield 10, 3) := by decide +kernel
theorem dX9_fieldTold_86 : decode cX9_fieldTold 86 = .ok (.getfield 93, 3) := by decide +kernel
theorem dX9_fieldTold_89 : decode cX9_fieldTold 89 = .ok (.invokevirtual 104, 3) := by decide +kernel
theorem dX9_fieldTold_92 : decode cX9_fieldTold 92 = .ok (.invokevirtual 108, 3) := by decide +kernel
theorem dX9_fieldTold_95 : decode cX9_fieldTold 95 = .ok (.aload_n 0, 1) := by decide +kernel
theorem dX9_fieldTold_96 : decode cX9_fieldTold 96 = .ok (.invokevirtual 112, 3) := by decide +kernel
theorem dX9_fieldTold_99 : decode cX9_fieldTold 99 = .ok (.aload_n 0, 1) := by decide +kernel
theorem dX9_fieldTold_100 : decode cX9_fieldTold 100 = .ok (.getfield 69, 3) := by decide +kernel
theorem dX9_fieldTold_103 : decode cX9_fieldTold 103 = .ok (.invokevirtual 115, 3) := by decide +kernel
theorem dX9_fieldTold_106 : decode cX9_fieldTold 106 = .ok (.pop, 1) := by decide +kernel
theorem dX9_fieldTold_107 : decode cX9_fieldTold 107 = .ok (.aload_n 0, 1) := by decide +kernel
theorem dX9_fieldTold_108 : decode cX9_fieldTold 108 = .ok (.getfield 26, 3) := by decide +kernel
theorem dX9_fieldTold_111 : decode cX9_fieldTold 111 = .ok (.invokevirtual 118, 3) := by decide +kernel
theorem dX9_fieldTold_114 : decode cX9_fieldTold 114 = .ok (.ireturn, 1) := by decide +kernel
theorem dX9_forgetStates_0 : decode cX9_forgetStates 0 = .ok (.aload_n 0, 1) := by decide +kernel
theorem dX9_forgetStates_1 : decode cX9_forgetStates 1 = .ok (.getfield 39, 3) := by decide +kernel
theorem dX9_forgetStates_4 : decode cX9_forgetStates 4 = .ok (.invokevirtual 121, 3) := by decide +kernel
theorem dX9_forgetStates_7 : decode cX9_forgetStates 7 = .ok (.aload_n 0, 1) := by decide +kernel
theorem dX9_forgetStates_8 : decode cX9_forgetStates 8 = .ok (.iconst 0, 1) := by decide +kernel
theorem dX9_forgetStates_9 : decode cX9_forgetStates 9 = .ok (.putfield 123, 3) := by decide +kernel
theorem dX9_forgetStates_12 : decode cX9_forgetStates 12 = .ok (.return_, 1) := by decide +kernel
theorem dX9_camps_0 : decode cX9_camps 0 = .ok (.aload_n 0, 1) := by decide +kernel
theorem dX9_camps_1 : decode cX9_camps 1 = .ok (.invokevirtual 126, 3) := by decide +kernel
theorem dX9_camps_4 : decode cX9_camps 4 = .ok (.istore_n 1, 1) := by decide +kernel
theorem dX9_camps_5 : decode cX9_camps 5 = .ok (.aload_n 0, 1) := by decide +kernel
theorem dX9_camps_6 : decode cX9_camps 6 = .ok (.getfield 10, 3) := by decide +kernel
theorem dX9_camps_9 : decode cX9_camps 9 = .ok (.iconst 0, 1) := by decide +kernel
theorem dX9_camps_10 : decode cX9_camps 10 = .ok (.putfield 93, 3) := by decide +kernel
theorem dX9_camps_13 : decode cX9_camps 13 = .ok (.iload_n 1, 1) := by decide +kernel
theorem dX9_camps_14 : decode cX9_camps 14 = .ok (.ireturn, 1) := by decide +kernel
theorem dX9_campsTold_0 : decode cX9_campsTold 0 = .ok (.aload_n 0, 1) := by decide +kernel
theorem dX9_campsTold_1 : decode cX9_campsTold 1 = .ok (.getfield 10, 3) := by decide +kernel
theorem dX9_campsTold_4 : decode cX9_campsTold 4 = .ok (.getfield 93, 3) := by decide +kernel
theorem dX9_campsTold_7 : decode cX9_campsTold 7 = .ok (.ifCond .ne 5, 3) := by decide +kernel
theorem dX9_campsTold_10 : decode cX9_campsTold 10 = .ok (.iconst 0, 1) := by decide +kernel
theorem dX9_campsTold_11 : decode cX9_campsTold 11 = .ok (.ireturn, 1) := by decide +kernel
theorem dX9_campsTold_12 : decode cX9_campsTold 12 = .ok (.aload_n 0, 1) := by decide +kernel
theorem dX9_campsTold_13 : decode cX9_campsTold 13 = .ok (.getfield 10, 3) := by decide +kernel
theorem dX9_campsTold_16 : decode cX9_campsTold 16 = .ok (.getfield 93, 3) := by decide +kernel
theorem dX9_campsTold_19 : decode cX9_campsTold 19 = .ok (.bipush 55, 2) := by decide +kernel
theorem dX9_campsTold_21 : decode cX9_campsTold 21 = .ok (.invokestatic 129, 3) := by decide +kernel
theorem dX9_campsTold_24 : decode cX9_campsTold 24 = .ok (.istore_n 1, 1) := by decide +kernel
theorem dX9_campsTold_25 : decode cX9_campsTold 25 = .ok (.iconst 0, 1) := by decide +kernel
theorem dX9_campsTold_26 : decode cX9_campsTold 26 = .ok (.istore_n 2, 1) := by decide +kernel
theorem dX9_campsTold_27 : decode cX9_campsTold 27 = .ok (.aload_n 0, 1) := by decide +kernel
theorem dX9_campsTold_28 : decode cX9_campsTold 28 = .ok (.getfield 33, 3) := by decide +kernel
theorem dX9_campsTold_31 : decode cX9_campsTold 31 = .ok (.aload_n 0, 1) := by decide +kernel
theorem dX9_campsTold_32 : decode cX9_campsTold 32 = .ok (.getfield 26, 3) := by decide +kernel
theorem dX9_campsTold_35 : decode cX9_campsTold 35 = .ok (.invokevirtual 134, 3) := by decide +kernel
theorem dX9_campsTold_38 : decode cX9_campsTold 38 = .ok (.iconst 0, 1) := by decide +kernel
theorem dX9_campsTold_39 : decode cX9_campsTold 39 = .ok (.istore_n 3, 1) := by decide +kernel
theorem dX9_campsTold_40 : decode cX9_campsTold 40 = .ok (.iload_n 3, 1) := by decide +kernel
theorem dX9_campsTold_41 : decode cX9_campsTold 41 = .ok (.bipush 8, 2) := by decide +kernel
theorem dX9_campsTold_43 : decode cX9_campsTold 43 = .ok (.if_icmp .ge 68, 3) := by decide +kernel
theorem dX9_campsTold_46 : decode cX9_campsTold 46 = .ok (.iload_n 2, 1) := by decide +kernel
theorem dX9_campsTold_47 : decode cX9_campsTold 47 = .ok (.iload_n 1, 1) := by decide +kernel
theorem dX9_campsTold_48 : decode cX9_campsTold 48 = .ok (.if_icmp .ge 63, 3) := by decide +kernel
theorem dX9_campsTold_51 : decode cX9_campsTold 51 = .ok (.aload_n 0, 1) := by decide +kernel
theorem dX9_campsTold_52 : decode cX9_campsTold 52 = .ok (.getfield 33, 3) := by decide +kernel
theorem dX9_campsTold_55 : decode cX9_campsTold 55 = .ok (.aload_n 0, 1) := by decide +kernel
theorem dX9_campsTold_56 : decode cX9_campsTold 56 = .ok (.getfield 10, 3) := by decide +kernel
theorem dX9_campsTold_59 : decode cX9_campsTold 59 = .ok (.iload_n 2, 1) := by decide +kernel
theorem dX9_campsTold_60 : decode cX9_campsTold 60 = .ok (.iload_n 1, 1) := by decide +kernel
theorem dX9_campsTold_61 : decode cX9_campsTold 61 = .ok (.invokevirtual 138, 3) := by decide +kernel
theorem dX9_campsTold_64 : decode cX9_campsTold 64 = .ok (.istore 4, 2) := by decide +kernel
theorem dX9_campsTold_66 : decode cX9_campsTold 66 = .ok (.iload 4, 2) := by decide +kernel
theorem dX9_campsTold_68 : decode cX9_campsTold 68 = .ok (.iconst (-1), 1) := by decide +kernel
theorem dX9_campsTold_69 : decode cX9_campsTold 69 = .ok (.if_icmp .eq 8, 3) := by decide +kernel
theorem dX9_campsTold_72 : decode cX9_campsTold 72 = .ok (.iconst (-1), 1) := by decide +kernel
theorem dX9_campsTold_73 : decode cX9_campsTold 73 = .ok (.iload 4, 2) := by decide +kernel
theorem dX9_campsTold_75 : decode cX9_campsTold 75 = .ok (.isub, 1) := by decide +kernel
theorem dX9_campsTold_76 : decode cX9_campsTold 76 = .ok (.ireturn, 1) := by decide +kernel
theorem dX9_campsTold_77 : decode cX9_campsTold 77 = .ok (.iinc 2 6, 3) := by decide +kernel
theorem dX9_campsTold_80 : decode cX9_campsTold 80 = .ok (.iload_n 2, 1) := by decide +kernel
theorem dX9_campsTold_81 : decode cX9_campsTold 81 = .ok (.iload_n 1, 1) := by decide +kernel
theorem dX9_campsTold_82 : decode cX9_campsTold 82 = .ok (.if_icmp .ge 20, 3) := by decide +kernel
theorem dX9_campsTold_85 : decode cX9_campsTold 85 = .ok (.aload_n 0, 1) := by decide +kernel
theorem dX9_campsTold_86 : decode cX9_campsTold 86 = .ok (.getfield 10, 3) := by decide +kernel
theorem dX9_campsTold_89 : decode cX9_campsTold 89 = .ok (.iload_n 2, 1) := by decide +kernel
theorem dX9_campsTold_90 : decode cX9_campsTold 90 = .ok (.invokevirtual 142, 3) := by decide +kernel
theorem dX9_campsTold_93 : decode cX9_campsTold 93 = .ok (.bipush 59, 2) := by decide +kernel
theorem dX9_campsTold_95 : decode cX9_campsTold 95 = .ok (.if_icmp .eq 7, 3) := by decide +kernel
theorem dX9_campsTold_98 : decode cX9_campsTold 98 = .ok (.iconst (-1), 1) := by decide +kernel
theorem dX9_campsTold_99 : decode cX9_campsTold 99 = .ok (.iload_n 2, 1) := by decide +kernel
theorem dX9_campsTold_100 : decode cX9_campsTold 100 = .ok (.isub, 1) := by decide +kernel
theorem dX9_campsTold_101 : decode cX9_campsTold 101 = .ok (.ireturn, 1) := by decide +kernel
theorem dX9_campsTold_102 : decode cX9_campsTold 102 = .ok (.iinc 2 1, 3) := by decide +kernel
theorem dX9_campsTold_105 : decode cX9_campsTold 105 = .ok (.iinc 3 1, 3) := by decide +kernel
theorem dX9_campsTold_108 : decode cX9_campsTold 108 = .ok (.goto (-68), 3) := by decide +kernel
theorem dX9_campsTold_111 : decode cX9_campsTold 111 = .ok (.iload_n 2, 1) := by decide +kernel
theorem dX9_campsTold_112 : decode cX9_campsTold 112 = .ok (.iload_n 1, 1) := by decide +kernel
theorem dX9_campsTold_113 : decode cX9_campsTold 113 = .ok (.if_icmp .ne 7, 3) := by decide +kernel
theorem dX9_campsTold_116 : decode cX9_campsTold 116 = .ok (.iconst (-1), 1) := by decide +kernel
theorem dX9_campsTold_117 : decode cX9_campsTold 117 = .ok (.iload_n 1, 1) := by decide +kernel
theorem dX9_campsTold_118 : decode cX9_campsTold 118 = .ok (.isub, 1) := by decide +kernel
theorem dX9_campsTold_119 : decode cX9_campsTold 119 = .ok (.ireturn, 1) := by decide +kernel
theorem dX9_campsTold_120 : decode cX9_campsTold 120 = .ok (.aload_n 0, 1) := by decide +kernel
theorem dX9_campsTold_121 : decode cX9_campsTold 121 = .ok (.getfield 10, 3) := by decide +kernel
theorem dX9_campsTold_124 : decode cX9_campsTold 124 = .ok (.getfield 93, 3) := by decide +kernel
theorem dX9_campsTold_127 : decode cX9_campsTold 127 = .ok (.bipush 55, 2) := by decide +kernel
theorem dX9_campsTold_129 : decode cX9_campsTold 129 = .ok (.if_icmp .le 6, 3) := by decide +kernel
theorem dX9_campsTold_132 : decode cX9_campsTold 132 = .ok (.bipush (-56), 2) := by decide +kernel
theorem dX9_campsTold_134 : decode cX9_campsTold 134 = .ok (.ireturn, 1) := by decide +kernel
theorem dX9_campsTold_135 : decode cX9_campsTold 135 = .ok (.aload_n 0, 1) := by decide +kernel
theorem dX9_campsTold_136 : decode cX9_campsTold 136 = .ok (.getfield 33, 3) := by decide +kernel
theorem dX9_campsTold_139 : decode cX9_campsTold 139 = .ok (.getfield 146, 3) := by decide +kernel
theorem dX9_campsTold_142 : decode cX9_campsTold 142 = .ok (.aload_n 0, 1) := by decide +kernel
theorem dX9_campsTold_143 : decode cX9_campsTold 143 = .ok (.getfield 26, 3) := by decide +kernel
theorem dX9_campsTold_146 : decode cX9_campsTold 146 = .ok (.getfield 146, 3) := by decide +kernel
theorem dX9_campsTold_149 : decode cX9_campsTold 149 = .ok (.isub, 1) := by decide +kernel
theorem dX9_campsTold_150 : decode cX9_campsTold 150 = .ok (.istore_n 3, 1) := by decide +kernel
theorem dX9_campsTold_151 : decode cX9_campsTold 151 = .ok (.aload_n 0, 1) := by decide +kernel
theorem dX9_campsTold_152 : decode cX9_campsTold 152 = .ok (.getfield 26, 3) := by decide +kernel
theorem dX9_campsTold_155 : decode cX9_campsTold 155 = .ok (.aload_n 0, 1) := by decide +kernel
theorem dX9_campsTold_156 : decode cX9_campsTold 156 = .ok (.getfield 33, 3) := by decide +kernel
theorem dX9_campsTold_159 : decode cX9_campsTold 159 = .ok (.invokevirtual 134, 3) := by decide +kernel
theorem dX9_campsTold_162 : decode cX9_campsTold 162 = .ok (.aload_n 0, 1) := by decide +kernel
theorem dX9_campsTold_163 : decode cX9_campsTold 163 = .ok (.invokevirtual 112, 3) := by decide +kernel
theorem dX9_campsTold_166 : decode cX9_campsTold 166 = .ok (.iload_n 3, 1) := by decide +kernel
theorem dX9_campsTold_167 : decode cX9_campsTold 167 = .ok (.ireturn, 1) := by decide +kernel
theorem dX9_rule_0 : decode cX9_rule 0 = .ok (.aload_n 0, 1) := by decide +kernel
theorem dX9_rule_1 : decode cX9_rule 1 = .ok (.getfield 60, 3) := by decide +kernel
theorem dX9_rule_4 : decode cX9_rule 4 = .ok (.aload_n 0, 1) := by decide +kernel
theorem dX9_rule_5 : decode cX9_rule 5 = .ok (.getfield 10, 3) := by decide +kernel
theorem dX9_rule_8 : decode cX9_rule 8 = .ok (.aload_n 0, 1) := by decide +kernel
theorem dX9_rule_9 : decode cX9_rule 9 = .ok (.getfield 54, 3) := by decide +kernel
theorem dX9_rule_12 : decode cX9_rule 12 = .ok (.invokevirtual 147, 3) := by decide +kernel
theorem dX9_rule_15 : decode cX9_rule 15 = .ok (.istore_n 1, 1) := by decide +kernel
theorem dX9_rule_16 : decode cX9_rule 16 = .ok (.aload_n 0, 1) := by decide +kernel
theorem dX9_rule_17 : decode cX9_rule 17 = .ok (.getfield 10, 3) := by decide +kernel
theorem dX9_rule_20 : decode cX9_rule 20 = .ok (.iconst 0, 1) := by decide +kernel
theorem dX9_rule_21 : decode cX9_rule 21 = .ok (.putfield 93, 3) := by decide +kernel
theorem dX9_rule_24 : decode cX9_rule 24 = .ok (.iload_n 1, 1) := by decide +kernel
theorem dX9_rule_25 : decode cX9_rule 25 = .ok (.iconst (-1), 1) := by decide +kernel
theorem dX9_rule_26 : decode cX9_rule 26 = .ok (.if_icmp .eq 7, 3) := by decide +kernel
theorem dX9_rule_29 : decode cX9_rule 29 = .ok (.iconst (-1), 1) := by decide +kernel
theorem dX9_rule_30 : decode cX9_rule 30 = .ok (.iload_n 1, 1) := by decide +kernel
theorem dX9_rule_31 : decode cX9_rule 31 = .ok (.isub, 1) := by decide +kernel
theorem dX9_rule_32 : decode cX9_rule 32 = .ok (.ireturn, 1) := by decide +kernel
theorem dX9_rule_33 : decode cX9_rule 33 = .ok (.aload_n 0, 1) := by decide +kernel
theorem dX9_rule_34 : decode cX9_rule 34 = .ok (.getfield 50, 3) := by decide +kernel
theorem dX9_rule_37 : decode cX9_rule 37 = .ok (.aload_n 0, 1) := by decide +kernel
theorem dX9_rule_38 : decode cX9_rule 38 = .ok (.getfield 54, 3) := by decide +kernel
theorem dX9_rule_41 : decode cX9_rule 41 = .ok (.invokevirtual 151, 3) := by decide +kernel
theorem dX9_rule_44 : decode cX9_rule 44 = .ok (.iconst 0, 1) := by decide +kernel
theorem dX9_rule_45 : decode cX9_rule 45 = .ok (.ireturn, 1) := by decide +kernel
theorem dX9_camp_0 : decode cX9_camp 0 = .ok (.aload_n 0, 1) := by decide +kernel
theorem dX9_camp_1 : decode cX9_camp 1 = .ok (.getfield 26, 3) := by decide +kernel
theorem dX9_camp_4 : decode cX9_camp 4 = .ok (.iload_n 1, 1) := by decide +kernel
theorem dX9_camp_5 : decode cX9_camp 5 = .ok (.invokevirtual 154, 3) := by decide +kernel
theorem dX9_camp_8 : decode cX9_camp 8 = .ok (.ifCond .eq 13, 3) := by decide +kernel
theorem dX9_camp_11 : decode cX9_camp 11 = .ok (.iload_n 2, 1) := by decide +kernel
theorem dX9_camp_12 : decode cX9_camp 12 = .ok (.ifCond .lt 9, 3) := by decide +kernel
theorem dX9_camp_15 : decode cX9_camp 15 = .ok (.iload_n 2, 1) := by decide +kernel
theorem dX9_camp_16 : decode cX9_camp 16 = .ok (.bipush 7, 2) := by decide +kernel
theorem dX9_camp_18 : decode cX9_camp 18 = .ok (.if_icmp .le 11, 3) := by decide +kernel
theorem dX9_camp_21 : decode cX9_camp 21 = .ok (.new 158, 3) := by decide +kernel
theorem dX9_camp_24 : decode cX9_camp 24 = .ok (.dup, 1) := by decide +kernel
theorem dX9_camp_25 : decode cX9_camp 25 = .ok (.invokespecial 160, 3) := by decide +kernel
theorem dX9_camp_28 : decode cX9_camp 28 = .ok (.athrow, 1) := by decide +kernel
theorem dX9_camp_29 : decode cX9_camp 29 = .ok (.iload_n 2, 1) := by decide +kernel
theorem dX9_camp_30 : decode cX9_camp 30 = .ok (.tableswitch 115 0 6 #[42, 51, 61, 71, 81, 91, 101], 42) := by decide +kernel
theorem dX9_camp_72 : decode cX9_camp 72 = .ok (.aload_n 0, 1) := by decide +kernel
theorem dX9_camp_73 : decode cX9_camp 73 = .ok (.getfield 26, 3) := by decide +kernel
theorem dX9_camp_76 : decode cX9_camp 76 = .ok (.iload_n 1, 1) := by decide +kernel
theorem dX9_camp_77 : decode cX9_camp 77 = .ok (.invokevirtual 161, 3) := by decide +kernel
theorem dX9_camp_80 : decode cX9_camp 80 = .ok (.ireturn, 1) := by decide +kernel
theorem dX9_camp_81 : decode cX9_camp 81 = .ok (.aload_n 0, 1) := by decide +kernel
theorem dX9_camp_82 : decode cX9_camp 82 = .ok (.getfield 26, 3) := by decide +kernel
theorem dX9_camp_85 : decode cX9_camp 85 = .ok (.getfield 164, 3) := by decide +kernel
theorem dX9_camp_88 : decode cX9_camp 88 = .ok (.iload_n 1, 1) := by decide +kernel
theorem dX9_camp_89 : decode cX9_camp 89 = .ok (.iaload, 1) := by decide +kernel
theorem dX9_camp_90 : decode cX9_camp 90 = .ok (.ireturn, 1) := by decide +kernel
theorem dX9_camp_91 : decode cX9_camp 91 = .ok (.aload_n 0, 1) := by decide +kernel
theorem dX9_camp_92 : decode cX9_camp 92 = .ok (.getfield 26, 3) := by decide +kernel
theorem dX9_camp_95 : decode cX9_camp 95 = .ok (.getfield 167, 3) := by decide +kernel
theorem dX9_camp_98 : decode cX9_camp 98 = .ok (.iload_n 1, 1) := by decide +kernel
theorem dX9_camp_99 : decode cX9_camp 99 = .ok (.iaload, 1) := by decide +kernel
theorem dX9_camp_100 : decode cX9_camp 100 = .ok (.ireturn, 1) := by decide +kernel
theorem dX9_camp_101 : decode cX9_camp 101 = .ok (.aload_n 0, 1) := by decide +kernel
theorem dX9_camp_102 : decode cX9_camp 102 = .ok (.getfield 26, 3) := by decide +kernel
theorem dX9_camp_105 : decode cX9_camp 105 = .ok (.getfield 170, 3) := by decide +kernel
theorem dX9_camp_108 : decode cX9_camp 108 = .ok (.iload_n 1, 1) := by decide +kernel
theorem dX9_camp_109 : decode cX9_camp 109 = .ok (.iaload, 1) := by decide +kernel
theorem dX9_camp_110 : decode cX9_camp 110 = .ok (.ireturn, 1) := by decide +kernel
theorem dX9_camp_111 : decode cX9_camp 111 = .ok (.aload_n 0, 1) := by decide +kernel
theorem dX9_camp_112 : decode cX9_camp 112 = .ok (.getfield 26, 3) := by decide +kernel
theorem dX9_camp_115 : decode cX9_camp 115 = .ok (.getfield 173, 3) := by decide +kernel
theorem dX9_camp_118 : decode cX9_camp 118 = .ok (.iload_n 1, 1) := by decide +kernel
theorem dX9_camp_119 : decode cX9_camp 119 = .ok (.iaload, 1) := by decide +kernel
theorem dX9_camp_120 : decode cX9_camp 120 = .ok (.ireturn, 1) := by decide +kernel
theorem dX9_camp_121 : decode cX9_camp 121 = .ok (.aload_n 0, 1) := by decide +kernel
theorem dX9_camp_122 : decode cX9_camp 122 = .ok (.getfield 26, 3) := by decide +kernel
theorem dX9_camp_125 : decode cX9_camp 125 = .ok (.getfield 176, 3) := by decide +kernel
theorem dX9_camp_128 : decode cX9_camp 128 = .ok (.iload_n 1, 1) := by decide +kernel
theorem dX9_camp_129 : decode cX9_camp 129 = .ok (.iaload, 1) := by decide +kernel
theorem dX9_camp_130 : decode cX9_camp 130 = .ok (.ireturn, 1) := by decide +kernel
theorem dX9_camp_131 : decode cX9_camp 131 = .ok (.aload_n 0, 1) := by decide +kernel
theorem dX9_camp_132 : decode cX9_camp 132 = .ok (.getfield 50, 3) := by decide +kernel
theorem dX9_camp_135 : decode cX9_camp 135 = .ok (.aload_n 0, 1) := by decide +kernel
theorem dX9_camp_136 : decode cX9_camp 136 = .ok (.getfield 26, 3) := by decide +kernel
theorem dX9_camp_139 : decode cX9_camp 139 = .ok (.invokevirtual 179, 3) := by decide +kernel
theorem dX9_camp_142 : decode cX9_camp 142 = .ok (.iload_n 1, 1) := by decide +kernel
theorem dX9_camp_143 : decode cX9_camp 143 = .ok (.iaload, 1) := by decide +kernel
theorem dX9_camp_144 : decode cX9_camp 144 = .ok (.ireturn, 1) := by decide +kernel
theorem dX9_camp_145 : decode cX9_camp 145 = .ok (.aload_n 0, 1) := by decide +kernel
theorem dX9_camp_146 : decode cX9_camp 146 = .ok (.getfield 26, 3) := by decide +kernel
theorem dX9_camp_149 : decode cX9_camp 149 = .ok (.iload_n 1, 1) := by decide +kernel
theorem dX9_camp_150 : decode cX9_camp 150 = .ok (.invokevirtual 183, 3) := by decide +kernel
theorem dX9_camp_153 : decode cX9_camp 153 = .ok (.ireturn, 1) := by decide +kernel
theorem dX9_cell_0 : decode cX9_cell 0 = .ok (.aload_n 0, 1) := by decide +kernel
theorem dX9_cell_1 : decode cX9_cell 1 = .ok (.getfield 26, 3) := by decide +kernel
theorem dX9_cell_4 : decode cX9_cell 4 = .ok (.iload_n 1, 1) := by decide +kernel
theorem dX9_cell_5 : decode cX9_cell 5 = .ok (.invokevirtual 186, 3) := by decide +kernel
theorem dX9_cell_8 : decode cX9_cell 8 = .ok (.ifCond .eq 12, 3) := by decide +kernel
theorem dX9_cell_11 : decode cX9_cell 11 = .ok (.iload_n 2, 1) := by decide +kernel
theorem dX9_cell_12 : decode cX9_cell 12 = .ok (.ifCond .lt 8, 3) := by decide +kernel
theorem dX9_cell_15 : decode cX9_cell 15 = .ok (.iload_n 2, 1) := by decide +kernel
theorem dX9_cell_16 : decode cX9_cell 16 = .ok (.iconst 2, 1) := by decide +kernel
theorem dX9_cell_17 : decode cX9_cell 17 = .ok (.if_icmp .le 11, 3) := by decide +kernel
theorem dX9_cell_20 : decode cX9_cell 20 = .ok (.new 158, 3) := by decide +kernel
