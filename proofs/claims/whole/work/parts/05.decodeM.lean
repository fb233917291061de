theorem dX11_init_0 : decode cX11_init 0 = .ok (.aload_n 0, 1) := by decide +kernel
theorem dX11_init_1 : decode cX11_init 1 = .ok (.invokespecial 1, 3) := by decide +kernel
theorem dX11_init_4 : decode cX11_init 4 = .ok (.aload_n 0, 1) := by decide +kernel
theorem dX11_init_5 : decode cX11_init 5 = .ok (.iconst 4, 1) := by decide +kernel
theorem dX11_init_6 : decode cX11_init 6 = .ok (.newarray .int, 2) := by decide +kernel
theorem dX11_init_8 : decode cX11_init 8 = .ok (.putfield 7, 3) := by decide +kernel
theorem dX11_init_11 : decode cX11_init 11 = .ok (.aload_n 0, 1) := by decide +kernel
theorem dX11_init_12 : decode cX11_init 12 = .ok (.iconst 4, 1) := by decide +kernel
theorem dX11_init_13 : decode cX11_init 13 = .ok (.newarray .int, 2) := by decide +kernel
theorem dX11_init_15 : decode cX11_init 15 = .ok (.putfield 13, 3) := by decide +kernel
theorem dX11_init_18 : decode cX11_init 18 = .ok (.aload_n 0, 1) := by decide +kernel
theorem dX11_init_19 : decode cX11_init 19 = .ok (.sipush 240, 3) := by decide +kernel
theorem dX11_init_22 : decode cX11_init 22 = .ok (.newarray .int, 2) := by decide +kernel
theorem dX11_init_24 : decode cX11_init 24 = .ok (.putfield 16, 3) := by decide +kernel
theorem dX11_init_27 : decode cX11_init 27 = .ok (.aload_n 0, 1) := by decide +kernel
theorem dX11_init_28 : decode cX11_init 28 = .ok (.bipush 60, 2) := by decide +kernel
theorem dX11_init_30 : decode cX11_init 30 = .ok (.newarray .int, 2) := by decide +kernel
theorem dX11_init_32 : decode cX11_init 32 = .ok (.putfield 19, 3) := by decide +kernel
theorem dX11_init_35 : decode cX11_init 35 = .ok (.aload_n 0, 1) := by decide +kernel
theorem dX11_init_36 : decode cX11_init 36 = .ok (.bipush 120, 2) := by decide +kernel
theorem dX11_init_38 : decode cX11_init 38 = .ok (.newarray .int, 2) := by decide +kernel
theorem dX11_init_40 : decode cX11_init 40 = .ok (.putfield 22, 3) := by decide +kernel
theorem dX11_init_43 : decode cX11_init 43 = .ok (.aload_n 0, 1) := by decide +kernel
theorem dX11_init_44 : decode cX11_init 44 = .ok (.iconst 2, 1) := by decide +kernel
theorem dX11_init_45 : decode cX11_init 45 = .ok (.newarray .int, 2) := by decide +kernel
theorem dX11_init_47 : decode cX11_init 47 = .ok (.putfield 25, 3) := by decide +kernel
theorem dX11_init_50 : decode cX11_init 50 = .ok (.aload_n 0, 1) := by decide +kernel
theorem dX11_init_51 : decode cX11_init 51 = .ok (.bipush 48, 2) := by decide +kernel
theorem dX11_init_53 : decode cX11_init 53 = .ok (.newarray .int, 2) := by decide +kernel
theorem dX11_init_55 : decode cX11_init 55 = .ok (.putfield 28, 3) := by decide +kernel
theorem dX11_init_58 : decode cX11_init 58 = .ok (.aload_n 0, 1) := by decide +kernel
theorem dX11_init_59 : decode cX11_init 59 = .ok (.bipush 16, 2) := by decide +kernel
theorem dX11_init_61 : decode cX11_init 61 = .ok (.newarray .boolean, 2) := by decide +kernel
theorem dX11_init_63 : decode cX11_init 63 = .ok (.putfield 31, 3) := by decide +kernel
theorem dX11_init_66 : decode cX11_init 66 = .ok (.aload_n 0, 1) := by decide +kernel
theorem dX11_init_67 : decode cX11_init 67 = .ok (.iconst 4, 1) := by decide +kernel
theorem dX11_init_68 : decode cX11_init 68 = .ok (.newarray .int, 2) := by decide +kernel
theorem dX11_init_70 : decode cX11_init 70 = .ok (.putfield 35, 3) := by decide +kernel
theorem dX11_init_73 : decode cX11_init 73 = .ok (.aload_n 0, 1) := by decide +kernel
theorem dX11_init_74 : decode cX11_init 74 = .ok (.iconst 4, 1) := by decide +kernel
theorem dX11_init_75 : decode cX11_init 75 = .ok (.newarray .int, 2) := by decide +kernel
theorem dX11_init_77 : decode cX11_init 77 = .ok (.putfield 38, 3) := by decide +kernel
theorem dX11_init_80 : decode cX11_init 80 = .ok (.aload_n 0, 1) := by decide +kernel
theorem dX11_init_81 : decode cX11_init 81 = .ok (.iconst 4, 1) := by decide +kernel
theorem dX11_init_82 : decode cX11_init 82 = .ok (.newarray .boolean, 2) := by decide +kernel
theorem dX11_init_84 : decode cX11_init 84 = .ok (.putfield 41, 3) := by decide +kernel
theorem dX11_init_87 : decode cX11_init 87 = .ok (.aload_n 0, 1) := by decide +kernel
theorem dX11_init_88 : decode cX11_init 88 = .ok (.iconst 2, 1) := by decide +kernel
theorem dX11_init_89 : decode cX11_init 89 = .ok (.newarray .int, 2) := by decide +kernel
theorem dX11_init_91 : decode cX11_init 91 = .ok (.putfield 44, 3) := by decide +kernel
theorem dX11_init_94 : decode cX11_init 94 = .ok (.aload_n 0, 1) := by decide +kernel
theorem dX11_init_95 : decode cX11_init 95 = .ok (.bipush 12, 2) := by decide +kernel
theorem dX11_init_97 : decode cX11_init 97 = .ok (.newarray .int, 2) := by decide +kernel
theorem dX11_init_99 : decode cX11_init 99 = .ok (.putfield 47, 3) := by decide +kernel
theorem dX11_init_102 : decode cX11_init 102 = .ok (.aload_n 0, 1) := by decide +kernel
theorem dX11_init_103 : decode cX11_init 103 = .ok (.bipush 6, 2) := by decide +kernel
theorem dX11_init_105 : decode cX11_init 105 = .ok (.newarray .int, 2) := by decide +kernel
theorem dX11_init_107 : decode cX11_init 107 = .ok (.putfield 50, 3) := by decide +kernel
theorem dX11_init_110 : decode cX11_init 110 = .ok (.aload_n 0, 1) := by decide +kernel
theorem dX11_init_111 : decode cX11_init 111 = .ok (.bipush 24, 2) := by decide +kernel
theorem dX11_init_113 : decode cX11_init 113 = .ok (.newarray .int, 2) := by decide +kernel
theorem dX11_init_115 : decode cX11_init 115 = .ok (.putfield 53, 3) := by decide +kernel
theorem dX11_init_118 : decode cX11_init 118 = .ok (.iconst 0, 1) := by decide +kernel
theorem dX11_init_119 : decode cX11_init 119 = .ok (.istore_n 1, 1) := by decide +kernel
theorem dX11_init_120 : decode cX11_init 120 = .ok (.iload_n 1, 1) := by decide +kernel
theorem dX11_init_121 : decode cX11_init 121 = .ok (.iconst 4, 1) := by decide +kernel
theorem dX11_init_122 : decode cX11_init 122 = .ok (.if_icmp .ge 24, 3) := by decide +kernel
theorem dX11_init_125 : decode cX11_init 125 = .ok (.aload_n 0, 1) := by decide +kernel
theorem dX11_init_126 : decode cX11_init 126 = .ok (.getfield 7, 3) := by decide +kernel
theorem dX11_init_129 : decode cX11_init 129 = .ok (.iload_n 1, 1) := by decide +kernel
theorem dX11_init_130 : decode cX11_init 130 = .ok (.iconst (-1), 1) := by decide +kernel
theorem dX11_init_131 : decode cX11_init 131 = .ok (.iastore, 1) := by decide +kernel
theorem dX11_init_132 : decode cX11_init 132 = .ok (.aload_n 0, 1) := by decide +kernel
theorem dX11_init_133 : decode cX11_init 133 = .ok (.getfield 35, 3) := by decide +kernel
theorem dX11_init_136 : decode cX11_init 136 = .ok (.iload_n 1, 1) := by decide +kernel
theorem dX11_init_137 : decode cX11_init 137 = .ok (.bipush 60, 2) := by decide +kernel
theorem dX11_init_139 : decode cX11_init 139 = .ok (.iastore, 1) := by decide +kernel
theorem dX11_init_140 : decode cX11_init 140 = .ok (.iinc 1 1, 3) := by decide +kernel
theorem dX11_init_143 : decode cX11_init 143 = .ok (.goto (-23), 3) := by decide +kernel
theorem dX11_init_146 : decode cX11_init 146 = .ok (.aload_n 0, 1) := by decide +kernel
theorem dX11_init_147 : decode cX11_init 147 = .ok (.iconst 4, 1) := by decide +kernel
theorem dX11_init_148 : decode cX11_init 148 = .ok (.putfield 56, 3) := by decide +kernel
theorem dX11_init_151 : decode cX11_init 151 = .ok (.return_, 1) := by decide +kernel
theorem dX11_in_0 : decode cX11_in 0 = .ok (.lload_n 0, 1) := by decide +kernel
theorem dX11_in_1 : decode cX11_in 1 = .ok (.lload_n 2, 1) := by decide +kernel
theorem dX11_in_2 : decode cX11_in 2 = .ok (.lcmp, 1) := by decide +kernel
theorem dX11_in_3 : decode cX11_in 3 = .ok (.ifCond .lt 14, 3) := by decide +kernel
theorem dX11_in_6 : decode cX11_in 6 = .ok (.lload_n 0, 1) := by decide +kernel
theorem dX11_in_7 : decode cX11_in 7 = .ok (.lload 4, 2) := by decide +kernel
theorem dX11_in_9 : decode cX11_in 9 = .ok (.lcmp, 1) := by decide +kernel
theorem dX11_in_10 : decode cX11_in 10 = .ok (.ifCond .gt 7, 3) := by decide +kernel
theorem dX11_in_13 : decode cX11_in 13 = .ok (.iconst 1, 1) := by decide +kernel
theorem dX11_in_14 : decode cX11_in 14 = .ok (.goto 4, 3) := by decide +kernel
theorem dX11_in_17 : decode cX11_in 17 = .ok (.iconst 0, 1) := by decide +kernel
theorem dX11_in_18 : decode cX11_in 18 = .ok (.ireturn, 1) := by decide +kernel
theorem dX11_no_0 : decode cX11_no 0 = .ok (.ldc2_w 60, 3) := by decide +kernel
theorem dX11_no_3 : decode cX11_no 3 = .ok (.iload_n 0, 1) := by decide +kernel
theorem dX11_no_4 : decode cX11_no 4 = .ok (.i2l, 1) := by decide +kernel
theorem dX11_no_5 : decode cX11_no 5 = .ok (.lsub, 1) := by decide +kernel
theorem dX11_no_6 : decode cX11_no 6 = .ok (.lreturn, 1) := by decide +kernel
theorem dX11_isTwo_0 : decode cX11_isTwo 0 = .ok (.iload_n 0, 1) := by decide +kernel
theorem dX11_isTwo_1 : decode cX11_isTwo 1 = .ok (.i2l, 1) := by decide +kernel
theorem dX11_isTwo_2 : decode cX11_isTwo 2 = .ok (.lconst 0, 1) := by decide +kernel
theorem dX11_isTwo_3 : decode cX11_isTwo 3 = .ok (.lconst 1, 1) := by decide +kernel
theorem dX11_isTwo_4 : decode cX11_isTwo 4 = .ok (.invokestatic 62, 3) := by decide +kernel
theorem dX11_isTwo_7 : decode cX11_isTwo 7 = .ok (.ireturn, 1) := by decide +kernel
theorem dX11_isIn_0 : decode cX11_isIn 0 = .ok (.iload_n 0, 1) := by decide +kernel
theorem dX11_isIn_1 : decode cX11_isIn 1 = .ok (.iload_n 1, 1) := by decide +kernel
theorem dX11_isIn_2 : decode cX11_isIn 2 = .ok (.ishr, 1) := by decide +kernel
theorem dX11_isIn_3 : decode cX11_isIn 3 = .ok (.iconst 1, 1) := by decide +kernel
theorem dX11_isIn_4 : decode cX11_isIn 4 = .ok (.iand, 1) := by decide +kernel
theorem dX11_isIn_5 : decode cX11_isIn 5 = .ok (.iconst 1, 1) := by decide +kernel
theorem dX11_isIn_6 : decode cX11_isIn 6 = .ok (.if_icmp .ne 7, 3) := by decide +kernel
theorem dX11_isIn_9 : decode cX11_isIn 9 = .ok (.iconst 1, 1) := by decide +kernel
theorem dX11_isIn_10 : decode cX11_isIn 10 = .ok (.goto 4, 3) := by decide +kernel
theorem dX11_isIn_13 : decode cX11_isIn 13 = .ok (.iconst 0, 1) := by decide +kernel
theorem dX11_isIn_14 : decode cX11_isIn 14 = .ok (.ireturn, 1) := by decide +kernel
theorem dX11_lesser_0 : decode cX11_lesser 0 = .ok (.iload_n 0, 1) := by decide +kernel
theorem dX11_lesser_1 : decode cX11_lesser 1 = .ok (.iload_n 1, 1) := by decide +kernel
theorem dX11_lesser_2 : decode cX11_lesser 2 = .ok (.if_icmp .ge 7, 3) := by decide +kernel
theorem dX11_lesser_5 : decode cX11_lesser 5 = .ok (.iload_n 0, 1) := by decide +kernel
theorem dX11_lesser_6 : decode cX11_lesser 6 = .ok (.goto 4, 3) := by decide +kernel
theorem dX11_lesser_9 : decode cX11_lesser 9 = .ok (.iload_n 1, 1) := by decide +kernel
theorem dX11_lesser_10 : decode cX11_lesser 10 = .ok (.ireturn, 1) := by decide +kernel
theorem dX11_part_0 : decode cX11_part 0 = .ok (.lload_n 0, 1) := by decide +kernel
theorem dX11_part_1 : decode cX11_part 1 = .ok (.lstore 5, 2) := by decide +kernel
theorem dX11_part_3 : decode cX11_part 3 = .ok (.lload_n 2, 1) := by decide +kernel
theorem dX11_part_4 : decode cX11_part 4 = .ok (.lstore 7, 2) := by decide +kernel
theorem dX11_part_6 : decode cX11_part 6 = .ok (.lload 7, 2) := by decide +kernel
theorem dX11_part_8 : decode cX11_part 8 = .ok (.lconst 0, 1) := by decide +kernel
theorem dX11_part_9 : decode cX11_part 9 = .ok (.lcmp, 1) := by decide +kernel
theorem dX11_part_10 : decode cX11_part 10 = .ok (.ifCond .eq 21, 3) := by decide +kernel
theorem dX11_part_13 : decode cX11_part 13 = .ok (.lload 5, 2) := by decide +kernel
theorem dX11_part_15 : decode cX11_part 15 = .ok (.lload 7, 2) := by decide +kernel
theorem dX11_part_17 : decode cX11_part 17 = .ok (.lrem, 1) := by decide +kernel
theorem dX11_part_18 : decode cX11_part 18 = .ok (.lstore 9, 2) := by decide +kernel
theorem dX11_part_20 : decode cX11_part 20 = .ok (.lload 7, 2) := by decide +kernel
theorem dX11_part_22 : decode cX11_part 22 = .ok (.lstore 5, 2) := by decide +kernel
theorem dX11_part_24 : decode cX11_part 24 = .ok (.lload 9, 2) := by decide +kernel
theorem dX11_part_26 : decode cX11_part 26 = .ok (.lstore 7, 2) := by decide +kernel
theorem dX11_part_28 : decode cX11_part 28 = .ok (.goto (-22), 3) := by decide +kernel
theorem dX11_part_31 : decode cX11_part 31 = .ok (.iload 4, 2) := by decide +kernel
theorem dX11_part_33 : decode cX11_part 33 = .ok (.ifCond .ne 7, 3) := by decide +kernel
theorem dX11_part_36 : decode cX11_part 36 = .ok (.lload_n 0, 1) := by decide +kernel
theorem dX11_part_37 : decode cX11_part 37 = .ok (.goto 4, 3) := by decide +kernel
theorem dX11_part_40 : decode cX11_part 40 = .ok (.lload_n 2, 1) := by decide +kernel
theorem dX11_part_41 : decode cX11_part 41 = .ok (.lload 5, 2) := by decide +kernel
theorem dX11_part_43 : decode cX11_part 43 = .ok (.ldiv, 1) := by decide +kernel
theorem dX11_part_44 : decode cX11_part 44 = .ok (.lreturn, 1) := by decide +kernel
theorem dX11_met_0 : decode cX11_met 0 = .ok (.aload_n 0, 1) := by decide +kernel
theorem dX11_met_1 : decode cX11_met 1 = .ok (.iload_n 1, 1) := by decide +kernel
theorem dX11_met_2 : decode cX11_met 2 = .ok (.putfield 66, 3) := by decide +kernel
theorem dX11_met_5 : decode cX11_met 5 = .ok (.bipush (-10), 2) := by decide +kernel
theorem dX11_met_7 : decode cX11_met 7 = .ok (.iload_n 1, 1) := by decide +kernel
theorem dX11_met_8 : decode cX11_met 8 = .ok (.isub, 1) := by decide +kernel
theorem dX11_met_9 : decode cX11_met 9 = .ok (.ireturn, 1) := by decide +kernel
theorem dX11_isSheet_0 : decode cX11_isSheet 0 = .ok (.iload_n 0, 1) := by decide +kernel
theorem dX11_isSheet_1 : decode cX11_isSheet 1 = .ok (.i2l, 1) := by decide +kernel
theorem dX11_isSheet_2 : decode cX11_isSheet 2 = .ok (.lconst 0, 1) := by decide +kernel
theorem dX11_isSheet_3 : decode cX11_isSheet 3 = .ok (.ldc2_w 69, 3) := by decide +kernel
theorem dX11_isSheet_6 : decode cX11_isSheet 6 = .ok (.invokestatic 62, 3) := by decide +kernel
theorem dX11_isSheet_9 : decode cX11_isSheet 9 = .ok (.ireturn, 1) := by decide +kernel
theorem dX11_sheet_0 : decode cX11_sheet 0 = .ok (.iload_n 1, 1) := by decide +kernel
theorem dX11_sheet_1 : decode cX11_sheet 1 = .ok (.invokestatic 71, 3) := by decide +kernel
theorem dX11_sheet_4 : decode cX11_sheet 4 = .ok (.ifCond .eq 21, 3) := by decide +kernel
theorem dX11_sheet_7 : decode cX11_sheet 7 = .ok (.iload_n 2, 1) := by decide +kernel
theorem dX11_sheet_8 : decode cX11_sheet 8 = .ok (.i2l, 1) := by decide +kernel
theorem dX11_sheet_9 : decode cX11_sheet 9 = .ok (.lconst 0, 1) := by decide +kernel
theorem dX11_sheet_10 : decode cX11_sheet 10 = .ok (.ldc2_w 75, 3) := by decide +kernel
theorem dX11_sheet_13 : decode cX11_sheet 13 = .ok (.invokestatic 62, 3) := by decide +kernel
theorem dX11_sheet_16 : decode cX11_sheet 16 = .ok (.ifCond .eq 9, 3) := by decide +kernel
theorem dX11_sheet_19 : decode cX11_sheet 19 = .ok (.iload_n 3, 1) := by decide +kernel
theorem dX11_sheet_20 : decode cX11_sheet 20 = .ok (.bipush 60, 2) := by decide +kernel
theorem dX11_sheet_22 : decode cX11_sheet 22 = .ok (.if_icmp .le 6, 3) := by decide +kernel
theorem dX11_sheet_25 : decode cX11_sheet 25 = .ok (.bipush (-2), 2) := by decide +kernel
theorem dX11_sheet_27 : decode cX11_sheet 27 = .ok (.ireturn, 1) := by decide +kernel
theorem dX11_sheet_28 : decode cX11_sheet 28 = .ok (.iload_n 3, 1) := by decide +kernel
theorem dX11_sheet_29 : decode cX11_sheet 29 = .ok (.ifCond .ge 9, 3) := by decide +kernel
theorem dX11_sheet_32 : decode cX11_sheet 32 = .ok (.aload_n 0, 1) := by decide +kernel
theorem dX11_sheet_33 : decode cX11_sheet 33 = .ok (.iconst 5, 1) := by decide +kernel
theorem dX11_sheet_34 : decode cX11_sheet 34 = .ok (.invokevirtual 77, 3) := by decide +kernel
theorem dX11_sheet_37 : decode cX11_sheet 37 = .ok (.ireturn, 1) := by decide +kernel
theorem dX11_sheet_38 : decode cX11_sheet 38 = .ok (.aload_n 0, 1) := by decide +kernel
theorem dX11_sheet_39 : decode cX11_sheet 39 = .ok (.getfield 7, 3) := by decide +kernel
theorem dX11_sheet_42 : decode cX11_sheet 42 = .ok (.iload_n 1, 1) := by decide +kernel
theorem dX11_sheet_43 : decode cX11_sheet 43 = .ok (.iload_n 2, 1) := by decide +kernel
theorem dX11_sheet_44 : decode cX11_sheet 44 = .ok (.iastore, 1) := by decide +kernel
theorem dX11_sheet_45 : decode cX11_sheet 45 = .ok (.aload_n 0, 1) := by decide +kernel
theorem dX11_sheet_46 : decode cX11_sheet 46 = .ok (.getfield 13, 3) := by decide +kernel
theorem dX11_sheet_49 : decode cX11_sheet 49 = .ok (.iload_n 1, 1) := by decide +kernel
theorem dX11_sheet_50 : decode cX11_sheet 50 = .ok (.iload_n 3, 1) := by decide +kernel
theorem dX11_sheet_51 : decode cX11_sheet 51 = .ok (.iastore, 1) := by decide +kernel
theorem dX11_sheet_52 : decode cX11_sheet 52 = .ok (.iconst 0, 1) := by decide +kernel
theorem dX11_sheet_53 : decode cX11_sheet 53 = .ok (.istore 4, 2) := by decide +kernel
theorem dX11_sheet_55 : decode cX11_sheet 55 = .ok (.iload 4, 2) := by decide +kernel
theorem dX11_sheet_57 : decode cX11_sheet 57 = .ok (.iload_n 3, 1) := by decide +kernel
theorem dX11_sheet_58 : decode cX11_sheet 58 = .ok (.if_icmp .ge 22, 3) := by decide +kernel
theorem dX11_sheet_61 : decode cX11_sheet 61 = .ok (.aload_n 0, 1) := by decide +kernel
theorem dX11_sheet_62 : decode cX11_sheet 62 = .ok (.getfield 16, 3) := by decide +kernel
theorem dX11_sheet_65 : decode cX11_sheet 65 = .ok (.bipush 60, 2) := by decide +kernel
theorem dX11_sheet_67 : decode cX11_sheet 67 = .ok (.iload_n 1, 1) := by decide +kernel
theorem dX11_sheet_68 : decode cX11_sheet 68 = .ok (.imul, 1) := by decide +kernel
theorem dX11_sheet_69 : decode cX11_sheet 69 = .ok (.iload 4, 2) := by decide +kernel
theorem dX11_sheet_71 : decode cX11_sheet 71 = .ok (.iadd, 1) := by decide +kernel
theorem dX11_sheet_72 : decode cX11_sheet 72 = .ok (.iconst 0, 1) := by decide +kernel
theorem dX11_sheet_73 : decode cX11_sheet 73 = .ok (.iastore, 1) := by decide +kernel
theorem dX11_sheet_74 : decode cX11_sheet 74 = .ok (.iinc 4 1, 3) := by decide +kernel
theorem dX11_sheet_77 : decode cX11_sheet 77 = .ok (.goto (-22), 3) := by decide +kernel
theorem dX11_sheet_80 : decode cX11_sheet 80 = .ok (.iload_n 3, 1) := by decide +kernel
theorem dX11_sheet_81 : decode cX11_sheet 81 = .ok (.ireturn, 1) := by decide +kernel
theorem dX11_lose_0 : decode cX11_lose 0 = .ok (.iload_n 1, 1) := by decide +kernel
theorem dX11_lose_1 : decode cX11_lose 1 = .ok (.invokestatic 71, 3) := by decide +kernel
theorem dX11_lose_4 : decode cX11_lose 4 = .ok (.ifCond .ne 6, 3) := by decide +kernel
theorem dX11_lose_7 : decode cX11_lose 7 = .ok (.bipush (-2), 2) := by decide +kernel
theorem dX11_lose_9 : decode cX11_lose 9 = .ok (.ireturn, 1) := by decide +kernel
theorem dX11_lose_10 : decode cX11_lose 10 = .ok (.aload_n 0, 1) := by decide +kernel
theorem dX11_lose_11 : decode cX11_lose 11 = .ok (.getfield 7, 3) := by decide +kernel
theorem dX11_lose_14 : decode cX11_lose 14 = .ok (.iload_n 1, 1) := by decide +kernel
theorem dX11_lose_15 : decode cX11_lose 15 = .ok (.iaload, 1) := by decide +kernel
theorem dX11_lose_16 : decode cX11_lose 16 = .ok (.ifCond .ge 9, 3) := by decide +kernel
theorem dX11_lose_19 : decode cX11_lose 19 = .ok (.aload_n 0, 1) := by decide +kernel
theorem dX11_lose_20 : decode cX11_lose 20 = .ok (.iconst 1, 1) := by decide +kernel
theorem dX11_lose_21 : decode cX11_lose 21 = .ok (.invokevirtual 77, 3) := by decide +kernel
theorem dX11_lose_24 : decode cX11_lose 24 = .ok (.ireturn, 1) := by decide +kernel
theorem dX11_lose_25 : decode cX11_lose 25 = .ok (.aload_n 0, 1) := by decide +kernel
theorem dX11_lose_26 : decode cX11_lose 26 = .ok (.getfield 7, 3) := by decide +kernel
theorem dX11_lose_29 : decode cX11_lose 29 = .ok (.iload_n 1, 1) := by decide +kernel
theorem dX11_lose_30 : decode cX11_lose 30 = .ok (.iconst (-1), 1) := by decide +kernel
theorem dX11_lose_31 : decode cX11_lose 31 = .ok (.iastore, 1) := by decide +kernel
theorem dX11_lose_32 : decode cX11_lose 32 = .ok (.aload_n 0, 1) := by decide +kernel
theorem dX11_lose_33 : decode cX11_lose 33 = .ok (.getfield 13, 3) := by decide +kernel
theorem dX11_lose_36 : decode cX11_lose 36 = .ok (.iload_n 1, 1) := by decide +kernel
theorem dX11_lose_37 : decode cX11_lose 37 = .ok (.iaload, 1) := by decide +kernel
theorem dX11_lose_38 : decode cX11_lose 38 = .ok (.ireturn, 1) := by decide +kernel
theorem dX11_lacks_0 : decode cX11_lacks 0 = .ok (.aload_n 0, 1) := by decide +kernel
theorem dX11_lacks_1 : decode cX11_lacks 1 = .ok (.getfield 7, 3) := by decide +kernel
theorem dX11_lacks_4 : decode cX11_lacks 4 = .ok (.iload_n 1, 1) := by decide +kernel
theorem dX11_lacks_5 : decode cX11_lacks 5 = .ok (.iaload, 1) := by decide +kernel
theorem dX11_lacks_6 : decode cX11_lacks 6 = .ok (.ifCond .ge 9, 3) := by decide +kernel
theorem dX11_lacks_9 : decode cX11_lacks 9 = .ok (.aload_n 0, 1) := by decide +kernel
theorem dX11_lacks_10 : decode cX11_lacks 10 = .ok (.iconst 1, 1) := by decide +kernel
theorem dX11_lacks_11 : decode cX11_lacks 11 = .ok (.invokevirtual 77, 3) := by decide +kernel
theorem dX11_lacks_14 : decode cX11_lacks 14 = .ok (.ireturn, 1) := by decide +kernel
theorem dX11_lacks_15 : decode cX11_lacks 15 = .ok (.aload_n 0, 1) := by decide +kernel
theorem dX11_lacks_16 : decode cX11_lacks 16 = .ok (.getfield 7, 3) := by decide +kernel
theorem dX11_lacks_19 : decode cX11_lacks 19 = .ok (.iload_n 1, 1) := by decide +kernel
theorem dX11_lacks_20 : decode cX11_lacks 20 = .ok (.iaload, 1) := by decide +kernel
theorem dX11_lacks_21 : decode cX11_lacks 21 = .ok (.iload_n 2, 1) := by decide +kernel
theorem dX11_lacks_22 : decode cX11_lacks 22 = .ok (.if_icmp .eq 9, 3) := by decide +kernel
theorem dX11_lacks_25 : decode cX11_lacks 25 = .ok (.aload_n 0, 1) := by decide +kernel
theorem dX11_lacks_26 : decode cX11_lacks 26 = .ok (.iconst 3, 1) := by decide +kernel
theorem dX11_lacks_27 : decode cX11_lacks 27 = .ok (.invokevirtual 77, 3) := by decide +kernel
theorem dX11_lacks_30 : decode cX11_lacks 30 = .ok (.ireturn, 1) := by decide +kernel
theorem dX11_lacks_31 : decode cX11_lacks 31 = .ok (.iload_n 3, 1) := by decide +kernel
theorem dX11_lacks_32 : decode cX11_lacks 32 = .ok (.i2l, 1) := by decide +kernel
theorem dX11_lacks_33 : decode cX11_lacks 33 = .ok (.lconst 0, 1) := by decide +kernel
theorem dX11_lacks_34 : decode cX11_lacks 34 = .ok (.aload_n 0, 1) := by decide +kernel
theorem dX11_lacks_35 : decode cX11_lacks 35 = .ok (.getfield 13, 3) := by decide +kernel
theorem dX11_lacks_38 : decode cX11_lacks 38 = .ok (.iload_n 1, 1) := by decide +kernel
theorem dX11_lacks_39 : decode cX11_lacks 39 = .ok (.iaload, 1) := by decide +kernel
theorem dX11_lacks_40 : decode cX11_lacks 40 = .ok (.iconst 1, 1) := by decide +kernel
theorem dX11_lacks_41 : decode cX11_lacks 41 = .ok (.isub, 1) := by decide +kernel
theorem dX11_lacks_42 : decode cX11_lacks 42 = .ok (.i2l, 1) := by decide +kernel
theorem dX11_lacks_43 : decode cX11_lacks 43 = .ok (.invokestatic 62, 3) := by decide +kernel
theorem dX11_lacks_46 : decode cX11_lacks 46 = .ok (.ifCond .eq 7, 3) := by decide +kernel
theorem dX11_lacks_49 : decode cX11_lacks 49 = .ok (.iconst 0, 1) := by decide +kernel
theorem dX11_lacks_50 : decode cX11_lacks 50 = .ok (.goto 8, 3) := by decide +kernel
theorem dX11_lacks_53 : decode cX11_lacks 53 = .ok (.aload_n 0, 1) := by decide +kernel
theorem dX11_lacks_54 : decode cX11_lacks 54 = .ok (.iconst 2, 1) := by decide +kernel
theorem dX11_lacks_55 : decode cX11_lacks 55 = .ok (.invokevirtual 77, 3) := by decide +kernel
theorem dX11_lacks_58 : decode cX11_lacks 58 = .ok (.ireturn, 1) := by decide +kernel
theorem dX11_cut_0 : decode cX11_cut 0 = .ok (.iload_n 0, 1) := by decide +kernel
theorem dX11_cut_1 : decode cX11_cut 1 = .ok (.ifCond .ne 8, 3) := by decide +kernel
theorem dX11_cut_4 : decode cX11_cut 4 = .ok (.iload_n 1, 1) := by decide +kernel
theorem dX11_cut_5 : decode cX11_cut 5 = .ok (.i2b, 1) := by decide +kernel
theorem dX11_cut_6 : decode cX11_cut 6 = .ok (.goto 14, 3) := by decide +kernel
theorem dX11_cut_9 : decode cX11_cut 9 = .ok (.iload_n 0, 1) := by decide +kernel
theorem dX11_cut_10 : decode cX11_cut 10 = .ok (.iconst 1, 1) := by decide +kernel
theorem dX11_cut_11 : decode cX11_cut 11 = .ok (.if_icmp .ne 8, 3) := by decide +kernel
theorem dX11_cut_14 : decode cX11_cut 14 = .ok (.iload_n 1, 1) := by decide +kernel
theorem dX11_cut_15 : decode cX11_cut 15 = .ok (.i2s, 1) := by decide +kernel
theorem dX11_cut_16 : decode cX11_cut 16 = .ok (.goto 4, 3) := by decide +kernel
theorem dX11_cut_19 : decode cX11_cut 19 = .ok (.iload_n 1, 1) := by decide +kernel
theorem dX11_cut_20 : decode cX11_cut 20 = .ok (.ireturn, 1) := by decide +kernel
theorem dX11_lay_0 : decode cX11_lay 0 = .ok (.iload_n 1, 1) := by decide +kernel
theorem dX11_lay_1 : decode cX11_lay 1 = .ok (.invokestatic 71, 3) := by decide +kernel
theorem dX11_lay_4 : decode cX11_lay 4 = .ok (.ifCond .eq 15, 3) := by decide +kernel
theorem dX11_lay_7 : decode cX11_lay 7 = .ok (.iload_n 2, 1) := by decide +kernel
theorem dX11_lay_8 : decode cX11_lay 8 = .ok (.i2l, 1) := by decide +kernel
theorem dX11_lay_9 : decode cX11_lay 9 = .ok (.lconst 0, 1) := by decide +kernel
theorem dX11_lay_10 : decode cX11_lay 10 = .ok (.ldc2_w 75, 3) := by decide +kernel
theorem dX11_lay_13 : decode cX11_lay 13 = .ok (.invokestatic 62, 3) := by decide +kernel
theorem dX11_lay_16 : decode cX11_lay 16 = .ok (.ifCond .ne 6, 3) := by decide +kernel
theorem dX11_lay_19 : decode cX11_lay 19 = .ok (.bipush (-2), 2) := by decide +kernel
theorem dX11_lay_21 : decode cX11_lay 21 = .ok (.ireturn, 1) := by decide +kernel
theorem dX11_lay_22 : decode cX11_lay 22 = .ok (.aload_n 0, 1) := by decide +kernel
theorem dX11_lay_23 : decode cX11_lay 23 = .ok (.iload_n 1, 1) := by decide +kernel
theorem dX11_lay_24 : decode cX11_lay 24 = .ok (.iload_n 2, 1) := by decide +kernel
theorem dX11_lay_25 : decode cX11_lay 25 = .ok (.iload_n 3, 1) := by decide +kernel
theorem dX11_lay_26 : decode cX11_lay 26 = .ok (.invokevirtual 81, 3) := by decide +kernel
theorem dX11_lay_29 : decode cX11_lay 29 = .ok (.istore 5, 2) := by decide +kernel
theorem dX11_lay_31 : decode cX11_lay 31 = .ok (.iload 5, 2) := by decide +kernel
theorem dX11_lay_33 : decode cX11_lay 33 = .ok (.ifCond .eq 6, 3) := by decide +kernel
theorem dX11_lay_36 : decode cX11_lay 36 = .ok (.iload 5, 2) := by decide +kernel
theorem dX11_lay_38 : decode cX11_lay 38 = .ok (.ireturn, 1) := by decide +kernel
theorem dX11_lay_39 : decode cX11_lay 39 = .ok (.aload_n 0, 1) := by decide +kernel
theorem dX11_lay_40 : decode cX11_lay 40 = .ok (.getfield 16, 3) := by decide +kernel
theorem dX11_lay_43 : decode cX11_lay 43 = .ok (.bipush 60, 2) := by decide +kernel
theorem dX11_lay_45 : decode cX11_lay 45 = .ok (.iload_n 1, 1) := by decide +kernel
theorem dX11_lay_46 : decode cX11_lay 46 = .ok (.imul, 1) := by decide +kernel
theorem dX11_lay_47 : decode cX11_lay 47 = .ok (.iload_n 3, 1) := by decide +kernel
theorem dX11_lay_48 : decode cX11_lay 48 = .ok (.iadd, 1) := by decide +kernel
theorem dX11_lay_49 : decode cX11_lay 49 = .ok (.iload_n 2, 1) := by decide +kernel
theorem dX11_lay_50 : decode cX11_lay 50 = .ok (.iload 4, 2) := by decide +kernel
theorem dX11_lay_52 : decode cX11_lay 52 = .ok (.invokestatic 85, 3) := by decide +kernel
theorem dX11_lay_55 : decode cX11_lay 55 = .ok (.iastore, 1) := by decide +kernel
theorem dX11_lay_56 : decode cX11_lay 56 = .ok (.iconst 1, 1) := by decide +kernel
theorem dX11_lay_57 : decode cX11_lay 57 = .ok (.ireturn, 1) := by decide +kernel
theorem dX11_get_0 : decode cX11_get 0 = .ok (.iload_n 1, 1) := by decide +kernel
theorem dX11_get_1 : decode cX11_get 1 = .ok (.invokestatic 71, 3) := by decide +kernel
theorem dX11_get_4 : decode cX11_get 4 = .ok (.ifCond .eq 25, 3) := by decide +kernel
theorem dX11_get_7 : decode cX11_get 7 = .ok (.iload_n 2, 1) := by decide +kernel
theorem dX11_get_8 : decode cX11_get 8 = .ok (.i2l, 1) := by decide +kernel
theorem dX11_get_9 : decode cX11_get 9 = .ok (.lconst 0, 1) := by decide +kernel
theorem dX11_get_10 : decode cX11_get 10 = .ok (.ldc2_w 75, 3) := by decide +kernel
theorem dX11_get_13 : decode cX11_get 13 = .ok (.invokestatic 62, 3) := by decide +kernel
theorem dX11_get_16 : decode cX11_get 16 = .ok (.ifCond .eq 13, 3) := by decide +kernel
theorem dX11_get_19 : decode cX11_get 19 = .ok (.aload_n 0, 1) := by decide +kernel
theorem dX11_get_20 : decode cX11_get 20 = .ok (.iload_n 1, 1) := by decide +kernel
theorem dX11_get_21 : decode cX11_get 21 = .ok (.iload_n 2, 1) := by decide +kernel
theorem dX11_get_22 : decode cX11_get 22 = .ok (.iload_n 3, 1) := by decide +kernel
theorem dX11_get_23 : decode cX11_get 23 = .ok (.invokevirtual 81, 3) := by decide +kernel
theorem dX11_get_26 : decode cX11_get 26 = .ok (.ifCond .eq 6, 3) := by decide +kernel
theorem dX11_get_29 : decode cX11_get 29 = .ok (.ldc 89, 2) := by decide +kernel
theorem dX11_get_31 : decode cX11_get 31 = .ok (.ireturn, 1) := by decide +kernel
theorem dX11_get_32 : decode cX11_get 32 = .ok (.aload_n 0, 1) := by decide +kernel
theorem dX11_get_33 : decode cX11_get 33 = .ok (.getfield 16, 3) := by decide +kernel
theorem dX11_get_36 : decode cX11_get 36 = .ok (.bipush 60, 2) := by decide +kernel
theorem dX11_get_38 : decode cX11_get 38 = .ok (.iload_n 1, 1) := by decide +kernel
theorem dX11_get_39 : decode cX11_get 39 = .ok (.imul, 1) := by decide +kernel
theorem dX11_get_40 : decode cX11_get 40 = .ok (.iload_n 3, 1) := by decide +kernel
theorem dX11_get_41 : decode cX11_get 41 = .ok (.iadd, 1) := by decide +kernel
theorem dX11_get_42 : decode cX11_get 42 = .ok (.iaload, 1) := by decide +kernel
theorem dX11_get_43 : decode cX11_get 43 = .ok (.ireturn, 1) := by decide +kernel
theorem dX11_copy_0 : decode cX11_copy 0 = .ok (.iload_n 1, 1) := by decide +kernel
theorem dX11_copy_1 : decode cX11_copy 1 = .ok (.invokestatic 71, 3) := by decide +kernel
theorem dX11_copy_4 : decode cX11_copy 4 = .ok (.ifCond .eq 10, 3) := by decide +kernel
theorem dX11_copy_7 : decode cX11_copy 7 = .ok (.iload_n 3, 1) := by decide +kernel
theorem dX11_copy_8 : decode cX11_copy 8 = .ok (.invokestatic 71, 3) := by decide +kernel
theorem dX11_copy_11 : decode cX11_copy 11 = .ok (.ifCond .ne 6, 3) := by decide +kernel
theorem dX11_copy_14 : decode cX11_copy 14 = .ok (.bipush (-2), 2) := by decide +kernel
theorem dX11_copy_16 : decode cX11_copy 16 = .ok (.ireturn, 1) := by decide +kernel
theorem dX11_copy_17 : decode cX11_copy 17 = .ok (.aload_n 0, 1) := by decide +kernel
theorem dX11_copy_18 : decode cX11_copy 18 = .ok (.getfield 7, 3) := by decide +kernel
theorem dX11_copy_21 : decode cX11_copy 21 = .ok (.iload_n 1, 1) := by decide +kernel
theorem dX11_copy_22 : decode cX11_copy 22 = .ok (.iaload, 1) := by decide +kernel
theorem dX11_copy_23 : decode cX11_copy 23 = .ok (.ifCond .lt 12, 3) := by decide +kernel
theorem dX11_copy_26 : decode cX11_copy 26 = .ok (.aload_n 0, 1) := by decide +kernel
theorem dX11_copy_27 : decode cX11_copy 27 = .ok (.getfield 7, 3) := by decide +kernel
theorem dX11_copy_30 : decode cX11_copy 30 = .ok (.iload_n 3, 1) := by decide +kernel
theorem dX11_copy_31 : decode cX11_copy 31 = .ok (.iaload, 1) := by decide +kernel
theorem dX11_copy_32 : decode cX11_copy 32 = .ok (.ifCond .ge 9, 3) := by decide +kernel
theorem dX11_copy_35 : decode cX11_copy 35 = .ok (.aload_n 0, 1) := by decide +kernel
theorem dX11_copy_36 : decode cX11_copy 36 = .ok (.iconst 1, 1) := by decide +kernel
theorem dX11_copy_37 : decode cX11_copy 37 = .ok (.invokevirtual 77, 3) := by decide +kernel
theorem dX11_copy_40 : decode cX11_copy 40 = .ok (.ireturn, 1) := by decide +kernel
theorem dX11_copy_41 : decode cX11_copy 41 = .ok (.aload_n 0, 1) := by decide +kernel
theorem dX11_copy_42 : decode cX11_copy 42 = .ok (.getfield 7, 3) := by decide +kernel
theorem dX11_copy_45 : decode cX11_copy 45 = .ok (.iload_n 1, 1) := by decide +kernel
theorem dX11_copy_46 : decode cX11_copy 46 = .ok (.iaload, 1) := by decide +kernel
theorem dX11_copy_47 : decode cX11_copy 47 = .ok (.aload_n 0, 1) := by decide +kernel
theorem dX11_copy_48 : decode cX11_copy 48 = .ok (.getfield 7, 3) := by decide +kernel
theorem dX11_copy_51 : decode cX11_copy 51 = .ok (.iload_n 3, 1) := by decide +kernel
theorem dX11_copy_52 : decode cX11_copy 52 = .ok (.iaload, 1) := by decide +kernel
theorem dX11_copy_53 : decode cX11_copy 53 = .ok (.if_icmp .eq 9, 3) := by decide +kernel
theorem dX11_copy_56 : decode cX11_copy 56 = .ok (.aload_n 0, 1) := by decide +kernel
theorem dX11_copy_57 : decode cX11_copy 57 = .ok (.iconst 4, 1) := by decide +kernel
theorem dX11_copy_58 : decode cX11_copy 58 = .ok (.invokevirtual 77, 3) := by decide +kernel
theorem dX11_copy_61 : decode cX11_copy 61 = .ok (.ireturn, 1) := by decide +kernel
theorem dX11_copy_62 : decode cX11_copy 62 = .ok (.iload_n 2, 1) := by decide +kernel
theorem dX11_copy_63 : decode cX11_copy 63 = .ok (.ifCond .lt 48, 3) := by decide +kernel
theorem dX11_copy_66 : decode cX11_copy 66 = .ok (.iload 4, 2) := by decide +kernel
theorem dX11_copy_68 : decode cX11_copy 68 = .ok (.ifCond .lt 43, 3) := by decide +kernel
theorem dX11_copy_71 : decode cX11_copy 71 = .ok (.iload 5, 2) := by decide +kernel
theorem dX11_copy_73 : decode cX11_copy 73 = .ok (.ifCond .lt 38, 3) := by decide +kernel
theorem dX11_copy_76 : decode cX11_copy 76 = .ok (.iload_n 2, 1) := by decide +kernel
theorem dX11_copy_77 : decode cX11_copy 77 = .ok (.i2l, 1) := by decide +kernel
theorem dX11_copy_78 : decode cX11_copy 78 = .ok (.iload 5, 2) := by decide +kernel
theorem dX11_copy_80 : decode cX11_copy 80 = .ok (.i2l, 1) := by decide +kernel
theorem dX11_copy_81 : decode cX11_copy 81 = .ok (.ladd, 1) := by decide +kernel
theorem dX11_copy_82 : decode cX11_copy 82 = .ok (.aload_n 0, 1) := by decide +kernel
theorem dX11_copy_83 : decode cX11_copy 83 = .ok (.getfield 13, 3) := by decide +kernel
theorem dX11_copy_86 : decode cX11_copy 86 = .ok (.iload_n 1, 1) := by decide +kernel
theorem dX11_copy_87 : decode cX11_copy 87 = .ok (.iaload, 1) := by decide +kernel
theorem dX11_copy_88 : decode cX11_copy 88 = .ok (.i2l, 1) := by decide +kernel
theorem dX11_copy_89 : decode cX11_copy 89 = .ok (.lcmp, 1) := by decide +kernel
theorem dX11_copy_90 : decode cX11_copy 90 = .ok (.ifCond .gt 21, 3) := by decide +kernel
theorem dX11_copy_93 : decode cX11_copy 93 = .ok (.iload 4, 2) := by decide +kernel
theorem dX11_copy_95 : decode cX11_copy 95 = .ok (.i2l, 1) := by decide +kernel
theorem dX11_copy_96 : decode cX11_copy 96 = .ok (.iload 5, 2) := by decide +kernel
theorem dX11_copy_98 : decode cX11_copy 98 = .ok (.i2l, 1) := by decide +kernel
theorem dX11_copy_99 : decode cX11_copy 99 = .ok (.ladd, 1) := by decide +kernel
theorem dX11_copy_100 : decode cX11_copy 100 = .ok (.aload_n 0, 1) := by decide +kernel
theorem dX11_copy_101 : decode cX11_copy 101 = .ok (.getfield 13, 3) := by decide +kernel
theorem dX11_copy_104 : decode cX11_copy 104 = .ok (.iload_n 3, 1) := by decide +kernel
theorem dX11_copy_105 : decode cX11_copy 105 = .ok (.iaload, 1) := by decide +kernel
theorem dX11_copy_106 : decode cX11_copy 106 = .ok (.i2l, 1) := by decide +kernel
theorem dX11_copy_107 : decode cX11_copy 107 = .ok (.lcmp, 1) := by decide +kernel
theorem dX11_copy_108 : decode cX11_copy 108 = .ok (.ifCond .le 9, 3) := by decide +kernel
theorem dX11_copy_111 : decode cX11_copy 111 = .ok (.aload_n 0, 1) := by decide +kernel
theorem dX11_copy_112 : decode cX11_copy 112 = .ok (.iconst 2, 1) := by decide +kernel
theorem dX11_copy_113 : decode cX11_copy 113 = .ok (.invokevirtual 77, 3) := by decide +kernel
theorem dX11_copy_116 : decode cX11_copy 116 = .ok (.ireturn, 1) := by decide +kernel
theorem dX11_copy_117 : decode cX11_copy 117 = .ok (.iconst 0, 1) := by decide +kernel
theorem dX11_copy_118 : decode cX11_copy 118 = .ok (.istore 6, 2) := by decide +kernel
theorem dX11_copy_120 : decode cX11_copy 120 = .ok (.iload 6, 2) := by decide +kernel
theorem dX11_copy_122 : decode cX11_copy 122 = .ok (.iload 5, 2) := by decide +kernel
theorem dX11_copy_124 : decode cX11_copy 124 = .ok (.if_icmp .ge 30, 3) := by decide +kernel
theorem dX11_copy_127 : decode cX11_copy 127 = .ok (.aload_n 0, 1) := by decide +kernel
theorem dX11_copy_128 : decode cX11_copy 128 = .ok (.getfield 19, 3) := by decide +kernel
theorem dX11_copy_131 : decode cX11_copy 131 = .ok (.iload 6, 2) := by decide +kernel
theorem dX11_copy_133 : decode cX11_copy 133 = .ok (.aload_n 0, 1) := by decide +kernel
theorem dX11_copy_134 : decode cX11_copy 134 = .ok (.getfield 16, 3) := by decide +kernel
theorem dX11_copy_137 : decode cX11_copy 137 = .ok (.bipush 60, 2) := by decide +kernel
theorem dX11_copy_139 : decode cX11_copy 139 = .ok (.iload_n 1, 1) := by decide +kernel
theorem dX11_copy_140 : decode cX11_copy 140 = .ok (.imul, 1) := by decide +kernel
theorem dX11_copy_141 : decode cX11_copy 141 = .ok (.iload_n 2, 1) := by decide +kernel
theorem dX11_copy_142 : decode cX11_copy 142 = .ok (.iadd, 1) := by decide +kernel
theorem dX11_copy_143 : decode cX11_copy 143 = .ok (.iload 6, 2) := by decide +kernel
theorem dX11_copy_145 : decode cX11_copy 145 = .ok (.iadd, 1) := by decide +kernel
theorem dX11_copy_146 : decode cX11_copy 146 = .ok (.iaload, 1) := by decide +kernel
theorem dX11_copy_147 : decode cX11_copy 147 = .ok (.iastore, 1) := by decide +kernel
theorem dX11_copy_148 : decode cX11_copy 148 = .ok (.iinc 6 1, 3) := by decide +kernel
theorem dX11_copy_151 : decode cX11_copy 151 = .ok (.goto (-31), 3) := by decide +kernel
theorem dX11_copy_154 : decode cX11_copy 154 = .ok (.iconst 0, 1) := by decide +kernel
theorem dX11_copy_155 : decode cX11_copy 155 = .ok (.istore 6, 2) := by decide +kernel
theorem dX11_copy_157 : decode cX11_copy 157 = .ok (.iload 6, 2) := by decide +kernel
theorem dX11_copy_159 : decode cX11_copy 159 = .ok (.iload 5, 2) := by decide +kernel
theorem dX11_copy_161 : decode cX11_copy 161 = .ok (.if_icmp .ge 31, 3) := by decide +kernel
theorem dX11_copy_164 : decode cX11_copy 164 = .ok (.aload_n 0, 1) := by decide +kernel
theorem dX11_copy_165 : decode cX11_copy 165 = .ok (.getfield 16, 3) := by decide +kernel
theorem dX11_copy_168 : decode cX11_copy 168 = .ok (.bipush 60, 2) := by decide +kernel
theorem dX11_copy_170 : decode cX11_copy 170 = .ok (.iload_n 3, 1) := by decide +kernel
theorem dX11_copy_171 : decode cX11_copy 171 = .ok (.imul, 1) := by decide +kernel
theorem dX11_copy_172 : decode cX11_copy 172 = .ok (.iload 4, 2) := by decide +kernel
theorem dX11_copy_174 : decode cX11_copy 174 = .ok (.iadd, 1) := by decide +kernel
theorem dX11_copy_175 : decode cX11_copy 175 = .ok (.iload 6, 2) := by decide +kernel
theorem dX11_copy_177 : decode cX11_copy 177 = .ok (.iadd, 1) := by decide +kernel
theorem dX11_copy_178 : decode cX11_copy 178 = .ok (.aload_n 0, 1) := by decide +kernel
theorem dX11_copy_179 : decode cX11_copy 179 = .ok (.getfield 19, 3) := by decide +kernel
theorem dX11_copy_182 : decode cX11_copy 182 = .ok (.iload 6, 2) := by decide +kernel
theorem dX11_copy_184 : decode cX11_copy 184 = .ok (.iaload, 1) := by decide +kernel
theorem dX11_copy_185 : decode cX11_copy 185 = .ok (.iastore, 1) := by decide +kernel
theorem dX11_copy_186 : decode cX11_copy 186 = .ok (.iinc 6 1, 3) := by decide +kernel
theorem dX11_copy_189 : decode cX11_copy 189 = .ok (.goto (-32), 3) := by decide +kernel
theorem dX11_copy_192 : decode cX11_copy 192 = .ok (.iconst 1, 1) := by decide +kernel
theorem dX11_copy_193 : decode cX11_copy 193 = .ok (.ireturn, 1) := by decide +kernel
theorem dX11_type_0 : decode cX11_type 0 = .ok (.iload_n 1, 1) := by decide +kernel
theorem dX11_type_1 : decode cX11_type 1 = .ok (.invokestatic 90, 3) := by decide +kernel
theorem dX11_type_4 : decode cX11_type 4 = .ok (.ifCond .eq 15, 3) := by decide +kernel
theorem dX11_type_7 : decode cX11_type 7 = .ok (.iload_n 2, 1) := by decide +kernel
theorem dX11_type_8 : decode cX11_type 8 = .ok (.i2l, 1) := by decide +kernel
theorem dX11_type_9 : decode cX11_type 9 = .ok (.lconst 0, 1) := by decide +kernel
theorem dX11_type_10 : decode cX11_type 10 = .ok (.ldc2_w 93, 3) := by decide +kernel
theorem dX11_type_13 : decode cX11_type 13 = .ok (.invokestatic 62, 3) := by decide +kernel
theorem dX11_type_16 : decode cX11_type 16 = .ok (.ifCond .ne 6, 3) := by decide +kernel
theorem dX11_type_19 : decode cX11_type 19 = .ok (.bipush (-2), 2) := by decide +kernel
theorem dX11_type_21 : decode cX11_type 21 = .ok (.ireturn, 1) := by decide +kernel
theorem dX11_type_22 : decode cX11_type 22 = .ok (.aload_n 0, 1) := by decide +kernel
theorem dX11_type_23 : decode cX11_type 23 = .ok (.getfield 25, 3) := by decide +kernel
theorem dX11_type_26 : decode cX11_type 26 = .ok (.iload_n 1, 1) := by decide +kernel
theorem dX11_type_27 : decode cX11_type 27 = .ok (.iaload, 1) := by decide +kernel
theorem dX11_type_28 : decode cX11_type 28 = .ok (.iload_n 1, 1) := by decide +kernel
theorem dX11_type_29 : decode cX11_type 29 = .ok (.ifCond .ne 8, 3) := by decide +kernel
theorem dX11_type_32 : decode cX11_type 32 = .ok (.bipush 79, 2) := by decide +kernel
theorem dX11_type_34 : decode cX11_type 34 = .ok (.goto 5, 3) := by decide +kernel
theorem dX11_type_37 : decode cX11_type 37 = .ok (.bipush 40, 2) := by decide +kernel
theorem dX11_type_39 : decode cX11_type 39 = .ok (.if_icmp .ne 6, 3) := by decide +kernel
theorem dX11_type_42 : decode cX11_type 42 = .ok (.bipush (-4), 2) := by decide +kernel
theorem dX11_type_44 : decode cX11_type 44 = .ok (.ireturn, 1) := by decide +kernel
theorem dX11_type_45 : decode cX11_type 45 = .ok (.aload_n 0, 1) := by decide +kernel
theorem dX11_type_46 : decode cX11_type 46 = .ok (.getfield 22, 3) := by decide +kernel
theorem dX11_type_49 : decode cX11_type 49 = .ok (.bipush 80, 2) := by decide +kernel
theorem dX11_type_51 : decode cX11_type 51 = .ok (.iload_n 1, 1) := by decide +kernel
theorem dX11_type_52 : decode cX11_type 52 = .ok (.imul, 1) := by decide +kernel
theorem dX11_type_53 : decode cX11_type 53 = .ok (.aload_n 0, 1) := by decide +kernel
theorem dX11_type_54 : decode cX11_type 54 = .ok (.getfield 25, 3) := by decide +kernel
theorem dX11_type_57 : decode cX11_type 57 = .ok (.iload_n 1, 1) := by decide +kernel
theorem dX11_type_58 : decode cX11_type 58 = .ok (.iaload, 1) := by decide +kernel
theorem dX11_type_59 : decode cX11_type 59 = .ok (.iadd, 1) := by decide +kernel
theorem dX11_type_60 : decode cX11_type 60 = .ok (.iload_n 2, 1) := by decide +kernel
theorem dX11_type_61 : decode cX11_type 61 = .ok (.iastore, 1) := by decide +kernel
theorem dX11_type_62 : decode cX11_type 62 = .ok (.aload_n 0, 1) := by decide +kernel
theorem dX11_type_63 : decode cX11_type 63 = .ok (.getfield 25, 3) := by decide +kernel
theorem dX11_type_66 : decode cX11_type 66 = .ok (.iload_n 1, 1) := by decide +kernel
theorem dX11_type_67 : decode cX11_type 67 = .ok (.dup2, 1) := by decide +kernel
theorem dX11_type_68 : decode cX11_type 68 = .ok (.iaload, 1) := by decide +kernel
theorem dX11_type_69 : decode cX11_type 69 = .ok (.iconst 1, 1) := by decide +kernel
theorem dX11_type_70 : decode cX11_type 70 = .ok (.iadd, 1) := by decide +kernel
theorem dX11_type_71 : decode cX11_type 71 = .ok (.iastore, 1) := by decide +kernel
theorem dX11_type_72 : decode cX11_type 72 = .ok (.aload_n 0, 1) := by decide +kernel
theorem dX11_type_73 : decode cX11_type 73 = .ok (.getfield 25, 3) := by decide +kernel
theorem dX11_type_76 : decode cX11_type 76 = .ok (.iload_n 1, 1) := by decide +kernel
theorem dX11_type_77 : decode cX11_type 77 = .ok (.iaload, 1) := by decide +kernel
theorem dX11_type_78 : decode cX11_type 78 = .ok (.ireturn, 1) := by decide +kernel
theorem dX11_wipe_0 : decode cX11_wipe 0 = .ok (.iload_n 1, 1) := by decide +kernel
theorem dX11_wipe_1 : decode cX11_wipe 1 = .ok (.invokestatic 90, 3) := by decide +kernel
theorem dX11_wipe_4 : decode cX11_wipe 4 = .ok (.ifCond .ne 6, 3) := by decide +kernel
theorem dX11_wipe_7 : decode cX11_wipe 7 = .ok (.bipush (-2), 2) := by decide +kernel
theorem dX11_wipe_9 : decode cX11_wipe 9 = .ok (.ireturn, 1) := by decide +kernel
theorem dX11_wipe_10 : decode cX11_wipe 10 = .ok (.aload_n 0, 1) := by decide +kernel
theorem dX11_wipe_11 : decode cX11_wipe 11 = .ok (.getfield 25, 3) := by decide +kernel
theorem dX11_wipe_14 : decode cX11_wipe 14 = .ok (.iload_n 1, 1) := by decide +kernel
theorem dX11_wipe_15 : decode cX11_wipe 15 = .ok (.iaload, 1) := by decide +kernel
theorem dX11_wipe_16 : decode cX11_wipe 16 = .ok (.istore_n 2, 1) := by decide +kernel
theorem dX11_wipe_17 : decode cX11_wipe 17 = .ok (.aload_n 0, 1) := by decide +kernel
theorem dX11_wipe_18 : decode cX11_wipe 18 = .ok (.getfield 25, 3) := by decide +kernel
theorem dX11_wipe_21 : decode cX11_wipe 21 = .ok (.iload_n 1, 1) := by decide +kernel
theorem dX11_wipe_22 : decode cX11_wipe 22 = .ok (.iconst 0, 1) := by decide +kernel
theorem dX11_wipe_23 : decode cX11_wipe 23 = .ok (.iastore, 1) := by decide +kernel
theorem dX11_wipe_24 : decode cX11_wipe 24 = .ok (.iload_n 2, 1) := by decide +kernel
theorem dX11_wipe_25 : decode cX11_wipe 25 = .ok (.ireturn, 1) := by decide +kernel
theorem dX11_undo_0 : decode cX11_undo 0 = .ok (.iload_n 1, 1) := by decide +kernel
theorem dX11_undo_1 : decode cX11_undo 1 = .ok (.invokestatic 90, 3) := by decide +kernel
theorem dX11_undo_4 : decode cX11_undo 4 = .ok (.ifCond .ne 6, 3) := by decide +kernel
theorem dX11_undo_7 : decode cX11_undo 7 = .ok (.bipush (-2), 2) := by decide +kernel
theorem dX11_undo_9 : decode cX11_undo 9 = .ok (.ireturn, 1) := by decide +kernel
theorem dX11_undo_10 : decode cX11_undo 10 = .ok (.aload_n 0, 1) := by decide +kernel
theorem dX11_undo_11 : decode cX11_undo 11 = .ok (.getfield 25, 3) := by decide +kernel
theorem dX11_undo_14 : decode cX11_undo 14 = .ok (.iload_n 1, 1) := by decide +kernel
theorem dX11_undo_15 : decode cX11_undo 15 = .ok (.iaload, 1) := by decide +kernel
theorem dX11_undo_16 : decode cX11_undo 16 = .ok (.ifCond .ne 6, 3) := by decide +kernel
theorem dX11_undo_19 : decode cX11_undo 19 = .ok (.bipush (-3), 2) := by decide +kernel
theorem dX11_undo_21 : decode cX11_undo 21 = .ok (.ireturn, 1) := by decide +kernel
theorem dX11_undo_22 : decode cX11_undo 22 = .ok (.aload_n 0, 1) := by decide +kernel
theorem dX11_undo_23 : decode cX11_undo 23 = .ok (.getfield 25, 3) := by decide +kernel
theorem dX11_undo_26 : decode cX11_undo 26 = .ok (.iload_n 1, 1) := by decide +kernel
theorem dX11_undo_27 : decode cX11_undo 27 = .ok (.dup2, 1) := by decide +kernel
theorem dX11_undo_28 : decode cX11_undo 28 = .ok (.iaload, 1) := by decide +kernel
theorem dX11_undo_29 : decode cX11_undo 29 = .ok (.iconst 1, 1) := by decide +kernel
theorem dX11_undo_30 : decode cX11_undo 30 = .ok (.isub, 1) := by decide +kernel
theorem dX11_undo_31 : decode cX11_undo 31 = .ok (.iastore, 1) := by decide +kernel
theorem dX11_undo_32 : decode cX11_undo 32 = .ok (.aload_n 0, 1) := by decide +kernel
theorem dX11_undo_33 : decode cX11_undo 33 = .ok (.getfield 25, 3) := by decide +kernel
theorem dX11_undo_36 : decode cX11_undo 36 = .ok (.iload_n 1, 1) := by decide +kernel
theorem dX11_undo_37 : decode cX11_undo 37 = .ok (.iaload, 1) := by decide +kernel
theorem dX11_undo_38 : decode cX11_undo 38 = .ok (.ireturn, 1) := by decide +kernel
theorem dX11_here_0 : decode cX11_here 0 = .ok (.aload_n 0, 1) := by decide +kernel
theorem dX11_here_1 : decode cX11_here 1 = .ok (.getfield 95, 3) := by decide +kernel
theorem dX11_here_4 : decode cX11_here 4 = .ok (.aload_n 0, 1) := by decide +kernel
theorem dX11_here_5 : decode cX11_here 5 = .ok (.getfield 25, 3) := by decide +kernel
theorem dX11_here_8 : decode cX11_here 8 = .ok (.iload_n 1, 1) := by decide +kernel
theorem dX11_here_9 : decode cX11_here 9 = .ok (.iaload, 1) := by decide +kernel
theorem dX11_here_10 : decode cX11_here 10 = .ok (.if_icmp .ge 20, 3) := by decide +kernel
theorem dX11_here_13 : decode cX11_here 13 = .ok (.aload_n 0, 1) := by decide +kernel
theorem dX11_here_14 : decode cX11_here 14 = .ok (.getfield 22, 3) := by decide +kernel
theorem dX11_here_17 : decode cX11_here 17 = .ok (.bipush 80, 2) := by decide +kernel
theorem dX11_here_19 : decode cX11_here 19 = .ok (.iload_n 1, 1) := by decide +kernel
theorem dX11_here_20 : decode cX11_here 20 = .ok (.imul, 1) := by decide +kernel
theorem dX11_here_21 : decode cX11_here 21 = .ok (.aload_n 0, 1) := by decide +kernel
theorem dX11_here_22 : decode cX11_here 22 = .ok (.getfield 95, 3) := by decide +kernel
theorem dX11_here_25 : decode cX11_here 25 = .ok (.iadd, 1) := by decide +kernel
theorem dX11_here_26 : decode cX11_here 26 = .ok (.iaload, 1) := by decide +kernel
theorem dX11_here_27 : decode cX11_here 27 = .ok (.goto 4, 3) := by decide +kernel
theorem dX11_here_30 : decode cX11_here 30 = .ok (.iconst (-1), 1) := by decide +kernel
theorem dX11_here_31 : decode cX11_here 31 = .ok (.ireturn, 1) := by decide +kernel
theorem dX11_readsPart_0 : decode cX11_readsPart 0 = .ok (.aload_n 0, 1) := by decide +kernel
theorem dX11_readsPart_1 : decode cX11_readsPart 1 = .ok (.getfield 98, 3) := by decide +kernel
theorem dX11_readsPart_4 : decode cX11_readsPart 4 = .ok (.bipush 16, 2) := by decide +kernel
theorem dX11_readsPart_6 : decode cX11_readsPart 6 = .ok (.if_icmp .ne 5, 3) := by decide +kernel
theorem dX11_readsPart_9 : decode cX11_readsPart 9 = .ok (.iconst 0, 1) := by decide +kernel
theorem dX11_readsPart_10 : decode cX11_readsPart 10 = .ok (.ireturn, 1) := by decide +kernel
theorem dX11_readsPart_11 : decode cX11_readsPart 11 = .ok (.iconst 0, 1) := by decide +kernel
theorem dX11_readsPart_12 : decode cX11_readsPart 12 = .ok (.istore_n 1, 1) := by decide +kernel
theorem dX11_readsPart_13 : decode cX11_readsPart 13 = .ok (.iload_n 1, 1) := by decide +kernel
theorem dX11_readsPart_14 : decode cX11_readsPart 14 = .ok (.iconst 3, 1) := by decide +kernel
theorem dX11_readsPart_15 : decode cX11_readsPart 15 = .ok (.if_icmp .ge 78, 3) := by decide +kernel
theorem dX11_readsPart_18 : decode cX11_readsPart 18 = .ok (.aload_n 0, 1) := by decide +kernel
theorem dX11_readsPart_19 : decode cX11_readsPart 19 = .ok (.iconst 0, 1) := by decide +kernel
theorem dX11_readsPart_20 : decode cX11_readsPart 20 = .ok (.invokevirtual 101, 3) := by decide +kernel
theorem dX11_readsPart_23 : decode cX11_readsPart 23 = .ok (.bipush 48, 2) := by decide +kernel
theorem dX11_readsPart_25 : decode cX11_readsPart 25 = .ok (.isub, 1) := by decide +kernel
theorem dX11_readsPart_26 : decode cX11_readsPart 26 = .ok (.istore_n 2, 1) := by decide +kernel
theorem dX11_readsPart_27 : decode cX11_readsPart 27 = .ok (.iload_n 2, 1) := by decide +kernel
theorem dX11_readsPart_28 : decode cX11_readsPart 28 = .ok (.i2l, 1) := by decide +kernel
theorem dX11_readsPart_29 : decode cX11_readsPart 29 = .ok (.iload_n 1, 1) := by decide +kernel
theorem dX11_readsPart_30 : decode cX11_readsPart 30 = .ok (.iconst 2, 1) := by decide +kernel
theorem dX11_readsPart_31 : decode cX11_readsPart 31 = .ok (.if_icmp .ne 20, 3) := by decide +kernel
theorem dX11_readsPart_34 : decode cX11_readsPart 34 = .ok (.aload_n 0, 1) := by decide +kernel
theorem dX11_readsPart_35 : decode cX11_readsPart 35 = .ok (.getfield 28, 3) := by decide +kernel
theorem dX11_readsPart_38 : decode cX11_readsPart 38 = .ok (.iconst 3, 1) := by decide +kernel
theorem dX11_readsPart_39 : decode cX11_readsPart 39 = .ok (.aload_n 0, 1) := by decide +kernel
theorem dX11_readsPart_40 : decode cX11_readsPart 40 = .ok (.getfield 98, 3) := by decide +kernel
theorem dX11_readsPart_43 : decode cX11_readsPart 43 = .ok (.imul, 1) := by decide +kernel
theorem dX11_readsPart_44 : decode cX11_readsPart 44 = .ok (.iconst 1, 1) := by decide +kernel
theorem dX11_readsPart_45 : decode cX11_readsPart 45 = .ok (.iadd, 1) := by decide +kernel
theorem dX11_readsPart_46 : decode cX11_readsPart 46 = .ok (.iaload, 1) := by decide +kernel
theorem dX11_readsPart_47 : decode cX11_readsPart 47 = .ok (.i2l, 1) := by decide +kernel
theorem dX11_readsPart_48 : decode cX11_readsPart 48 = .ok (.goto 4, 3) := by decide +kernel
theorem dX11_readsPart_51 : decode cX11_readsPart 51 = .ok (.lconst 1, 1) := by decide +kernel
theorem dX11_readsPart_52 : decode cX11_readsPart 52 = .ok (.ldc2_w 104, 3) := by decide +kernel
theorem dX11_readsPart_55 : decode cX11_readsPart 55 = .ok (.invokestatic 62, 3) := by decide +kernel
theorem dX11_readsPart_58 : decode cX11_readsPart 58 = .ok (.ifCond .ne 5, 3) := by decide +kernel
theorem dX11_readsPart_61 : decode cX11_readsPart 61 = .ok (.iconst 0, 1) := by decide +kernel
theorem dX11_readsPart_62 : decode cX11_readsPart 62 = .ok (.ireturn, 1) := by decide +kernel
theorem dX11_readsPart_63 : decode cX11_readsPart 63 = .ok (.aload_n 0, 1) := by decide +kernel
theorem dX11_readsPart_64 : decode cX11_readsPart 64 = .ok (.getfield 28, 3) := by decide +kernel
theorem dX11_readsPart_67 : decode cX11_readsPart 67 = .ok (.iconst 3, 1) := by decide +kernel
theorem dX11_readsPart_68 : decode cX11_readsPart 68 = .ok (.aload_n 0, 1) := by decide +kernel
theorem dX11_readsPart_69 : decode cX11_readsPart 69 = .ok (.getfield 98, 3) := by decide +kernel
theorem dX11_readsPart_72 : decode cX11_readsPart 72 = .ok (.imul, 1) := by decide +kernel
theorem dX11_readsPart_73 : decode cX11_readsPart 73 = .ok (.iload_n 1, 1) := by decide +kernel
theorem dX11_readsPart_74 : decode cX11_readsPart 74 = .ok (.iadd, 1) := by decide +kernel
theorem dX11_readsPart_75 : decode cX11_readsPart 75 = .ok (.iload_n 2, 1) := by decide +kernel
theorem dX11_readsPart_76 : decode cX11_readsPart 76 = .ok (.iastore, 1) := by decide +kernel
theorem dX11_readsPart_77 : decode cX11_readsPart 77 = .ok (.aload_n 0, 1) := by decide +kernel
theorem dX11_readsPart_78 : decode cX11_readsPart 78 = .ok (.dup, 1) := by decide +kernel
theorem dX11_readsPart_79 : decode cX11_readsPart 79 = .ok (.getfield 95, 3) := by decide +kernel
theorem dX11_readsPart_82 : decode cX11_readsPart 82 = .ok (.iconst 1, 1) := by decide +kernel
theorem dX11_readsPart_83 : decode cX11_readsPart 83 = .ok (.iadd, 1) := by decide +kernel
theorem dX11_readsPart_84 : decode cX11_readsPart 84 = .ok (.putfield 95, 3) := by decide +kernel
theorem dX11_readsPart_87 : decode cX11_readsPart 87 = .ok (.iinc 1 1, 3) := by decide +kernel
theorem dX11_readsPart_90 : decode cX11_readsPart 90 = .ok (.goto (-77), 3) := by decide +kernel
theorem dX11_readsPart_93 : decode cX11_readsPart 93 = .ok (.aload_n 0, 1) := by decide +kernel
theorem dX11_readsPart_94 : decode cX11_readsPart 94 = .ok (.iconst 0, 1) := by decide +kernel
theorem dX11_readsPart_95 : decode cX11_readsPart 95 = .ok (.invokevirtual 101, 3) := by decide +kernel
theorem dX11_readsPart_98 : decode cX11_readsPart 98 = .ok (.bipush 114, 2) := by decide +kernel
theorem dX11_readsPart_100 : decode cX11_readsPart 100 = .ok (.if_icmp .eq 15, 3) := by decide +kernel
theorem dX11_readsPart_103 : decode cX11_readsPart 103 = .ok (.aload_n 0, 1) := by decide +kernel
theorem dX11_readsPart_104 : decode cX11_readsPart 104 = .ok (.iconst 0, 1) := by decide +kernel
theorem dX11_readsPart_105 : decode cX11_readsPart 105 = .ok (.invokevirtual 101, 3) := by decide +kernel
theorem dX11_readsPart_108 : decode cX11_readsPart 108 = .ok (.bipush 46, 2) := by decide +kernel
theorem dX11_readsPart_110 : decode cX11_readsPart 110 = .ok (.if_icmp .eq 5, 3) := by decide +kernel
theorem dX11_readsPart_113 : decode cX11_readsPart 113 = .ok (.iconst 0, 1) := by decide +kernel
theorem dX11_readsPart_114 : decode cX11_readsPart 114 = .ok (.ireturn, 1) := by decide +kernel
theorem dX11_readsPart_115 : decode cX11_readsPart 115 = .ok (.aload_n 0, 1) := by decide +kernel
theorem dX11_readsPart_116 : decode cX11_readsPart 116 = .ok (.getfield 31, 3) := by decide +kernel
theorem dX11_readsPart_119 : decode cX11_readsPart 119 = .ok (.aload_n 0, 1) := by decide +kernel
theorem dX11_readsPart_120 : decode cX11_readsPart 120 = .ok (.getfield 98, 3) := by decide +kernel
theorem dX11_readsPart_123 : decode cX11_readsPart 123 = .ok (.aload_n 0, 1) := by decide +kernel
theorem dX11_readsPart_124 : decode cX11_readsPart 124 = .ok (.iconst 0, 1) := by decide +kernel
theorem dX11_readsPart_125 : decode cX11_readsPart 125 = .ok (.invokevirtual 101, 3) := by decide +kernel
theorem dX11_readsPart_128 : decode cX11_readsPart 128 = .ok (.bipush 114, 2) := by decide +kernel
theorem dX11_readsPart_130 : decode cX11_readsPart 130 = .ok (.if_icmp .ne 7, 3) := by decide +kernel
theorem dX11_readsPart_133 : decode cX11_readsPart 133 = .ok (.iconst 1, 1) := by decide +kernel
theorem dX11_readsPart_134 : decode cX11_readsPart 134 = .ok (.goto 4, 3) := by decide +kernel
theorem dX11_readsPart_137 : decode cX11_readsPart 137 = .ok (.iconst 0, 1) := by decide +kernel
theorem dX11_readsPart_138 : decode cX11_readsPart 138 = .ok (.bastore, 1) := by decide +kernel
theorem dX11_readsPart_139 : decode cX11_readsPart 139 = .ok (.aload_n 0, 1) := by decide +kernel
theorem dX11_readsPart_140 : decode cX11_readsPart 140 = .ok (.dup, 1) := by decide +kernel
theorem dX11_readsPart_141 : decode cX11_readsPart 141 = .ok (.getfield 95, 3) := by decide +kernel
theorem dX11_readsPart_144 : decode cX11_readsPart 144 = .ok (.iconst 1, 1) := by decide +kernel
theorem dX11_readsPart_145 : decode cX11_readsPart 145 = .ok (.iadd, 1) := by decide +kernel
theorem dX11_readsPart_146 : decode cX11_readsPart 146 = .ok (.putfield 95, 3) := by decide +kernel
theorem dX11_readsPart_149 : decode cX11_readsPart 149 = .ok (.aload_n 0, 1) := by decide +kernel
theorem dX11_readsPart_150 : decode cX11_readsPart 150 = .ok (.dup, 1) := by decide +kernel
theorem dX11_readsPart_151 : decode cX11_readsPart 151 = .ok (.getfield 98, 3) := by decide +kernel
theorem dX11_readsPart_154 : decode cX11_readsPart 154 = .ok (.iconst 1, 1) := by decide +kernel
theorem dX11_readsPart_155 : decode cX11_readsPart 155 = .ok (.iadd, 1) := by decide +kernel
theorem dX11_readsPart_156 : decode cX11_readsPart 156 = .ok (.putfield 98, 3) := by decide +kernel
theorem dX11_readsPart_159 : decode cX11_readsPart 159 = .ok (.iconst 1, 1) := by decide +kernel
theorem dX11_readsPart_160 : decode cX11_readsPart 160 = .ok (.ireturn, 1) := by decide +kernel
theorem dX11_readsCave_0 : decode cX11_readsCave 0 = .ok (.aload_n 0, 1) := by decide +kernel
theorem dX11_readsCave_1 : decode cX11_readsCave 1 = .ok (.iconst 0, 1) := by decide +kernel
theorem dX11_readsCave_2 : decode cX11_readsCave 2 = .ok (.putfield 95, 3) := by decide +kernel
theorem dX11_readsCave_5 : decode cX11_readsCave 5 = .ok (.aload_n 0, 1) := by decide +kernel
theorem dX11_readsCave_6 : decode cX11_readsCave 6 = .ok (.iconst 0, 1) := by decide +kernel
theorem dX11_readsCave_7 : decode cX11_readsCave 7 = .ok (.putfield 98, 3) := by decide +kernel
theorem dX11_readsCave_10 : decode cX11_readsCave 10 = .ok (.aload_n 0, 1) := by decide +kernel
theorem dX11_readsCave_11 : decode cX11_readsCave 11 = .ok (.getfield 25, 3) := by decide +kernel
theorem dX11_readsCave_14 : decode cX11_readsCave 14 = .ok (.iconst 0, 1) := by decide +kernel
theorem dX11_readsCave_15 : decode cX11_readsCave 15 = .ok (.iaload, 1) := by decide +kernel
theorem dX11_readsCave_16 : decode cX11_readsCave 16 = .ok (.ifCond .le 7, 3) := by decide +kernel
theorem dX11_readsCave_19 : decode cX11_readsCave 19 = .ok (.iconst 1, 1) := by decide +kernel
theorem dX11_readsCave_20 : decode cX11_readsCave 20 = .ok (.goto 4, 3) := by decide +kernel
theorem dX11_readsCave_23 : decode cX11_readsCave 23 = .ok (.iconst 0, 1) := by decide +kernel
theorem dX11_readsCave_24 : decode cX11_readsCave 24 = .ok (.istore_n 1, 1) := by decide +kernel
theorem dX11_readsCave_25 : decode cX11_readsCave 25 = .ok (.iload_n 1, 1) := by decide +kernel
theorem dX11_readsCave_26 : decode cX11_readsCave 26 = .ok (.ifCond .eq 80, 3) := by decide +kernel
theorem dX11_readsCave_29 : decode cX11_readsCave 29 = .ok (.aload_n 0, 1) := by decide +kernel
theorem dX11_readsCave_30 : decode cX11_readsCave 30 = .ok (.invokevirtual 106, 3) := by decide +kernel
theorem dX11_readsCave_33 : decode cX11_readsCave 33 = .ok (.istore_n 2, 1) := by decide +kernel
theorem dX11_readsCave_34 : decode cX11_readsCave 34 = .ok (.iload_n 2, 1) := by decide +kernel
theorem dX11_readsCave_35 : decode cX11_readsCave 35 = .ok (.ifCond .eq 20, 3) := by decide +kernel
theorem dX11_readsCave_38 : decode cX11_readsCave 38 = .ok (.aload_n 0, 1) := by decide +kernel
theorem dX11_readsCave_39 : decode cX11_readsCave 39 = .ok (.getfield 95, 3) := by decide +kernel
theorem dX11_readsCave_42 : decode cX11_readsCave 42 = .ok (.aload_n 0, 1) := by decide +kernel
theorem dX11_readsCave_43 : decode cX11_readsCave 43 = .ok (.getfield 25, 3) := by decide +kernel
theorem dX11_readsCave_46 : decode cX11_readsCave 46 = .ok (.iconst 0, 1) := by decide +kernel
theorem dX11_readsCave_47 : decode cX11_readsCave 47 = .ok (.iaload, 1) := by decide +kernel
theorem dX11_readsCave_48 : decode cX11_readsCave 48 = .ok (.if_icmp .ge 7, 3) := by decide +kernel
theorem dX11_readsCave_51 : decode cX11_readsCave 51 = .ok (.iconst 1, 1) := by decide +kernel
theorem dX11_readsCave_52 : decode cX11_readsCave 52 = .ok (.goto 4, 3) := by decide +kernel
theorem dX11_readsCave_55 : decode cX11_readsCave 55 = .ok (.iconst 0, 1) := by decide +kernel
theorem dX11_readsCave_56 : decode cX11_readsCave 56 = .ok (.istore_n 1, 1) := by decide +kernel
theorem dX11_readsCave_57 : decode cX11_readsCave 57 = .ok (.iload_n 2, 1) := by decide +kernel
theorem dX11_readsCave_58 : decode cX11_readsCave 58 = .ok (.ifCond .eq 17, 3) := by decide +kernel
theorem dX11_readsCave_61 : decode cX11_readsCave 61 = .ok (.iload_n 1, 1) := by decide +kernel
theorem dX11_readsCave_62 : decode cX11_readsCave 62 = .ok (.ifCond .eq 23, 3) := by decide +kernel
theorem dX11_readsCave_65 : decode cX11_readsCave 65 = .ok (.aload_n 0, 1) := by decide +kernel
theorem dX11_readsCave_66 : decode cX11_readsCave 66 = .ok (.iconst 0, 1) := by decide +kernel
theorem dX11_readsCave_67 : decode cX11_readsCave 67 = .ok (.invokevirtual 101, 3) := by decide +kernel
theorem dX11_readsCave_70 : decode cX11_readsCave 70 = .ok (.bipush 59, 2) := by decide +kernel
theorem dX11_readsCave_72 : decode cX11_readsCave 72 = .ok (.if_icmp .eq 13, 3) := by decide +kernel
theorem dX11_readsCave_75 : decode cX11_readsCave 75 = .ok (.aload_n 0, 1) := by decide +kernel
theorem dX11_readsCave_76 : decode cX11_readsCave 76 = .ok (.iconst 0, 1) := by decide +kernel
theorem dX11_readsCave_77 : decode cX11_readsCave 77 = .ok (.putfield 98, 3) := by decide +kernel
theorem dX11_readsCave_80 : decode cX11_readsCave 80 = .ok (.aload_n 0, 1) := by decide +kernel
theorem dX11_readsCave_81 : decode cX11_readsCave 81 = .ok (.getfield 95, 3) := by decide +kernel
theorem dX11_readsCave_84 : decode cX11_readsCave 84 = .ok (.ireturn, 1) := by decide +kernel
theorem dX11_readsCave_85 : decode cX11_readsCave 85 = .ok (.aload_n 0, 1) := by decide +kernel
theorem dX11_readsCave_86 : decode cX11_readsCave 86 = .ok (.dup, 1) := by decide +kernel
theorem dX11_readsCave_87 : decode cX11_readsCave 87 = .ok (.getfield 95, 3) := by decide +kernel
theorem dX11_readsCave_90 : decode cX11_readsCave 90 = .ok (.iload_n 1, 1) := by decide +kernel
theorem dX11_readsCave_91 : decode cX11_readsCave 91 = .ok (.ifCond .eq 7, 3) := by decide +kernel
theorem dX11_readsCave_94 : decode cX11_readsCave 94 = .ok (.iconst 1, 1) := by decide +kernel
theorem dX11_readsCave_95 : decode cX11_readsCave 95 = .ok (.goto 4, 3) := by decide +kernel
theorem dX11_readsCave_98 : decode cX11_readsCave 98 = .ok (.iconst 0, 1) := by decide +kernel
theorem dX11_readsCave_99 : decode cX11_readsCave 99 = .ok (.iadd, 1) := by decide +kernel
theorem dX11_readsCave_100 : decode cX11_readsCave 100 = .ok (.putfield 95, 3) := by decide +kernel
theorem dX11_readsCave_103 : decode cX11_readsCave 103 = .ok (.goto (-78), 3) := by decide +kernel
theorem dX11_readsCave_106 : decode cX11_readsCave 106 = .ok (.iconst (-1), 1) := by decide +kernel
theorem dX11_readsCave_107 : decode cX11_readsCave 107 = .ok (.ireturn, 1) := by decide +kernel
theorem dX11_isStep_0 : decode cX11_isStep 0 = .ok (.iload_n 0, 1) := by decide +kernel
theorem dX11_isStep_1 : decode cX11_isStep 1 = .ok (.bipush 43, 2) := by decide +kernel
theorem dX11_isStep_3 : decode cX11_isStep 3 = .ok (.if_icmp .eq 21, 3) := by decide +kernel
theorem dX11_isStep_6 : decode cX11_isStep 6 = .ok (.iload_n 0, 1) := by decide +kernel
theorem dX11_isStep_7 : decode cX11_isStep 7 = .ok (.bipush 45, 2) := by decide +kernel
theorem dX11_isStep_9 : decode cX11_isStep 9 = .ok (.if_icmp .eq 15, 3) := by decide +kernel
theorem dX11_isStep_12 : decode cX11_isStep 12 = .ok (.iload_n 0, 1) := by decide +kernel
theorem dX11_isStep_13 : decode cX11_isStep 13 = .ok (.bipush 117, 2) := by decide +kernel
theorem dX11_isStep_15 : decode cX11_isStep 15 = .ok (.if_icmp .eq 9, 3) := by decide +kernel
theorem dX11_isStep_18 : decode cX11_isStep 18 = .ok (.iload_n 0, 1) := by decide +kernel
theorem dX11_isStep_19 : decode cX11_isStep 19 = .ok (.bipush 120, 2) := by decide +kernel
theorem dX11_isStep_21 : decode cX11_isStep 21 = .ok (.if_icmp .ne 7, 3) := by decide +kernel
theorem dX11_isStep_24 : decode cX11_isStep 24 = .ok (.iconst 1, 1) := by decide +kernel
theorem dX11_isStep_25 : decode cX11_isStep 25 = .ok (.goto 4, 3) := by decide +kernel
theorem dX11_isStep_28 : decode cX11_isStep 28 = .ok (.iconst 0, 1) := by decide +kernel
theorem dX11_isStep_29 : decode cX11_isStep 29 = .ok (.ireturn, 1) := by decide +kernel
theorem dX11_readsPlan_0 : decode cX11_readsPlan 0 = .ok (.aload_n 0, 1) := by decide +kernel
theorem dX11_readsPlan_1 : decode cX11_readsPlan 1 = .ok (.iconst 0, 1) := by decide +kernel
theorem dX11_readsPlan_2 : decode cX11_readsPlan 2 = .ok (.putfield 110, 3) := by decide +kernel
theorem dX11_readsPlan_5 : decode cX11_readsPlan 5 = .ok (.aload_n 0, 1) := by decide +kernel
theorem dX11_readsPlan_6 : decode cX11_readsPlan 6 = .ok (.iconst 0, 1) := by decide +kernel
theorem dX11_readsPlan_7 : decode cX11_readsPlan 7 = .ok (.putfield 95, 3) := by decide +kernel
theorem dX11_readsPlan_10 : decode cX11_readsPlan 10 = .ok (.aload_n 0, 1) := by decide +kernel
theorem dX11_readsPlan_11 : decode cX11_readsPlan 11 = .ok (.getfield 95, 3) := by decide +kernel
theorem dX11_readsPlan_14 : decode cX11_readsPlan 14 = .ok (.aload_n 0, 1) := by decide +kernel
theorem dX11_readsPlan_15 : decode cX11_readsPlan 15 = .ok (.getfield 25, 3) := by decide +kernel
theorem dX11_readsPlan_18 : decode cX11_readsPlan 18 = .ok (.iconst 1, 1) := by decide +kernel
theorem dX11_readsPlan_19 : decode cX11_readsPlan 19 = .ok (.iaload, 1) := by decide +kernel
theorem dX11_readsPlan_20 : decode cX11_readsPlan 20 = .ok (.if_icmp .ge 75, 3) := by decide +kernel
theorem dX11_readsPlan_23 : decode cX11_readsPlan 23 = .ok (.aload_n 0, 1) := by decide +kernel
theorem dX11_readsPlan_24 : decode cX11_readsPlan 24 = .ok (.iconst 1, 1) := by decide +kernel
theorem dX11_readsPlan_25 : decode cX11_readsPlan 25 = .ok (.invokevirtual 101, 3) := by decide +kernel
theorem dX11_readsPlan_28 : decode cX11_readsPlan 28 = .ok (.invokestatic 113, 3) := by decide +kernel
theorem dX11_readsPlan_31 : decode cX11_readsPlan 31 = .ok (.ifCond .ne 8, 3) := by decide +kernel
theorem dX11_readsPlan_34 : decode cX11_readsPlan 34 = .ok (.aload_n 0, 1) := by decide +kernel
theorem dX11_readsPlan_35 : decode cX11_readsPlan 35 = .ok (.getfield 95, 3) := by decide +kernel
theorem dX11_readsPlan_38 : decode cX11_readsPlan 38 = .ok (.ireturn, 1) := by decide +kernel
theorem dX11_readsPlan_39 : decode cX11_readsPlan 39 = .ok (.aload_n 0, 1) := by decide +kernel
theorem dX11_readsPlan_40 : decode cX11_readsPlan 40 = .ok (.iconst 1, 1) := by decide +kernel
theorem dX11_readsPlan_41 : decode cX11_readsPlan 41 = .ok (.invokevirtual 101, 3) := by decide +kernel
theorem dX11_readsPlan_44 : decode cX11_readsPlan 44 = .ok (.bipush 120, 2) := by decide +kernel
theorem dX11_readsPlan_46 : decode cX11_readsPlan 46 = .ok (.if_icmp .ne 36, 3) := by decide +kernel
theorem dX11_readsPlan_49 : decode cX11_readsPlan 49 = .ok (.aload_n 0, 1) := by decide +kernel
theorem dX11_readsPlan_50 : decode cX11_readsPlan 50 = .ok (.dup, 1) := by decide +kernel
theorem dX11_readsPlan_51 : decode cX11_readsPlan 51 = .ok (.getfield 95, 3) := by decide +kernel
theorem dX11_readsPlan_54 : decode cX11_readsPlan 54 = .ok (.iconst 1, 1) := by decide +kernel
theorem dX11_readsPlan_55 : decode cX11_readsPlan 55 = .ok (.iadd, 1) := by decide +kernel
theorem dX11_readsPlan_56 : decode cX11_readsPlan 56 = .ok (.putfield 95, 3) := by decide +kernel
theorem dX11_readsPlan_59 : decode cX11_readsPlan 59 = .ok (.aload_n 0, 1) := by decide +kernel
theorem dX11_readsPlan_60 : decode cX11_readsPlan 60 = .ok (.iconst 1, 1) := by decide +kernel
theorem dX11_readsPlan_61 : decode cX11_readsPlan 61 = .ok (.invokevirtual 101, 3) := by decide +kernel
theorem dX11_readsPlan_64 : decode cX11_readsPlan 64 = .ok (.i2l, 1) := by decide +kernel
theorem dX11_readsPlan_65 : decode cX11_readsPlan 65 = .ok (.ldc2_w 116, 3) := by decide +kernel
theorem dX11_readsPlan_68 : decode cX11_readsPlan 68 = .ok (.ldc2_w 118, 3) := by decide +kernel
theorem dX11_readsPlan_71 : decode cX11_readsPlan 71 = .ok (.invokestatic 62, 3) := by decide +kernel
theorem dX11_readsPlan_74 : decode cX11_readsPlan 74 = .ok (.ifCond .ne 8, 3) := by decide +kernel
theorem dX11_readsPlan_77 : decode cX11_readsPlan 77 = .ok (.aload_n 0, 1) := by decide +kernel
theorem dX11_readsPlan_78 : decode cX11_readsPlan 78 = .ok (.getfield 95, 3) := by decide +kernel
theorem dX11_readsPlan_81 : decode cX11_readsPlan 81 = .ok (.ireturn, 1) := by decide +kernel
theorem dX11_readsPlan_82 : decode cX11_readsPlan 82 = .ok (.aload_n 0, 1) := by decide +kernel
theorem dX11_readsPlan_83 : decode cX11_readsPlan 83 = .ok (.dup, 1) := by decide +kernel
theorem dX11_readsPlan_84 : decode cX11_readsPlan 84 = .ok (.getfield 95, 3) := by decide +kernel
theorem dX11_readsPlan_87 : decode cX11_readsPlan 87 = .ok (.iconst 1, 1) := by decide +kernel
theorem dX11_readsPlan_88 : decode cX11_readsPlan 88 = .ok (.iadd, 1) := by decide +kernel
theorem dX11_readsPlan_89 : decode cX11_readsPlan 89 = .ok (.putfield 95, 3) := by decide +kernel
theorem dX11_readsPlan_92 : decode cX11_readsPlan 92 = .ok (.goto (-82), 3) := by decide +kernel
theorem dX11_readsPlan_95 : decode cX11_readsPlan 95 = .ok (.aload_n 0, 1) := by decide +kernel
theorem dX11_readsPlan_96 : decode cX11_readsPlan 96 = .ok (.aload_n 0, 1) := by decide +kernel
theorem dX11_readsPlan_97 : decode cX11_readsPlan 97 = .ok (.getfield 25, 3) := by decide +kernel
theorem dX11_readsPlan_100 : decode cX11_readsPlan 100 = .ok (.iconst 1, 1) := by decide +kernel
theorem dX11_readsPlan_101 : decode cX11_readsPlan 101 = .ok (.iaload, 1) := by decide +kernel
theorem dX11_readsPlan_102 : decode cX11_readsPlan 102 = .ok (.putfield 110, 3) := by decide +kernel
theorem dX11_readsPlan_105 : decode cX11_readsPlan 105 = .ok (.iconst (-1), 1) := by decide +kernel
theorem dX11_readsPlan_106 : decode cX11_readsPlan 106 = .ok (.ireturn, 1) := by decide +kernel
theorem dX11_reads_0 : decode cX11_reads 0 = .ok (.aload_n 0, 1) := by decide +kernel
theorem dX11_reads_1 : decode cX11_reads 1 = .ok (.invokevirtual 120, 3) := by decide +kernel
theorem dX11_reads_4 : decode cX11_reads 4 = .ok (.pop, 1) := by decide +kernel
theorem dX11_reads_5 : decode cX11_reads 5 = .ok (.aload_n 0, 1) := by decide +kernel
theorem dX11_reads_6 : decode cX11_reads 6 = .ok (.invokevirtual 124, 3) := by decide +kernel
theorem dX11_reads_9 : decode cX11_reads 9 = .ok (.pop, 1) := by decide +kernel
theorem dX11_reads_10 : decode cX11_reads 10 = .ok (.return_, 1) := by decide +kernel
theorem dX11_fault_0 : decode cX11_fault 0 = .ok (.iload_n 1, 1) := by decide +kernel
theorem dX11_fault_1 : decode cX11_fault 1 = .ok (.invokestatic 90, 3) := by decide +kernel
theorem dX11_fault_4 : decode cX11_fault 4 = .ok (.ifCond .ne 8, 3) := by decide +kernel
theorem dX11_fault_7 : decode cX11_fault 7 = .ok (.bipush (-2), 2) := by decide +kernel
theorem dX11_fault_9 : decode cX11_fault 9 = .ok (.goto 18, 3) := by decide +kernel
theorem dX11_fault_12 : decode cX11_fault 12 = .ok (.iload_n 1, 1) := by decide +kernel
theorem dX11_fault_13 : decode cX11_fault 13 = .ok (.ifCond .ne 10, 3) := by decide +kernel
theorem dX11_fault_16 : decode cX11_fault 16 = .ok (.aload_n 0, 1) := by decide +kernel
theorem dX11_fault_17 : decode cX11_fault 17 = .ok (.invokevirtual 120, 3) := by decide +kernel
theorem dX11_fault_20 : decode cX11_fault 20 = .ok (.goto 7, 3) := by decide +kernel
theorem dX11_fault_23 : decode cX11_fault 23 = .ok (.aload_n 0, 1) := by decide +kernel
theorem dX11_fault_24 : decode cX11_fault 24 = .ok (.invokevirtual 124, 3) := by decide +kernel
theorem dX11_fault_27 : decode cX11_fault 27 = .ok (.ireturn, 1) := by decide +kernel
theorem dX11_partOf_0 : decode cX11_partOf 0 = .ok (.iload_n 2, 1) := by decide +kernel
theorem dX11_partOf_1 : decode cX11_partOf 1 = .ok (.iconst 3, 1) := by decide +kernel
theorem dX11_partOf_2 : decode cX11_partOf 2 = .ok (.if_icmp .ne 20, 3) := by decide +kernel
theorem dX11_partOf_5 : decode cX11_partOf 5 = .ok (.aload_n 0, 1) := by decide +kernel
theorem dX11_partOf_6 : decode cX11_partOf 6 = .ok (.getfield 31, 3) := by decide +kernel
theorem dX11_partOf_9 : decode cX11_partOf 9 = .ok (.iload_n 1, 1) := by decide +kernel
theorem dX11_partOf_10 : decode cX11_partOf 10 = .ok (.baload, 1) := by decide +kernel
theorem dX11_partOf_11 : decode cX11_partOf 11 = .ok (.ifCond .eq 7, 3) := by decide +kernel
theorem dX11_partOf_14 : decode cX11_partOf 14 = .ok (.iconst 1, 1) := by decide +kernel
theorem dX11_partOf_15 : decode cX11_partOf 15 = .ok (.goto 17, 3) := by decide +kernel
theorem dX11_partOf_18 : decode cX11_partOf 18 = .ok (.iconst 0, 1) := by decide +kernel
theorem dX11_partOf_19 : decode cX11_partOf 19 = .ok (.goto 13, 3) := by decide +kernel
theorem dX11_partOf_22 : decode cX11_partOf 22 = .ok (.aload_n 0, 1) := by decide +kernel
theorem dX11_partOf_23 : decode cX11_partOf 23 = .ok (.getfield 28, 3) := by decide +kernel
theorem dX11_partOf_26 : decode cX11_partOf 26 = .ok (.iconst 3, 1) := by decide +kernel
theorem dX11_partOf_27 : decode cX11_partOf 27 = .ok (.iload_n 1, 1) := by decide +kernel
theorem dX11_partOf_28 : decode cX11_partOf 28 = .ok (.imul, 1) := by decide +kernel
theorem dX11_partOf_29 : decode cX11_partOf 29 = .ok (.iload_n 2, 1) := by decide +kernel
theorem dX11_partOf_30 : decode cX11_partOf 30 = .ok (.iadd, 1) := by decide +kernel
theorem dX11_partOf_31 : decode cX11_partOf 31 = .ok (.iaload, 1) := by decide +kernel
theorem dX11_partOf_32 : decode cX11_partOf 32 = .ok (.ireturn, 1) := by decide +kernel
theorem dX11_part__0 : decode cX11_part_ 0 = .ok (.aload_n 0, 1) := by decide +kernel
theorem dX11_part__1 : decode cX11_part_ 1 = .ok (.invokevirtual 127, 3) := by decide +kernel
theorem dX11_part__4 : decode cX11_part_ 4 = .ok (.iload_n 1, 1) := by decide +kernel
theorem dX11_part__5 : decode cX11_part_ 5 = .ok (.i2l, 1) := by decide +kernel
theorem dX11_part__6 : decode cX11_part_ 6 = .ok (.lconst 0, 1) := by decide +kernel
theorem dX11_part__7 : decode cX11_part_ 7 = .ok (.aload_n 0, 1) := by decide +kernel
theorem dX11_part__8 : decode cX11_part_ 8 = .ok (.getfield 98, 3) := by decide +kernel
theorem dX11_part__11 : decode cX11_part_ 11 = .ok (.iconst 1, 1) := by decide +kernel
theorem dX11_part__12 : decode cX11_part_ 12 = .ok (.isub, 1) := by decide +kernel
theorem dX11_part__13 : decode cX11_part_ 13 = .ok (.i2l, 1) := by decide +kernel
theorem dX11_part__14 : decode cX11_part_ 14 = .ok (.invokestatic 62, 3) := by decide +kernel
theorem dX11_part__17 : decode cX11_part_ 17 = .ok (.ifCond .eq 24, 3) := by decide +kernel
theorem dX11_part__20 : decode cX11_part_ 20 = .ok (.iload_n 2, 1) := by decide +kernel
theorem dX11_part__21 : decode cX11_part_ 21 = .ok (.i2l, 1) := by decide +kernel
theorem dX11_part__22 : decode cX11_part_ 22 = .ok (.lconst 0, 1) := by decide +kernel
theorem dX11_part__23 : decode cX11_part_ 23 = .ok (.ldc2_w 69, 3) := by decide +kernel
theorem dX11_part__26 : decode cX11_part_ 26 = .ok (.invokestatic 62, 3) := by decide +kernel
theorem dX11_part__29 : decode cX11_part_ 29 = .ok (.ifCond .eq 12, 3) := by decide +kernel
theorem dX11_part__32 : decode cX11_part_ 32 = .ok (.aload_n 0, 1) := by decide +kernel
theorem dX11_part__33 : decode cX11_part_ 33 = .ok (.iload_n 1, 1) := by decide +kernel
theorem dX11_part__34 : decode cX11_part_ 34 = .ok (.iload_n 2, 1) := by decide +kernel
theorem dX11_part__35 : decode cX11_part_ 35 = .ok (.invokevirtual 130, 3) := by decide +kernel
theorem dX11_part__38 : decode cX11_part_ 38 = .ok (.goto 5, 3) := by decide +kernel
theorem dX11_part__41 : decode cX11_part_ 41 = .ok (.bipush (-2), 2) := by decide +kernel
theorem dX11_part__43 : decode cX11_part_ 43 = .ok (.ireturn, 1) := by decide +kernel
theorem dX11_goers_0 : decode cX11_goers 0 = .ok (.iload_n 1, 1) := by decide +kernel
theorem dX11_goers_1 : decode cX11_goers 1 = .ok (.i2l, 1) := by decide +kernel
theorem dX11_goers_2 : decode cX11_goers 2 = .ok (.lconst 1, 1) := by decide +kernel
theorem dX11_goers_3 : decode cX11_goers 3 = .ok (.ldc2_w 133, 3) := by decide +kernel
theorem dX11_goers_6 : decode cX11_goers 6 = .ok (.invokestatic 62, 3) := by decide +kernel
theorem dX11_goers_9 : decode cX11_goers 9 = .ok (.ifCond .ne 6, 3) := by decide +kernel
theorem dX11_goers_12 : decode cX11_goers 12 = .ok (.bipush (-2), 2) := by decide +kernel
theorem dX11_goers_14 : decode cX11_goers 14 = .ok (.ireturn, 1) := by decide +kernel
theorem dX11_goers_15 : decode cX11_goers 15 = .ok (.aload_n 0, 1) := by decide +kernel
theorem dX11_goers_16 : decode cX11_goers 16 = .ok (.getfield 56, 3) := by decide +kernel
theorem dX11_goers_19 : decode cX11_goers 19 = .ok (.istore_n 2, 1) := by decide +kernel
theorem dX11_goers_20 : decode cX11_goers 20 = .ok (.aload_n 0, 1) := by decide +kernel
theorem dX11_goers_21 : decode cX11_goers 21 = .ok (.iload_n 1, 1) := by decide +kernel
theorem dX11_goers_22 : decode cX11_goers 22 = .ok (.putfield 56, 3) := by decide +kernel
theorem dX11_goers_25 : decode cX11_goers 25 = .ok (.iload_n 2, 1) := by decide +kernel
theorem dX11_goers_26 : decode cX11_goers 26 = .ok (.ireturn, 1) := by decide +kernel
theorem dX11_lamp_0 : decode cX11_lamp 0 = .ok (.iload_n 1, 1) := by decide +kernel
theorem dX11_lamp_1 : decode cX11_lamp 1 = .ok (.i2l, 1) := by decide +kernel
theorem dX11_lamp_2 : decode cX11_lamp 2 = .ok (.lconst 0, 1) := by decide +kernel
theorem dX11_lamp_3 : decode cX11_lamp 3 = .ok (.ldc2_w 69, 3) := by decide +kernel
theorem dX11_lamp_6 : decode cX11_lamp 6 = .ok (.invokestatic 62, 3) := by decide +kernel
theorem dX11_lamp_9 : decode cX11_lamp 9 = .ok (.ifCond .eq 15, 3) := by decide +kernel
theorem dX11_lamp_12 : decode cX11_lamp 12 = .ok (.iload_n 2, 1) := by decide +kernel
theorem dX11_lamp_13 : decode cX11_lamp 13 = .ok (.i2l, 1) := by decide +kernel
theorem dX11_lamp_14 : decode cX11_lamp 14 = .ok (.lconst 0, 1) := by decide +kernel
theorem dX11_lamp_15 : decode cX11_lamp 15 = .ok (.ldc2_w 135, 3) := by decide +kernel
theorem dX11_lamp_18 : decode cX11_lamp 18 = .ok (.invokestatic 62, 3) := by decide +kernel
theorem dX11_lamp_21 : decode cX11_lamp 21 = .ok (.ifCond .ne 6, 3) := by decide +kernel
theorem dX11_lamp_24 : decode cX11_lamp 24 = .ok (.bipush (-2), 2) := by decide +kernel
theorem dX11_lamp_26 : decode cX11_lamp 26 = .ok (.ireturn, 1) := by decide +kernel
theorem dX11_lamp_27 : decode cX11_lamp 27 = .ok (.aload_n 0, 1) := by decide +kernel
theorem dX11_lamp_28 : decode cX11_lamp 28 = .ok (.getfield 35, 3) := by decide +kernel
theorem dX11_lamp_31 : decode cX11_lamp 31 = .ok (.iload_n 1, 1) := by decide +kernel
theorem dX11_lamp_32 : decode cX11_lamp 32 = .ok (.iaload, 1) := by decide +kernel
theorem dX11_lamp_33 : decode cX11_lamp 33 = .ok (.istore_n 3, 1) := by decide +kernel
theorem dX11_lamp_34 : decode cX11_lamp 34 = .ok (.aload_n 0, 1) := by decide +kernel
theorem dX11_lamp_35 : decode cX11_lamp 35 = .ok (.getfield 35, 3) := by decide +kernel
theorem dX11_lamp_38 : decode cX11_lamp 38 = .ok (.iload_n 1, 1) := by decide +kernel
theorem dX11_lamp_39 : decode cX11_lamp 39 = .ok (.iload_n 2, 1) := by decide +kernel
theorem dX11_lamp_40 : decode cX11_lamp 40 = .ok (.iastore, 1) := by decide +kernel
theorem dX11_lamp_41 : decode cX11_lamp 41 = .ok (.iload_n 3, 1) := by decide +kernel
theorem dX11_lamp_42 : decode cX11_lamp 42 = .ok (.ireturn, 1) := by decide +kernel
theorem dX11_read_0 : decode cX11_read 0 = .ok (.iload_n 1, 1) := by decide +kernel
theorem dX11_read_1 : decode cX11_read 1 = .ok (.invokestatic 71, 3) := by decide +kernel
theorem dX11_read_4 : decode cX11_read 4 = .ok (.ifCond .ne 6, 3) := by decide +kernel
theorem dX11_read_7 : decode cX11_read 7 = .ok (.bipush (-2), 2) := by decide +kernel
theorem dX11_read_9 : decode cX11_read 9 = .ok (.ireturn, 1) := by decide +kernel
theorem dX11_read_10 : decode cX11_read 10 = .ok (.aload_n 0, 1) := by decide +kernel
theorem dX11_read_11 : decode cX11_read 11 = .ok (.getfield 7, 3) := by decide +kernel
theorem dX11_read_14 : decode cX11_read 14 = .ok (.iload_n 1, 1) := by decide +kernel
theorem dX11_read_15 : decode cX11_read 15 = .ok (.iaload, 1) := by decide +kernel
theorem dX11_read_16 : decode cX11_read 16 = .ok (.ifCond .ge 9, 3) := by decide +kernel
theorem dX11_read_19 : decode cX11_read 19 = .ok (.aload_n 0, 1) := by decide +kernel
theorem dX11_read_20 : decode cX11_read 20 = .ok (.iconst 1, 1) := by decide +kernel
theorem dX11_read_21 : decode cX11_read 21 = .ok (.invokevirtual 77, 3) := by decide +kernel
theorem dX11_read_24 : decode cX11_read 24 = .ok (.ireturn, 1) := by decide +kernel
theorem dX11_read_25 : decode cX11_read 25 = .ok (.iconst 0, 1) := by decide +kernel
theorem dX11_read_26 : decode cX11_read 26 = .ok (.istore_n 2, 1) := by decide +kernel
theorem dX11_read_27 : decode cX11_read 27 = .ok (.iload_n 2, 1) := by decide +kernel
theorem dX11_read_28 : decode cX11_read 28 = .ok (.aload_n 0, 1) := by decide +kernel
theorem dX11_read_29 : decode cX11_read 29 = .ok (.getfield 13, 3) := by decide +kernel
theorem dX11_read_32 : decode cX11_read 32 = .ok (.iload_n 1, 1) := by decide +kernel
theorem dX11_read_33 : decode cX11_read 33 = .ok (.iaload, 1) := by decide +kernel
theorem dX11_read_34 : decode cX11_read 34 = .ok (.if_icmp .ge 28, 3) := by decide +kernel
theorem dX11_read_37 : decode cX11_read 37 = .ok (.aload_n 0, 1) := by decide +kernel
theorem dX11_read_38 : decode cX11_read 38 = .ok (.iload_n 2, 1) := by decide +kernel
theorem dX11_read_39 : decode cX11_read 39 = .ok (.aload_n 0, 1) := by decide +kernel
theorem dX11_read_40 : decode cX11_read 40 = .ok (.getfield 16, 3) := by decide +kernel
theorem dX11_read_43 : decode cX11_read 43 = .ok (.bipush 60, 2) := by decide +kernel
theorem dX11_read_45 : decode cX11_read 45 = .ok (.iload_n 1, 1) := by decide +kernel
theorem dX11_read_46 : decode cX11_read 46 = .ok (.imul, 1) := by decide +kernel
theorem dX11_read_47 : decode cX11_read 47 = .ok (.iload_n 2, 1) := by decide +kernel
theorem dX11_read_48 : decode cX11_read 48 = .ok (.iadd, 1) := by decide +kernel
theorem dX11_read_49 : decode cX11_read 49 = .ok (.iaload, 1) := by decide +kernel
theorem dX11_read_50 : decode cX11_read 50 = .ok (.invokevirtual 137, 3) := by decide +kernel
theorem dX11_read_53 : decode cX11_read 53 = .ok (.ifCond .lt 9, 3) := by decide +kernel
theorem dX11_read_56 : decode cX11_read 56 = .ok (.iinc 2 1, 3) := by decide +kernel
theorem dX11_read_59 : decode cX11_read 59 = .ok (.goto (-32), 3) := by decide +kernel
theorem dX11_read_62 : decode cX11_read 62 = .ok (.iload_n 2, 1) := by decide +kernel
theorem dX11_read_63 : decode cX11_read 63 = .ok (.ireturn, 1) := by decide +kernel
theorem dX11_isGoer_0 : decode cX11_isGoer 0 = .ok (.iload_n 1, 1) := by decide +kernel
theorem dX11_isGoer_1 : decode cX11_isGoer 1 = .ok (.i2l, 1) := by decide +kernel
theorem dX11_isGoer_2 : decode cX11_isGoer 2 = .ok (.lconst 0, 1) := by decide +kernel
theorem dX11_isGoer_3 : decode cX11_isGoer 3 = .ok (.aload_n 0, 1) := by decide +kernel
theorem dX11_isGoer_4 : decode cX11_isGoer 4 = .ok (.getfield 56, 3) := by decide +kernel
theorem dX11_isGoer_7 : decode cX11_isGoer 7 = .ok (.iconst 1, 1) := by decide +kernel
theorem dX11_isGoer_8 : decode cX11_isGoer 8 = .ok (.isub, 1) := by decide +kernel
theorem dX11_isGoer_9 : decode cX11_isGoer 9 = .ok (.i2l, 1) := by decide +kernel
theorem dX11_isGoer_10 : decode cX11_isGoer 10 = .ok (.invokestatic 62, 3) := by decide +kernel
theorem dX11_isGoer_13 : decode cX11_isGoer 13 = .ok (.ireturn, 1) := by decide +kernel
theorem dX11_outBy_0 : decode cX11_outBy 0 = .ok (.iload_n 2, 1) := by decide +kernel
theorem dX11_outBy_1 : decode cX11_outBy 1 = .ok (.iconst 1, 1) := by decide +kernel
theorem dX11_outBy_2 : decode cX11_outBy 2 = .ok (.if_icmp .ne 16, 3) := by decide +kernel
theorem dX11_outBy_5 : decode cX11_outBy 5 = .ok (.aload_n 0, 1) := by decide +kernel
theorem dX11_outBy_6 : decode cX11_outBy 6 = .ok (.getfield 28, 3) := by decide +kernel
theorem dX11_outBy_9 : decode cX11_outBy 9 = .ok (.iconst 3, 1) := by decide +kernel
theorem dX11_outBy_10 : decode cX11_outBy 10 = .ok (.iload_n 1, 1) := by decide +kernel
theorem dX11_outBy_11 : decode cX11_outBy 11 = .ok (.imul, 1) := by decide +kernel
theorem dX11_outBy_12 : decode cX11_outBy 12 = .ok (.iconst 1, 1) := by decide +kernel
theorem dX11_outBy_13 : decode cX11_outBy 13 = .ok (.iadd, 1) := by decide +kernel
theorem dX11_outBy_14 : decode cX11_outBy 14 = .ok (.iaload, 1) := by decide +kernel
theorem dX11_outBy_15 : decode cX11_outBy 15 = .ok (.goto 17, 3) := by decide +kernel
theorem dX11_outBy_18 : decode cX11_outBy 18 = .ok (.iload_n 2, 1) := by decide +kernel
theorem dX11_outBy_19 : decode cX11_outBy 19 = .ok (.iconst 1, 1) := by decide +kernel
theorem dX11_outBy_20 : decode cX11_outBy 20 = .ok (.isub, 1) := by decide +kernel
theorem dX11_outBy_21 : decode cX11_outBy 21 = .ok (.aload_n 0, 1) := by decide +kernel
theorem dX11_outBy_22 : decode cX11_outBy 22 = .ok (.getfield 28, 3) := by decide +kernel
theorem dX11_outBy_25 : decode cX11_outBy 25 = .ok (.iconst 3, 1) := by decide +kernel
theorem dX11_outBy_26 : decode cX11_outBy 26 = .ok (.iload_n 1, 1) := by decide +kernel
theorem dX11_outBy_27 : decode cX11_outBy 27 = .ok (.imul, 1) := by decide +kernel
theorem dX11_outBy_28 : decode cX11_outBy 28 = .ok (.iconst 2, 1) := by decide +kernel
theorem dX11_outBy_29 : decode cX11_outBy 29 = .ok (.iadd, 1) := by decide +kernel
theorem dX11_outBy_30 : decode cX11_outBy 30 = .ok (.iaload, 1) := by decide +kernel
theorem dX11_outBy_31 : decode cX11_outBy 31 = .ok (.imul, 1) := by decide +kernel
theorem dX11_outBy_32 : decode cX11_outBy 32 = .ok (.ireturn, 1) := by decide +kernel
theorem dX11_toLight_0 : decode cX11_toLight 0 = .ok (.aload_n 0, 1) := by decide +kernel
theorem dX11_toLight_1 : decode cX11_toLight 1 = .ok (.getfield 56, 3) := by decide +kernel
theorem dX11_toLight_4 : decode cX11_toLight 4 = .ok (.iload_n 1, 1) := by decide +kernel
theorem dX11_toLight_5 : decode cX11_toLight 5 = .ok (.iadd, 1) := by decide +kernel
theorem dX11_toLight_6 : decode cX11_toLight 6 = .ok (.iconst 1, 1) := by decide +kernel
theorem dX11_toLight_7 : decode cX11_toLight 7 = .ok (.isub, 1) := by decide +kernel
theorem dX11_toLight_8 : decode cX11_toLight 8 = .ok (.iload_n 1, 1) := by decide +kernel
theorem dX11_toLight_9 : decode cX11_toLight 9 = .ok (.idiv, 1) := by decide +kernel
theorem dX11_toLight_10 : decode cX11_toLight 10 = .ok (.ireturn, 1) := by decide +kernel
theorem dX11_leastLamp_0 : decode cX11_leastLamp 0 = .ok (.aload_n 0, 1) := by decide +kernel
theorem dX11_leastLamp_1 : decode cX11_leastLamp 1 = .ok (.getfield 35, 3) := by decide +kernel
theorem dX11_leastLamp_4 : decode cX11_leastLamp 4 = .ok (.iconst 0, 1) := by decide +kernel
theorem dX11_leastLamp_5 : decode cX11_leastLamp 5 = .ok (.iaload, 1) := by decide +kernel
theorem dX11_leastLamp_6 : decode cX11_leastLamp 6 = .ok (.istore_n 1, 1) := by decide +kernel
theorem dX11_leastLamp_7 : decode cX11_leastLamp 7 = .ok (.iconst 1, 1) := by decide +kernel
theorem dX11_leastLamp_8 : decode cX11_leastLamp 8 = .ok (.istore_n 2, 1) := by decide +kernel
theorem dX11_leastLamp_9 : decode cX11_leastLamp 9 = .ok (.iload_n 2, 1) := by decide +kernel
theorem dX11_leastLamp_10 : decode cX11_leastLamp 10 = .ok (.aload_n 0, 1) := by decide +kernel
theorem dX11_leastLamp_11 : decode cX11_leastLamp 11 = .ok (.getfield 56, 3) := by decide +kernel
theorem dX11_leastLamp_14 : decode cX11_leastLamp 14 = .ok (.if_icmp .ge 20, 3) := by decide +kernel
theorem dX11_leastLamp_17 : decode cX11_leastLamp 17 = .ok (.iload_n 1, 1) := by decide +kernel
theorem dX11_leastLamp_18 : decode cX11_leastLamp 18 = .ok (.aload_n 0, 1) := by decide +kernel
theorem dX11_leastLamp_19 : decode cX11_leastLamp 19 = .ok (.getfield 35, 3) := by decide +kernel
theorem dX11_leastLamp_22 : decode cX11_leastLamp 22 = .ok (.iload_n 2, 1) := by decide +kernel
theorem dX11_leastLamp_23 : decode cX11_leastLamp 23 = .ok (.iaload, 1) := by decide +kernel
theorem dX11_leastLamp_24 : decode cX11_leastLamp 24 = .ok (.invokestatic 140, 3) := by decide +kernel
theorem dX11_leastLamp_27 : decode cX11_leastLamp 27 = .ok (.istore_n 1, 1) := by decide +kernel
theorem dX11_leastLamp_28 : decode cX11_leastLamp 28 = .ok (.iinc 2 1, 3) := by decide +kernel
theorem dX11_leastLamp_31 : decode cX11_leastLamp 31 = .ok (.goto (-22), 3) := by decide +kernel
theorem dX11_leastLamp_34 : decode cX11_leastLamp 34 = .ok (.iload_n 1, 1) := by decide +kernel
theorem dX11_leastLamp_35 : decode cX11_leastLamp 35 = .ok (.ireturn, 1) := by decide +kernel
theorem dX11_placeOf_0 : decode cX11_placeOf 0 = .ok (.iload_n 1, 1) := by decide +kernel
theorem dX11_placeOf_1 : decode cX11_placeOf 1 = .ok (.istore 4, 2) := by decide +kernel
theorem dX11_placeOf_3 : decode cX11_placeOf 3 = .ok (.iconst 0, 1) := by decide +kernel
theorem dX11_placeOf_4 : decode cX11_placeOf 4 = .ok (.istore 5, 2) := by decide +kernel
theorem dX11_placeOf_6 : decode cX11_placeOf 6 = .ok (.iload 5, 2) := by decide +kernel
theorem dX11_placeOf_8 : decode cX11_placeOf 8 = .ok (.aload_n 0, 1) := by decide +kernel
theorem dX11_placeOf_9 : decode cX11_placeOf 9 = .ok (.getfield 98, 3) := by decide +kernel
theorem dX11_placeOf_12 : decode cX11_placeOf 12 = .ok (.if_icmp .ge 61, 3) := by decide +kernel
theorem dX11_placeOf_15 : decode cX11_placeOf 15 = .ok (.aload_n 0, 1) := by decide +kernel
theorem dX11_placeOf_16 : decode cX11_placeOf 16 = .ok (.getfield 28, 3) := by decide +kernel
theorem dX11_placeOf_19 : decode cX11_placeOf 19 = .ok (.iconst 3, 1) := by decide +kernel
theorem dX11_placeOf_20 : decode cX11_placeOf 20 = .ok (.iload 5, 2) := by decide +kernel
theorem dX11_placeOf_22 : decode cX11_placeOf 22 = .ok (.imul, 1) := by decide +kernel
theorem dX11_placeOf_23 : decode cX11_placeOf 23 = .ok (.iaload, 1) := by decide +kernel
theorem dX11_placeOf_24 : decode cX11_placeOf 24 = .ok (.aload_n 0, 1) := by decide +kernel
theorem dX11_placeOf_25 : decode cX11_placeOf 25 = .ok (.iload 5, 2) := by decide +kernel
theorem dX11_placeOf_27 : decode cX11_placeOf 27 = .ok (.iload_n 2, 1) := by decide +kernel
theorem dX11_placeOf_28 : decode cX11_placeOf 28 = .ok (.invokevirtual 143, 3) := by decide +kernel
theorem dX11_placeOf_31 : decode cX11_placeOf 31 = .ok (.iadd, 1) := by decide +kernel
theorem dX11_placeOf_32 : decode cX11_placeOf 32 = .ok (.istore 6, 2) := by decide +kernel
theorem dX11_placeOf_34 : decode cX11_placeOf 34 = .ok (.iload 4, 2) := by decide +kernel
theorem dX11_placeOf_36 : decode cX11_placeOf 36 = .ok (.iload 6, 2) := by decide +kernel
theorem dX11_placeOf_38 : decode cX11_placeOf 38 = .ok (.if_icmp .ge 22, 3) := by decide +kernel
theorem dX11_placeOf_41 : decode cX11_placeOf 41 = .ok (.iload 5, 2) := by decide +kernel
theorem dX11_placeOf_43 : decode cX11_placeOf 43 = .ok (.i2l, 1) := by decide +kernel
theorem dX11_placeOf_44 : decode cX11_placeOf 44 = .ok (.iload 6, 2) := by decide +kernel
theorem dX11_placeOf_46 : decode cX11_placeOf 46 = .ok (.i2l, 1) := by decide +kernel
theorem dX11_placeOf_47 : decode cX11_placeOf 47 = .ok (.lmul, 1) := by decide +kernel
theorem dX11_placeOf_48 : decode cX11_placeOf 48 = .ok (.iload 4, 2) := by decide +kernel
theorem dX11_placeOf_50 : decode cX11_placeOf 50 = .ok (.i2l, 1) := by decide +kernel
theorem dX11_placeOf_51 : decode cX11_placeOf 51 = .ok (.ladd, 1) := by decide +kernel
theorem dX11_placeOf_52 : decode cX11_placeOf 52 = .ok (.iload 6, 2) := by decide +kernel
theorem dX11_placeOf_54 : decode cX11_placeOf 54 = .ok (.i2l, 1) := by decide +kernel
theorem dX11_placeOf_55 : decode cX11_placeOf 55 = .ok (.iload_n 3, 1) := by decide +kernel
theorem dX11_placeOf_56 : decode cX11_placeOf 56 = .ok (.invokestatic 146, 3) := by decide +kernel
theorem dX11_placeOf_59 : decode cX11_placeOf 59 = .ok (.lreturn, 1) := by decide +kernel
theorem dX11_placeOf_60 : decode cX11_placeOf 60 = .ok (.iload 4, 2) := by decide +kernel
theorem dX11_placeOf_62 : decode cX11_placeOf 62 = .ok (.iload 6, 2) := by decide +kernel
theorem dX11_placeOf_64 : decode cX11_placeOf 64 = .ok (.isub, 1) := by decide +kernel
theorem dX11_placeOf_65 : decode cX11_placeOf 65 = .ok (.istore 4, 2) := by decide +kernel
theorem dX11_placeOf_67 : decode cX11_placeOf 67 = .ok (.iinc 5 1, 3) := by decide +kernel
theorem dX11_placeOf_70 : decode cX11_placeOf 70 = .ok (.goto (-64), 3) := by decide +kernel
theorem dX11_placeOf_73 : decode cX11_placeOf 73 = .ok (.iload_n 3, 1) := by decide +kernel
theorem dX11_placeOf_74 : decode cX11_placeOf 74 = .ok (.ifCond .ne 11, 3) := by decide +kernel
theorem dX11_placeOf_77 : decode cX11_placeOf 77 = .ok (.aload_n 0, 1) := by decide +kernel
theorem dX11_placeOf_78 : decode cX11_placeOf 78 = .ok (.getfield 98, 3) := by decide +kernel
theorem dX11_placeOf_81 : decode cX11_placeOf 81 = .ok (.i2l, 1) := by decide +kernel
theorem dX11_placeOf_82 : decode cX11_placeOf 82 = .ok (.goto 4, 3) := by decide +kernel
theorem dX11_placeOf_85 : decode cX11_placeOf 85 = .ok (.lconst 1, 1) := by decide +kernel
theorem dX11_placeOf_86 : decode cX11_placeOf 86 = .ok (.lreturn, 1) := by decide +kernel
theorem dX11_far_0 : decode cX11_far 0 = .ok (.aload_n 0, 1) := by decide +kernel
theorem dX11_far_1 : decode cX11_far 1 = .ok (.invokevirtual 127, 3) := by decide +kernel
theorem dX11_far_4 : decode cX11_far 4 = .ok (.aload_n 0, 1) := by decide +kernel
theorem dX11_far_5 : decode cX11_far 5 = .ok (.iload_n 1, 1) := by decide +kernel
theorem dX11_far_6 : decode cX11_far 6 = .ok (.invokevirtual 150, 3) := by decide +kernel
theorem dX11_far_9 : decode cX11_far 9 = .ok (.ifCond .eq 25, 3) := by decide +kernel
theorem dX11_far_12 : decode cX11_far 12 = .ok (.iload_n 2, 1) := by decide +kernel
theorem dX11_far_13 : decode cX11_far 13 = .ok (.invokestatic 90, 3) := by decide +kernel
theorem dX11_far_16 : decode cX11_far 16 = .ok (.ifCond .eq 18, 3) := by decide +kernel
theorem dX11_far_19 : decode cX11_far 19 = .ok (.aload_n 0, 1) := by decide +kernel
theorem dX11_far_20 : decode cX11_far 20 = .ok (.aload_n 0, 1) := by decide +kernel
theorem dX11_far_21 : decode cX11_far 21 = .ok (.getfield 35, 3) := by decide +kernel
theorem dX11_far_24 : decode cX11_far 24 = .ok (.iload_n 1, 1) := by decide +kernel
theorem dX11_far_25 : decode cX11_far 25 = .ok (.iaload, 1) := by decide +kernel
theorem dX11_far_26 : decode cX11_far 26 = .ok (.iconst 1, 1) := by decide +kernel
theorem dX11_far_27 : decode cX11_far 27 = .ok (.iload_n 2, 1) := by decide +kernel
theorem dX11_far_28 : decode cX11_far 28 = .ok (.invokevirtual 153, 3) := by decide +kernel
theorem dX11_far_31 : decode cX11_far 31 = .ok (.goto 8, 3) := by decide +kernel
theorem dX11_far_34 : decode cX11_far 34 = .ok (.bipush (-2), 2) := by decide +kernel
theorem dX11_far_36 : decode cX11_far 36 = .ok (.invokestatic 157, 3) := by decide +kernel
theorem dX11_far_39 : decode cX11_far 39 = .ok (.lreturn, 1) := by decide +kernel
theorem dX11_mayFail_0 : decode cX11_mayFail 0 = .ok (.iload_n 1, 1) := by decide +kernel
theorem dX11_mayFail_1 : decode cX11_mayFail 1 = .ok (.i2l, 1) := by decide +kernel
theorem dX11_mayFail_2 : decode cX11_mayFail 2 = .ok (.lconst 0, 1) := by decide +kernel
theorem dX11_mayFail_3 : decode cX11_mayFail 3 = .ok (.aload_n 0, 1) := by decide +kernel
theorem dX11_mayFail_4 : decode cX11_mayFail 4 = .ok (.getfield 56, 3) := by decide +kernel
theorem dX11_mayFail_7 : decode cX11_mayFail 7 = .ok (.iconst 1, 1) := by decide +kernel
theorem dX11_mayFail_8 : decode cX11_mayFail 8 = .ok (.isub, 1) := by decide +kernel
theorem dX11_mayFail_9 : decode cX11_mayFail 9 = .ok (.i2l, 1) := by decide +kernel
theorem dX11_mayFail_10 : decode cX11_mayFail 10 = .ok (.invokestatic 62, 3) := by decide +kernel
theorem dX11_mayFail_13 : decode cX11_mayFail 13 = .ok (.ireturn, 1) := by decide +kernel
theorem dX11_safeOf_0 : decode cX11_safeOf 0 = .ok (.aload_n 0, 1) := by decide +kernel
theorem dX11_safeOf_1 : decode cX11_safeOf 1 = .ok (.aload_n 0, 1) := by decide +kernel
theorem dX11_safeOf_2 : decode cX11_safeOf 2 = .ok (.invokevirtual 161, 3) := by decide +kernel
theorem dX11_safeOf_5 : decode cX11_safeOf 5 = .ok (.aload_n 0, 1) := by decide +kernel
theorem dX11_safeOf_6 : decode cX11_safeOf 6 = .ok (.aload_n 0, 1) := by decide +kernel
theorem dX11_safeOf_7 : decode cX11_safeOf 7 = .ok (.getfield 56, 3) := by decide +kernel
theorem dX11_safeOf_10 : decode cX11_safeOf 10 = .ok (.iload_n 1, 1) := by decide +kernel
theorem dX11_safeOf_11 : decode cX11_safeOf 11 = .ok (.isub, 1) := by decide +kernel
theorem dX11_safeOf_12 : decode cX11_safeOf 12 = .ok (.invokevirtual 164, 3) := by decide +kernel
theorem dX11_safeOf_15 : decode cX11_safeOf 15 = .ok (.iload_n 2, 1) := by decide +kernel
theorem dX11_safeOf_16 : decode cX11_safeOf 16 = .ok (.invokevirtual 153, 3) := by decide +kernel
theorem dX11_safeOf_19 : decode cX11_safeOf 19 = .ok (.lreturn, 1) := by decide +kernel
theorem dX11_safe_0 : decode cX11_safe 0 = .ok (.aload_n 0, 1) := by decide +kernel
theorem dX11_safe_1 : decode cX11_safe 1 = .ok (.invokevirtual 127, 3) := by decide +kernel
theorem dX11_safe_4 : decode cX11_safe 4 = .ok (.aload_n 0, 1) := by decide +kernel
theorem dX11_safe_5 : decode cX11_safe 5 = .ok (.iload_n 1, 1) := by decide +kernel
theorem dX11_safe_6 : decode cX11_safe 6 = .ok (.invokevirtual 167, 3) := by decide +kernel
theorem dX11_safe_9 : decode cX11_safe 9 = .ok (.ifCond .eq 19, 3) := by decide +kernel
theorem dX11_safe_12 : decode cX11_safe 12 = .ok (.iload_n 2, 1) := by decide +kernel
theorem dX11_safe_13 : decode cX11_safe 13 = .ok (.invokestatic 90, 3) := by decide +kernel
theorem dX11_safe_16 : decode cX11_safe 16 = .ok (.ifCond .eq 12, 3) := by decide +kernel
theorem dX11_safe_19 : decode cX11_safe 19 = .ok (.aload_n 0, 1) := by decide +kernel
theorem dX11_safe_20 : decode cX11_safe 20 = .ok (.iload_n 1, 1) := by decide +kernel
theorem dX11_safe_21 : decode cX11_safe 21 = .ok (.iload_n 2, 1) := by decide +kernel
theorem dX11_safe_22 : decode cX11_safe 22 = .ok (.invokevirtual 170, 3) := by decide +kernel
theorem dX11_safe_25 : decode cX11_safe 25 = .ok (.goto 8, 3) := by decide +kernel
theorem dX11_safe_28 : decode cX11_safe 28 = .ok (.bipush (-2), 2) := by decide +kernel
theorem dX11_safe_30 : decode cX11_safe 30 = .ok (.invokestatic 157, 3) := by decide +kernel
theorem dX11_safe_33 : decode cX11_safe 33 = .ok (.lreturn, 1) := by decide +kernel
theorem dX11_ruleOf_0 : decode cX11_ruleOf 0 = .ok (.aload_n 0, 1) := by decide +kernel
theorem dX11_ruleOf_1 : decode cX11_ruleOf 1 = .ok (.invokevirtual 161, 3) := by decide +kernel
theorem dX11_ruleOf_4 : decode cX11_ruleOf 4 = .ok (.istore 4, 2) := by decide +kernel
theorem dX11_ruleOf_6 : decode cX11_ruleOf 6 = .ok (.aload_n 0, 1) := by decide +kernel
theorem dX11_ruleOf_7 : decode cX11_ruleOf 7 = .ok (.aload_n 0, 1) := by decide +kernel
theorem dX11_ruleOf_8 : decode cX11_ruleOf 8 = .ok (.getfield 56, 3) := by decide +kernel
theorem dX11_ruleOf_11 : decode cX11_ruleOf 11 = .ok (.iload_n 2, 1) := by decide +kernel
theorem dX11_ruleOf_12 : decode cX11_ruleOf 12 = .ok (.isub, 1) := by decide +kernel
theorem dX11_ruleOf_13 : decode cX11_ruleOf 13 = .ok (.invokevirtual 164, 3) := by decide +kernel
theorem dX11_ruleOf_16 : decode cX11_ruleOf 16 = .ok (.istore 5, 2) := by decide +kernel
theorem dX11_ruleOf_18 : decode cX11_ruleOf 18 = .ok (.iload 4, 2) := by decide +kernel
theorem dX11_ruleOf_20 : decode cX11_ruleOf 20 = .ok (.istore 6, 2) := by decide +kernel
theorem dX11_ruleOf_22 : decode cX11_ruleOf 22 = .ok (.iconst 0, 1) := by decide +kernel
theorem dX11_ruleOf_23 : decode cX11_ruleOf 23 = .ok (.istore 7, 2) := by decide +kernel
theorem dX11_ruleOf_25 : decode cX11_ruleOf 25 = .ok (.iconst 0, 1) := by decide +kernel
theorem dX11_ruleOf_26 : decode cX11_ruleOf 26 = .ok (.istore 8, 2) := by decide +kernel
theorem dX11_ruleOf_28 : decode cX11_ruleOf 28 = .ok (.iload 8, 2) := by decide +kernel
theorem dX11_ruleOf_30 : decode cX11_ruleOf 30 = .ok (.aload_n 0, 1) := by decide +kernel
theorem dX11_ruleOf_31 : decode cX11_ruleOf 31 = .ok (.getfield 98, 3) := by decide +kernel
theorem dX11_ruleOf_34 : decode cX11_ruleOf 34 = .ok (.if_icmp .ge 139, 3) := by decide +kernel
theorem dX11_ruleOf_37 : decode cX11_ruleOf 37 = .ok (.iload_n 1, 1) := by decide +kernel
theorem dX11_ruleOf_38 : decode cX11_ruleOf 38 = .ok (.aload_n 0, 1) := by decide +kernel
theorem dX11_ruleOf_39 : decode cX11_ruleOf 39 = .ok (.getfield 28, 3) := by decide +kernel
theorem dX11_ruleOf_42 : decode cX11_ruleOf 42 = .ok (.iconst 3, 1) := by decide +kernel
theorem dX11_ruleOf_43 : decode cX11_ruleOf 43 = .ok (.iload 8, 2) := by decide +kernel
theorem dX11_ruleOf_45 : decode cX11_ruleOf 45 = .ok (.imul, 1) := by decide +kernel
theorem dX11_ruleOf_46 : decode cX11_ruleOf 46 = .ok (.iaload, 1) := by decide +kernel
theorem dX11_ruleOf_47 : decode cX11_ruleOf 47 = .ok (.imul, 1) := by decide +kernel
theorem dX11_ruleOf_48 : decode cX11_ruleOf 48 = .ok (.istore 9, 2) := by decide +kernel
theorem dX11_ruleOf_50 : decode cX11_ruleOf 50 = .ok (.iload 6, 2) := by decide +kernel
theorem dX11_ruleOf_52 : decode cX11_ruleOf 52 = .ok (.iload 9, 2) := by decide +kernel
theorem dX11_ruleOf_54 : decode cX11_ruleOf 54 = .ok (.if_icmp .ge 93, 3) := by decide +kernel
theorem dX11_ruleOf_57 : decode cX11_ruleOf 57 = .ok (.iload 4, 2) := by decide +kernel
theorem dX11_ruleOf_59 : decode cX11_ruleOf 59 = .ok (.iload 6, 2) := by decide +kernel
theorem dX11_ruleOf_61 : decode cX11_ruleOf 61 = .ok (.isub, 1) := by decide +kernel
theorem dX11_ruleOf_62 : decode cX11_ruleOf 62 = .ok (.iload_n 1, 1) := by decide +kernel
theorem dX11_ruleOf_63 : decode cX11_ruleOf 63 = .ok (.iload 7, 2) := by decide +kernel
theorem dX11_ruleOf_65 : decode cX11_ruleOf 65 = .ok (.imul, 1) := by decide +kernel
theorem dX11_ruleOf_66 : decode cX11_ruleOf 66 = .ok (.iadd, 1) := by decide +kernel
theorem dX11_ruleOf_67 : decode cX11_ruleOf 67 = .ok (.i2l, 1) := by decide +kernel
theorem dX11_ruleOf_68 : decode cX11_ruleOf 68 = .ok (.iload 9, 2) := by decide +kernel
theorem dX11_ruleOf_70 : decode cX11_ruleOf 70 = .ok (.i2l, 1) := by decide +kernel
theorem dX11_ruleOf_71 : decode cX11_ruleOf 71 = .ok (.lmul, 1) := by decide +kernel
theorem dX11_ruleOf_72 : decode cX11_ruleOf 72 = .ok (.iload 6, 2) := by decide +kernel
theorem dX11_ruleOf_74 : decode cX11_ruleOf 74 = .ok (.i2l, 1) := by decide +kernel
theorem dX11_ruleOf_75 : decode cX11_ruleOf 75 = .ok (.iload 9, 2) := by decide +kernel
theorem dX11_ruleOf_77 : decode cX11_ruleOf 77 = .ok (.i2l, 1) := by decide +kernel
theorem dX11_ruleOf_78 : decode cX11_ruleOf 78 = .ok (.lmul, 1) := by decide +kernel
theorem dX11_ruleOf_79 : decode cX11_ruleOf 79 = .ok (.ladd, 1) := by decide +kernel
theorem dX11_ruleOf_80 : decode cX11_ruleOf 80 = .ok (.iload 6, 2) := by decide +kernel
theorem dX11_ruleOf_82 : decode cX11_ruleOf 82 = .ok (.i2l, 1) := by decide +kernel
theorem dX11_ruleOf_83 : decode cX11_ruleOf 83 = .ok (.iload_n 1, 1) := by decide +kernel
theorem dX11_ruleOf_84 : decode cX11_ruleOf 84 = .ok (.i2l, 1) := by decide +kernel
theorem dX11_ruleOf_85 : decode cX11_ruleOf 85 = .ok (.lmul, 1) := by decide +kernel
theorem dX11_ruleOf_86 : decode cX11_ruleOf 86 = .ok (.aload_n 0, 1) := by decide +kernel
theorem dX11_ruleOf_87 : decode cX11_ruleOf 87 = .ok (.iload 8, 2) := by decide +kernel
theorem dX11_ruleOf_89 : decode cX11_ruleOf 89 = .ok (.iload 5, 2) := by decide +kernel
theorem dX11_ruleOf_91 : decode cX11_ruleOf 91 = .ok (.invokevirtual 143, 3) := by decide +kernel
theorem dX11_ruleOf_94 : decode cX11_ruleOf 94 = .ok (.i2l, 1) := by decide +kernel
theorem dX11_ruleOf_95 : decode cX11_ruleOf 95 = .ok (.lmul, 1) := by decide +kernel
theorem dX11_ruleOf_96 : decode cX11_ruleOf 96 = .ok (.ladd, 1) := by decide +kernel
theorem dX11_ruleOf_97 : decode cX11_ruleOf 97 = .ok (.lstore 10, 2) := by decide +kernel
theorem dX11_ruleOf_99 : decode cX11_ruleOf 99 = .ok (.iload_n 3, 1) := by decide +kernel
theorem dX11_ruleOf_100 : decode cX11_ruleOf 100 = .ok (.iconst 2, 1) := by decide +kernel
theorem dX11_ruleOf_101 : decode cX11_ruleOf 101 = .ok (.if_icmp .ge 24, 3) := by decide +kernel
theorem dX11_ruleOf_104 : decode cX11_ruleOf 104 = .ok (.iload 8, 2) := by decide +kernel
theorem dX11_ruleOf_106 : decode cX11_ruleOf 106 = .ok (.i2l, 1) := by decide +kernel
theorem dX11_ruleOf_107 : decode cX11_ruleOf 107 = .ok (.iload 9, 2) := by decide +kernel
theorem dX11_ruleOf_109 : decode cX11_ruleOf 109 = .ok (.i2l, 1) := by decide +kernel
theorem dX11_ruleOf_110 : decode cX11_ruleOf 110 = .ok (.lmul, 1) := by decide +kernel
theorem dX11_ruleOf_111 : decode cX11_ruleOf 111 = .ok (.iload 6, 2) := by decide +kernel
theorem dX11_ruleOf_113 : decode cX11_ruleOf 113 = .ok (.i2l, 1) := by decide +kernel
theorem dX11_ruleOf_114 : decode cX11_ruleOf 114 = .ok (.ladd, 1) := by decide +kernel
theorem dX11_ruleOf_115 : decode cX11_ruleOf 115 = .ok (.iload 9, 2) := by decide +kernel
theorem dX11_ruleOf_117 : decode cX11_ruleOf 117 = .ok (.i2l, 1) := by decide +kernel
theorem dX11_ruleOf_118 : decode cX11_ruleOf 118 = .ok (.iload_n 3, 1) := by decide +kernel
theorem dX11_ruleOf_119 : decode cX11_ruleOf 119 = .ok (.invokestatic 146, 3) := by decide +kernel
theorem dX11_ruleOf_122 : decode cX11_ruleOf 122 = .ok (.goto 24, 3) := by decide +kernel
theorem dX11_ruleOf_125 : decode cX11_ruleOf 125 = .ok (.lload 10, 2) := by decide +kernel
theorem dX11_ruleOf_127 : decode cX11_ruleOf 127 = .ok (.iload_n 1, 1) := by decide +kernel
theorem dX11_ruleOf_128 : decode cX11_ruleOf 128 = .ok (.i2l, 1) := by decide +kernel
theorem dX11_ruleOf_129 : decode cX11_ruleOf 129 = .ok (.iload 4, 2) := by decide +kernel
theorem dX11_ruleOf_131 : decode cX11_ruleOf 131 = .ok (.i2l, 1) := by decide +kernel
theorem dX11_ruleOf_132 : decode cX11_ruleOf 132 = .ok (.lmul, 1) := by decide +kernel
theorem dX11_ruleOf_133 : decode cX11_ruleOf 133 = .ok (.iload 9, 2) := by decide +kernel
theorem dX11_ruleOf_135 : decode cX11_ruleOf 135 = .ok (.i2l, 1) := by decide +kernel
theorem dX11_ruleOf_136 : decode cX11_ruleOf 136 = .ok (.lmul, 1) := by decide +kernel
theorem dX11_ruleOf_137 : decode cX11_ruleOf 137 = .ok (.lcmp, 1) := by decide +kernel
theorem dX11_ruleOf_138 : decode cX11_ruleOf 138 = .ok (.ifCond .gt 7, 3) := by decide +kernel
theorem dX11_ruleOf_141 : decode cX11_ruleOf 141 = .ok (.lconst 1, 1) := by decide +kernel
theorem dX11_ruleOf_142 : decode cX11_ruleOf 142 = .ok (.goto 4, 3) := by decide +kernel
theorem dX11_ruleOf_145 : decode cX11_ruleOf 145 = .ok (.lconst 0, 1) := by decide +kernel
theorem dX11_ruleOf_146 : decode cX11_ruleOf 146 = .ok (.lreturn, 1) := by decide +kernel
theorem dX11_ruleOf_147 : decode cX11_ruleOf 147 = .ok (.iload 6, 2) := by decide +kernel
theorem dX11_ruleOf_149 : decode cX11_ruleOf 149 = .ok (.iload 9, 2) := by decide +kernel
theorem dX11_ruleOf_151 : decode cX11_ruleOf 151 = .ok (.isub, 1) := by decide +kernel
theorem dX11_ruleOf_152 : decode cX11_ruleOf 152 = .ok (.istore 6, 2) := by decide +kernel
theorem dX11_ruleOf_154 : decode cX11_ruleOf 154 = .ok (.iload 7, 2) := by decide +kernel
theorem dX11_ruleOf_156 : decode cX11_ruleOf 156 = .ok (.aload_n 0, 1) := by decide +kernel
theorem dX11_ruleOf_157 : decode cX11_ruleOf 157 = .ok (.iload 8, 2) := by decide +kernel
theorem dX11_ruleOf_159 : decode cX11_ruleOf 159 = .ok (.iload 5, 2) := by decide +kernel
theorem dX11_ruleOf_161 : decode cX11_ruleOf 161 = .ok (.invokevirtual 143, 3) := by decide +kernel
theorem dX11_ruleOf_164 : decode cX11_ruleOf 164 = .ok (.iadd, 1) := by decide +kernel
theorem dX11_ruleOf_165 : decode cX11_ruleOf 165 = .ok (.istore 7, 2) := by decide +kernel
theorem dX11_ruleOf_167 : decode cX11_ruleOf 167 = .ok (.iinc 8 1, 3) := by decide +kernel
theorem dX11_ruleOf_170 : decode cX11_ruleOf 170 = .ok (.goto (-142), 3) := by decide +kernel
theorem dX11_ruleOf_173 : decode cX11_ruleOf 173 = .ok (.iload_n 3, 1) := by decide +kernel
theorem dX11_ruleOf_174 : decode cX11_ruleOf 174 = .ok (.ifCond .ne 11, 3) := by decide +kernel
theorem dX11_ruleOf_177 : decode cX11_ruleOf 177 = .ok (.aload_n 0, 1) := by decide +kernel
theorem dX11_ruleOf_178 : decode cX11_ruleOf 178 = .ok (.getfield 98, 3) := by decide +kernel
theorem dX11_ruleOf_181 : decode cX11_ruleOf 181 = .ok (.i2l, 1) := by decide +kernel
theorem dX11_ruleOf_182 : decode cX11_ruleOf 182 = .ok (.goto 34, 3) := by decide +kernel
theorem dX11_ruleOf_185 : decode cX11_ruleOf 185 = .ok (.iload_n 3, 1) := by decide +kernel
theorem dX11_ruleOf_186 : decode cX11_ruleOf 186 = .ok (.iconst 1, 1) := by decide +kernel
theorem dX11_ruleOf_187 : decode cX11_ruleOf 187 = .ok (.if_icmp .ne 7, 3) := by decide +kernel
theorem dX11_ruleOf_190 : decode cX11_ruleOf 190 = .ok (.lconst 1, 1) := by decide +kernel
theorem dX11_ruleOf_191 : decode cX11_ruleOf 191 = .ok (.goto 25, 3) := by decide +kernel
theorem dX11_ruleOf_194 : decode cX11_ruleOf 194 = .ok (.iload 4, 2) := by decide +kernel
theorem dX11_ruleOf_196 : decode cX11_ruleOf 196 = .ok (.iload 6, 2) := by decide +kernel
theorem dX11_ruleOf_198 : decode cX11_ruleOf 198 = .ok (.isub, 1) := by decide +kernel
theorem dX11_ruleOf_199 : decode cX11_ruleOf 199 = .ok (.iload_n 1, 1) := by decide +kernel
theorem dX11_ruleOf_200 : decode cX11_ruleOf 200 = .ok (.iload 7, 2) := by decide +kernel
theorem dX11_ruleOf_202 : decode cX11_ruleOf 202 = .ok (.imul, 1) := by decide +kernel
theorem dX11_ruleOf_203 : decode cX11_ruleOf 203 = .ok (.iadd, 1) := by decide +kernel
theorem dX11_ruleOf_204 : decode cX11_ruleOf 204 = .ok (.iload_n 1, 1) := by decide +kernel
theorem dX11_ruleOf_205 : decode cX11_ruleOf 205 = .ok (.iload 4, 2) := by decide +kernel
theorem dX11_ruleOf_207 : decode cX11_ruleOf 207 = .ok (.imul, 1) := by decide +kernel
theorem dX11_ruleOf_208 : decode cX11_ruleOf 208 = .ok (.if_icmp .gt 7, 3) := by decide +kernel
theorem dX11_ruleOf_211 : decode cX11_ruleOf 211 = .ok (.lconst 1, 1) := by decide +kernel
theorem dX11_ruleOf_212 : decode cX11_ruleOf 212 = .ok (.goto 4, 3) := by decide +kernel
theorem dX11_ruleOf_215 : decode cX11_ruleOf 215 = .ok (.lconst 0, 1) := by decide +kernel
theorem dX11_ruleOf_216 : decode cX11_ruleOf 216 = .ok (.lreturn, 1) := by decide +kernel
theorem dX11_rule_0 : decode cX11_rule 0 = .ok (.aload_n 0, 1) := by decide +kernel
theorem dX11_rule_1 : decode cX11_rule 1 = .ok (.invokevirtual 127, 3) := by decide +kernel
theorem dX11_rule_4 : decode cX11_rule 4 = .ok (.iload_n 1, 1) := by decide +kernel
theorem dX11_rule_5 : decode cX11_rule 5 = .ok (.i2l, 1) := by decide +kernel
theorem dX11_rule_6 : decode cX11_rule 6 = .ok (.ldc2_w 75, 3) := by decide +kernel
theorem dX11_rule_9 : decode cX11_rule 9 = .ok (.ldc2_w 104, 3) := by decide +kernel
theorem dX11_rule_12 : decode cX11_rule 12 = .ok (.invokestatic 62, 3) := by decide +kernel
theorem dX11_rule_15 : decode cX11_rule 15 = .ok (.ifCond .eq 33, 3) := by decide +kernel
theorem dX11_rule_18 : decode cX11_rule 18 = .ok (.aload_n 0, 1) := by decide +kernel
theorem dX11_rule_19 : decode cX11_rule 19 = .ok (.iload_n 2, 1) := by decide +kernel
theorem dX11_rule_20 : decode cX11_rule 20 = .ok (.invokevirtual 167, 3) := by decide +kernel
theorem dX11_rule_23 : decode cX11_rule 23 = .ok (.ifCond .eq 25, 3) := by decide +kernel
theorem dX11_rule_26 : decode cX11_rule 26 = .ok (.iload_n 3, 1) := by decide +kernel
theorem dX11_rule_27 : decode cX11_rule 27 = .ok (.i2l, 1) := by decide +kernel
theorem dX11_rule_28 : decode cX11_rule 28 = .ok (.lconst 0, 1) := by decide +kernel
theorem dX11_rule_29 : decode cX11_rule 29 = .ok (.ldc2_w 75, 3) := by decide +kernel
theorem dX11_rule_32 : decode cX11_rule 32 = .ok (.invokestatic 62, 3) := by decide +kernel
theorem dX11_rule_35 : decode cX11_rule 35 = .ok (.ifCond .eq 13, 3) := by decide +kernel
theorem dX11_rule_38 : decode cX11_rule 38 = .ok (.aload_n 0, 1) := by decide +kernel
theorem dX11_rule_39 : decode cX11_rule 39 = .ok (.iload_n 1, 1) := by decide +kernel
theorem dX11_rule_40 : decode cX11_rule 40 = .ok (.iload_n 2, 1) := by decide +kernel
theorem dX11_rule_41 : decode cX11_rule 41 = .ok (.iload_n 3, 1) := by decide +kernel
theorem dX11_rule_42 : decode cX11_rule 42 = .ok (.invokevirtual 174, 3) := by decide +kernel
theorem dX11_rule_45 : decode cX11_rule 45 = .ok (.goto 8, 3) := by decide +kernel
theorem dX11_rule_48 : decode cX11_rule 48 = .ok (.bipush (-2), 2) := by decide +kernel
theorem dX11_rule_50 : decode cX11_rule 50 = .ok (.invokestatic 157, 3) := by decide +kernel
theorem dX11_rule_53 : decode cX11_rule 53 = .ok (.lreturn, 1) := by decide +kernel
theorem dX11_inAll_0 : decode cX11_inAll 0 = .ok (.iconst 0, 1) := by decide +kernel
theorem dX11_inAll_1 : decode cX11_inAll 1 = .ok (.istore_n 1, 1) := by decide +kernel
theorem dX11_inAll_2 : decode cX11_inAll 2 = .ok (.iconst 0, 1) := by decide +kernel
theorem dX11_inAll_3 : decode cX11_inAll 3 = .ok (.istore_n 2, 1) := by decide +kernel
theorem dX11_inAll_4 : decode cX11_inAll 4 = .ok (.iload_n 2, 1) := by decide +kernel
theorem dX11_inAll_5 : decode cX11_inAll 5 = .ok (.aload_n 0, 1) := by decide +kernel
theorem dX11_inAll_6 : decode cX11_inAll 6 = .ok (.getfield 98, 3) := by decide +kernel
theorem dX11_inAll_9 : decode cX11_inAll 9 = .ok (.if_icmp .ge 20, 3) := by decide +kernel
theorem dX11_inAll_12 : decode cX11_inAll 12 = .ok (.iload_n 1, 1) := by decide +kernel
theorem dX11_inAll_13 : decode cX11_inAll 13 = .ok (.aload_n 0, 1) := by decide +kernel
theorem dX11_inAll_14 : decode cX11_inAll 14 = .ok (.getfield 28, 3) := by decide +kernel
theorem dX11_inAll_17 : decode cX11_inAll 17 = .ok (.iconst 3, 1) := by decide +kernel
theorem dX11_inAll_18 : decode cX11_inAll 18 = .ok (.iload_n 2, 1) := by decide +kernel
theorem dX11_inAll_19 : decode cX11_inAll 19 = .ok (.imul, 1) := by decide +kernel
theorem dX11_inAll_20 : decode cX11_inAll 20 = .ok (.iaload, 1) := by decide +kernel
theorem dX11_inAll_21 : decode cX11_inAll 21 = .ok (.iadd, 1) := by decide +kernel
theorem dX11_inAll_22 : decode cX11_inAll 22 = .ok (.istore_n 1, 1) := by decide +kernel
theorem dX11_inAll_23 : decode cX11_inAll 23 = .ok (.iinc 2 1, 3) := by decide +kernel
theorem dX11_inAll_26 : decode cX11_inAll 26 = .ok (.goto (-22), 3) := by decide +kernel
theorem dX11_inAll_29 : decode cX11_inAll 29 = .ok (.iload_n 1, 1) := by decide +kernel
theorem dX11_inAll_30 : decode cX11_inAll 30 = .ok (.ireturn, 1) := by decide +kernel
theorem dX11_pointOf_0 : decode cX11_pointOf 0 = .ok (.aload_n 0, 1) := by decide +kernel
theorem dX11_pointOf_1 : decode cX11_pointOf 1 = .ok (.invokevirtual 177, 3) := by decide +kernel
theorem dX11_pointOf_4 : decode cX11_pointOf 4 = .ok (.istore_n 2, 1) := by decide +kernel
theorem dX11_pointOf_5 : decode cX11_pointOf 5 = .ok (.iconst 0, 1) := by decide +kernel
theorem dX11_pointOf_6 : decode cX11_pointOf 6 = .ok (.istore_n 3, 1) := by decide +kernel
theorem dX11_pointOf_7 : decode cX11_pointOf 7 = .ok (.iconst 0, 1) := by decide +kernel
theorem dX11_pointOf_8 : decode cX11_pointOf 8 = .ok (.istore 4, 2) := by decide +kernel
theorem dX11_pointOf_10 : decode cX11_pointOf 10 = .ok (.iload 4, 2) := by decide +kernel
theorem dX11_pointOf_12 : decode cX11_pointOf 12 = .ok (.aload_n 0, 1) := by decide +kernel
theorem dX11_pointOf_13 : decode cX11_pointOf 13 = .ok (.getfield 98, 3) := by decide +kernel
theorem dX11_pointOf_16 : decode cX11_pointOf 16 = .ok (.if_icmp .ge 87, 3) := by decide +kernel
theorem dX11_pointOf_19 : decode cX11_pointOf 19 = .ok (.aload_n 0, 1) := by decide +kernel
theorem dX11_pointOf_20 : decode cX11_pointOf 20 = .ok (.getfield 28, 3) := by decide +kernel
theorem dX11_pointOf_23 : decode cX11_pointOf 23 = .ok (.iconst 3, 1) := by decide +kernel
theorem dX11_pointOf_24 : decode cX11_pointOf 24 = .ok (.iload 4, 2) := by decide +kernel
theorem dX11_pointOf_26 : decode cX11_pointOf 26 = .ok (.imul, 1) := by decide +kernel
theorem dX11_pointOf_27 : decode cX11_pointOf 27 = .ok (.iaload, 1) := by decide +kernel
theorem dX11_pointOf_28 : decode cX11_pointOf 28 = .ok (.aload_n 0, 1) := by decide +kernel
theorem dX11_pointOf_29 : decode cX11_pointOf 29 = .ok (.getfield 28, 3) := by decide +kernel
theorem dX11_pointOf_32 : decode cX11_pointOf 32 = .ok (.iconst 3, 1) := by decide +kernel
theorem dX11_pointOf_33 : decode cX11_pointOf 33 = .ok (.iload 4, 2) := by decide +kernel
theorem dX11_pointOf_35 : decode cX11_pointOf 35 = .ok (.imul, 1) := by decide +kernel
theorem dX11_pointOf_36 : decode cX11_pointOf 36 = .ok (.iconst 1, 1) := by decide +kernel
theorem dX11_pointOf_37 : decode cX11_pointOf 37 = .ok (.iadd, 1) := by decide +kernel
theorem dX11_pointOf_38 : decode cX11_pointOf 38 = .ok (.iaload, 1) := by decide +kernel
theorem dX11_pointOf_39 : decode cX11_pointOf 39 = .ok (.iadd, 1) := by decide +kernel
theorem dX11_pointOf_40 : decode cX11_pointOf 40 = .ok (.istore 5, 2) := by decide +kernel
theorem dX11_pointOf_42 : decode cX11_pointOf 42 = .ok (.iload_n 2, 1) := by decide +kernel
theorem dX11_pointOf_43 : decode cX11_pointOf 43 = .ok (.iload_n 3, 1) := by decide +kernel
theorem dX11_pointOf_44 : decode cX11_pointOf 44 = .ok (.isub, 1) := by decide +kernel
theorem dX11_pointOf_45 : decode cX11_pointOf 45 = .ok (.iload 5, 2) := by decide +kernel
theorem dX11_pointOf_47 : decode cX11_pointOf 47 = .ok (.if_icmp .gt 24, 3) := by decide +kernel
theorem dX11_pointOf_50 : decode cX11_pointOf 50 = .ok (.iload 4, 2) := by decide +kernel
theorem dX11_pointOf_52 : decode cX11_pointOf 52 = .ok (.i2l, 1) := by decide +kernel
theorem dX11_pointOf_53 : decode cX11_pointOf 53 = .ok (.iload 5, 2) := by decide +kernel
theorem dX11_pointOf_55 : decode cX11_pointOf 55 = .ok (.i2l, 1) := by decide +kernel
theorem dX11_pointOf_56 : decode cX11_pointOf 56 = .ok (.lmul, 1) := by decide +kernel
theorem dX11_pointOf_57 : decode cX11_pointOf 57 = .ok (.iload_n 2, 1) := by decide +kernel
theorem dX11_pointOf_58 : decode cX11_pointOf 58 = .ok (.i2l, 1) := by decide +kernel
theorem dX11_pointOf_59 : decode cX11_pointOf 59 = .ok (.ladd, 1) := by decide +kernel
theorem dX11_pointOf_60 : decode cX11_pointOf 60 = .ok (.iload_n 3, 1) := by decide +kernel
theorem dX11_pointOf_61 : decode cX11_pointOf 61 = .ok (.i2l, 1) := by decide +kernel
theorem dX11_pointOf_62 : decode cX11_pointOf 62 = .ok (.lsub, 1) := by decide +kernel
theorem dX11_pointOf_63 : decode cX11_pointOf 63 = .ok (.iload 5, 2) := by decide +kernel
theorem dX11_pointOf_65 : decode cX11_pointOf 65 = .ok (.i2l, 1) := by decide +kernel
theorem dX11_pointOf_66 : decode cX11_pointOf 66 = .ok (.iload_n 1, 1) := by decide +kernel
theorem dX11_pointOf_67 : decode cX11_pointOf 67 = .ok (.invokestatic 146, 3) := by decide +kernel
theorem dX11_pointOf_70 : decode cX11_pointOf 70 = .ok (.lreturn, 1) := by decide +kernel
theorem dX11_pointOf_71 : decode cX11_pointOf 71 = .ok (.iload_n 2, 1) := by decide +kernel
theorem dX11_pointOf_72 : decode cX11_pointOf 72 = .ok (.aload_n 0, 1) := by decide +kernel
theorem dX11_pointOf_73 : decode cX11_pointOf 73 = .ok (.getfield 28, 3) := by decide +kernel
theorem dX11_pointOf_76 : decode cX11_pointOf 76 = .ok (.iconst 3, 1) := by decide +kernel
theorem dX11_pointOf_77 : decode cX11_pointOf 77 = .ok (.iload 4, 2) := by decide +kernel
theorem dX11_pointOf_79 : decode cX11_pointOf 79 = .ok (.imul, 1) := by decide +kernel
theorem dX11_pointOf_80 : decode cX11_pointOf 80 = .ok (.iaload, 1) := by decide +kernel
theorem dX11_pointOf_81 : decode cX11_pointOf 81 = .ok (.isub, 1) := by decide +kernel
theorem dX11_pointOf_82 : decode cX11_pointOf 82 = .ok (.istore_n 2, 1) := by decide +kernel
theorem dX11_pointOf_83 : decode cX11_pointOf 83 = .ok (.iload_n 3, 1) := by decide +kernel
theorem dX11_pointOf_84 : decode cX11_pointOf 84 = .ok (.aload_n 0, 1) := by decide +kernel
theorem dX11_pointOf_85 : decode cX11_pointOf 85 = .ok (.getfield 28, 3) := by decide +kernel
theorem dX11_pointOf_88 : decode cX11_pointOf 88 = .ok (.iconst 3, 1) := by decide +kernel
theorem dX11_pointOf_89 : decode cX11_pointOf 89 = .ok (.iload 4, 2) := by decide +kernel
theorem dX11_pointOf_91 : decode cX11_pointOf 91 = .ok (.imul, 1) := by decide +kernel
theorem dX11_pointOf_92 : decode cX11_pointOf 92 = .ok (.iconst 1, 1) := by decide +kernel
theorem dX11_pointOf_93 : decode cX11_pointOf 93 = .ok (.iadd, 1) := by decide +kernel
theorem dX11_pointOf_94 : decode cX11_pointOf 94 = .ok (.iaload, 1) := by decide +kernel
theorem dX11_pointOf_95 : decode cX11_pointOf 95 = .ok (.iadd, 1) := by decide +kernel
theorem dX11_pointOf_96 : decode cX11_pointOf 96 = .ok (.istore_n 3, 1) := by decide +kernel
theorem dX11_pointOf_97 : decode cX11_pointOf 97 = .ok (.iinc 4 1, 3) := by decide +kernel
theorem dX11_pointOf_100 : decode cX11_pointOf 100 = .ok (.goto (-90), 3) := by decide +kernel
theorem dX11_pointOf_103 : decode cX11_pointOf 103 = .ok (.iload_n 1, 1) := by decide +kernel
theorem dX11_pointOf_104 : decode cX11_pointOf 104 = .ok (.ifCond .ne 7, 3) := by decide +kernel
theorem dX11_pointOf_107 : decode cX11_pointOf 107 = .ok (.lconst 0, 1) := by decide +kernel
theorem dX11_pointOf_108 : decode cX11_pointOf 108 = .ok (.goto 4, 3) := by decide +kernel
theorem dX11_pointOf_111 : decode cX11_pointOf 111 = .ok (.lconst 1, 1) := by decide +kernel
theorem dX11_pointOf_112 : decode cX11_pointOf 112 = .ok (.lreturn, 1) := by decide +kernel
theorem dX11_point_0 : decode cX11_point 0 = .ok (.aload_n 0, 1) := by decide +kernel
theorem dX11_point_1 : decode cX11_point 1 = .ok (.invokevirtual 127, 3) := by decide +kernel
theorem dX11_point_4 : decode cX11_point 4 = .ok (.iload_n 1, 1) := by decide +kernel
theorem dX11_point_5 : decode cX11_point 5 = .ok (.invokestatic 90, 3) := by decide +kernel
theorem dX11_point_8 : decode cX11_point 8 = .ok (.ifCond .eq 11, 3) := by decide +kernel
theorem dX11_point_11 : decode cX11_point 11 = .ok (.aload_n 0, 1) := by decide +kernel
theorem dX11_point_12 : decode cX11_point 12 = .ok (.iload_n 1, 1) := by decide +kernel
theorem dX11_point_13 : decode cX11_point 13 = .ok (.invokevirtual 180, 3) := by decide +kernel
theorem dX11_point_16 : decode cX11_point 16 = .ok (.goto 8, 3) := by decide +kernel
theorem dX11_point_19 : decode cX11_point 19 = .ok (.bipush (-2), 2) := by decide +kernel
theorem dX11_point_21 : decode cX11_point 21 = .ok (.invokestatic 157, 3) := by decide +kernel
theorem dX11_point_24 : decode cX11_point 24 = .ok (.lreturn, 1) := by decide +kernel
theorem dX11_going_0 : decode cX11_going 0 = .ok (.iconst 0, 1) := by decide +kernel
theorem dX11_going_1 : decode cX11_going 1 = .ok (.istore_n 1, 1) := by decide +kernel
theorem dX11_going_2 : decode cX11_going 2 = .ok (.iconst 0, 1) := by decide +kernel
theorem dX11_going_3 : decode cX11_going 3 = .ok (.istore_n 2, 1) := by decide +kernel
theorem dX11_going_4 : decode cX11_going 4 = .ok (.iload_n 2, 1) := by decide +kernel
theorem dX11_going_5 : decode cX11_going 5 = .ok (.aload_n 0, 1) := by decide +kernel
theorem dX11_going_6 : decode cX11_going 6 = .ok (.getfield 56, 3) := by decide +kernel
theorem dX11_going_9 : decode cX11_going 9 = .ok (.if_icmp .ge 26, 3) := by decide +kernel
theorem dX11_going_12 : decode cX11_going 12 = .ok (.iload_n 1, 1) := by decide +kernel
theorem dX11_going_13 : decode cX11_going 13 = .ok (.aload_n 0, 1) := by decide +kernel
theorem dX11_going_14 : decode cX11_going 14 = .ok (.getfield 41, 3) := by decide +kernel
theorem dX11_going_17 : decode cX11_going 17 = .ok (.iload_n 2, 1) := by decide +kernel
theorem dX11_going_18 : decode cX11_going 18 = .ok (.baload, 1) := by decide +kernel
theorem dX11_going_19 : decode cX11_going 19 = .ok (.ifCond .eq 7, 3) := by decide +kernel
theorem dX11_going_22 : decode cX11_going 22 = .ok (.iconst 1, 1) := by decide +kernel
theorem dX11_going_23 : decode cX11_going 23 = .ok (.goto 4, 3) := by decide +kernel
theorem dX11_going_26 : decode cX11_going 26 = .ok (.iconst 0, 1) := by decide +kernel
theorem dX11_going_27 : decode cX11_going 27 = .ok (.iadd, 1) := by decide +kernel
theorem dX11_going_28 : decode cX11_going 28 = .ok (.istore_n 1, 1) := by decide +kernel
theorem dX11_going_29 : decode cX11_going 29 = .ok (.iinc 2 1, 3) := by decide +kernel
theorem dX11_going_32 : decode cX11_going 32 = .ok (.goto (-28), 3) := by decide +kernel
theorem dX11_going_35 : decode cX11_going 35 = .ok (.iload_n 1, 1) := by decide +kernel
theorem dX11_going_36 : decode cX11_going 36 = .ok (.ireturn, 1) := by decide +kernel
theorem dX11_fails_0 : decode cX11_fails 0 = .ok (.aload_n 0, 1) := by decide +kernel
theorem dX11_fails_1 : decode cX11_fails 1 = .ok (.getfield 41, 3) := by decide +kernel
theorem dX11_fails_4 : decode cX11_fails 4 = .ok (.iload_n 1, 1) := by decide +kernel
theorem dX11_fails_5 : decode cX11_fails 5 = .ok (.iconst 0, 1) := by decide +kernel
theorem dX11_fails_6 : decode cX11_fails 6 = .ok (.bastore, 1) := by decide +kernel
theorem dX11_fails_7 : decode cX11_fails 7 = .ok (.aload_n 0, 1) := by decide +kernel
theorem dX11_fails_8 : decode cX11_fails 8 = .ok (.getfield 38, 3) := by decide +kernel
theorem dX11_fails_11 : decode cX11_fails 11 = .ok (.iload_n 1, 1) := by decide +kernel
theorem dX11_fails_12 : decode cX11_fails 12 = .ok (.iconst 0, 1) := by decide +kernel
theorem dX11_fails_13 : decode cX11_fails 13 = .ok (.iastore, 1) := by decide +kernel
theorem dX11_fails_14 : decode cX11_fails 14 = .ok (.return_, 1) := by decide +kernel
theorem dX11_lights_0 : decode cX11_lights 0 = .ok (.iconst 1, 1) := by decide +kernel
theorem dX11_lights_1 : decode cX11_lights 1 = .ok (.istore_n 3, 1) := by decide +kernel
theorem dX11_lights_2 : decode cX11_lights 2 = .ok (.iconst 0, 1) := by decide +kernel
theorem dX11_lights_3 : decode cX11_lights 3 = .ok (.istore 4, 2) := by decide +kernel
theorem dX11_lights_5 : decode cX11_lights 5 = .ok (.iload_n 3, 1) := by decide +kernel
theorem dX11_lights_6 : decode cX11_lights 6 = .ok (.ifCond .eq 99, 3) := by decide +kernel
theorem dX11_lights_9 : decode cX11_lights 9 = .ok (.iconst 0, 1) := by decide +kernel
theorem dX11_lights_10 : decode cX11_lights 10 = .ok (.istore_n 3, 1) := by decide +kernel
theorem dX11_lights_11 : decode cX11_lights 11 = .ok (.aload_n 0, 1) := by decide +kernel
theorem dX11_lights_12 : decode cX11_lights 12 = .ok (.invokevirtual 183, 3) := by decide +kernel
theorem dX11_lights_15 : decode cX11_lights 15 = .ok (.istore 5, 2) := by decide +kernel
theorem dX11_lights_17 : decode cX11_lights 17 = .ok (.iload 5, 2) := by decide +kernel
theorem dX11_lights_19 : decode cX11_lights 19 = .ok (.ifCond .ne 7, 3) := by decide +kernel
theorem dX11_lights_22 : decode cX11_lights 22 = .ok (.iconst 0, 1) := by decide +kernel
theorem dX11_lights_23 : decode cX11_lights 23 = .ok (.goto 29, 3) := by decide +kernel
theorem dX11_lights_26 : decode cX11_lights 26 = .ok (.iload_n 2, 1) := by decide +kernel
theorem dX11_lights_27 : decode cX11_lights 27 = .ok (.ifCond .eq 14, 3) := by decide +kernel
theorem dX11_lights_30 : decode cX11_lights 30 = .ok (.aload_n 0, 1) := by decide +kernel
theorem dX11_lights_31 : decode cX11_lights 31 = .ok (.getfield 28, 3) := by decide +kernel
theorem dX11_lights_34 : decode cX11_lights 34 = .ok (.iconst 3, 1) := by decide +kernel
theorem dX11_lights_35 : decode cX11_lights 35 = .ok (.iload_n 1, 1) := by decide +kernel
theorem dX11_lights_36 : decode cX11_lights 36 = .ok (.imul, 1) := by decide +kernel
theorem dX11_lights_37 : decode cX11_lights 37 = .ok (.iaload, 1) := by decide +kernel
theorem dX11_lights_38 : decode cX11_lights 38 = .ok (.goto 14, 3) := by decide +kernel
theorem dX11_lights_41 : decode cX11_lights 41 = .ok (.aload_n 0, 1) := by decide +kernel
theorem dX11_lights_42 : decode cX11_lights 42 = .ok (.iload_n 1, 1) := by decide +kernel
theorem dX11_lights_43 : decode cX11_lights 43 = .ok (.aload_n 0, 1) := by decide +kernel
theorem dX11_lights_44 : decode cX11_lights 44 = .ok (.iload 5, 2) := by decide +kernel
theorem dX11_lights_46 : decode cX11_lights 46 = .ok (.invokevirtual 164, 3) := by decide +kernel
theorem dX11_lights_49 : decode cX11_lights 49 = .ok (.invokevirtual 143, 3) := by decide +kernel
theorem dX11_lights_52 : decode cX11_lights 52 = .ok (.istore 4, 2) := by decide +kernel
theorem dX11_lights_54 : decode cX11_lights 54 = .ok (.iconst 0, 1) := by decide +kernel
theorem dX11_lights_55 : decode cX11_lights 55 = .ok (.istore 6, 2) := by decide +kernel
theorem dX11_lights_57 : decode cX11_lights 57 = .ok (.iload 6, 2) := by decide +kernel
theorem dX11_lights_59 : decode cX11_lights 59 = .ok (.aload_n 0, 1) := by decide +kernel
theorem dX11_lights_60 : decode cX11_lights 60 = .ok (.getfield 56, 3) := by decide +kernel
theorem dX11_lights_63 : decode cX11_lights 63 = .ok (.if_icmp .ge 39, 3) := by decide +kernel
theorem dX11_lights_66 : decode cX11_lights 66 = .ok (.aload_n 0, 1) := by decide +kernel
theorem dX11_lights_67 : decode cX11_lights 67 = .ok (.getfield 41, 3) := by decide +kernel
theorem dX11_lights_70 : decode cX11_lights 70 = .ok (.iload 6, 2) := by decide +kernel
theorem dX11_lights_72 : decode cX11_lights 72 = .ok (.baload, 1) := by decide +kernel
theorem dX11_lights_73 : decode cX11_lights 73 = .ok (.ifCond .eq 23, 3) := by decide +kernel
theorem dX11_lights_76 : decode cX11_lights 76 = .ok (.aload_n 0, 1) := by decide +kernel
theorem dX11_lights_77 : decode cX11_lights 77 = .ok (.getfield 38, 3) := by decide +kernel
theorem dX11_lights_80 : decode cX11_lights 80 = .ok (.iload 6, 2) := by decide +kernel
theorem dX11_lights_82 : decode cX11_lights 82 = .ok (.iaload, 1) := by decide +kernel
theorem dX11_lights_83 : decode cX11_lights 83 = .ok (.iload 4, 2) := by decide +kernel
theorem dX11_lights_85 : decode cX11_lights 85 = .ok (.if_icmp .ge 11, 3) := by decide +kernel
theorem dX11_lights_88 : decode cX11_lights 88 = .ok (.aload_n 0, 1) := by decide +kernel
theorem dX11_lights_89 : decode cX11_lights 89 = .ok (.iload 6, 2) := by decide +kernel
theorem dX11_lights_91 : decode cX11_lights 91 = .ok (.invokevirtual 186, 3) := by decide +kernel
theorem dX11_lights_94 : decode cX11_lights 94 = .ok (.iconst 1, 1) := by decide +kernel
theorem dX11_lights_95 : decode cX11_lights 95 = .ok (.istore_n 3, 1) := by decide +kernel
theorem dX11_lights_96 : decode cX11_lights 96 = .ok (.iinc 6 1, 3) := by decide +kernel
theorem dX11_lights_99 : decode cX11_lights 99 = .ok (.goto (-42), 3) := by decide +kernel
theorem dX11_lights_102 : decode cX11_lights 102 = .ok (.goto (-97), 3) := by decide +kernel
theorem dX11_lights_105 : decode cX11_lights 105 = .ok (.iload 4, 2) := by decide +kernel
theorem dX11_lights_107 : decode cX11_lights 107 = .ok (.ireturn, 1) := by decide +kernel
theorem dX11_steps_0 : decode cX11_steps 0 = .ok (.iload_n 1, 1) := by decide +kernel
theorem dX11_steps_1 : decode cX11_steps 1 = .ok (.ifCond .eq 10, 3) := by decide +kernel
theorem dX11_steps_4 : decode cX11_steps 4 = .ok (.aload_n 0, 1) := by decide +kernel
theorem dX11_steps_5 : decode cX11_steps 5 = .ok (.getfield 190, 3) := by decide +kernel
theorem dX11_steps_8 : decode cX11_steps 8 = .ok (.goto 9, 3) := by decide +kernel
theorem dX11_steps_11 : decode cX11_steps 11 = .ok (.aload_n 0, 1) := by decide +kernel
theorem dX11_steps_12 : decode cX11_steps 12 = .ok (.getfield 190, 3) := by decide +kernel
theorem dX11_steps_15 : decode cX11_steps 15 = .ok (.iconst 1, 1) := by decide +kernel
theorem dX11_steps_16 : decode cX11_steps 16 = .ok (.isub, 1) := by decide +kernel
theorem dX11_steps_17 : decode cX11_steps 17 = .ok (.istore_n 3, 1) := by decide +kernel
theorem dX11_steps_18 : decode cX11_steps 18 = .ok (.iload_n 3, 1) := by decide +kernel
theorem dX11_steps_19 : decode cX11_steps 19 = .ok (.i2l, 1) := by decide +kernel
theorem dX11_steps_20 : decode cX11_steps 20 = .ok (.lconst 0, 1) := by decide +kernel
theorem dX11_steps_21 : decode cX11_steps 21 = .ok (.aload_n 0, 1) := by decide +kernel
theorem dX11_steps_22 : decode cX11_steps 22 = .ok (.getfield 98, 3) := by decide +kernel
theorem dX11_steps_25 : decode cX11_steps 25 = .ok (.iconst 1, 1) := by decide +kernel
theorem dX11_steps_26 : decode cX11_steps 26 = .ok (.isub, 1) := by decide +kernel
theorem dX11_steps_27 : decode cX11_steps 27 = .ok (.i2l, 1) := by decide +kernel
theorem dX11_steps_28 : decode cX11_steps 28 = .ok (.invokestatic 62, 3) := by decide +kernel
theorem dX11_steps_31 : decode cX11_steps 31 = .ok (.ifCond .eq 16, 3) := by decide +kernel
theorem dX11_steps_34 : decode cX11_steps 34 = .ok (.iload_n 2, 1) := by decide +kernel
theorem dX11_steps_35 : decode cX11_steps 35 = .ok (.ifCond .eq 14, 3) := by decide +kernel
theorem dX11_steps_38 : decode cX11_steps 38 = .ok (.aload_n 0, 1) := by decide +kernel
theorem dX11_steps_39 : decode cX11_steps 39 = .ok (.getfield 31, 3) := by decide +kernel
theorem dX11_steps_42 : decode cX11_steps 42 = .ok (.iload_n 3, 1) := by decide +kernel
theorem dX11_steps_43 : decode cX11_steps 43 = .ok (.baload, 1) := by decide +kernel
theorem dX11_steps_44 : decode cX11_steps 44 = .ok (.ifCond .ne 5, 3) := by decide +kernel
theorem dX11_steps_47 : decode cX11_steps 47 = .ok (.iconst 0, 1) := by decide +kernel
theorem dX11_steps_48 : decode cX11_steps 48 = .ok (.ireturn, 1) := by decide +kernel
theorem dX11_steps_49 : decode cX11_steps 49 = .ok (.iload_n 2, 1) := by decide +kernel
theorem dX11_steps_50 : decode cX11_steps 50 = .ok (.ifCond .eq 26, 3) := by decide +kernel
theorem dX11_steps_53 : decode cX11_steps 53 = .ok (.iconst 2, 1) := by decide +kernel
theorem dX11_steps_54 : decode cX11_steps 54 = .ok (.aload_n 0, 1) := by decide +kernel
theorem dX11_steps_55 : decode cX11_steps 55 = .ok (.getfield 28, 3) := by decide +kernel
theorem dX11_steps_58 : decode cX11_steps 58 = .ok (.iconst 3, 1) := by decide +kernel
theorem dX11_steps_59 : decode cX11_steps 59 = .ok (.iload_n 3, 1) := by decide +kernel
theorem dX11_steps_60 : decode cX11_steps 60 = .ok (.imul, 1) := by decide +kernel
theorem dX11_steps_61 : decode cX11_steps 61 = .ok (.iload_n 1, 1) := by decide +kernel
theorem dX11_steps_62 : decode cX11_steps 62 = .ok (.ifCond .eq 7, 3) := by decide +kernel
theorem dX11_steps_65 : decode cX11_steps 65 = .ok (.iconst 0, 1) := by decide +kernel
theorem dX11_steps_66 : decode cX11_steps 66 = .ok (.goto 4, 3) := by decide +kernel
theorem dX11_steps_69 : decode cX11_steps 69 = .ok (.iconst 1, 1) := by decide +kernel
theorem dX11_steps_70 : decode cX11_steps 70 = .ok (.iadd, 1) := by decide +kernel
theorem dX11_steps_71 : decode cX11_steps 71 = .ok (.iaload, 1) := by decide +kernel
theorem dX11_steps_72 : decode cX11_steps 72 = .ok (.imul, 1) := by decide +kernel
theorem dX11_steps_73 : decode cX11_steps 73 = .ok (.goto 9, 3) := by decide +kernel
theorem dX11_steps_76 : decode cX11_steps 76 = .ok (.aload_n 0, 1) := by decide +kernel
theorem dX11_steps_77 : decode cX11_steps 77 = .ok (.iload_n 3, 1) := by decide +kernel
theorem dX11_steps_78 : decode cX11_steps 78 = .ok (.iload_n 1, 1) := by decide +kernel
theorem dX11_steps_79 : decode cX11_steps 79 = .ok (.invokevirtual 193, 3) := by decide +kernel
theorem dX11_steps_82 : decode cX11_steps 82 = .ok (.istore 4, 2) := by decide +kernel
theorem dX11_steps_84 : decode cX11_steps 84 = .ok (.iconst 0, 1) := by decide +kernel
theorem dX11_steps_85 : decode cX11_steps 85 = .ok (.istore 5, 2) := by decide +kernel
theorem dX11_steps_87 : decode cX11_steps 87 = .ok (.iload 5, 2) := by decide +kernel
theorem dX11_steps_89 : decode cX11_steps 89 = .ok (.aload_n 0, 1) := by decide +kernel
theorem dX11_steps_90 : decode cX11_steps 90 = .ok (.getfield 56, 3) := by decide +kernel
theorem dX11_steps_93 : decode cX11_steps 93 = .ok (.if_icmp .ge 39, 3) := by decide +kernel
theorem dX11_steps_96 : decode cX11_steps 96 = .ok (.iload_n 2, 1) := by decide +kernel
theorem dX11_steps_97 : decode cX11_steps 97 = .ok (.ifCond .ne 35, 3) := by decide +kernel
theorem dX11_steps_100 : decode cX11_steps 100 = .ok (.aload_n 0, 1) := by decide +kernel
theorem dX11_steps_101 : decode cX11_steps 101 = .ok (.getfield 38, 3) := by decide +kernel
theorem dX11_steps_104 : decode cX11_steps 104 = .ok (.iload 5, 2) := by decide +kernel
theorem dX11_steps_106 : decode cX11_steps 106 = .ok (.dup2, 1) := by decide +kernel
theorem dX11_steps_107 : decode cX11_steps 107 = .ok (.iaload, 1) := by decide +kernel
theorem dX11_steps_108 : decode cX11_steps 108 = .ok (.aload_n 0, 1) := by decide +kernel
theorem dX11_steps_109 : decode cX11_steps 109 = .ok (.getfield 41, 3) := by decide +kernel
theorem dX11_steps_112 : decode cX11_steps 112 = .ok (.iload 5, 2) := by decide +kernel
theorem dX11_steps_114 : decode cX11_steps 114 = .ok (.baload, 1) := by decide +kernel
theorem dX11_steps_115 : decode cX11_steps 115 = .ok (.ifCond .eq 8, 3) := by decide +kernel
theorem dX11_steps_118 : decode cX11_steps 118 = .ok (.iload 4, 2) := by decide +kernel
theorem dX11_steps_120 : decode cX11_steps 120 = .ok (.goto 4, 3) := by decide +kernel
theorem dX11_steps_123 : decode cX11_steps 123 = .ok (.iconst 0, 1) := by decide +kernel
theorem dX11_steps_124 : decode cX11_steps 124 = .ok (.isub, 1) := by decide +kernel
theorem dX11_steps_125 : decode cX11_steps 125 = .ok (.iastore, 1) := by decide +kernel
theorem dX11_steps_126 : decode cX11_steps 126 = .ok (.iinc 5 1, 3) := by decide +kernel
theorem dX11_steps_129 : decode cX11_steps 129 = .ok (.goto (-42), 3) := by decide +kernel
theorem dX11_steps_132 : decode cX11_steps 132 = .ok (.aload_n 0, 1) := by decide +kernel
theorem dX11_steps_133 : decode cX11_steps 133 = .ok (.dup, 1) := by decide +kernel
theorem dX11_steps_134 : decode cX11_steps 134 = .ok (.getfield 197, 3) := by decide +kernel
theorem dX11_steps_137 : decode cX11_steps 137 = .ok (.iload 4, 2) := by decide +kernel
theorem dX11_steps_139 : decode cX11_steps 139 = .ok (.iadd, 1) := by decide +kernel
theorem dX11_steps_140 : decode cX11_steps 140 = .ok (.putfield 197, 3) := by decide +kernel
theorem dX11_steps_143 : decode cX11_steps 143 = .ok (.aload_n 0, 1) := by decide +kernel
theorem dX11_steps_144 : decode cX11_steps 144 = .ok (.dup, 1) := by decide +kernel
theorem dX11_steps_145 : decode cX11_steps 145 = .ok (.getfield 190, 3) := by decide +kernel
theorem dX11_steps_148 : decode cX11_steps 148 = .ok (.iload 4, 2) := by decide +kernel
theorem dX11_steps_150 : decode cX11_steps 150 = .ok (.ifCond .ne 7, 3) := by decide +kernel
theorem dX11_steps_153 : decode cX11_steps 153 = .ok (.iconst 0, 1) := by decide +kernel
theorem dX11_steps_154 : decode cX11_steps 154 = .ok (.goto 12, 3) := by decide +kernel
theorem dX11_steps_157 : decode cX11_steps 157 = .ok (.iload_n 1, 1) := by decide +kernel
theorem dX11_steps_158 : decode cX11_steps 158 = .ok (.ifCond .eq 7, 3) := by decide +kernel
theorem dX11_steps_161 : decode cX11_steps 161 = .ok (.iconst 1, 1) := by decide +kernel
theorem dX11_steps_162 : decode cX11_steps 162 = .ok (.goto 4, 3) := by decide +kernel
theorem dX11_steps_165 : decode cX11_steps 165 = .ok (.iconst (-1), 1) := by decide +kernel
theorem dX11_steps_166 : decode cX11_steps 166 = .ok (.iadd, 1) := by decide +kernel
theorem dX11_steps_167 : decode cX11_steps 167 = .ok (.putfield 190, 3) := by decide +kernel
theorem dX11_steps_170 : decode cX11_steps 170 = .ok (.iload 4, 2) := by decide +kernel
theorem dX11_steps_172 : decode cX11_steps 172 = .ok (.ifCond .le 7, 3) := by decide +kernel
theorem dX11_steps_175 : decode cX11_steps 175 = .ok (.iconst 1, 1) := by decide +kernel
theorem dX11_steps_176 : decode cX11_steps 176 = .ok (.goto 4, 3) := by decide +kernel
theorem dX11_steps_179 : decode cX11_steps 179 = .ok (.iconst 0, 1) := by decide +kernel
theorem dX11_steps_180 : decode cX11_steps 180 = .ok (.ireturn, 1) := by decide +kernel
theorem dX11_plans_0 : decode cX11_plans 0 = .ok (.aload_n 0, 1) := by decide +kernel
theorem dX11_plans_1 : decode cX11_plans 1 = .ok (.invokevirtual 127, 3) := by decide +kernel
theorem dX11_plans_4 : decode cX11_plans 4 = .ok (.aload_n 0, 1) := by decide +kernel
theorem dX11_plans_5 : decode cX11_plans 5 = .ok (.iconst 0, 1) := by decide +kernel
theorem dX11_plans_6 : decode cX11_plans 6 = .ok (.putfield 190, 3) := by decide +kernel
theorem dX11_plans_9 : decode cX11_plans 9 = .ok (.aload_n 0, 1) := by decide +kernel
theorem dX11_plans_10 : decode cX11_plans 10 = .ok (.iconst 0, 1) := by decide +kernel
theorem dX11_plans_11 : decode cX11_plans 11 = .ok (.putfield 197, 3) := by decide +kernel
theorem dX11_plans_14 : decode cX11_plans 14 = .ok (.aload_n 0, 1) := by decide +kernel
theorem dX11_plans_15 : decode cX11_plans 15 = .ok (.iconst (-1), 1) := by decide +kernel
theorem dX11_plans_16 : decode cX11_plans 16 = .ok (.putfield 200, 3) := by decide +kernel
theorem dX11_plans_19 : decode cX11_plans 19 = .ok (.iconst 0, 1) := by decide +kernel
theorem dX11_plans_20 : decode cX11_plans 20 = .ok (.istore_n 2, 1) := by decide +kernel
theorem dX11_plans_21 : decode cX11_plans 21 = .ok (.iload_n 2, 1) := by decide +kernel
theorem dX11_plans_22 : decode cX11_plans 22 = .ok (.iconst 4, 1) := by decide +kernel
theorem dX11_plans_23 : decode cX11_plans 23 = .ok (.if_icmp .ge 40, 3) := by decide +kernel
theorem dX11_plans_26 : decode cX11_plans 26 = .ok (.aload_n 0, 1) := by decide +kernel
theorem dX11_plans_27 : decode cX11_plans 27 = .ok (.getfield 38, 3) := by decide +kernel
theorem dX11_plans_30 : decode cX11_plans 30 = .ok (.iload_n 2, 1) := by decide +kernel
theorem dX11_plans_31 : decode cX11_plans 31 = .ok (.aload_n 0, 1) := by decide +kernel
theorem dX11_plans_32 : decode cX11_plans 32 = .ok (.getfield 35, 3) := by decide +kernel
theorem dX11_plans_35 : decode cX11_plans 35 = .ok (.iload_n 2, 1) := by decide +kernel
theorem dX11_plans_36 : decode cX11_plans 36 = .ok (.iaload, 1) := by decide +kernel
theorem dX11_plans_37 : decode cX11_plans 37 = .ok (.iastore, 1) := by decide +kernel
theorem dX11_plans_38 : decode cX11_plans 38 = .ok (.aload_n 0, 1) := by decide +kernel
theorem dX11_plans_39 : decode cX11_plans 39 = .ok (.getfield 41, 3) := by decide +kernel
theorem dX11_plans_42 : decode cX11_plans 42 = .ok (.iload_n 2, 1) := by decide +kernel
theorem dX11_plans_43 : decode cX11_plans 43 = .ok (.iload_n 2, 1) := by decide +kernel
theorem dX11_plans_44 : decode cX11_plans 44 = .ok (.aload_n 0, 1) := by decide +kernel
theorem dX11_plans_45 : decode cX11_plans 45 = .ok (.getfield 56, 3) := by decide +kernel
theorem dX11_plans_48 : decode cX11_plans 48 = .ok (.if_icmp .ge 7, 3) := by decide +kernel
theorem dX11_plans_51 : decode cX11_plans 51 = .ok (.iconst 1, 1) := by decide +kernel
theorem dX11_plans_52 : decode cX11_plans 52 = .ok (.goto 4, 3) := by decide +kernel
theorem dX11_plans_55 : decode cX11_plans 55 = .ok (.iconst 0, 1) := by decide +kernel
theorem dX11_plans_56 : decode cX11_plans 56 = .ok (.bastore, 1) := by decide +kernel
theorem dX11_plans_57 : decode cX11_plans 57 = .ok (.iinc 2 1, 3) := by decide +kernel
theorem dX11_plans_60 : decode cX11_plans 60 = .ok (.goto (-39), 3) := by decide +kernel
theorem dX11_plans_63 : decode cX11_plans 63 = .ok (.iconst 0, 1) := by decide +kernel
theorem dX11_plans_64 : decode cX11_plans 64 = .ok (.istore_n 2, 1) := by decide +kernel
theorem dX11_plans_65 : decode cX11_plans 65 = .ok (.iconst 0, 1) := by decide +kernel
theorem dX11_plans_66 : decode cX11_plans 66 = .ok (.istore_n 3, 1) := by decide +kernel
theorem dX11_plans_67 : decode cX11_plans 67 = .ok (.iload_n 3, 1) := by decide +kernel
theorem dX11_plans_68 : decode cX11_plans 68 = .ok (.iload_n 1, 1) := by decide +kernel
theorem dX11_plans_69 : decode cX11_plans 69 = .ok (.if_icmp .ge 104, 3) := by decide +kernel
theorem dX11_plans_72 : decode cX11_plans 72 = .ok (.aload_n 0, 1) := by decide +kernel
theorem dX11_plans_73 : decode cX11_plans 73 = .ok (.getfield 200, 3) := by decide +kernel
theorem dX11_plans_76 : decode cX11_plans 76 = .ok (.iconst (-1), 1) := by decide +kernel
theorem dX11_plans_77 : decode cX11_plans 77 = .ok (.if_icmp .ne 96, 3) := by decide +kernel
theorem dX11_plans_80 : decode cX11_plans 80 = .ok (.aload_n 0, 1) := by decide +kernel
theorem dX11_plans_81 : decode cX11_plans 81 = .ok (.getfield 22, 3) := by decide +kernel
theorem dX11_plans_84 : decode cX11_plans 84 = .ok (.bipush 80, 2) := by decide +kernel
theorem dX11_plans_86 : decode cX11_plans 86 = .ok (.iload_n 3, 1) := by decide +kernel
theorem dX11_plans_87 : decode cX11_plans 87 = .ok (.iadd, 1) := by decide +kernel
theorem dX11_plans_88 : decode cX11_plans 88 = .ok (.iaload, 1) := by decide +kernel
theorem dX11_plans_89 : decode cX11_plans 89 = .ok (.istore 4, 2) := by decide +kernel
theorem dX11_plans_91 : decode cX11_plans 91 = .ok (.iload 4, 2) := by decide +kernel
theorem dX11_plans_93 : decode cX11_plans 93 = .ok (.bipush 117, 2) := by decide +kernel
theorem dX11_plans_95 : decode cX11_plans 95 = .ok (.if_icmp .ne 8, 3) := by decide +kernel
theorem dX11_plans_98 : decode cX11_plans 98 = .ok (.iconst 1, 1) := by decide +kernel
theorem dX11_plans_99 : decode cX11_plans 99 = .ok (.istore_n 2, 1) := by decide +kernel
theorem dX11_plans_100 : decode cX11_plans 100 = .ok (.goto 67, 3) := by decide +kernel
theorem dX11_plans_103 : decode cX11_plans 103 = .ok (.iload 4, 2) := by decide +kernel
theorem dX11_plans_105 : decode cX11_plans 105 = .ok (.bipush 43, 2) := by decide +kernel
theorem dX11_plans_107 : decode cX11_plans 107 = .ok (.if_icmp .eq 10, 3) := by decide +kernel
theorem dX11_plans_110 : decode cX11_plans 110 = .ok (.iload 4, 2) := by decide +kernel
theorem dX11_plans_112 : decode cX11_plans 112 = .ok (.bipush 45, 2) := by decide +kernel
theorem dX11_plans_114 : decode cX11_plans 114 = .ok (.if_icmp .ne 37, 3) := by decide +kernel
theorem dX11_plans_117 : decode cX11_plans 117 = .ok (.aload_n 0, 1) := by decide +kernel
theorem dX11_plans_118 : decode cX11_plans 118 = .ok (.aload_n 0, 1) := by decide +kernel
theorem dX11_plans_119 : decode cX11_plans 119 = .ok (.iload 4, 2) := by decide +kernel
theorem dX11_plans_121 : decode cX11_plans 121 = .ok (.bipush 43, 2) := by decide +kernel
theorem dX11_plans_123 : decode cX11_plans 123 = .ok (.if_icmp .ne 7, 3) := by decide +kernel
theorem dX11_plans_126 : decode cX11_plans 126 = .ok (.iconst 1, 1) := by decide +kernel
theorem dX11_plans_127 : decode cX11_plans 127 = .ok (.goto 4, 3) := by decide +kernel
theorem dX11_plans_130 : decode cX11_plans 130 = .ok (.iconst 0, 1) := by decide +kernel
theorem dX11_plans_131 : decode cX11_plans 131 = .ok (.iload_n 2, 1) := by decide +kernel
theorem dX11_plans_132 : decode cX11_plans 132 = .ok (.invokevirtual 203, 3) := by decide +kernel
theorem dX11_plans_135 : decode cX11_plans 135 = .ok (.ifCond .eq 7, 3) := by decide +kernel
theorem dX11_plans_138 : decode cX11_plans 138 = .ok (.iconst (-1), 1) := by decide +kernel
theorem dX11_plans_139 : decode cX11_plans 139 = .ok (.goto 4, 3) := by decide +kernel
theorem dX11_plans_142 : decode cX11_plans 142 = .ok (.iload_n 3, 1) := by decide +kernel
theorem dX11_plans_143 : decode cX11_plans 143 = .ok (.putfield 200, 3) := by decide +kernel
theorem dX11_plans_146 : decode cX11_plans 146 = .ok (.iconst 0, 1) := by decide +kernel
theorem dX11_plans_147 : decode cX11_plans 147 = .ok (.istore_n 2, 1) := by decide +kernel
theorem dX11_plans_148 : decode cX11_plans 148 = .ok (.goto 19, 3) := by decide +kernel
theorem dX11_plans_151 : decode cX11_plans 151 = .ok (.iload 4, 2) := by decide +kernel
theorem dX11_plans_153 : decode cX11_plans 153 = .ok (.bipush 120, 2) := by decide +kernel
theorem dX11_plans_155 : decode cX11_plans 155 = .ok (.if_icmp .eq 12, 3) := by decide +kernel
theorem dX11_plans_158 : decode cX11_plans 158 = .ok (.aload_n 0, 1) := by decide +kernel
theorem dX11_plans_159 : decode cX11_plans 159 = .ok (.iload 4, 2) := by decide +kernel
theorem dX11_plans_161 : decode cX11_plans 161 = .ok (.bipush 48, 2) := by decide +kernel
theorem dX11_plans_163 : decode cX11_plans 163 = .ok (.isub, 1) := by decide +kernel
theorem dX11_plans_164 : decode cX11_plans 164 = .ok (.invokevirtual 186, 3) := by decide +kernel
theorem dX11_plans_167 : decode cX11_plans 167 = .ok (.iinc 3 1, 3) := by decide +kernel
theorem dX11_plans_170 : decode cX11_plans 170 = .ok (.goto (-103), 3) := by decide +kernel
theorem dX11_plans_173 : decode cX11_plans 173 = .ok (.return_, 1) := by decide +kernel
theorem dX11_plansAll_0 : decode cX11_plansAll 0 = .ok (.aload_n 0, 1) := by decide +kernel
theorem dX11_plansAll_1 : decode cX11_plansAll 1 = .ok (.invokevirtual 124, 3) := by decide +kernel
theorem dX11_plansAll_4 : decode cX11_plansAll 4 = .ok (.pop, 1) := by decide +kernel
theorem dX11_plansAll_5 : decode cX11_plansAll 5 = .ok (.aload_n 0, 1) := by decide +kernel
theorem dX11_plansAll_6 : decode cX11_plansAll 6 = .ok (.aload_n 0, 1) := by decide +kernel
theorem dX11_plansAll_7 : decode cX11_plansAll 7 = .ok (.getfield 110, 3) := by decide +kernel
theorem dX11_plansAll_10 : decode cX11_plansAll 10 = .ok (.invokevirtual 207, 3) := by decide +kernel
theorem dX11_plansAll_13 : decode cX11_plansAll 13 = .ok (.return_, 1) := by decide +kernel
theorem dX11_judged_0 : decode cX11_judged 0 = .ok (.aload_n 0, 1) := by decide +kernel
theorem dX11_judged_1 : decode cX11_judged 1 = .ok (.invokevirtual 210, 3) := by decide +kernel
theorem dX11_judged_4 : decode cX11_judged 4 = .ok (.aload_n 0, 1) := by decide +kernel
theorem dX11_judged_5 : decode cX11_judged 5 = .ok (.getfield 200, 3) := by decide +kernel
theorem dX11_judged_8 : decode cX11_judged 8 = .ok (.ireturn, 1) := by decide +kernel
theorem dX11_stateOf_0 : decode cX11_stateOf 0 = .ok (.aload_n 0, 1) := by decide +kernel
theorem dX11_stateOf_1 : decode cX11_stateOf 1 = .ok (.iload_n 1, 1) := by decide +kernel
theorem dX11_stateOf_2 : decode cX11_stateOf 2 = .ok (.invokevirtual 207, 3) := by decide +kernel
theorem dX11_stateOf_5 : decode cX11_stateOf 5 = .ok (.iload_n 2, 1) := by decide +kernel
theorem dX11_stateOf_6 : decode cX11_stateOf 6 = .ok (.ifCond .ne 10, 3) := by decide +kernel
theorem dX11_stateOf_9 : decode cX11_stateOf 9 = .ok (.aload_n 0, 1) := by decide +kernel
theorem dX11_stateOf_10 : decode cX11_stateOf 10 = .ok (.getfield 190, 3) := by decide +kernel
theorem dX11_stateOf_13 : decode cX11_stateOf 13 = .ok (.goto 7, 3) := by decide +kernel
theorem dX11_stateOf_16 : decode cX11_stateOf 16 = .ok (.aload_n 0, 1) := by decide +kernel
theorem dX11_stateOf_17 : decode cX11_stateOf 17 = .ok (.getfield 197, 3) := by decide +kernel
theorem dX11_stateOf_20 : decode cX11_stateOf 20 = .ok (.ireturn, 1) := by decide +kernel
theorem dX11_state_0 : decode cX11_state 0 = .ok (.aload_n 0, 1) := by decide +kernel
theorem dX11_state_1 : decode cX11_state 1 = .ok (.invokevirtual 124, 3) := by decide +kernel
theorem dX11_state_4 : decode cX11_state 4 = .ok (.pop, 1) := by decide +kernel
theorem dX11_state_5 : decode cX11_state 5 = .ok (.iload_n 1, 1) := by decide +kernel
theorem dX11_state_6 : decode cX11_state 6 = .ok (.i2l, 1) := by decide +kernel
theorem dX11_state_7 : decode cX11_state 7 = .ok (.lconst 0, 1) := by decide +kernel
theorem dX11_state_8 : decode cX11_state 8 = .ok (.aload_n 0, 1) := by decide +kernel
theorem dX11_state_9 : decode cX11_state 9 = .ok (.getfield 110, 3) := by decide +kernel
theorem dX11_state_12 : decode cX11_state 12 = .ok (.i2l, 1) := by decide +kernel
theorem dX11_state_13 : decode cX11_state 13 = .ok (.invokestatic 62, 3) := by decide +kernel
theorem dX11_state_16 : decode cX11_state 16 = .ok (.ifCond .eq 19, 3) := by decide +kernel
theorem dX11_state_19 : decode cX11_state 19 = .ok (.iload_n 2, 1) := by decide +kernel
theorem dX11_state_20 : decode cX11_state 20 = .ok (.invokestatic 90, 3) := by decide +kernel
theorem dX11_state_23 : decode cX11_state 23 = .ok (.ifCond .eq 12, 3) := by decide +kernel
theorem dX11_state_26 : decode cX11_state 26 = .ok (.aload_n 0, 1) := by decide +kernel
theorem dX11_state_27 : decode cX11_state 27 = .ok (.iload_n 1, 1) := by decide +kernel
theorem dX11_state_28 : decode cX11_state 28 = .ok (.iload_n 2, 1) := by decide +kernel
theorem dX11_state_29 : decode cX11_state 29 = .ok (.invokevirtual 213, 3) := by decide +kernel
theorem dX11_state_32 : decode cX11_state 32 = .ok (.goto 5, 3) := by decide +kernel
theorem dX11_state_35 : decode cX11_state 35 = .ok (.bipush (-2), 2) := by decide +kernel
theorem dX11_state_37 : decode cX11_state 37 = .ok (.ireturn, 1) := by decide +kernel
theorem dX11_leftOf_0 : decode cX11_leftOf 0 = .ok (.aload_n 0, 1) := by decide +kernel
theorem dX11_leftOf_1 : decode cX11_leftOf 1 = .ok (.iload_n 1, 1) := by decide +kernel
theorem dX11_leftOf_2 : decode cX11_leftOf 2 = .ok (.invokevirtual 207, 3) := by decide +kernel
theorem dX11_leftOf_5 : decode cX11_leftOf 5 = .ok (.aload_n 0, 1) := by decide +kernel
theorem dX11_leftOf_6 : decode cX11_leftOf 6 = .ok (.getfield 38, 3) := by decide +kernel
theorem dX11_leftOf_9 : decode cX11_leftOf 9 = .ok (.iload_n 2, 1) := by decide +kernel
theorem dX11_leftOf_10 : decode cX11_leftOf 10 = .ok (.iaload, 1) := by decide +kernel
theorem dX11_leftOf_11 : decode cX11_leftOf 11 = .ok (.ireturn, 1) := by decide +kernel
theorem dX11_left_0 : decode cX11_left 0 = .ok (.aload_n 0, 1) := by decide +kernel
theorem dX11_left_1 : decode cX11_left 1 = .ok (.invokevirtual 124, 3) := by decide +kernel
theorem dX11_left_4 : decode cX11_left 4 = .ok (.pop, 1) := by decide +kernel
theorem dX11_left_5 : decode cX11_left 5 = .ok (.iload_n 1, 1) := by decide +kernel
theorem dX11_left_6 : decode cX11_left 6 = .ok (.i2l, 1) := by decide +kernel
theorem dX11_left_7 : decode cX11_left 7 = .ok (.lconst 0, 1) := by decide +kernel
theorem dX11_left_8 : decode cX11_left 8 = .ok (.aload_n 0, 1) := by decide +kernel
theorem dX11_left_9 : decode cX11_left 9 = .ok (.getfield 110, 3) := by decide +kernel
theorem dX11_left_12 : decode cX11_left 12 = .ok (.i2l, 1) := by decide +kernel
theorem dX11_left_13 : decode cX11_left 13 = .ok (.invokestatic 62, 3) := by decide +kernel
theorem dX11_left_16 : decode cX11_left 16 = .ok (.ifCond .eq 20, 3) := by decide +kernel
theorem dX11_left_19 : decode cX11_left 19 = .ok (.aload_n 0, 1) := by decide +kernel
theorem dX11_left_20 : decode cX11_left 20 = .ok (.iload_n 2, 1) := by decide +kernel
theorem dX11_left_21 : decode cX11_left 21 = .ok (.invokevirtual 150, 3) := by decide +kernel
theorem dX11_left_24 : decode cX11_left 24 = .ok (.ifCond .eq 12, 3) := by decide +kernel
theorem dX11_left_27 : decode cX11_left 27 = .ok (.aload_n 0, 1) := by decide +kernel
theorem dX11_left_28 : decode cX11_left 28 = .ok (.iload_n 1, 1) := by decide +kernel
theorem dX11_left_29 : decode cX11_left 29 = .ok (.iload_n 2, 1) := by decide +kernel
theorem dX11_left_30 : decode cX11_left 30 = .ok (.invokevirtual 216, 3) := by decide +kernel
theorem dX11_left_33 : decode cX11_left 33 = .ok (.goto 5, 3) := by decide +kernel
theorem dX11_left_36 : decode cX11_left 36 = .ok (.bipush (-2), 2) := by decide +kernel
theorem dX11_left_38 : decode cX11_left 38 = .ok (.ireturn, 1) := by decide +kernel
theorem dX11_homeNow_0 : decode cX11_homeNow 0 = .ok (.aload_n 0, 1) := by decide +kernel
theorem dX11_homeNow_1 : decode cX11_homeNow 1 = .ok (.invokevirtual 210, 3) := by decide +kernel
theorem dX11_homeNow_4 : decode cX11_homeNow 4 = .ok (.aload_n 0, 1) := by decide +kernel
theorem dX11_homeNow_5 : decode cX11_homeNow 5 = .ok (.getfield 200, 3) := by decide +kernel
theorem dX11_homeNow_8 : decode cX11_homeNow 8 = .ok (.iconst (-1), 1) := by decide +kernel
theorem dX11_homeNow_9 : decode cX11_homeNow 9 = .ok (.if_icmp .ne 14, 3) := by decide +kernel
theorem dX11_homeNow_12 : decode cX11_homeNow 12 = .ok (.aload_n 0, 1) := by decide +kernel
theorem dX11_homeNow_13 : decode cX11_homeNow 13 = .ok (.getfield 190, 3) := by decide +kernel
theorem dX11_homeNow_16 : decode cX11_homeNow 16 = .ok (.ifCond .ne 7, 3) := by decide +kernel
theorem dX11_homeNow_19 : decode cX11_homeNow 19 = .ok (.iconst 1, 1) := by decide +kernel
theorem dX11_homeNow_20 : decode cX11_homeNow 20 = .ok (.goto 4, 3) := by decide +kernel
theorem dX11_homeNow_23 : decode cX11_homeNow 23 = .ok (.iconst 0, 1) := by decide +kernel
theorem dX11_homeNow_24 : decode cX11_homeNow 24 = .ok (.ireturn, 1) := by decide +kernel
theorem dX11_home_0 : decode cX11_home 0 = .ok (.aload_n 0, 1) := by decide +kernel
theorem dX11_home_1 : decode cX11_home 1 = .ok (.invokevirtual 219, 3) := by decide +kernel
theorem dX11_home_4 : decode cX11_home 4 = .ok (.ireturn, 1) := by decide +kernel
theorem dX11_findDark_0 : decode cX11_findDark 0 = .ok (.aload_n 0, 1) := by decide +kernel
theorem dX11_findDark_1 : decode cX11_findDark 1 = .ok (.getfield 44, 3) := by decide +kernel
theorem dX11_findDark_4 : decode cX11_findDark 4 = .ok (.iconst 0, 1) := by decide +kernel
theorem dX11_findDark_5 : decode cX11_findDark 5 = .ok (.iconst (-1), 1) := by decide +kernel
theorem dX11_findDark_6 : decode cX11_findDark 6 = .ok (.iastore, 1) := by decide +kernel
theorem dX11_findDark_7 : decode cX11_findDark 7 = .ok (.aload_n 0, 1) := by decide +kernel
theorem dX11_findDark_8 : decode cX11_findDark 8 = .ok (.getfield 44, 3) := by decide +kernel
theorem dX11_findDark_11 : decode cX11_findDark 11 = .ok (.iconst 1, 1) := by decide +kernel
theorem dX11_findDark_12 : decode cX11_findDark 12 = .ok (.iconst (-1), 1) := by decide +kernel
theorem dX11_findDark_13 : decode cX11_findDark 13 = .ok (.iastore, 1) := by decide +kernel
theorem dX11_findDark_14 : decode cX11_findDark 14 = .ok (.iconst 0, 1) := by decide +kernel
theorem dX11_findDark_15 : decode cX11_findDark 15 = .ok (.istore_n 3, 1) := by decide +kernel
theorem dX11_findDark_16 : decode cX11_findDark 16 = .ok (.iload_n 3, 1) := by decide +kernel
theorem dX11_findDark_17 : decode cX11_findDark 17 = .ok (.iconst 1, 1) := by decide +kernel
theorem dX11_findDark_18 : decode cX11_findDark 18 = .ok (.iload_n 1, 1) := by decide +kernel
theorem dX11_findDark_19 : decode cX11_findDark 19 = .ok (.ishl, 1) := by decide +kernel
theorem dX11_findDark_20 : decode cX11_findDark 20 = .ok (.if_icmp .ge 182, 3) := by decide +kernel
theorem dX11_findDark_23 : decode cX11_findDark 23 = .ok (.iconst 0, 1) := by decide +kernel
theorem dX11_findDark_24 : decode cX11_findDark 24 = .ok (.istore 4, 2) := by decide +kernel
theorem dX11_findDark_26 : decode cX11_findDark 26 = .ok (.iconst 0, 1) := by decide +kernel
theorem dX11_findDark_27 : decode cX11_findDark 27 = .ok (.istore 5, 2) := by decide +kernel
theorem dX11_findDark_29 : decode cX11_findDark 29 = .ok (.iconst 1, 1) := by decide +kernel
theorem dX11_findDark_30 : decode cX11_findDark 30 = .ok (.istore 6, 2) := by decide +kernel
theorem dX11_findDark_32 : decode cX11_findDark 32 = .ok (.iconst 0, 1) := by decide +kernel
theorem dX11_findDark_33 : decode cX11_findDark 33 = .ok (.istore 7, 2) := by decide +kernel
theorem dX11_findDark_35 : decode cX11_findDark 35 = .ok (.iload 7, 2) := by decide +kernel
theorem dX11_findDark_37 : decode cX11_findDark 37 = .ok (.iload_n 1, 1) := by decide +kernel
theorem dX11_findDark_38 : decode cX11_findDark 38 = .ok (.if_icmp .ge 106, 3) := by decide +kernel
theorem dX11_findDark_41 : decode cX11_findDark 41 = .ok (.aload_n 0, 1) := by decide +kernel
theorem dX11_findDark_42 : decode cX11_findDark 42 = .ok (.getfield 28, 3) := by decide +kernel
theorem dX11_findDark_45 : decode cX11_findDark 45 = .ok (.iconst 3, 1) := by decide +kernel
theorem dX11_findDark_46 : decode cX11_findDark 46 = .ok (.iload 7, 2) := by decide +kernel
theorem dX11_findDark_48 : decode cX11_findDark 48 = .ok (.imul, 1) := by decide +kernel
theorem dX11_findDark_49 : decode cX11_findDark 49 = .ok (.iaload, 1) := by decide +kernel
theorem dX11_findDark_50 : decode cX11_findDark 50 = .ok (.aload_n 0, 1) := by decide +kernel
theorem dX11_findDark_51 : decode cX11_findDark 51 = .ok (.getfield 28, 3) := by decide +kernel
theorem dX11_findDark_54 : decode cX11_findDark 54 = .ok (.iconst 3, 1) := by decide +kernel
theorem dX11_findDark_55 : decode cX11_findDark 55 = .ok (.iload 7, 2) := by decide +kernel
theorem dX11_findDark_57 : decode cX11_findDark 57 = .ok (.imul, 1) := by decide +kernel
theorem dX11_findDark_58 : decode cX11_findDark 58 = .ok (.iconst 1, 1) := by decide +kernel
theorem dX11_findDark_59 : decode cX11_findDark 59 = .ok (.iadd, 1) := by decide +kernel
theorem dX11_findDark_60 : decode cX11_findDark 60 = .ok (.iaload, 1) := by decide +kernel
theorem dX11_findDark_61 : decode cX11_findDark 61 = .ok (.iadd, 1) := by decide +kernel
theorem dX11_findDark_62 : decode cX11_findDark 62 = .ok (.istore 8, 2) := by decide +kernel
theorem dX11_findDark_64 : decode cX11_findDark 64 = .ok (.iload 6, 2) := by decide +kernel
theorem dX11_findDark_66 : decode cX11_findDark 66 = .ok (.ifCond .eq 26, 3) := by decide +kernel
theorem dX11_findDark_69 : decode cX11_findDark 69 = .ok (.iload_n 3, 1) := by decide +kernel
theorem dX11_findDark_70 : decode cX11_findDark 70 = .ok (.iload 7, 2) := by decide +kernel
theorem dX11_findDark_72 : decode cX11_findDark 72 = .ok (.invokestatic 222, 3) := by decide +kernel
theorem dX11_findDark_75 : decode cX11_findDark 75 = .ok (.ifCond .eq 13, 3) := by decide +kernel
theorem dX11_findDark_78 : decode cX11_findDark 78 = .ok (.aload_n 0, 1) := by decide +kernel
theorem dX11_findDark_79 : decode cX11_findDark 79 = .ok (.getfield 31, 3) := by decide +kernel
theorem dX11_findDark_82 : decode cX11_findDark 82 = .ok (.iload 7, 2) := by decide +kernel
theorem dX11_findDark_84 : decode cX11_findDark 84 = .ok (.baload, 1) := by decide +kernel
theorem dX11_findDark_85 : decode cX11_findDark 85 = .ok (.ifCond .eq 7, 3) := by decide +kernel
theorem dX11_findDark_88 : decode cX11_findDark 88 = .ok (.iconst 1, 1) := by decide +kernel
theorem dX11_findDark_89 : decode cX11_findDark 89 = .ok (.goto 4, 3) := by decide +kernel
theorem dX11_findDark_92 : decode cX11_findDark 92 = .ok (.iconst 0, 1) := by decide +kernel
theorem dX11_findDark_93 : decode cX11_findDark 93 = .ok (.istore 6, 2) := by decide +kernel
theorem dX11_findDark_95 : decode cX11_findDark 95 = .ok (.iload 4, 2) := by decide +kernel
theorem dX11_findDark_97 : decode cX11_findDark 97 = .ok (.iload_n 3, 1) := by decide +kernel
theorem dX11_findDark_98 : decode cX11_findDark 98 = .ok (.iload 7, 2) := by decide +kernel
theorem dX11_findDark_100 : decode cX11_findDark 100 = .ok (.invokestatic 222, 3) := by decide +kernel
theorem dX11_findDark_103 : decode cX11_findDark 103 = .ok (.ifCond .eq 7, 3) := by decide +kernel
theorem dX11_findDark_106 : decode cX11_findDark 106 = .ok (.iconst 0, 1) := by decide +kernel
theorem dX11_findDark_107 : decode cX11_findDark 107 = .ok (.goto 5, 3) := by decide +kernel
theorem dX11_findDark_110 : decode cX11_findDark 110 = .ok (.iload 8, 2) := by decide +kernel
theorem dX11_findDark_112 : decode cX11_findDark 112 = .ok (.iadd, 1) := by decide +kernel
theorem dX11_findDark_113 : decode cX11_findDark 113 = .ok (.istore 4, 2) := by decide +kernel
theorem dX11_findDark_115 : decode cX11_findDark 115 = .ok (.iload 5, 2) := by decide +kernel
theorem dX11_findDark_117 : decode cX11_findDark 117 = .ok (.iload_n 3, 1) := by decide +kernel
theorem dX11_findDark_118 : decode cX11_findDark 118 = .ok (.iload 7, 2) := by decide +kernel
theorem dX11_findDark_120 : decode cX11_findDark 120 = .ok (.invokestatic 222, 3) := by decide +kernel
theorem dX11_findDark_123 : decode cX11_findDark 123 = .ok (.ifCond .eq 10, 3) := by decide +kernel
theorem dX11_findDark_126 : decode cX11_findDark 126 = .ok (.iconst 2, 1) := by decide +kernel
theorem dX11_findDark_127 : decode cX11_findDark 127 = .ok (.iload 8, 2) := by decide +kernel
theorem dX11_findDark_129 : decode cX11_findDark 129 = .ok (.imul, 1) := by decide +kernel
theorem dX11_findDark_130 : decode cX11_findDark 130 = .ok (.goto 5, 3) := by decide +kernel
theorem dX11_findDark_133 : decode cX11_findDark 133 = .ok (.iload 8, 2) := by decide +kernel
theorem dX11_findDark_135 : decode cX11_findDark 135 = .ok (.iadd, 1) := by decide +kernel
theorem dX11_findDark_136 : decode cX11_findDark 136 = .ok (.istore 5, 2) := by decide +kernel
theorem dX11_findDark_138 : decode cX11_findDark 138 = .ok (.iinc 7 1, 3) := by decide +kernel
theorem dX11_findDark_141 : decode cX11_findDark 141 = .ok (.goto (-106), 3) := by decide +kernel
theorem dX11_findDark_144 : decode cX11_findDark 144 = .ok (.iload 6, 2) := by decide +kernel
theorem dX11_findDark_146 : decode cX11_findDark 146 = .ok (.ifCond .eq 50, 3) := by decide +kernel
theorem dX11_findDark_149 : decode cX11_findDark 149 = .ok (.iload 4, 2) := by decide +kernel
theorem dX11_findDark_151 : decode cX11_findDark 151 = .ok (.aload_n 0, 1) := by decide +kernel
theorem dX11_findDark_152 : decode cX11_findDark 152 = .ok (.getfield 35, 3) := by decide +kernel
theorem dX11_findDark_155 : decode cX11_findDark 155 = .ok (.iload_n 2, 1) := by decide +kernel
theorem dX11_findDark_156 : decode cX11_findDark 156 = .ok (.iaload, 1) := by decide +kernel
theorem dX11_findDark_157 : decode cX11_findDark 157 = .ok (.if_icmp .gt 39, 3) := by decide +kernel
theorem dX11_findDark_160 : decode cX11_findDark 160 = .ok (.aload_n 0, 1) := by decide +kernel
theorem dX11_findDark_161 : decode cX11_findDark 161 = .ok (.getfield 44, 3) := by decide +kernel
theorem dX11_findDark_164 : decode cX11_findDark 164 = .ok (.iconst 0, 1) := by decide +kernel
theorem dX11_findDark_165 : decode cX11_findDark 165 = .ok (.iaload, 1) := by decide +kernel
theorem dX11_findDark_166 : decode cX11_findDark 166 = .ok (.iconst (-1), 1) := by decide +kernel
theorem dX11_findDark_167 : decode cX11_findDark 167 = .ok (.if_icmp .eq 14, 3) := by decide +kernel
theorem dX11_findDark_170 : decode cX11_findDark 170 = .ok (.iload 5, 2) := by decide +kernel
theorem dX11_findDark_172 : decode cX11_findDark 172 = .ok (.aload_n 0, 1) := by decide +kernel
theorem dX11_findDark_173 : decode cX11_findDark 173 = .ok (.getfield 44, 3) := by decide +kernel
theorem dX11_findDark_176 : decode cX11_findDark 176 = .ok (.iconst 0, 1) := by decide +kernel
theorem dX11_findDark_177 : decode cX11_findDark 177 = .ok (.iaload, 1) := by decide +kernel
theorem dX11_findDark_178 : decode cX11_findDark 178 = .ok (.if_icmp .ge 18, 3) := by decide +kernel
theorem dX11_findDark_181 : decode cX11_findDark 181 = .ok (.aload_n 0, 1) := by decide +kernel
theorem dX11_findDark_182 : decode cX11_findDark 182 = .ok (.getfield 44, 3) := by decide +kernel
theorem dX11_findDark_185 : decode cX11_findDark 185 = .ok (.iconst 0, 1) := by decide +kernel
theorem dX11_findDark_186 : decode cX11_findDark 186 = .ok (.iload 5, 2) := by decide +kernel
theorem dX11_findDark_188 : decode cX11_findDark 188 = .ok (.iastore, 1) := by decide +kernel
theorem dX11_findDark_189 : decode cX11_findDark 189 = .ok (.aload_n 0, 1) := by decide +kernel
theorem dX11_findDark_190 : decode cX11_findDark 190 = .ok (.getfield 44, 3) := by decide +kernel
theorem dX11_findDark_193 : decode cX11_findDark 193 = .ok (.iconst 1, 1) := by decide +kernel
theorem dX11_findDark_194 : decode cX11_findDark 194 = .ok (.iload_n 3, 1) := by decide +kernel
theorem dX11_findDark_195 : decode cX11_findDark 195 = .ok (.iastore, 1) := by decide +kernel
theorem dX11_findDark_196 : decode cX11_findDark 196 = .ok (.iinc 3 1, 3) := by decide +kernel
theorem dX11_findDark_199 : decode cX11_findDark 199 = .ok (.goto (-183), 3) := by decide +kernel
theorem dX11_findDark_202 : decode cX11_findDark 202 = .ok (.return_, 1) := by decide +kernel
theorem dX11_unlit_0 : decode cX11_unlit 0 = .ok (.aload_n 0, 1) := by decide +kernel
theorem dX11_unlit_1 : decode cX11_unlit 1 = .ok (.invokevirtual 127, 3) := by decide +kernel
theorem dX11_unlit_4 : decode cX11_unlit 4 = .ok (.iload_n 1, 1) := by decide +kernel
theorem dX11_unlit_5 : decode cX11_unlit 5 = .ok (.i2l, 1) := by decide +kernel
theorem dX11_unlit_6 : decode cX11_unlit 6 = .ok (.lconst 0, 1) := by decide +kernel
theorem dX11_unlit_7 : decode cX11_unlit 7 = .ok (.aload_n 0, 1) := by decide +kernel
theorem dX11_unlit_8 : decode cX11_unlit 8 = .ok (.getfield 98, 3) := by decide +kernel
theorem dX11_unlit_11 : decode cX11_unlit 11 = .ok (.bipush 10, 2) := by decide +kernel
theorem dX11_unlit_13 : decode cX11_unlit 13 = .ok (.invokestatic 140, 3) := by decide +kernel
theorem dX11_unlit_16 : decode cX11_unlit 16 = .ok (.i2l, 1) := by decide +kernel
theorem dX11_unlit_17 : decode cX11_unlit 17 = .ok (.invokestatic 62, 3) := by decide +kernel
theorem dX11_unlit_20 : decode cX11_unlit 20 = .ok (.ifCond .eq 18, 3) := by decide +kernel
theorem dX11_unlit_23 : decode cX11_unlit 23 = .ok (.aload_n 0, 1) := by decide +kernel
theorem dX11_unlit_24 : decode cX11_unlit 24 = .ok (.iload_n 2, 1) := by decide +kernel
theorem dX11_unlit_25 : decode cX11_unlit 25 = .ok (.invokevirtual 150, 3) := by decide +kernel
theorem dX11_unlit_28 : decode cX11_unlit 28 = .ok (.ifCond .eq 10, 3) := by decide +kernel
theorem dX11_unlit_31 : decode cX11_unlit 31 = .ok (.iload_n 3, 1) := by decide +kernel
theorem dX11_unlit_32 : decode cX11_unlit 32 = .ok (.invokestatic 90, 3) := by decide +kernel
theorem dX11_unlit_35 : decode cX11_unlit 35 = .ok (.ifCond .ne 6, 3) := by decide +kernel
theorem dX11_unlit_38 : decode cX11_unlit 38 = .ok (.bipush (-2), 2) := by decide +kernel
theorem dX11_unlit_40 : decode cX11_unlit 40 = .ok (.ireturn, 1) := by decide +kernel
theorem dX11_unlit_41 : decode cX11_unlit 41 = .ok (.aload_n 0, 1) := by decide +kernel
theorem dX11_unlit_42 : decode cX11_unlit 42 = .ok (.iload_n 1, 1) := by decide +kernel
theorem dX11_unlit_43 : decode cX11_unlit 43 = .ok (.iload_n 2, 1) := by decide +kernel
theorem dX11_unlit_44 : decode cX11_unlit 44 = .ok (.invokevirtual 226, 3) := by decide +kernel
theorem dX11_unlit_47 : decode cX11_unlit 47 = .ok (.aload_n 0, 1) := by decide +kernel
theorem dX11_unlit_48 : decode cX11_unlit 48 = .ok (.getfield 44, 3) := by decide +kernel
theorem dX11_unlit_51 : decode cX11_unlit 51 = .ok (.iload_n 3, 1) := by decide +kernel
theorem dX11_unlit_52 : decode cX11_unlit 52 = .ok (.iaload, 1) := by decide +kernel
theorem dX11_unlit_53 : decode cX11_unlit 53 = .ok (.ireturn, 1) := by decide +kernel
theorem dX11_help_0 : decode cX11_help 0 = .ok (.iload_n 1, 1) := by decide +kernel
theorem dX11_help_1 : decode cX11_help 1 = .ok (.i2l, 1) := by decide +kernel
theorem dX11_help_2 : decode cX11_help 2 = .ok (.lconst 1, 1) := by decide +kernel
theorem dX11_help_3 : decode cX11_help 3 = .ok (.ldc2_w 230, 3) := by decide +kernel
theorem dX11_help_6 : decode cX11_help 6 = .ok (.invokestatic 62, 3) := by decide +kernel
theorem dX11_help_9 : decode cX11_help 9 = .ok (.ifCond .eq 38, 3) := by decide +kernel
theorem dX11_help_12 : decode cX11_help 12 = .ok (.iload_n 2, 1) := by decide +kernel
theorem dX11_help_13 : decode cX11_help 13 = .ok (.i2l, 1) := by decide +kernel
theorem dX11_help_14 : decode cX11_help 14 = .ok (.lconst 1, 1) := by decide +kernel
theorem dX11_help_15 : decode cX11_help 15 = .ok (.ldc2_w 135, 3) := by decide +kernel
theorem dX11_help_18 : decode cX11_help 18 = .ok (.invokestatic 62, 3) := by decide +kernel
theorem dX11_help_21 : decode cX11_help 21 = .ok (.ifCond .eq 26, 3) := by decide +kernel
theorem dX11_help_24 : decode cX11_help 24 = .ok (.iload_n 3, 1) := by decide +kernel
theorem dX11_help_25 : decode cX11_help 25 = .ok (.invokestatic 90, 3) := by decide +kernel
theorem dX11_help_28 : decode cX11_help 28 = .ok (.ifCond .eq 19, 3) := by decide +kernel
theorem dX11_help_31 : decode cX11_help 31 = .ok (.iload_n 2, 1) := by decide +kernel
theorem dX11_help_32 : decode cX11_help 32 = .ok (.i2l, 1) := by decide +kernel
theorem dX11_help_33 : decode cX11_help 33 = .ok (.iload_n 1, 1) := by decide +kernel
theorem dX11_help_34 : decode cX11_help 34 = .ok (.i2l, 1) := by decide +kernel
theorem dX11_help_35 : decode cX11_help 35 = .ok (.lmul, 1) := by decide +kernel
theorem dX11_help_36 : decode cX11_help 36 = .ok (.iload_n 1, 1) := by decide +kernel
theorem dX11_help_37 : decode cX11_help 37 = .ok (.iconst 1, 1) := by decide +kernel
theorem dX11_help_38 : decode cX11_help 38 = .ok (.iadd, 1) := by decide +kernel
theorem dX11_help_39 : decode cX11_help 39 = .ok (.i2l, 1) := by decide +kernel
theorem dX11_help_40 : decode cX11_help 40 = .ok (.iload_n 3, 1) := by decide +kernel
theorem dX11_help_41 : decode cX11_help 41 = .ok (.invokestatic 146, 3) := by decide +kernel
theorem dX11_help_44 : decode cX11_help 44 = .ok (.goto 8, 3) := by decide +kernel
theorem dX11_help_47 : decode cX11_help 47 = .ok (.bipush (-2), 2) := by decide +kernel
theorem dX11_help_49 : decode cX11_help 49 = .ok (.invokestatic 157, 3) := by decide +kernel
theorem dX11_help_52 : decode cX11_help 52 = .ok (.lreturn, 1) := by decide +kernel
theorem dX11_leastOf_0 : decode cX11_leastOf 0 = .ok (.iconst 1, 1) := by decide +kernel
theorem dX11_leastOf_1 : decode cX11_leastOf 1 = .ok (.istore_n 2, 1) := by decide +kernel
theorem dX11_leastOf_2 : decode cX11_leastOf 2 = .ok (.iload_n 2, 1) := by decide +kernel
theorem dX11_leastOf_3 : decode cX11_leastOf 3 = .ok (.bipush 7, 2) := by decide +kernel
theorem dX11_leastOf_5 : decode cX11_leastOf 5 = .ok (.if_icmp .ge 22, 3) := by decide +kernel
theorem dX11_leastOf_8 : decode cX11_leastOf 8 = .ok (.iload_n 1, 1) := by decide +kernel
theorem dX11_leastOf_9 : decode cX11_leastOf 9 = .ok (.iload_n 2, 1) := by decide +kernel
theorem dX11_leastOf_10 : decode cX11_leastOf 10 = .ok (.imul, 1) := by decide +kernel
theorem dX11_leastOf_11 : decode cX11_leastOf 11 = .ok (.iload_n 0, 1) := by decide +kernel
theorem dX11_leastOf_12 : decode cX11_leastOf 12 = .ok (.iload_n 2, 1) := by decide +kernel
theorem dX11_leastOf_13 : decode cX11_leastOf 13 = .ok (.iconst 1, 1) := by decide +kernel
theorem dX11_leastOf_14 : decode cX11_leastOf 14 = .ok (.iadd, 1) := by decide +kernel
theorem dX11_leastOf_15 : decode cX11_leastOf 15 = .ok (.imul, 1) := by decide +kernel
theorem dX11_leastOf_16 : decode cX11_leastOf 16 = .ok (.if_icmp .lt 5, 3) := by decide +kernel
theorem dX11_leastOf_19 : decode cX11_leastOf 19 = .ok (.iload_n 2, 1) := by decide +kernel
theorem dX11_leastOf_20 : decode cX11_leastOf 20 = .ok (.ireturn, 1) := by decide +kernel
theorem dX11_leastOf_21 : decode cX11_leastOf 21 = .ok (.iinc 2 1, 3) := by decide +kernel
theorem dX11_leastOf_24 : decode cX11_leastOf 24 = .ok (.goto (-22), 3) := by decide +kernel
theorem dX11_leastOf_27 : decode cX11_leastOf 27 = .ok (.iconst (-1), 1) := by decide +kernel
theorem dX11_leastOf_28 : decode cX11_leastOf 28 = .ok (.ireturn, 1) := by decide +kernel
theorem dX11_least_0 : decode cX11_least 0 = .ok (.iload_n 1, 1) := by decide +kernel
theorem dX11_least_1 : decode cX11_least 1 = .ok (.i2l, 1) := by decide +kernel
theorem dX11_least_2 : decode cX11_least 2 = .ok (.lconst 1, 1) := by decide +kernel
theorem dX11_least_3 : decode cX11_least 3 = .ok (.ldc2_w 135, 3) := by decide +kernel
theorem dX11_least_6 : decode cX11_least 6 = .ok (.invokestatic 62, 3) := by decide +kernel
theorem dX11_least_9 : decode cX11_least 9 = .ok (.ifCond .eq 23, 3) := by decide +kernel
theorem dX11_least_12 : decode cX11_least 12 = .ok (.iload_n 2, 1) := by decide +kernel
theorem dX11_least_13 : decode cX11_least 13 = .ok (.i2l, 1) := by decide +kernel
theorem dX11_least_14 : decode cX11_least 14 = .ok (.lconst 1, 1) := by decide +kernel
theorem dX11_least_15 : decode cX11_least 15 = .ok (.ldc2_w 135, 3) := by decide +kernel
theorem dX11_least_18 : decode cX11_least 18 = .ok (.invokestatic 62, 3) := by decide +kernel
theorem dX11_least_21 : decode cX11_least 21 = .ok (.ifCond .eq 11, 3) := by decide +kernel
theorem dX11_least_24 : decode cX11_least 24 = .ok (.iload_n 1, 1) := by decide +kernel
theorem dX11_least_25 : decode cX11_least 25 = .ok (.iload_n 2, 1) := by decide +kernel
theorem dX11_least_26 : decode cX11_least 26 = .ok (.invokestatic 232, 3) := by decide +kernel
theorem dX11_least_29 : decode cX11_least 29 = .ok (.goto 5, 3) := by decide +kernel
theorem dX11_least_32 : decode cX11_least 32 = .ok (.bipush (-2), 2) := by decide +kernel
theorem dX11_least_34 : decode cX11_least 34 = .ok (.ireturn, 1) := by decide +kernel
theorem dX11_sixteenths_0 : decode cX11_sixteenths 0 = .ok (.iconst 0, 1) := by decide +kernel
theorem dX11_sixteenths_1 : decode cX11_sixteenths 1 = .ok (.istore_n 1, 1) := by decide +kernel
theorem dX11_sixteenths_2 : decode cX11_sixteenths 2 = .ok (.iconst 0, 1) := by decide +kernel
theorem dX11_sixteenths_3 : decode cX11_sixteenths 3 = .ok (.istore_n 2, 1) := by decide +kernel
theorem dX11_sixteenths_4 : decode cX11_sixteenths 4 = .ok (.iload_n 2, 1) := by decide +kernel
theorem dX11_sixteenths_5 : decode cX11_sixteenths 5 = .ok (.aload_n 0, 1) := by decide +kernel
theorem dX11_sixteenths_6 : decode cX11_sixteenths 6 = .ok (.getfield 235, 3) := by decide +kernel
theorem dX11_sixteenths_9 : decode cX11_sixteenths 9 = .ok (.if_icmp .ge 20, 3) := by decide +kernel
theorem dX11_sixteenths_12 : decode cX11_sixteenths 12 = .ok (.iload_n 1, 1) := by decide +kernel
theorem dX11_sixteenths_13 : decode cX11_sixteenths 13 = .ok (.aload_n 0, 1) := by decide +kernel
theorem dX11_sixteenths_14 : decode cX11_sixteenths 14 = .ok (.getfield 47, 3) := by decide +kernel
theorem dX11_sixteenths_17 : decode cX11_sixteenths 17 = .ok (.iconst 2, 1) := by decide +kernel
theorem dX11_sixteenths_18 : decode cX11_sixteenths 18 = .ok (.iload_n 2, 1) := by decide +kernel
theorem dX11_sixteenths_19 : decode cX11_sixteenths 19 = .ok (.imul, 1) := by decide +kernel
theorem dX11_sixteenths_20 : decode cX11_sixteenths 20 = .ok (.iaload, 1) := by decide +kernel
theorem dX11_sixteenths_21 : decode cX11_sixteenths 21 = .ok (.iadd, 1) := by decide +kernel
theorem dX11_sixteenths_22 : decode cX11_sixteenths 22 = .ok (.istore_n 1, 1) := by decide +kernel
theorem dX11_sixteenths_23 : decode cX11_sixteenths 23 = .ok (.iinc 2 1, 3) := by decide +kernel
theorem dX11_sixteenths_26 : decode cX11_sixteenths 26 = .ok (.goto (-22), 3) := by decide +kernel
theorem dX11_sixteenths_29 : decode cX11_sixteenths 29 = .ok (.iload_n 1, 1) := by decide +kernel
theorem dX11_sixteenths_30 : decode cX11_sixteenths 30 = .ok (.ireturn, 1) := by decide +kernel
theorem dX11_side_0 : decode cX11_side 0 = .ok (.iload_n 1, 1) := by decide +kernel
theorem dX11_side_1 : decode cX11_side 1 = .ok (.i2l, 1) := by decide +kernel
theorem dX11_side_2 : decode cX11_side 2 = .ok (.lconst 0, 1) := by decide +kernel
theorem dX11_side_3 : decode cX11_side 3 = .ok (.ldc2_w 238, 3) := by decide +kernel
theorem dX11_side_6 : decode cX11_side 6 = .ok (.invokestatic 62, 3) := by decide +kernel
theorem dX11_side_9 : decode cX11_side 9 = .ok (.ifCond .eq 15, 3) := by decide +kernel
theorem dX11_side_12 : decode cX11_side 12 = .ok (.iload_n 2, 1) := by decide +kernel
theorem dX11_side_13 : decode cX11_side 13 = .ok (.i2l, 1) := by decide +kernel
theorem dX11_side_14 : decode cX11_side 14 = .ok (.lconst 1, 1) := by decide +kernel
theorem dX11_side_15 : decode cX11_side 15 = .ok (.ldc2_w 240, 3) := by decide +kernel
theorem dX11_side_18 : decode cX11_side 18 = .ok (.invokestatic 62, 3) := by decide +kernel
theorem dX11_side_21 : decode cX11_side 21 = .ok (.ifCond .ne 6, 3) := by decide +kernel
theorem dX11_side_24 : decode cX11_side 24 = .ok (.bipush (-2), 2) := by decide +kernel
theorem dX11_side_26 : decode cX11_side 26 = .ok (.ireturn, 1) := by decide +kernel
theorem dX11_side_27 : decode cX11_side 27 = .ok (.aload_n 0, 1) := by decide +kernel
theorem dX11_side_28 : decode cX11_side 28 = .ok (.getfield 235, 3) := by decide +kernel
theorem dX11_side_31 : decode cX11_side 31 = .ok (.bipush 6, 2) := by decide +kernel
theorem dX11_side_33 : decode cX11_side 33 = .ok (.if_icmp .eq 14, 3) := by decide +kernel
theorem dX11_side_36 : decode cX11_side 36 = .ok (.aload_n 0, 1) := by decide +kernel
theorem dX11_side_37 : decode cX11_side 37 = .ok (.invokevirtual 242, 3) := by decide +kernel
theorem dX11_side_40 : decode cX11_side 40 = .ok (.iload_n 1, 1) := by decide +kernel
theorem dX11_side_41 : decode cX11_side 41 = .ok (.iadd, 1) := by decide +kernel
theorem dX11_side_42 : decode cX11_side 42 = .ok (.bipush 16, 2) := by decide +kernel
theorem dX11_side_44 : decode cX11_side 44 = .ok (.if_icmp .le 6, 3) := by decide +kernel
theorem dX11_side_47 : decode cX11_side 47 = .ok (.bipush (-4), 2) := by decide +kernel
theorem dX11_side_49 : decode cX11_side 49 = .ok (.ireturn, 1) := by decide +kernel
theorem dX11_side_50 : decode cX11_side 50 = .ok (.aload_n 0, 1) := by decide +kernel
theorem dX11_side_51 : decode cX11_side 51 = .ok (.getfield 47, 3) := by decide +kernel
theorem dX11_side_54 : decode cX11_side 54 = .ok (.iconst 2, 1) := by decide +kernel
theorem dX11_side_55 : decode cX11_side 55 = .ok (.aload_n 0, 1) := by decide +kernel
theorem dX11_side_56 : decode cX11_side 56 = .ok (.getfield 235, 3) := by decide +kernel
theorem dX11_side_59 : decode cX11_side 59 = .ok (.imul, 1) := by decide +kernel
theorem dX11_side_60 : decode cX11_side 60 = .ok (.iload_n 1, 1) := by decide +kernel
theorem dX11_side_61 : decode cX11_side 61 = .ok (.iastore, 1) := by decide +kernel
theorem dX11_side_62 : decode cX11_side 62 = .ok (.aload_n 0, 1) := by decide +kernel
theorem dX11_side_63 : decode cX11_side 63 = .ok (.getfield 47, 3) := by decide +kernel
theorem dX11_side_66 : decode cX11_side 66 = .ok (.iconst 2, 1) := by decide +kernel
theorem dX11_side_67 : decode cX11_side 67 = .ok (.aload_n 0, 1) := by decide +kernel
theorem dX11_side_68 : decode cX11_side 68 = .ok (.getfield 235, 3) := by decide +kernel
theorem dX11_side_71 : decode cX11_side 71 = .ok (.imul, 1) := by decide +kernel
theorem dX11_side_72 : decode cX11_side 72 = .ok (.iconst 1, 1) := by decide +kernel
theorem dX11_side_73 : decode cX11_side 73 = .ok (.iadd, 1) := by decide +kernel
theorem dX11_side_74 : decode cX11_side 74 = .ok (.iload_n 2, 1) := by decide +kernel
theorem dX11_side_75 : decode cX11_side 75 = .ok (.iastore, 1) := by decide +kernel
theorem dX11_side_76 : decode cX11_side 76 = .ok (.aload_n 0, 1) := by decide +kernel
theorem dX11_side_77 : decode cX11_side 77 = .ok (.dup, 1) := by decide +kernel
theorem dX11_side_78 : decode cX11_side 78 = .ok (.getfield 235, 3) := by decide +kernel
theorem dX11_side_81 : decode cX11_side 81 = .ok (.iconst 1, 1) := by decide +kernel
theorem dX11_side_82 : decode cX11_side 82 = .ok (.iadd, 1) := by decide +kernel
theorem dX11_side_83 : decode cX11_side 83 = .ok (.putfield 235, 3) := by decide +kernel
theorem dX11_side_86 : decode cX11_side 86 = .ok (.aload_n 0, 1) := by decide +kernel
theorem dX11_side_87 : decode cX11_side 87 = .ok (.getfield 235, 3) := by decide +kernel
theorem dX11_side_90 : decode cX11_side 90 = .ok (.ireturn, 1) := by decide +kernel
theorem dX11_gone_0 : decode cX11_gone 0 = .ok (.aload_n 0, 1) := by decide +kernel
theorem dX11_gone_1 : decode cX11_gone 1 = .ok (.getfield 235, 3) := by decide +kernel
theorem dX11_gone_4 : decode cX11_gone 4 = .ok (.ifCond .ne 6, 3) := by decide +kernel
theorem dX11_gone_7 : decode cX11_gone 7 = .ok (.bipush (-3), 2) := by decide +kernel
theorem dX11_gone_9 : decode cX11_gone 9 = .ok (.ireturn, 1) := by decide +kernel
theorem dX11_gone_10 : decode cX11_gone 10 = .ok (.aload_n 0, 1) := by decide +kernel
theorem dX11_gone_11 : decode cX11_gone 11 = .ok (.dup, 1) := by decide +kernel
theorem dX11_gone_12 : decode cX11_gone 12 = .ok (.getfield 235, 3) := by decide +kernel
theorem dX11_gone_15 : decode cX11_gone 15 = .ok (.iconst 1, 1) := by decide +kernel
theorem dX11_gone_16 : decode cX11_gone 16 = .ok (.isub, 1) := by decide +kernel
theorem dX11_gone_17 : decode cX11_gone 17 = .ok (.putfield 235, 3) := by decide +kernel
theorem dX11_gone_20 : decode cX11_gone 20 = .ok (.aload_n 0, 1) := by decide +kernel
theorem dX11_gone_21 : decode cX11_gone 21 = .ok (.getfield 235, 3) := by decide +kernel
theorem dX11_gone_24 : decode cX11_gone 24 = .ok (.ireturn, 1) := by decide +kernel
theorem dX11_findOrder_0 : decode cX11_findOrder 0 = .ok (.iconst 0, 1) := by decide +kernel
theorem dX11_findOrder_1 : decode cX11_findOrder 1 = .ok (.istore_n 1, 1) := by decide +kernel
theorem dX11_findOrder_2 : decode cX11_findOrder 2 = .ok (.iconst 0, 1) := by decide +kernel
theorem dX11_findOrder_3 : decode cX11_findOrder 3 = .ok (.istore_n 2, 1) := by decide +kernel
theorem dX11_findOrder_4 : decode cX11_findOrder 4 = .ok (.iload_n 2, 1) := by decide +kernel
theorem dX11_findOrder_5 : decode cX11_findOrder 5 = .ok (.aload_n 0, 1) := by decide +kernel
theorem dX11_findOrder_6 : decode cX11_findOrder 6 = .ok (.getfield 235, 3) := by decide +kernel
theorem dX11_findOrder_9 : decode cX11_findOrder 9 = .ok (.if_icmp .ge 118, 3) := by decide +kernel
theorem dX11_findOrder_12 : decode cX11_findOrder 12 = .ok (.iconst (-1), 1) := by decide +kernel
theorem dX11_findOrder_13 : decode cX11_findOrder 13 = .ok (.istore_n 3, 1) := by decide +kernel
theorem dX11_findOrder_14 : decode cX11_findOrder 14 = .ok (.iconst 0, 1) := by decide +kernel
theorem dX11_findOrder_15 : decode cX11_findOrder 15 = .ok (.istore 4, 2) := by decide +kernel
theorem dX11_findOrder_17 : decode cX11_findOrder 17 = .ok (.iload 4, 2) := by decide +kernel
theorem dX11_findOrder_19 : decode cX11_findOrder 19 = .ok (.aload_n 0, 1) := by decide +kernel
theorem dX11_findOrder_20 : decode cX11_findOrder 20 = .ok (.getfield 235, 3) := by decide +kernel
theorem dX11_findOrder_23 : decode cX11_findOrder 23 = .ok (.if_icmp .ge 85, 3) := by decide +kernel
theorem dX11_findOrder_26 : decode cX11_findOrder 26 = .ok (.iload_n 3, 1) := by decide +kernel
theorem dX11_findOrder_27 : decode cX11_findOrder 27 = .ok (.iconst (-1), 1) := by decide +kernel
theorem dX11_findOrder_28 : decode cX11_findOrder 28 = .ok (.if_icmp .eq 46, 3) := by decide +kernel
theorem dX11_findOrder_31 : decode cX11_findOrder 31 = .ok (.aload_n 0, 1) := by decide +kernel
theorem dX11_findOrder_32 : decode cX11_findOrder 32 = .ok (.getfield 47, 3) := by decide +kernel
theorem dX11_findOrder_35 : decode cX11_findOrder 35 = .ok (.iconst 2, 1) := by decide +kernel
theorem dX11_findOrder_36 : decode cX11_findOrder 36 = .ok (.iload 4, 2) := by decide +kernel
theorem dX11_findOrder_38 : decode cX11_findOrder 38 = .ok (.imul, 1) := by decide +kernel
theorem dX11_findOrder_39 : decode cX11_findOrder 39 = .ok (.iaload, 1) := by decide +kernel
theorem dX11_findOrder_40 : decode cX11_findOrder 40 = .ok (.aload_n 0, 1) := by decide +kernel
theorem dX11_findOrder_41 : decode cX11_findOrder 41 = .ok (.getfield 47, 3) := by decide +kernel
theorem dX11_findOrder_44 : decode cX11_findOrder 44 = .ok (.iconst 2, 1) := by decide +kernel
theorem dX11_findOrder_45 : decode cX11_findOrder 45 = .ok (.iload_n 3, 1) := by decide +kernel
theorem dX11_findOrder_46 : decode cX11_findOrder 46 = .ok (.imul, 1) := by decide +kernel
theorem dX11_findOrder_47 : decode cX11_findOrder 47 = .ok (.iconst 1, 1) := by decide +kernel
theorem dX11_findOrder_48 : decode cX11_findOrder 48 = .ok (.iadd, 1) := by decide +kernel
theorem dX11_findOrder_49 : decode cX11_findOrder 49 = .ok (.iaload, 1) := by decide +kernel
theorem dX11_findOrder_50 : decode cX11_findOrder 50 = .ok (.imul, 1) := by decide +kernel
theorem dX11_findOrder_51 : decode cX11_findOrder 51 = .ok (.aload_n 0, 1) := by decide +kernel
theorem dX11_findOrder_52 : decode cX11_findOrder 52 = .ok (.getfield 47, 3) := by decide +kernel
theorem dX11_findOrder_55 : decode cX11_findOrder 55 = .ok (.iconst 2, 1) := by decide +kernel
theorem dX11_findOrder_56 : decode cX11_findOrder 56 = .ok (.iload_n 3, 1) := by decide +kernel
theorem dX11_findOrder_57 : decode cX11_findOrder 57 = .ok (.imul, 1) := by decide +kernel
theorem dX11_findOrder_58 : decode cX11_findOrder 58 = .ok (.iaload, 1) := by decide +kernel
theorem dX11_findOrder_59 : decode cX11_findOrder 59 = .ok (.aload_n 0, 1) := by decide +kernel
theorem dX11_findOrder_60 : decode cX11_findOrder 60 = .ok (.getfield 47, 3) := by decide +kernel
theorem dX11_findOrder_63 : decode cX11_findOrder 63 = .ok (.iconst 2, 1) := by decide +kernel
theorem dX11_findOrder_64 : decode cX11_findOrder 64 = .ok (.iload 4, 2) := by decide +kernel
theorem dX11_findOrder_66 : decode cX11_findOrder 66 = .ok (.imul, 1) := by decide +kernel
theorem dX11_findOrder_67 : decode cX11_findOrder 67 = .ok (.iconst 1, 1) := by decide +kernel
theorem dX11_findOrder_68 : decode cX11_findOrder 68 = .ok (.iadd, 1) := by decide +kernel
theorem dX11_findOrder_69 : decode cX11_findOrder 69 = .ok (.iaload, 1) := by decide +kernel
theorem dX11_findOrder_70 : decode cX11_findOrder 70 = .ok (.imul, 1) := by decide +kernel
theorem dX11_findOrder_71 : decode cX11_findOrder 71 = .ok (.if_icmp .le 7, 3) := by decide +kernel
theorem dX11_findOrder_74 : decode cX11_findOrder 74 = .ok (.iconst 1, 1) := by decide +kernel
theorem dX11_findOrder_75 : decode cX11_findOrder 75 = .ok (.goto 4, 3) := by decide +kernel
theorem dX11_findOrder_78 : decode cX11_findOrder 78 = .ok (.iconst 0, 1) := by decide +kernel
theorem dX11_findOrder_79 : decode cX11_findOrder 79 = .ok (.istore 5, 2) := by decide +kernel
theorem dX11_findOrder_81 : decode cX11_findOrder 81 = .ok (.iload_n 1, 1) := by decide +kernel
theorem dX11_findOrder_82 : decode cX11_findOrder 82 = .ok (.iload 4, 2) := by decide +kernel
theorem dX11_findOrder_84 : decode cX11_findOrder 84 = .ok (.invokestatic 222, 3) := by decide +kernel
theorem dX11_findOrder_87 : decode cX11_findOrder 87 = .ok (.ifCond .ne 13, 3) := by decide +kernel
theorem dX11_findOrder_90 : decode cX11_findOrder 90 = .ok (.iload 5, 2) := by decide +kernel
theorem dX11_findOrder_92 : decode cX11_findOrder 92 = .ok (.ifCond .eq 8, 3) := by decide +kernel
theorem dX11_findOrder_95 : decode cX11_findOrder 95 = .ok (.iload 4, 2) := by decide +kernel
theorem dX11_findOrder_97 : decode cX11_findOrder 97 = .ok (.goto 4, 3) := by decide +kernel
theorem dX11_findOrder_100 : decode cX11_findOrder 100 = .ok (.iload_n 3, 1) := by decide +kernel
theorem dX11_findOrder_101 : decode cX11_findOrder 101 = .ok (.istore_n 3, 1) := by decide +kernel
theorem dX11_findOrder_102 : decode cX11_findOrder 102 = .ok (.iinc 4 1, 3) := by decide +kernel
theorem dX11_findOrder_105 : decode cX11_findOrder 105 = .ok (.goto (-88), 3) := by decide +kernel
theorem dX11_findOrder_108 : decode cX11_findOrder 108 = .ok (.aload_n 0, 1) := by decide +kernel
theorem dX11_findOrder_109 : decode cX11_findOrder 109 = .ok (.getfield 50, 3) := by decide +kernel
theorem dX11_findOrder_112 : decode cX11_findOrder 112 = .ok (.iload_n 2, 1) := by decide +kernel
theorem dX11_findOrder_113 : decode cX11_findOrder 113 = .ok (.iload_n 3, 1) := by decide +kernel
theorem dX11_findOrder_114 : decode cX11_findOrder 114 = .ok (.iastore, 1) := by decide +kernel
theorem dX11_findOrder_115 : decode cX11_findOrder 115 = .ok (.iload_n 1, 1) := by decide +kernel
theorem dX11_findOrder_116 : decode cX11_findOrder 116 = .ok (.iconst 1, 1) := by decide +kernel
theorem dX11_findOrder_117 : decode cX11_findOrder 117 = .ok (.iload_n 3, 1) := by decide +kernel
theorem dX11_findOrder_118 : decode cX11_findOrder 118 = .ok (.ishl, 1) := by decide +kernel
theorem dX11_findOrder_119 : decode cX11_findOrder 119 = .ok (.ior, 1) := by decide +kernel
theorem dX11_findOrder_120 : decode cX11_findOrder 120 = .ok (.istore_n 1, 1) := by decide +kernel
theorem dX11_findOrder_121 : decode cX11_findOrder 121 = .ok (.iinc 2 1, 3) := by decide +kernel
theorem dX11_findOrder_124 : decode cX11_findOrder 124 = .ok (.goto (-120), 3) := by decide +kernel
theorem dX11_findOrder_127 : decode cX11_findOrder 127 = .ok (.return_, 1) := by decide +kernel
theorem dX11_firstOf_0 : decode cX11_firstOf 0 = .ok (.aload_n 0, 1) := by decide +kernel
theorem dX11_firstOf_1 : decode cX11_firstOf 1 = .ok (.invokevirtual 245, 3) := by decide +kernel
theorem dX11_firstOf_4 : decode cX11_firstOf 4 = .ok (.iload_n 1, 1) := by decide +kernel
theorem dX11_firstOf_5 : decode cX11_firstOf 5 = .ok (.aload_n 0, 1) := by decide +kernel
theorem dX11_firstOf_6 : decode cX11_firstOf 6 = .ok (.getfield 235, 3) := by decide +kernel
theorem dX11_firstOf_9 : decode cX11_firstOf 9 = .ok (.if_icmp .ge 12, 3) := by decide +kernel
theorem dX11_firstOf_12 : decode cX11_firstOf 12 = .ok (.aload_n 0, 1) := by decide +kernel
theorem dX11_firstOf_13 : decode cX11_firstOf 13 = .ok (.getfield 50, 3) := by decide +kernel
theorem dX11_firstOf_16 : decode cX11_firstOf 16 = .ok (.iload_n 1, 1) := by decide +kernel
theorem dX11_firstOf_17 : decode cX11_firstOf 17 = .ok (.iaload, 1) := by decide +kernel
theorem dX11_firstOf_18 : decode cX11_firstOf 18 = .ok (.goto 4, 3) := by decide +kernel
theorem dX11_firstOf_21 : decode cX11_firstOf 21 = .ok (.iconst (-1), 1) := by decide +kernel
theorem dX11_firstOf_22 : decode cX11_firstOf 22 = .ok (.ireturn, 1) := by decide +kernel
theorem dX11_first_0 : decode cX11_first 0 = .ok (.iload_n 1, 1) := by decide +kernel
theorem dX11_first_1 : decode cX11_first 1 = .ok (.i2l, 1) := by decide +kernel
theorem dX11_first_2 : decode cX11_first 2 = .ok (.lconst 0, 1) := by decide +kernel
theorem dX11_first_3 : decode cX11_first 3 = .ok (.ldc2_w 248, 3) := by decide +kernel
theorem dX11_first_6 : decode cX11_first 6 = .ok (.invokestatic 62, 3) := by decide +kernel
theorem dX11_first_9 : decode cX11_first 9 = .ok (.ifCond .eq 11, 3) := by decide +kernel
theorem dX11_first_12 : decode cX11_first 12 = .ok (.aload_n 0, 1) := by decide +kernel
theorem dX11_first_13 : decode cX11_first 13 = .ok (.iload_n 1, 1) := by decide +kernel
theorem dX11_first_14 : decode cX11_first 14 = .ok (.invokevirtual 250, 3) := by decide +kernel
theorem dX11_first_17 : decode cX11_first 17 = .ok (.goto 5, 3) := by decide +kernel
theorem dX11_first_20 : decode cX11_first 20 = .ok (.bipush (-2), 2) := by decide +kernel
theorem dX11_first_22 : decode cX11_first 22 = .ok (.ireturn, 1) := by decide +kernel
theorem dX11_meanOf_0 : decode cX11_meanOf 0 = .ok (.aload_n 0, 1) := by decide +kernel
theorem dX11_meanOf_1 : decode cX11_meanOf 1 = .ok (.invokevirtual 245, 3) := by decide +kernel
theorem dX11_meanOf_4 : decode cX11_meanOf 4 = .ok (.lconst 0, 1) := by decide +kernel
theorem dX11_meanOf_5 : decode cX11_meanOf 5 = .ok (.lstore_n 2, 1) := by decide +kernel
theorem dX11_meanOf_6 : decode cX11_meanOf 6 = .ok (.iconst 0, 1) := by decide +kernel
theorem dX11_meanOf_7 : decode cX11_meanOf 7 = .ok (.istore 4, 2) := by decide +kernel
theorem dX11_meanOf_9 : decode cX11_meanOf 9 = .ok (.iconst 0, 1) := by decide +kernel
theorem dX11_meanOf_10 : decode cX11_meanOf 10 = .ok (.istore 5, 2) := by decide +kernel
theorem dX11_meanOf_12 : decode cX11_meanOf 12 = .ok (.iload 5, 2) := by decide +kernel
theorem dX11_meanOf_14 : decode cX11_meanOf 14 = .ok (.aload_n 0, 1) := by decide +kernel
theorem dX11_meanOf_15 : decode cX11_meanOf 15 = .ok (.getfield 235, 3) := by decide +kernel
theorem dX11_meanOf_18 : decode cX11_meanOf 18 = .ok (.if_icmp .ge 51, 3) := by decide +kernel
theorem dX11_meanOf_21 : decode cX11_meanOf 21 = .ok (.iload 4, 2) := by decide +kernel
theorem dX11_meanOf_23 : decode cX11_meanOf 23 = .ok (.aload_n 0, 1) := by decide +kernel
theorem dX11_meanOf_24 : decode cX11_meanOf 24 = .ok (.getfield 47, 3) := by decide +kernel
theorem dX11_meanOf_27 : decode cX11_meanOf 27 = .ok (.iconst 2, 1) := by decide +kernel
theorem dX11_meanOf_28 : decode cX11_meanOf 28 = .ok (.aload_n 0, 1) := by decide +kernel
theorem dX11_meanOf_29 : decode cX11_meanOf 29 = .ok (.getfield 50, 3) := by decide +kernel
theorem dX11_meanOf_32 : decode cX11_meanOf 32 = .ok (.iload 5, 2) := by decide +kernel
theorem dX11_meanOf_34 : decode cX11_meanOf 34 = .ok (.iaload, 1) := by decide +kernel
theorem dX11_meanOf_35 : decode cX11_meanOf 35 = .ok (.imul, 1) := by decide +kernel
theorem dX11_meanOf_36 : decode cX11_meanOf 36 = .ok (.iconst 1, 1) := by decide +kernel
theorem dX11_meanOf_37 : decode cX11_meanOf 37 = .ok (.iadd, 1) := by decide +kernel
theorem dX11_meanOf_38 : decode cX11_meanOf 38 = .ok (.iaload, 1) := by decide +kernel
theorem dX11_meanOf_39 : decode cX11_meanOf 39 = .ok (.iadd, 1) := by decide +kernel
theorem dX11_meanOf_40 : decode cX11_meanOf 40 = .ok (.istore 4, 2) := by decide +kernel
theorem dX11_meanOf_42 : decode cX11_meanOf 42 = .ok (.lload_n 2, 1) := by decide +kernel
theorem dX11_meanOf_43 : decode cX11_meanOf 43 = .ok (.aload_n 0, 1) := by decide +kernel
theorem dX11_meanOf_44 : decode cX11_meanOf 44 = .ok (.getfield 47, 3) := by decide +kernel
theorem dX11_meanOf_47 : decode cX11_meanOf 47 = .ok (.iconst 2, 1) := by decide +kernel
theorem dX11_meanOf_48 : decode cX11_meanOf 48 = .ok (.aload_n 0, 1) := by decide +kernel
theorem dX11_meanOf_49 : decode cX11_meanOf 49 = .ok (.getfield 50, 3) := by decide +kernel
theorem dX11_meanOf_52 : decode cX11_meanOf 52 = .ok (.iload 5, 2) := by decide +kernel
theorem dX11_meanOf_54 : decode cX11_meanOf 54 = .ok (.iaload, 1) := by decide +kernel
theorem dX11_meanOf_55 : decode cX11_meanOf 55 = .ok (.imul, 1) := by decide +kernel
theorem dX11_meanOf_56 : decode cX11_meanOf 56 = .ok (.iaload, 1) := by decide +kernel
theorem dX11_meanOf_57 : decode cX11_meanOf 57 = .ok (.iload 4, 2) := by decide +kernel
theorem dX11_meanOf_59 : decode cX11_meanOf 59 = .ok (.imul, 1) := by decide +kernel
theorem dX11_meanOf_60 : decode cX11_meanOf 60 = .ok (.i2l, 1) := by decide +kernel
theorem dX11_meanOf_61 : decode cX11_meanOf 61 = .ok (.ladd, 1) := by decide +kernel
theorem dX11_meanOf_62 : decode cX11_meanOf 62 = .ok (.lstore_n 2, 1) := by decide +kernel
theorem dX11_meanOf_63 : decode cX11_meanOf 63 = .ok (.iinc 5 1, 3) := by decide +kernel
theorem dX11_meanOf_66 : decode cX11_meanOf 66 = .ok (.goto (-54), 3) := by decide +kernel
theorem dX11_meanOf_69 : decode cX11_meanOf 69 = .ok (.lload_n 2, 1) := by decide +kernel
theorem dX11_meanOf_70 : decode cX11_meanOf 70 = .ok (.bipush 16, 2) := by decide +kernel
theorem dX11_meanOf_72 : decode cX11_meanOf 72 = .ok (.aload_n 0, 1) := by decide +kernel
theorem dX11_meanOf_73 : decode cX11_meanOf 73 = .ok (.invokevirtual 242, 3) := by decide +kernel
theorem dX11_meanOf_76 : decode cX11_meanOf 76 = .ok (.isub, 1) := by decide +kernel
theorem dX11_meanOf_77 : decode cX11_meanOf 77 = .ok (.iload 4, 2) := by decide +kernel
theorem dX11_meanOf_79 : decode cX11_meanOf 79 = .ok (.imul, 1) := by decide +kernel
theorem dX11_meanOf_80 : decode cX11_meanOf 80 = .ok (.i2l, 1) := by decide +kernel
theorem dX11_meanOf_81 : decode cX11_meanOf 81 = .ok (.ladd, 1) := by decide +kernel
theorem dX11_meanOf_82 : decode cX11_meanOf 82 = .ok (.ldc2_w 238, 3) := by decide +kernel
theorem dX11_meanOf_85 : decode cX11_meanOf 85 = .ok (.iload_n 1, 1) := by decide +kernel
theorem dX11_meanOf_86 : decode cX11_meanOf 86 = .ok (.invokestatic 146, 3) := by decide +kernel
theorem dX11_meanOf_89 : decode cX11_meanOf 89 = .ok (.lreturn, 1) := by decide +kernel
theorem dX11_mean_0 : decode cX11_mean 0 = .ok (.iload_n 1, 1) := by decide +kernel
theorem dX11_mean_1 : decode cX11_mean 1 = .ok (.invokestatic 90, 3) := by decide +kernel
theorem dX11_mean_4 : decode cX11_mean 4 = .ok (.ifCond .eq 11, 3) := by decide +kernel
theorem dX11_mean_7 : decode cX11_mean 7 = .ok (.aload_n 0, 1) := by decide +kernel
theorem dX11_mean_8 : decode cX11_mean 8 = .ok (.iload_n 1, 1) := by decide +kernel
theorem dX11_mean_9 : decode cX11_mean 9 = .ok (.invokevirtual 253, 3) := by decide +kernel
theorem dX11_mean_12 : decode cX11_mean 12 = .ok (.goto 8, 3) := by decide +kernel
theorem dX11_mean_15 : decode cX11_mean 15 = .ok (.bipush (-2), 2) := by decide +kernel
theorem dX11_mean_17 : decode cX11_mean 17 = .ok (.invokestatic 157, 3) := by decide +kernel
theorem dX11_mean_20 : decode cX11_mean 20 = .ok (.lreturn, 1) := by decide +kernel
theorem dX11_can_0 : decode cX11_can 0 = .ok (.iload_n 1, 1) := by decide +kernel
theorem dX11_can_1 : decode cX11_can 1 = .ok (.i2l, 1) := by decide +kernel
theorem dX11_can_2 : decode cX11_can 2 = .ok (.lconst 0, 1) := by decide +kernel
theorem dX11_can_3 : decode cX11_can 3 = .ok (.ldc2_w 238, 3) := by decide +kernel
theorem dX11_can_6 : decode cX11_can 6 = .ok (.invokestatic 62, 3) := by decide +kernel
theorem dX11_can_9 : decode cX11_can 9 = .ok (.ifCond .eq 35, 3) := by decide +kernel
theorem dX11_can_12 : decode cX11_can 12 = .ok (.iload_n 2, 1) := by decide +kernel
theorem dX11_can_13 : decode cX11_can 13 = .ok (.i2l, 1) := by decide +kernel
theorem dX11_can_14 : decode cX11_can 14 = .ok (.lconst 0, 1) := by decide +kernel
theorem dX11_can_15 : decode cX11_can 15 = .ok (.ldc2_w 69, 3) := by decide +kernel
theorem dX11_can_18 : decode cX11_can 18 = .ok (.invokestatic 62, 3) := by decide +kernel
theorem dX11_can_21 : decode cX11_can 21 = .ok (.ifCond .eq 23, 3) := by decide +kernel
theorem dX11_can_24 : decode cX11_can 24 = .ok (.iload_n 3, 1) := by decide +kernel
theorem dX11_can_25 : decode cX11_can 25 = .ok (.i2l, 1) := by decide +kernel
theorem dX11_can_26 : decode cX11_can 26 = .ok (.lconst 0, 1) := by decide +kernel
theorem dX11_can_27 : decode cX11_can 27 = .ok (.ldc2_w 135, 3) := by decide +kernel
theorem dX11_can_30 : decode cX11_can 30 = .ok (.invokestatic 62, 3) := by decide +kernel
theorem dX11_can_33 : decode cX11_can 33 = .ok (.ifCond .eq 11, 3) := by decide +kernel
theorem dX11_can_36 : decode cX11_can 36 = .ok (.iload 4, 2) := by decide +kernel
theorem dX11_can_38 : decode cX11_can 38 = .ok (.invokestatic 90, 3) := by decide +kernel
theorem dX11_can_41 : decode cX11_can 41 = .ok (.ifCond .ne 6, 3) := by decide +kernel
theorem dX11_can_44 : decode cX11_can 44 = .ok (.bipush (-2), 2) := by decide +kernel
theorem dX11_can_46 : decode cX11_can 46 = .ok (.ireturn, 1) := by decide +kernel
theorem dX11_can_47 : decode cX11_can 47 = .ok (.aload_n 0, 1) := by decide +kernel
theorem dX11_can_48 : decode cX11_can 48 = .ok (.getfield 256, 3) := by decide +kernel
theorem dX11_can_51 : decode cX11_can 51 = .ok (.bipush 6, 2) := by decide +kernel
theorem dX11_can_53 : decode cX11_can 53 = .ok (.if_icmp .ne 6, 3) := by decide +kernel
theorem dX11_can_56 : decode cX11_can 56 = .ok (.bipush (-4), 2) := by decide +kernel
theorem dX11_can_58 : decode cX11_can 58 = .ok (.ireturn, 1) := by decide +kernel
theorem dX11_can_59 : decode cX11_can 59 = .ok (.aload_n 0, 1) := by decide +kernel
theorem dX11_can_60 : decode cX11_can 60 = .ok (.getfield 53, 3) := by decide +kernel
theorem dX11_can_63 : decode cX11_can 63 = .ok (.iconst 4, 1) := by decide +kernel
theorem dX11_can_64 : decode cX11_can 64 = .ok (.aload_n 0, 1) := by decide +kernel
theorem dX11_can_65 : decode cX11_can 65 = .ok (.getfield 256, 3) := by decide +kernel
theorem dX11_can_68 : decode cX11_can 68 = .ok (.imul, 1) := by decide +kernel
theorem dX11_can_69 : decode cX11_can 69 = .ok (.iload_n 1, 1) := by decide +kernel
theorem dX11_can_70 : decode cX11_can 70 = .ok (.iastore, 1) := by decide +kernel
theorem dX11_can_71 : decode cX11_can 71 = .ok (.aload_n 0, 1) := by decide +kernel
theorem dX11_can_72 : decode cX11_can 72 = .ok (.getfield 53, 3) := by decide +kernel
theorem dX11_can_75 : decode cX11_can 75 = .ok (.iconst 4, 1) := by decide +kernel
theorem dX11_can_76 : decode cX11_can 76 = .ok (.aload_n 0, 1) := by decide +kernel
theorem dX11_can_77 : decode cX11_can 77 = .ok (.getfield 256, 3) := by decide +kernel
theorem dX11_can_80 : decode cX11_can 80 = .ok (.imul, 1) := by decide +kernel
theorem dX11_can_81 : decode cX11_can 81 = .ok (.iconst 1, 1) := by decide +kernel
theorem dX11_can_82 : decode cX11_can 82 = .ok (.iadd, 1) := by decide +kernel
theorem dX11_can_83 : decode cX11_can 83 = .ok (.iload_n 2, 1) := by decide +kernel
theorem dX11_can_84 : decode cX11_can 84 = .ok (.iastore, 1) := by decide +kernel
theorem dX11_can_85 : decode cX11_can 85 = .ok (.aload_n 0, 1) := by decide +kernel
theorem dX11_can_86 : decode cX11_can 86 = .ok (.getfield 53, 3) := by decide +kernel
theorem dX11_can_89 : decode cX11_can 89 = .ok (.iconst 4, 1) := by decide +kernel
theorem dX11_can_90 : decode cX11_can 90 = .ok (.aload_n 0, 1) := by decide +kernel
theorem dX11_can_91 : decode cX11_can 91 = .ok (.getfield 256, 3) := by decide +kernel
theorem dX11_can_94 : decode cX11_can 94 = .ok (.imul, 1) := by decide +kernel
theorem dX11_can_95 : decode cX11_can 95 = .ok (.iconst 2, 1) := by decide +kernel
theorem dX11_can_96 : decode cX11_can 96 = .ok (.iadd, 1) := by decide +kernel
theorem dX11_can_97 : decode cX11_can 97 = .ok (.iload_n 3, 1) := by decide +kernel
theorem dX11_can_98 : decode cX11_can 98 = .ok (.iastore, 1) := by decide +kernel
theorem dX11_can_99 : decode cX11_can 99 = .ok (.aload_n 0, 1) := by decide +kernel
theorem dX11_can_100 : decode cX11_can 100 = .ok (.getfield 53, 3) := by decide +kernel
theorem dX11_can_103 : decode cX11_can 103 = .ok (.iconst 4, 1) := by decide +kernel
theorem dX11_can_104 : decode cX11_can 104 = .ok (.aload_n 0, 1) := by decide +kernel
theorem dX11_can_105 : decode cX11_can 105 = .ok (.getfield 256, 3) := by decide +kernel
theorem dX11_can_108 : decode cX11_can 108 = .ok (.imul, 1) := by decide +kernel
theorem dX11_can_109 : decode cX11_can 109 = .ok (.iconst 3, 1) := by decide +kernel
theorem dX11_can_110 : decode cX11_can 110 = .ok (.iadd, 1) := by decide +kernel
theorem dX11_can_111 : decode cX11_can 111 = .ok (.iload 4, 2) := by decide +kernel
theorem dX11_can_113 : decode cX11_can 113 = .ok (.iastore, 1) := by decide +kernel
theorem dX11_can_114 : decode cX11_can 114 = .ok (.aload_n 0, 1) := by decide +kernel
theorem dX11_can_115 : decode cX11_can 115 = .ok (.dup, 1) := by decide +kernel
theorem dX11_can_116 : decode cX11_can 116 = .ok (.getfield 256, 3) := by decide +kernel
theorem dX11_can_119 : decode cX11_can 119 = .ok (.iconst 1, 1) := by decide +kernel
theorem dX11_can_120 : decode cX11_can 120 = .ok (.iadd, 1) := by decide +kernel
theorem dX11_can_121 : decode cX11_can 121 = .ok (.putfield 256, 3) := by decide +kernel
theorem dX11_can_124 : decode cX11_can 124 = .ok (.aload_n 0, 1) := by decide +kernel
theorem dX11_can_125 : decode cX11_can 125 = .ok (.getfield 256, 3) := by decide +kernel
theorem dX11_can_128 : decode cX11_can 128 = .ok (.ireturn, 1) := by decide +kernel
theorem dX11_forget_0 : decode cX11_forget 0 = .ok (.aload_n 0, 1) := by decide +kernel
theorem dX11_forget_1 : decode cX11_forget 1 = .ok (.getfield 256, 3) := by decide +kernel
theorem dX11_forget_4 : decode cX11_forget 4 = .ok (.istore_n 1, 1) := by decide +kernel
theorem dX11_forget_5 : decode cX11_forget 5 = .ok (.aload_n 0, 1) := by decide +kernel
theorem dX11_forget_6 : decode cX11_forget 6 = .ok (.iconst 0, 1) := by decide +kernel
theorem dX11_forget_7 : decode cX11_forget 7 = .ok (.putfield 256, 3) := by decide +kernel
theorem dX11_forget_10 : decode cX11_forget 10 = .ok (.iload_n 1, 1) := by decide +kernel
theorem dX11_forget_11 : decode cX11_forget 11 = .ok (.ireturn, 1) := by decide +kernel
theorem dX11_between_0 : decode cX11_between 0 = .ok (.iconst 0, 1) := by decide +kernel
theorem dX11_between_1 : decode cX11_between 1 = .ok (.istore 4, 2) := by decide +kernel
theorem dX11_between_3 : decode cX11_between 3 = .ok (.iload_n 1, 1) := by decide +kernel
theorem dX11_between_4 : decode cX11_between 4 = .ok (.istore 5, 2) := by decide +kernel
theorem dX11_between_6 : decode cX11_between 6 = .ok (.iload 5, 2) := by decide +kernel
theorem dX11_between_8 : decode cX11_between 8 = .ok (.iload_n 2, 1) := by decide +kernel
theorem dX11_between_9 : decode cX11_between 9 = .ok (.if_icmp .ge 25, 3) := by decide +kernel
theorem dX11_between_12 : decode cX11_between 12 = .ok (.iload 4, 2) := by decide +kernel
theorem dX11_between_14 : decode cX11_between 14 = .ok (.aload_n 0, 1) := by decide +kernel
theorem dX11_between_15 : decode cX11_between 15 = .ok (.getfield 28, 3) := by decide +kernel
theorem dX11_between_18 : decode cX11_between 18 = .ok (.iconst 3, 1) := by decide +kernel
theorem dX11_between_19 : decode cX11_between 19 = .ok (.iload 5, 2) := by decide +kernel
theorem dX11_between_21 : decode cX11_between 21 = .ok (.imul, 1) := by decide +kernel
theorem dX11_between_22 : decode cX11_between 22 = .ok (.iload_n 3, 1) := by decide +kernel
theorem dX11_between_23 : decode cX11_between 23 = .ok (.iadd, 1) := by decide +kernel
theorem dX11_between_24 : decode cX11_between 24 = .ok (.iaload, 1) := by decide +kernel
theorem dX11_between_25 : decode cX11_between 25 = .ok (.iadd, 1) := by decide +kernel
theorem dX11_between_26 : decode cX11_between 26 = .ok (.istore 4, 2) := by decide +kernel
theorem dX11_between_28 : decode cX11_between 28 = .ok (.iinc 5 1, 3) := by decide +kernel
theorem dX11_between_31 : decode cX11_between 31 = .ok (.goto (-25), 3) := by decide +kernel
theorem dX11_between_34 : decode cX11_between 34 = .ok (.iload 4, 2) := by decide +kernel
theorem dX11_between_36 : decode cX11_between 36 = .ok (.ireturn, 1) := by decide +kernel
theorem dX11_isSo_0 : decode cX11_isSo 0 = .ok (.aload_n 0, 1) := by decide +kernel
theorem dX11_isSo_1 : decode cX11_isSo 1 = .ok (.getfield 53, 3) := by decide +kernel
theorem dX11_isSo_4 : decode cX11_isSo 4 = .ok (.iconst 4, 1) := by decide +kernel
theorem dX11_isSo_5 : decode cX11_isSo 5 = .ok (.iload_n 1, 1) := by decide +kernel
theorem dX11_isSo_6 : decode cX11_isSo 6 = .ok (.imul, 1) := by decide +kernel
theorem dX11_isSo_7 : decode cX11_isSo 7 = .ok (.iaload, 1) := by decide +kernel
theorem dX11_isSo_8 : decode cX11_isSo 8 = .ok (.istore_n 3, 1) := by decide +kernel
theorem dX11_isSo_9 : decode cX11_isSo 9 = .ok (.aload_n 0, 1) := by decide +kernel
theorem dX11_isSo_10 : decode cX11_isSo 10 = .ok (.getfield 53, 3) := by decide +kernel
theorem dX11_isSo_13 : decode cX11_isSo 13 = .ok (.iconst 4, 1) := by decide +kernel
theorem dX11_isSo_14 : decode cX11_isSo 14 = .ok (.iload_n 1, 1) := by decide +kernel
theorem dX11_isSo_15 : decode cX11_isSo 15 = .ok (.imul, 1) := by decide +kernel
theorem dX11_isSo_16 : decode cX11_isSo 16 = .ok (.iconst 1, 1) := by decide +kernel
theorem dX11_isSo_17 : decode cX11_isSo 17 = .ok (.iadd, 1) := by decide +kernel
theorem dX11_isSo_18 : decode cX11_isSo 18 = .ok (.iaload, 1) := by decide +kernel
theorem dX11_isSo_19 : decode cX11_isSo 19 = .ok (.istore 4, 2) := by decide +kernel
theorem dX11_isSo_21 : decode cX11_isSo 21 = .ok (.iload_n 3, 1) := by decide +kernel
theorem dX11_isSo_22 : decode cX11_isSo 22 = .ok (.iload_n 2, 1) := by decide +kernel
theorem dX11_isSo_23 : decode cX11_isSo 23 = .ok (.if_icmp .le 5, 3) := by decide +kernel
theorem dX11_isSo_26 : decode cX11_isSo 26 = .ok (.iconst 0, 1) := by decide +kernel
theorem dX11_isSo_27 : decode cX11_isSo 27 = .ok (.ireturn, 1) := by decide +kernel
theorem dX11_isSo_28 : decode cX11_isSo 28 = .ok (.aload_n 0, 1) := by decide +kernel
theorem dX11_isSo_29 : decode cX11_isSo 29 = .ok (.getfield 53, 3) := by decide +kernel
theorem dX11_isSo_32 : decode cX11_isSo 32 = .ok (.iconst 4, 1) := by decide +kernel
theorem dX11_isSo_33 : decode cX11_isSo 33 = .ok (.iload_n 1, 1) := by decide +kernel
theorem dX11_isSo_34 : decode cX11_isSo 34 = .ok (.imul, 1) := by decide +kernel
theorem dX11_isSo_35 : decode cX11_isSo 35 = .ok (.iconst 3, 1) := by decide +kernel
theorem dX11_isSo_36 : decode cX11_isSo 36 = .ok (.iadd, 1) := by decide +kernel
theorem dX11_isSo_37 : decode cX11_isSo 37 = .ok (.iaload, 1) := by decide +kernel
theorem dX11_isSo_38 : decode cX11_isSo 38 = .ok (.ifCond .ne 13, 3) := by decide +kernel
theorem dX11_isSo_41 : decode cX11_isSo 41 = .ok (.aload_n 0, 1) := by decide +kernel
theorem dX11_isSo_42 : decode cX11_isSo 42 = .ok (.iconst 0, 1) := by decide +kernel
theorem dX11_isSo_43 : decode cX11_isSo 43 = .ok (.iload_n 3, 1) := by decide +kernel
theorem dX11_isSo_44 : decode cX11_isSo 44 = .ok (.iconst 0, 1) := by decide +kernel
theorem dX11_isSo_45 : decode cX11_isSo 45 = .ok (.invokevirtual 259, 3) := by decide +kernel
theorem dX11_isSo_48 : decode cX11_isSo 48 = .ok (.goto 18, 3) := by decide +kernel
theorem dX11_isSo_51 : decode cX11_isSo 51 = .ok (.aload_n 0, 1) := by decide +kernel
theorem dX11_isSo_52 : decode cX11_isSo 52 = .ok (.iconst 0, 1) := by decide +kernel
theorem dX11_isSo_53 : decode cX11_isSo 53 = .ok (.iload_n 2, 1) := by decide +kernel
theorem dX11_isSo_54 : decode cX11_isSo 54 = .ok (.iconst 0, 1) := by decide +kernel
theorem dX11_isSo_55 : decode cX11_isSo 55 = .ok (.invokevirtual 259, 3) := by decide +kernel
theorem dX11_isSo_58 : decode cX11_isSo 58 = .ok (.aload_n 0, 1) := by decide +kernel
theorem dX11_isSo_59 : decode cX11_isSo 59 = .ok (.iload_n 3, 1) := by decide +kernel
theorem dX11_isSo_60 : decode cX11_isSo 60 = .ok (.iload_n 2, 1) := by decide +kernel
theorem dX11_isSo_61 : decode cX11_isSo 61 = .ok (.iconst 1, 1) := by decide +kernel
theorem dX11_isSo_62 : decode cX11_isSo 62 = .ok (.invokevirtual 259, 3) := by decide +kernel
theorem dX11_isSo_65 : decode cX11_isSo 65 = .ok (.iadd, 1) := by decide +kernel
theorem dX11_isSo_66 : decode cX11_isSo 66 = .ok (.istore 5, 2) := by decide +kernel
theorem dX11_isSo_68 : decode cX11_isSo 68 = .ok (.aload_n 0, 1) := by decide +kernel
theorem dX11_isSo_69 : decode cX11_isSo 69 = .ok (.getfield 35, 3) := by decide +kernel
theorem dX11_isSo_72 : decode cX11_isSo 72 = .ok (.iload 4, 2) := by decide +kernel
theorem dX11_isSo_74 : decode cX11_isSo 74 = .ok (.iaload, 1) := by decide +kernel
theorem dX11_isSo_75 : decode cX11_isSo 75 = .ok (.iload 5, 2) := by decide +kernel
theorem dX11_isSo_77 : decode cX11_isSo 77 = .ok (.isub, 1) := by decide +kernel
theorem dX11_isSo_78 : decode cX11_isSo 78 = .ok (.aload_n 0, 1) := by decide +kernel
theorem dX11_isSo_79 : decode cX11_isSo 79 = .ok (.getfield 53, 3) := by decide +kernel
theorem dX11_isSo_82 : decode cX11_isSo 82 = .ok (.iconst 4, 1) := by decide +kernel
theorem dX11_isSo_83 : decode cX11_isSo 83 = .ok (.iload_n 1, 1) := by decide +kernel
theorem dX11_isSo_84 : decode cX11_isSo 84 = .ok (.imul, 1) := by decide +kernel
theorem dX11_isSo_85 : decode cX11_isSo 85 = .ok (.iconst 2, 1) := by decide +kernel
theorem dX11_isSo_86 : decode cX11_isSo 86 = .ok (.iadd, 1) := by decide +kernel
theorem dX11_isSo_87 : decode cX11_isSo 87 = .ok (.iaload, 1) := by decide +kernel
theorem dX11_isSo_88 : decode cX11_isSo 88 = .ok (.if_icmp .ne 7, 3) := by decide +kernel
theorem dX11_isSo_91 : decode cX11_isSo 91 = .ok (.iconst 1, 1) := by decide +kernel
theorem dX11_isSo_92 : decode cX11_isSo 92 = .ok (.goto 4, 3) := by decide +kernel
theorem dX11_isSo_95 : decode cX11_isSo 95 = .ok (.iconst 0, 1) := by decide +kernel
theorem dX11_isSo_96 : decode cX11_isSo 96 = .ok (.ireturn, 1) := by decide +kernel
theorem dX11_turnedNow_0 : decode cX11_turnedNow 0 = .ok (.iconst 0, 1) := by decide +kernel
theorem dX11_turnedNow_1 : decode cX11_turnedNow 1 = .ok (.istore_n 1, 1) := by decide +kernel
theorem dX11_turnedNow_2 : decode cX11_turnedNow 2 = .ok (.iconst 0, 1) := by decide +kernel
theorem dX11_turnedNow_3 : decode cX11_turnedNow 3 = .ok (.istore_n 2, 1) := by decide +kernel
theorem dX11_turnedNow_4 : decode cX11_turnedNow 4 = .ok (.iload_n 2, 1) := by decide +kernel
theorem dX11_turnedNow_5 : decode cX11_turnedNow 5 = .ok (.aload_n 0, 1) := by decide +kernel
theorem dX11_turnedNow_6 : decode cX11_turnedNow 6 = .ok (.getfield 98, 3) := by decide +kernel
theorem dX11_turnedNow_9 : decode cX11_turnedNow 9 = .ok (.if_icmp .gt 63, 3) := by decide +kernel
theorem dX11_turnedNow_12 : decode cX11_turnedNow 12 = .ok (.iconst 1, 1) := by decide +kernel
theorem dX11_turnedNow_13 : decode cX11_turnedNow 13 = .ok (.istore_n 3, 1) := by decide +kernel
theorem dX11_turnedNow_14 : decode cX11_turnedNow 14 = .ok (.iconst 0, 1) := by decide +kernel
theorem dX11_turnedNow_15 : decode cX11_turnedNow 15 = .ok (.istore 4, 2) := by decide +kernel
theorem dX11_turnedNow_17 : decode cX11_turnedNow 17 = .ok (.iload 4, 2) := by decide +kernel
theorem dX11_turnedNow_19 : decode cX11_turnedNow 19 = .ok (.aload_n 0, 1) := by decide +kernel
theorem dX11_turnedNow_20 : decode cX11_turnedNow 20 = .ok (.getfield 256, 3) := by decide +kernel
theorem dX11_turnedNow_23 : decode cX11_turnedNow 23 = .ok (.if_icmp .ge 29, 3) := by decide +kernel
theorem dX11_turnedNow_26 : decode cX11_turnedNow 26 = .ok (.iload_n 3, 1) := by decide +kernel
theorem dX11_turnedNow_27 : decode cX11_turnedNow 27 = .ok (.ifCond .eq 17, 3) := by decide +kernel
theorem dX11_turnedNow_30 : decode cX11_turnedNow 30 = .ok (.aload_n 0, 1) := by decide +kernel
theorem dX11_turnedNow_31 : decode cX11_turnedNow 31 = .ok (.iload 4, 2) := by decide +kernel
theorem dX11_turnedNow_33 : decode cX11_turnedNow 33 = .ok (.iload_n 2, 1) := by decide +kernel
theorem dX11_turnedNow_34 : decode cX11_turnedNow 34 = .ok (.invokevirtual 262, 3) := by decide +kernel
theorem dX11_turnedNow_37 : decode cX11_turnedNow 37 = .ok (.ifCond .eq 7, 3) := by decide +kernel
theorem dX11_turnedNow_40 : decode cX11_turnedNow 40 = .ok (.iconst 1, 1) := by decide +kernel
theorem dX11_turnedNow_41 : decode cX11_turnedNow 41 = .ok (.goto 4, 3) := by decide +kernel
theorem dX11_turnedNow_44 : decode cX11_turnedNow 44 = .ok (.iconst 0, 1) := by decide +kernel
theorem dX11_turnedNow_45 : decode cX11_turnedNow 45 = .ok (.istore_n 3, 1) := by decide +kernel
theorem dX11_turnedNow_46 : decode cX11_turnedNow 46 = .ok (.iinc 4 1, 3) := by decide +kernel
theorem dX11_turnedNow_49 : decode cX11_turnedNow 49 = .ok (.goto (-32), 3) := by decide +kernel
theorem dX11_turnedNow_52 : decode cX11_turnedNow 52 = .ok (.iload_n 1, 1) := by decide +kernel
theorem dX11_turnedNow_53 : decode cX11_turnedNow 53 = .ok (.iload_n 3, 1) := by decide +kernel
theorem dX11_turnedNow_54 : decode cX11_turnedNow 54 = .ok (.ifCond .eq 9, 3) := by decide +kernel
theorem dX11_turnedNow_57 : decode cX11_turnedNow 57 = .ok (.iconst 1, 1) := by decide +kernel
theorem dX11_turnedNow_58 : decode cX11_turnedNow 58 = .ok (.iload_n 2, 1) := by decide +kernel
theorem dX11_turnedNow_59 : decode cX11_turnedNow 59 = .ok (.ishl, 1) := by decide +kernel
theorem dX11_turnedNow_60 : decode cX11_turnedNow 60 = .ok (.goto 4, 3) := by decide +kernel
theorem dX11_turnedNow_63 : decode cX11_turnedNow 63 = .ok (.iconst 0, 1) := by decide +kernel
theorem dX11_turnedNow_64 : decode cX11_turnedNow 64 = .ok (.ior, 1) := by decide +kernel
theorem dX11_turnedNow_65 : decode cX11_turnedNow 65 = .ok (.istore_n 1, 1) := by decide +kernel
theorem dX11_turnedNow_66 : decode cX11_turnedNow 66 = .ok (.iinc 2 1, 3) := by decide +kernel
theorem dX11_turnedNow_69 : decode cX11_turnedNow 69 = .ok (.goto (-65), 3) := by decide +kernel
theorem dX11_turnedNow_72 : decode cX11_turnedNow 72 = .ok (.iload_n 1, 1) := by decide +kernel
theorem dX11_turnedNow_73 : decode cX11_turnedNow 73 = .ok (.ireturn, 1) := by decide +kernel
theorem dX11_turned_0 : decode cX11_turned 0 = .ok (.aload_n 0, 1) := by decide +kernel
theorem dX11_turned_1 : decode cX11_turned 1 = .ok (.invokevirtual 127, 3) := by decide +kernel
theorem dX11_turned_4 : decode cX11_turned 4 = .ok (.aload_n 0, 1) := by decide +kernel
theorem dX11_turned_5 : decode cX11_turned 5 = .ok (.invokevirtual 265, 3) := by decide +kernel
theorem dX11_turned_8 : decode cX11_turned 8 = .ok (.ireturn, 1) := by decide +kernel
theorem dX11_write_0 : decode cX11_write 0 = .ok (.iload_n 1, 1) := by decide +kernel
theorem dX11_write_1 : decode cX11_write 1 = .ok (.invokestatic 71, 3) := by decide +kernel
theorem dX11_write_4 : decode cX11_write 4 = .ok (.ifCond .ne 6, 3) := by decide +kernel
theorem dX11_write_7 : decode cX11_write 7 = .ok (.bipush (-2), 2) := by decide +kernel
theorem dX11_write_9 : decode cX11_write 9 = .ok (.ireturn, 1) := by decide +kernel
theorem dX11_write_10 : decode cX11_write 10 = .ok (.aload_n 0, 1) := by decide +kernel
theorem dX11_write_11 : decode cX11_write 11 = .ok (.getfield 7, 3) := by decide +kernel
theorem dX11_write_14 : decode cX11_write 14 = .ok (.iload_n 1, 1) := by decide +kernel
theorem dX11_write_15 : decode cX11_write 15 = .ok (.iaload, 1) := by decide +kernel
theorem dX11_write_16 : decode cX11_write 16 = .ok (.ifCond .ge 9, 3) := by decide +kernel
theorem dX11_write_19 : decode cX11_write 19 = .ok (.aload_n 0, 1) := by decide +kernel
theorem dX11_write_20 : decode cX11_write 20 = .ok (.iconst 1, 1) := by decide +kernel
theorem dX11_write_21 : decode cX11_write 21 = .ok (.invokevirtual 77, 3) := by decide +kernel
theorem dX11_write_24 : decode cX11_write 24 = .ok (.ireturn, 1) := by decide +kernel
theorem dX11_write_25 : decode cX11_write 25 = .ok (.aload_n 0, 1) := by decide +kernel
theorem dX11_write_26 : decode cX11_write 26 = .ok (.invokevirtual 210, 3) := by decide +kernel
theorem dX11_write_29 : decode cX11_write 29 = .ok (.aload_n 0, 1) := by decide +kernel
theorem dX11_write_30 : decode cX11_write 30 = .ok (.getfield 13, 3) := by decide +kernel
theorem dX11_write_33 : decode cX11_write 33 = .ok (.iload_n 1, 1) := by decide +kernel
theorem dX11_write_34 : decode cX11_write 34 = .ok (.iaload, 1) := by decide +kernel
theorem dX11_write_35 : decode cX11_write 35 = .ok (.aload_n 0, 1) := by decide +kernel
theorem dX11_write_36 : decode cX11_write 36 = .ok (.getfield 56, 3) := by decide +kernel
theorem dX11_write_39 : decode cX11_write 39 = .ok (.invokestatic 140, 3) := by decide +kernel
theorem dX11_write_42 : decode cX11_write 42 = .ok (.istore_n 2, 1) := by decide +kernel
theorem dX11_write_43 : decode cX11_write 43 = .ok (.iconst 0, 1) := by decide +kernel
theorem dX11_write_44 : decode cX11_write 44 = .ok (.istore_n 3, 1) := by decide +kernel
theorem dX11_write_45 : decode cX11_write 45 = .ok (.iload_n 3, 1) := by decide +kernel
theorem dX11_write_46 : decode cX11_write 46 = .ok (.iload_n 2, 1) := by decide +kernel
theorem dX11_write_47 : decode cX11_write 47 = .ok (.if_icmp .ge 35, 3) := by decide +kernel
theorem dX11_write_50 : decode cX11_write 50 = .ok (.aload_n 0, 1) := by decide +kernel
theorem dX11_write_51 : decode cX11_write 51 = .ok (.getfield 16, 3) := by decide +kernel
theorem dX11_write_54 : decode cX11_write 54 = .ok (.bipush 60, 2) := by decide +kernel
theorem dX11_write_56 : decode cX11_write 56 = .ok (.iload_n 1, 1) := by decide +kernel
theorem dX11_write_57 : decode cX11_write 57 = .ok (.imul, 1) := by decide +kernel
theorem dX11_write_58 : decode cX11_write 58 = .ok (.iload_n 3, 1) := by decide +kernel
theorem dX11_write_59 : decode cX11_write 59 = .ok (.iadd, 1) := by decide +kernel
theorem dX11_write_60 : decode cX11_write 60 = .ok (.aload_n 0, 1) := by decide +kernel
theorem dX11_write_61 : decode cX11_write 61 = .ok (.getfield 7, 3) := by decide +kernel
theorem dX11_write_64 : decode cX11_write 64 = .ok (.iload_n 1, 1) := by decide +kernel
theorem dX11_write_65 : decode cX11_write 65 = .ok (.iaload, 1) := by decide +kernel
theorem dX11_write_66 : decode cX11_write 66 = .ok (.aload_n 0, 1) := by decide +kernel
theorem dX11_write_67 : decode cX11_write 67 = .ok (.getfield 38, 3) := by decide +kernel
theorem dX11_write_70 : decode cX11_write 70 = .ok (.iload_n 3, 1) := by decide +kernel
theorem dX11_write_71 : decode cX11_write 71 = .ok (.iaload, 1) := by decide +kernel
theorem dX11_write_72 : decode cX11_write 72 = .ok (.invokestatic 85, 3) := by decide +kernel
theorem dX11_write_75 : decode cX11_write 75 = .ok (.iastore, 1) := by decide +kernel
theorem dX11_write_76 : decode cX11_write 76 = .ok (.iinc 3 1, 3) := by decide +kernel
theorem dX11_write_79 : decode cX11_write 79 = .ok (.goto (-34), 3) := by decide +kernel
theorem dX11_write_82 : decode cX11_write 82 = .ok (.iload_n 2, 1) := by decide +kernel
theorem dX11_write_83 : decode cX11_write 83 = .ok (.ireturn, 1) := by decide +kernel
theorem dX11_count_0 : decode cX11_count 0 = .ok (.aload_n 0, 1) := by decide +kernel
theorem dX11_count_1 : decode cX11_count 1 = .ok (.invokevirtual 127, 3) := by decide +kernel
theorem dX11_count_4 : decode cX11_count 4 = .ok (.iload_n 1, 1) := by decide +kernel
theorem dX11_count_5 : decode cX11_count 5 = .ok (.tableswitch 95 0 8 #[51, 56, 61, 61, 70, 75, 80, 85, 90], 51) := by decide +kernel
theorem dX11_count_56 : decode cX11_count 56 = .ok (.aload_n 0, 1) := by decide +kernel
theorem dX11_count_57 : decode cX11_count 57 = .ok (.getfield 98, 3) := by decide +kernel
theorem dX11_count_60 : decode cX11_count 60 = .ok (.ireturn, 1) := by decide +kernel
theorem dX11_count_61 : decode cX11_count 61 = .ok (.aload_n 0, 1) := by decide +kernel
theorem dX11_count_62 : decode cX11_count 62 = .ok (.getfield 110, 3) := by decide +kernel
theorem dX11_count_65 : decode cX11_count 65 = .ok (.ireturn, 1) := by decide +kernel
theorem dX11_count_66 : decode cX11_count 66 = .ok (.aload_n 0, 1) := by decide +kernel
theorem dX11_count_67 : decode cX11_count 67 = .ok (.getfield 25, 3) := by decide +kernel
theorem dX11_count_70 : decode cX11_count 70 = .ok (.iload_n 1, 1) := by decide +kernel
theorem dX11_count_71 : decode cX11_count 71 = .ok (.iconst 2, 1) := by decide +kernel
theorem dX11_count_72 : decode cX11_count 72 = .ok (.isub, 1) := by decide +kernel
theorem dX11_count_73 : decode cX11_count 73 = .ok (.iaload, 1) := by decide +kernel
theorem dX11_count_74 : decode cX11_count 74 = .ok (.ireturn, 1) := by decide +kernel
theorem dX11_count_75 : decode cX11_count 75 = .ok (.aload_n 0, 1) := by decide +kernel
theorem dX11_count_76 : decode cX11_count 76 = .ok (.getfield 56, 3) := by decide +kernel
theorem dX11_count_79 : decode cX11_count 79 = .ok (.ireturn, 1) := by decide +kernel
theorem dX11_count_80 : decode cX11_count 80 = .ok (.aload_n 0, 1) := by decide +kernel
theorem dX11_count_81 : decode cX11_count 81 = .ok (.invokevirtual 177, 3) := by decide +kernel
theorem dX11_count_84 : decode cX11_count 84 = .ok (.ireturn, 1) := by decide +kernel
theorem dX11_count_85 : decode cX11_count 85 = .ok (.aload_n 0, 1) := by decide +kernel
theorem dX11_count_86 : decode cX11_count 86 = .ok (.getfield 235, 3) := by decide +kernel
theorem dX11_count_89 : decode cX11_count 89 = .ok (.ireturn, 1) := by decide +kernel
theorem dX11_count_90 : decode cX11_count 90 = .ok (.aload_n 0, 1) := by decide +kernel
theorem dX11_count_91 : decode cX11_count 91 = .ok (.getfield 256, 3) := by decide +kernel
theorem dX11_count_94 : decode cX11_count 94 = .ok (.ireturn, 1) := by decide +kernel
theorem dX11_count_95 : decode cX11_count 95 = .ok (.aload_n 0, 1) := by decide +kernel
theorem dX11_count_96 : decode cX11_count 96 = .ok (.getfield 66, 3) := by decide +kernel
theorem dX11_count_99 : decode cX11_count 99 = .ok (.ireturn, 1) := by decide +kernel
theorem dX11_count_100 : decode cX11_count 100 = .ok (.bipush (-2), 2) := by decide +kernel
theorem dX11_count_102 : decode cX11_count 102 = .ok (.ireturn, 1) := by decide +kernel
theorem dX11_digest_0 : decode cX11_digest 0 = .ok (.ldc2_w 268, 3) := by decide +kernel
theorem dX11_digest_3 : decode cX11_digest 3 = .ok (.lstore_n 1, 1) := by decide +kernel
theorem dX11_digest_4 : decode cX11_digest 4 = .ok (.iconst 0, 1) := by decide +kernel
theorem dX11_digest_5 : decode cX11_digest 5 = .ok (.istore_n 3, 1) := by decide +kernel
theorem dX11_digest_6 : decode cX11_digest 6 = .ok (.iload_n 3, 1) := by decide +kernel
theorem dX11_digest_7 : decode cX11_digest 7 = .ok (.bipush 8, 2) := by decide +kernel
theorem dX11_digest_9 : decode cX11_digest 9 = .ok (.if_icmp .ge 22, 3) := by decide +kernel
theorem dX11_digest_12 : decode cX11_digest 12 = .ok (.ldc2_w 270, 3) := by decide +kernel
theorem dX11_digest_15 : decode cX11_digest 15 = .ok (.lload_n 1, 1) := by decide +kernel
theorem dX11_digest_16 : decode cX11_digest 16 = .ok (.lmul, 1) := by decide +kernel
theorem dX11_digest_17 : decode cX11_digest 17 = .ok (.aload_n 0, 1) := by decide +kernel
theorem dX11_digest_18 : decode cX11_digest 18 = .ok (.iload_n 3, 1) := by decide +kernel
theorem dX11_digest_19 : decode cX11_digest 19 = .ok (.invokevirtual 272, 3) := by decide +kernel
theorem dX11_digest_22 : decode cX11_digest 22 = .ok (.i2l, 1) := by decide +kernel
theorem dX11_digest_23 : decode cX11_digest 23 = .ok (.ladd, 1) := by decide +kernel
theorem dX11_digest_24 : decode cX11_digest 24 = .ok (.lstore_n 1, 1) := by decide +kernel
theorem dX11_digest_25 : decode cX11_digest 25 = .ok (.iinc 3 1, 3) := by decide +kernel
theorem dX11_digest_28 : decode cX11_digest 28 = .ok (.goto (-22), 3) := by decide +kernel
theorem dX11_digest_31 : decode cX11_digest 31 = .ok (.iconst 0, 1) := by decide +kernel
theorem dX11_digest_32 : decode cX11_digest 32 = .ok (.istore_n 3, 1) := by decide +kernel
theorem dX11_digest_33 : decode cX11_digest 33 = .ok (.iload_n 3, 1) := by decide +kernel
theorem dX11_digest_34 : decode cX11_digest 34 = .ok (.iconst 2, 1) := by decide +kernel
theorem dX11_digest_35 : decode cX11_digest 35 = .ok (.if_icmp .ge 22, 3) := by decide +kernel
theorem dX11_digest_38 : decode cX11_digest 38 = .ok (.ldc2_w 270, 3) := by decide +kernel
theorem dX11_digest_41 : decode cX11_digest 41 = .ok (.lload_n 1, 1) := by decide +kernel
theorem dX11_digest_42 : decode cX11_digest 42 = .ok (.lmul, 1) := by decide +kernel
theorem dX11_digest_43 : decode cX11_digest 43 = .ok (.aload_n 0, 1) := by decide +kernel
theorem dX11_digest_44 : decode cX11_digest 44 = .ok (.iload_n 3, 1) := by decide +kernel
theorem dX11_digest_45 : decode cX11_digest 45 = .ok (.invokevirtual 275, 3) := by decide +kernel
theorem dX11_digest_48 : decode cX11_digest 48 = .ok (.i2l, 1) := by decide +kernel
theorem dX11_digest_49 : decode cX11_digest 49 = .ok (.ladd, 1) := by decide +kernel
theorem dX11_digest_50 : decode cX11_digest 50 = .ok (.lstore_n 1, 1) := by decide +kernel
theorem dX11_digest_51 : decode cX11_digest 51 = .ok (.iinc 3 1, 3) := by decide +kernel
theorem dX11_digest_54 : decode cX11_digest 54 = .ok (.goto (-21), 3) := by decide +kernel
theorem dX11_digest_57 : decode cX11_digest 57 = .ok (.iconst 0, 1) := by decide +kernel
theorem dX11_digest_58 : decode cX11_digest 58 = .ok (.istore_n 3, 1) := by decide +kernel
theorem dX11_digest_59 : decode cX11_digest 59 = .ok (.iload_n 3, 1) := by decide +kernel
theorem dX11_digest_60 : decode cX11_digest 60 = .ok (.aload_n 0, 1) := by decide +kernel
theorem dX11_digest_61 : decode cX11_digest 61 = .ok (.getfield 98, 3) := by decide +kernel
theorem dX11_digest_64 : decode cX11_digest 64 = .ok (.if_icmp .ge 39, 3) := by decide +kernel
theorem dX11_digest_67 : decode cX11_digest 67 = .ok (.iconst 0, 1) := by decide +kernel
theorem dX11_digest_68 : decode cX11_digest 68 = .ok (.istore 4, 2) := by decide +kernel
theorem dX11_digest_70 : decode cX11_digest 70 = .ok (.iload 4, 2) := by decide +kernel
theorem dX11_digest_72 : decode cX11_digest 72 = .ok (.iconst 4, 1) := by decide +kernel
theorem dX11_digest_73 : decode cX11_digest 73 = .ok (.if_icmp .ge 24, 3) := by decide +kernel
theorem dX11_digest_76 : decode cX11_digest 76 = .ok (.ldc2_w 270, 3) := by decide +kernel
theorem dX11_digest_79 : decode cX11_digest 79 = .ok (.lload_n 1, 1) := by decide +kernel
theorem dX11_digest_80 : decode cX11_digest 80 = .ok (.lmul, 1) := by decide +kernel
theorem dX11_digest_81 : decode cX11_digest 81 = .ok (.aload_n 0, 1) := by decide +kernel
theorem dX11_digest_82 : decode cX11_digest 82 = .ok (.iload_n 3, 1) := by decide +kernel
theorem dX11_digest_83 : decode cX11_digest 83 = .ok (.iload 4, 2) := by decide +kernel
theorem dX11_digest_85 : decode cX11_digest 85 = .ok (.invokevirtual 130, 3) := by decide +kernel
theorem dX11_digest_88 : decode cX11_digest 88 = .ok (.i2l, 1) := by decide +kernel
theorem dX11_digest_89 : decode cX11_digest 89 = .ok (.ladd, 1) := by decide +kernel
theorem dX11_digest_90 : decode cX11_digest 90 = .ok (.lstore_n 1, 1) := by decide +kernel
theorem dX11_digest_91 : decode cX11_digest 91 = .ok (.iinc 4 1, 3) := by decide +kernel
theorem dX11_digest_94 : decode cX11_digest 94 = .ok (.goto (-24), 3) := by decide +kernel
theorem dX11_digest_97 : decode cX11_digest 97 = .ok (.iinc 3 1, 3) := by decide +kernel
theorem dX11_digest_100 : decode cX11_digest 100 = .ok (.goto (-41), 3) := by decide +kernel
theorem dX11_digest_103 : decode cX11_digest 103 = .ok (.iconst 0, 1) := by decide +kernel
theorem dX11_digest_104 : decode cX11_digest 104 = .ok (.istore_n 3, 1) := by decide +kernel
theorem dX11_digest_105 : decode cX11_digest 105 = .ok (.iload_n 3, 1) := by decide +kernel
theorem dX11_digest_106 : decode cX11_digest 106 = .ok (.aload_n 0, 1) := by decide +kernel
theorem dX11_digest_107 : decode cX11_digest 107 = .ok (.getfield 56, 3) := by decide +kernel
theorem dX11_digest_110 : decode cX11_digest 110 = .ok (.if_icmp .ge 85, 3) := by decide +kernel
theorem dX11_digest_113 : decode cX11_digest 113 = .ok (.iconst 0, 1) := by decide +kernel
theorem dX11_digest_114 : decode cX11_digest 114 = .ok (.istore 4, 2) := by decide +kernel
theorem dX11_digest_116 : decode cX11_digest 116 = .ok (.iload 4, 2) := by decide +kernel
theorem dX11_digest_118 : decode cX11_digest 118 = .ok (.iconst 2, 1) := by decide +kernel
theorem dX11_digest_119 : decode cX11_digest 119 = .ok (.if_icmp .ge 23, 3) := by decide +kernel
theorem dX11_digest_122 : decode cX11_digest 122 = .ok (.ldc2_w 270, 3) := by decide +kernel
theorem dX11_digest_125 : decode cX11_digest 125 = .ok (.lload_n 1, 1) := by decide +kernel
theorem dX11_digest_126 : decode cX11_digest 126 = .ok (.lmul, 1) := by decide +kernel
theorem dX11_digest_127 : decode cX11_digest 127 = .ok (.aload_n 0, 1) := by decide +kernel
theorem dX11_digest_128 : decode cX11_digest 128 = .ok (.iload_n 3, 1) := by decide +kernel
theorem dX11_digest_129 : decode cX11_digest 129 = .ok (.iload 4, 2) := by decide +kernel
theorem dX11_digest_131 : decode cX11_digest 131 = .ok (.invokevirtual 278, 3) := by decide +kernel
theorem dX11_digest_134 : decode cX11_digest 134 = .ok (.ladd, 1) := by decide +kernel
theorem dX11_digest_135 : decode cX11_digest 135 = .ok (.lstore_n 1, 1) := by decide +kernel
theorem dX11_digest_136 : decode cX11_digest 136 = .ok (.iinc 4 1, 3) := by decide +kernel
theorem dX11_digest_139 : decode cX11_digest 139 = .ok (.goto (-23), 3) := by decide +kernel
theorem dX11_digest_142 : decode cX11_digest 142 = .ok (.ldc2_w 270, 3) := by decide +kernel
theorem dX11_digest_145 : decode cX11_digest 145 = .ok (.lload_n 1, 1) := by decide +kernel
theorem dX11_digest_146 : decode cX11_digest 146 = .ok (.lmul, 1) := by decide +kernel
theorem dX11_digest_147 : decode cX11_digest 147 = .ok (.aload_n 0, 1) := by decide +kernel
theorem dX11_digest_148 : decode cX11_digest 148 = .ok (.aload_n 0, 1) := by decide +kernel
theorem dX11_digest_149 : decode cX11_digest 149 = .ok (.getfield 110, 3) := by decide +kernel
theorem dX11_digest_152 : decode cX11_digest 152 = .ok (.iload_n 3, 1) := by decide +kernel
theorem dX11_digest_153 : decode cX11_digest 153 = .ok (.invokevirtual 216, 3) := by decide +kernel
theorem dX11_digest_156 : decode cX11_digest 156 = .ok (.i2l, 1) := by decide +kernel
theorem dX11_digest_157 : decode cX11_digest 157 = .ok (.ladd, 1) := by decide +kernel
theorem dX11_digest_158 : decode cX11_digest 158 = .ok (.lstore_n 1, 1) := by decide +kernel
theorem dX11_digest_159 : decode cX11_digest 159 = .ok (.ldc2_w 270, 3) := by decide +kernel
theorem dX11_digest_162 : decode cX11_digest 162 = .ok (.lload_n 1, 1) := by decide +kernel
theorem dX11_digest_163 : decode cX11_digest 163 = .ok (.lmul, 1) := by decide +kernel
theorem dX11_digest_164 : decode cX11_digest 164 = .ok (.aload_n 0, 1) := by decide +kernel
theorem dX11_digest_165 : decode cX11_digest 165 = .ok (.iconst 3, 1) := by decide +kernel
theorem dX11_digest_166 : decode cX11_digest 166 = .ok (.iload_n 3, 1) := by decide +kernel
theorem dX11_digest_167 : decode cX11_digest 167 = .ok (.iconst 0, 1) := by decide +kernel
theorem dX11_digest_168 : decode cX11_digest 168 = .ok (.invokevirtual 281, 3) := by decide +kernel
theorem dX11_digest_171 : decode cX11_digest 171 = .ok (.i2l, 1) := by decide +kernel
theorem dX11_digest_172 : decode cX11_digest 172 = .ok (.ladd, 1) := by decide +kernel
theorem dX11_digest_173 : decode cX11_digest 173 = .ok (.lstore_n 1, 1) := by decide +kernel
theorem dX11_digest_174 : decode cX11_digest 174 = .ok (.ldc2_w 270, 3) := by decide +kernel
theorem dX11_digest_177 : decode cX11_digest 177 = .ok (.lload_n 1, 1) := by decide +kernel
theorem dX11_digest_178 : decode cX11_digest 178 = .ok (.lmul, 1) := by decide +kernel
theorem dX11_digest_179 : decode cX11_digest 179 = .ok (.aload_n 0, 1) := by decide +kernel
theorem dX11_digest_180 : decode cX11_digest 180 = .ok (.iconst 3, 1) := by decide +kernel
theorem dX11_digest_181 : decode cX11_digest 181 = .ok (.iload_n 3, 1) := by decide +kernel
theorem dX11_digest_182 : decode cX11_digest 182 = .ok (.iconst 1, 1) := by decide +kernel
theorem dX11_digest_183 : decode cX11_digest 183 = .ok (.invokevirtual 281, 3) := by decide +kernel
theorem dX11_digest_186 : decode cX11_digest 186 = .ok (.i2l, 1) := by decide +kernel
theorem dX11_digest_187 : decode cX11_digest 187 = .ok (.ladd, 1) := by decide +kernel
theorem dX11_digest_188 : decode cX11_digest 188 = .ok (.lstore_n 1, 1) := by decide +kernel
theorem dX11_digest_189 : decode cX11_digest 189 = .ok (.iinc 3 1, 3) := by decide +kernel
theorem dX11_digest_192 : decode cX11_digest 192 = .ok (.goto (-87), 3) := by decide +kernel
theorem dX11_digest_195 : decode cX11_digest 195 = .ok (.iconst 0, 1) := by decide +kernel
theorem dX11_digest_196 : decode cX11_digest 196 = .ok (.istore_n 3, 1) := by decide +kernel
theorem dX11_digest_197 : decode cX11_digest 197 = .ok (.iload_n 3, 1) := by decide +kernel
theorem dX11_digest_198 : decode cX11_digest 198 = .ok (.iconst 4, 1) := by decide +kernel
theorem dX11_digest_199 : decode cX11_digest 199 = .ok (.if_icmp .ge 68, 3) := by decide +kernel
theorem dX11_digest_202 : decode cX11_digest 202 = .ok (.iconst 0, 1) := by decide +kernel
theorem dX11_digest_203 : decode cX11_digest 203 = .ok (.istore 4, 2) := by decide +kernel
theorem dX11_digest_205 : decode cX11_digest 205 = .ok (.iload 4, 2) := by decide +kernel
theorem dX11_digest_207 : decode cX11_digest 207 = .ok (.iconst 2, 1) := by decide +kernel
theorem dX11_digest_208 : decode cX11_digest 208 = .ok (.if_icmp .ge 23, 3) := by decide +kernel
theorem dX11_digest_211 : decode cX11_digest 211 = .ok (.ldc2_w 270, 3) := by decide +kernel
theorem dX11_digest_214 : decode cX11_digest 214 = .ok (.lload_n 1, 1) := by decide +kernel
theorem dX11_digest_215 : decode cX11_digest 215 = .ok (.lmul, 1) := by decide +kernel
theorem dX11_digest_216 : decode cX11_digest 216 = .ok (.aload_n 0, 1) := by decide +kernel
theorem dX11_digest_217 : decode cX11_digest 217 = .ok (.iload_n 3, 1) := by decide +kernel
theorem dX11_digest_218 : decode cX11_digest 218 = .ok (.iload 4, 2) := by decide +kernel
theorem dX11_digest_220 : decode cX11_digest 220 = .ok (.invokevirtual 284, 3) := by decide +kernel
theorem dX11_digest_223 : decode cX11_digest 223 = .ok (.ladd, 1) := by decide +kernel
theorem dX11_digest_224 : decode cX11_digest 224 = .ok (.lstore_n 1, 1) := by decide +kernel
theorem dX11_digest_225 : decode cX11_digest 225 = .ok (.iinc 4 1, 3) := by decide +kernel
theorem dX11_digest_228 : decode cX11_digest 228 = .ok (.goto (-23), 3) := by decide +kernel
theorem dX11_digest_231 : decode cX11_digest 231 = .ok (.iconst 0, 1) := by decide +kernel
theorem dX11_digest_232 : decode cX11_digest 232 = .ok (.istore 4, 2) := by decide +kernel
theorem dX11_digest_234 : decode cX11_digest 234 = .ok (.iload 4, 2) := by decide +kernel
theorem dX11_digest_236 : decode cX11_digest 236 = .ok (.iconst 3, 1) := by decide +kernel
theorem dX11_digest_237 : decode cX11_digest 237 = .ok (.if_icmp .ge 24, 3) := by decide +kernel
theorem dX11_digest_240 : decode cX11_digest 240 = .ok (.ldc2_w 270, 3) := by decide +kernel
theorem dX11_digest_243 : decode cX11_digest 243 = .ok (.lload_n 1, 1) := by decide +kernel
theorem dX11_digest_244 : decode cX11_digest 244 = .ok (.lmul, 1) := by decide +kernel
theorem dX11_digest_245 : decode cX11_digest 245 = .ok (.aload_n 0, 1) := by decide +kernel
theorem dX11_digest_246 : decode cX11_digest 246 = .ok (.iconst 3, 1) := by decide +kernel
theorem dX11_digest_247 : decode cX11_digest 247 = .ok (.iload_n 3, 1) := by decide +kernel
theorem dX11_digest_248 : decode cX11_digest 248 = .ok (.iload 4, 2) := by decide +kernel
theorem dX11_digest_250 : decode cX11_digest 250 = .ok (.invokevirtual 287, 3) := by decide +kernel
theorem dX11_digest_253 : decode cX11_digest 253 = .ok (.ladd, 1) := by decide +kernel
theorem dX11_digest_254 : decode cX11_digest 254 = .ok (.lstore_n 1, 1) := by decide +kernel
theorem dX11_digest_255 : decode cX11_digest 255 = .ok (.iinc 4 1, 3) := by decide +kernel
theorem dX11_digest_258 : decode cX11_digest 258 = .ok (.goto (-24), 3) := by decide +kernel
theorem dX11_digest_261 : decode cX11_digest 261 = .ok (.iinc 3 1, 3) := by decide +kernel
theorem dX11_digest_264 : decode cX11_digest 264 = .ok (.goto (-67), 3) := by decide +kernel
theorem dX11_digest_267 : decode cX11_digest 267 = .ok (.iconst 0, 1) := by decide +kernel
theorem dX11_digest_268 : decode cX11_digest 268 = .ok (.istore_n 3, 1) := by decide +kernel
theorem dX11_digest_269 : decode cX11_digest 269 = .ok (.iload_n 3, 1) := by decide +kernel
theorem dX11_digest_270 : decode cX11_digest 270 = .ok (.iconst 2, 1) := by decide +kernel
theorem dX11_digest_271 : decode cX11_digest 271 = .ok (.if_icmp .ge 21, 3) := by decide +kernel
theorem dX11_digest_274 : decode cX11_digest 274 = .ok (.ldc2_w 270, 3) := by decide +kernel
theorem dX11_digest_277 : decode cX11_digest 277 = .ok (.lload_n 1, 1) := by decide +kernel
theorem dX11_digest_278 : decode cX11_digest 278 = .ok (.lmul, 1) := by decide +kernel
theorem dX11_digest_279 : decode cX11_digest 279 = .ok (.aload_n 0, 1) := by decide +kernel
theorem dX11_digest_280 : decode cX11_digest 280 = .ok (.iload_n 3, 1) := by decide +kernel
theorem dX11_digest_281 : decode cX11_digest 281 = .ok (.invokevirtual 180, 3) := by decide +kernel
theorem dX11_digest_284 : decode cX11_digest 284 = .ok (.ladd, 1) := by decide +kernel
theorem dX11_digest_285 : decode cX11_digest 285 = .ok (.lstore_n 1, 1) := by decide +kernel
theorem dX11_digest_286 : decode cX11_digest 286 = .ok (.iinc 3 1, 3) := by decide +kernel
theorem dX11_digest_289 : decode cX11_digest 289 = .ok (.goto (-20), 3) := by decide +kernel
theorem dX11_digest_292 : decode cX11_digest 292 = .ok (.ldc2_w 270, 3) := by decide +kernel
theorem dX11_digest_295 : decode cX11_digest 295 = .ok (.lload_n 1, 1) := by decide +kernel
theorem dX11_digest_296 : decode cX11_digest 296 = .ok (.lmul, 1) := by decide +kernel
theorem dX11_digest_297 : decode cX11_digest 297 = .ok (.aload_n 0, 1) := by decide +kernel
theorem dX11_digest_298 : decode cX11_digest 298 = .ok (.invokevirtual 290, 3) := by decide +kernel
theorem dX11_digest_301 : decode cX11_digest 301 = .ok (.i2l, 1) := by decide +kernel
theorem dX11_digest_302 : decode cX11_digest 302 = .ok (.ladd, 1) := by decide +kernel
theorem dX11_digest_303 : decode cX11_digest 303 = .ok (.lstore_n 1, 1) := by decide +kernel
theorem dX11_digest_304 : decode cX11_digest 304 = .ok (.ldc2_w 270, 3) := by decide +kernel
theorem dX11_digest_307 : decode cX11_digest 307 = .ok (.lload_n 1, 1) := by decide +kernel
theorem dX11_digest_308 : decode cX11_digest 308 = .ok (.lmul, 1) := by decide +kernel
theorem dX11_digest_309 : decode cX11_digest 309 = .ok (.aload_n 0, 1) := by decide +kernel
theorem dX11_digest_310 : decode cX11_digest 310 = .ok (.aload_n 0, 1) := by decide +kernel
theorem dX11_digest_311 : decode cX11_digest 311 = .ok (.getfield 110, 3) := by decide +kernel
theorem dX11_digest_314 : decode cX11_digest 314 = .ok (.iconst 0, 1) := by decide +kernel
theorem dX11_digest_315 : decode cX11_digest 315 = .ok (.invokevirtual 213, 3) := by decide +kernel
theorem dX11_digest_318 : decode cX11_digest 318 = .ok (.i2l, 1) := by decide +kernel
theorem dX11_digest_319 : decode cX11_digest 319 = .ok (.ladd, 1) := by decide +kernel
theorem dX11_digest_320 : decode cX11_digest 320 = .ok (.lstore_n 1, 1) := by decide +kernel
theorem dX11_digest_321 : decode cX11_digest 321 = .ok (.ldc2_w 270, 3) := by decide +kernel
theorem dX11_digest_324 : decode cX11_digest 324 = .ok (.lload_n 1, 1) := by decide +kernel
theorem dX11_digest_325 : decode cX11_digest 325 = .ok (.lmul, 1) := by decide +kernel
theorem dX11_digest_326 : decode cX11_digest 326 = .ok (.aload_n 0, 1) := by decide +kernel
theorem dX11_digest_327 : decode cX11_digest 327 = .ok (.aload_n 0, 1) := by decide +kernel
theorem dX11_digest_328 : decode cX11_digest 328 = .ok (.getfield 110, 3) := by decide +kernel
theorem dX11_digest_331 : decode cX11_digest 331 = .ok (.iconst 1, 1) := by decide +kernel
theorem dX11_digest_332 : decode cX11_digest 332 = .ok (.invokevirtual 213, 3) := by decide +kernel
theorem dX11_digest_335 : decode cX11_digest 335 = .ok (.i2l, 1) := by decide +kernel
theorem dX11_digest_336 : decode cX11_digest 336 = .ok (.ladd, 1) := by decide +kernel
theorem dX11_digest_337 : decode cX11_digest 337 = .ok (.lstore_n 1, 1) := by decide +kernel
theorem dX11_digest_338 : decode cX11_digest 338 = .ok (.ldc2_w 270, 3) := by decide +kernel
theorem dX11_digest_341 : decode cX11_digest 341 = .ok (.lload_n 1, 1) := by decide +kernel
theorem dX11_digest_342 : decode cX11_digest 342 = .ok (.lmul, 1) := by decide +kernel
theorem dX11_digest_343 : decode cX11_digest 343 = .ok (.aload_n 0, 1) := by decide +kernel
theorem dX11_digest_344 : decode cX11_digest 344 = .ok (.invokevirtual 219, 3) := by decide +kernel
theorem dX11_digest_347 : decode cX11_digest 347 = .ok (.i2l, 1) := by decide +kernel
theorem dX11_digest_348 : decode cX11_digest 348 = .ok (.ladd, 1) := by decide +kernel
theorem dX11_digest_349 : decode cX11_digest 349 = .ok (.lstore_n 1, 1) := by decide +kernel
theorem dX11_digest_350 : decode cX11_digest 350 = .ok (.iconst 0, 1) := by decide +kernel
theorem dX11_digest_351 : decode cX11_digest 351 = .ok (.istore_n 3, 1) := by decide +kernel
theorem dX11_digest_352 : decode cX11_digest 352 = .ok (.iload_n 3, 1) := by decide +kernel
theorem dX11_digest_353 : decode cX11_digest 353 = .ok (.iconst 2, 1) := by decide +kernel
theorem dX11_digest_354 : decode cX11_digest 354 = .ok (.if_icmp .ge 24, 3) := by decide +kernel
theorem dX11_digest_357 : decode cX11_digest 357 = .ok (.ldc2_w 270, 3) := by decide +kernel
theorem dX11_digest_360 : decode cX11_digest 360 = .ok (.lload_n 1, 1) := by decide +kernel
theorem dX11_digest_361 : decode cX11_digest 361 = .ok (.lmul, 1) := by decide +kernel
theorem dX11_digest_362 : decode cX11_digest 362 = .ok (.aload_n 0, 1) := by decide +kernel
theorem dX11_digest_363 : decode cX11_digest 363 = .ok (.iconst 4, 1) := by decide +kernel
theorem dX11_digest_364 : decode cX11_digest 364 = .ok (.bipush 60, 2) := by decide +kernel
theorem dX11_digest_366 : decode cX11_digest 366 = .ok (.iload_n 3, 1) := by decide +kernel
theorem dX11_digest_367 : decode cX11_digest 367 = .ok (.invokevirtual 293, 3) := by decide +kernel
theorem dX11_digest_370 : decode cX11_digest 370 = .ok (.ladd, 1) := by decide +kernel
theorem dX11_digest_371 : decode cX11_digest 371 = .ok (.lstore_n 1, 1) := by decide +kernel
theorem dX11_digest_372 : decode cX11_digest 372 = .ok (.iinc 3 1, 3) := by decide +kernel
theorem dX11_digest_375 : decode cX11_digest 375 = .ok (.goto (-23), 3) := by decide +kernel
theorem dX11_digest_378 : decode cX11_digest 378 = .ok (.ldc2_w 270, 3) := by decide +kernel
theorem dX11_digest_381 : decode cX11_digest 381 = .ok (.lload_n 1, 1) := by decide +kernel
theorem dX11_digest_382 : decode cX11_digest 382 = .ok (.lmul, 1) := by decide +kernel
theorem dX11_digest_383 : decode cX11_digest 383 = .ok (.bipush 50, 2) := by decide +kernel
theorem dX11_digest_385 : decode cX11_digest 385 = .ok (.bipush 60, 2) := by decide +kernel
theorem dX11_digest_387 : decode cX11_digest 387 = .ok (.invokestatic 232, 3) := by decide +kernel
theorem dX11_digest_390 : decode cX11_digest 390 = .ok (.i2l, 1) := by decide +kernel
theorem dX11_digest_391 : decode cX11_digest 391 = .ok (.ladd, 1) := by decide +kernel
theorem dX11_digest_392 : decode cX11_digest 392 = .ok (.lstore_n 1, 1) := by decide +kernel
theorem dX11_digest_393 : decode cX11_digest 393 = .ok (.ldc2_w 270, 3) := by decide +kernel
theorem dX11_digest_396 : decode cX11_digest 396 = .ok (.lload_n 1, 1) := by decide +kernel
theorem dX11_digest_397 : decode cX11_digest 397 = .ok (.lmul, 1) := by decide +kernel
theorem dX11_digest_398 : decode cX11_digest 398 = .ok (.aload_n 0, 1) := by decide +kernel
theorem dX11_digest_399 : decode cX11_digest 399 = .ok (.iconst 0, 1) := by decide +kernel
theorem dX11_digest_400 : decode cX11_digest 400 = .ok (.invokevirtual 250, 3) := by decide +kernel
theorem dX11_digest_403 : decode cX11_digest 403 = .ok (.i2l, 1) := by decide +kernel
theorem dX11_digest_404 : decode cX11_digest 404 = .ok (.ladd, 1) := by decide +kernel
theorem dX11_digest_405 : decode cX11_digest 405 = .ok (.lstore_n 1, 1) := by decide +kernel
theorem dX11_digest_406 : decode cX11_digest 406 = .ok (.ldc2_w 270, 3) := by decide +kernel
theorem dX11_digest_409 : decode cX11_digest 409 = .ok (.lload_n 1, 1) := by decide +kernel
theorem dX11_digest_410 : decode cX11_digest 410 = .ok (.lmul, 1) := by decide +kernel
theorem dX11_digest_411 : decode cX11_digest 411 = .ok (.aload_n 0, 1) := by decide +kernel
theorem dX11_digest_412 : decode cX11_digest 412 = .ok (.iconst 1, 1) := by decide +kernel
theorem dX11_digest_413 : decode cX11_digest 413 = .ok (.invokevirtual 250, 3) := by decide +kernel
theorem dX11_digest_416 : decode cX11_digest 416 = .ok (.i2l, 1) := by decide +kernel
theorem dX11_digest_417 : decode cX11_digest 417 = .ok (.ladd, 1) := by decide +kernel
theorem dX11_digest_418 : decode cX11_digest 418 = .ok (.lstore_n 1, 1) := by decide +kernel
theorem dX11_digest_419 : decode cX11_digest 419 = .ok (.iconst 0, 1) := by decide +kernel
theorem dX11_digest_420 : decode cX11_digest 420 = .ok (.istore_n 3, 1) := by decide +kernel
theorem dX11_digest_421 : decode cX11_digest 421 = .ok (.iload_n 3, 1) := by decide +kernel
theorem dX11_digest_422 : decode cX11_digest 422 = .ok (.iconst 2, 1) := by decide +kernel
theorem dX11_digest_423 : decode cX11_digest 423 = .ok (.if_icmp .ge 21, 3) := by decide +kernel
theorem dX11_digest_426 : decode cX11_digest 426 = .ok (.ldc2_w 270, 3) := by decide +kernel
theorem dX11_digest_429 : decode cX11_digest 429 = .ok (.lload_n 1, 1) := by decide +kernel
theorem dX11_digest_430 : decode cX11_digest 430 = .ok (.lmul, 1) := by decide +kernel
theorem dX11_digest_431 : decode cX11_digest 431 = .ok (.aload_n 0, 1) := by decide +kernel
theorem dX11_digest_432 : decode cX11_digest 432 = .ok (.iload_n 3, 1) := by decide +kernel
theorem dX11_digest_433 : decode cX11_digest 433 = .ok (.invokevirtual 253, 3) := by decide +kernel
theorem dX11_digest_436 : decode cX11_digest 436 = .ok (.ladd, 1) := by decide +kernel
theorem dX11_digest_437 : decode cX11_digest 437 = .ok (.lstore_n 1, 1) := by decide +kernel
theorem dX11_digest_438 : decode cX11_digest 438 = .ok (.iinc 3 1, 3) := by decide +kernel
theorem dX11_digest_441 : decode cX11_digest 441 = .ok (.goto (-20), 3) := by decide +kernel
theorem dX11_digest_444 : decode cX11_digest 444 = .ok (.ldc2_w 270, 3) := by decide +kernel
theorem dX11_digest_447 : decode cX11_digest 447 = .ok (.lload_n 1, 1) := by decide +kernel
theorem dX11_digest_448 : decode cX11_digest 448 = .ok (.lmul, 1) := by decide +kernel
theorem dX11_digest_449 : decode cX11_digest 449 = .ok (.aload_n 0, 1) := by decide +kernel
theorem dX11_digest_450 : decode cX11_digest 450 = .ok (.invokevirtual 265, 3) := by decide +kernel
theorem dX11_digest_453 : decode cX11_digest 453 = .ok (.i2l, 1) := by decide +kernel
theorem dX11_digest_454 : decode cX11_digest 454 = .ok (.ladd, 1) := by decide +kernel
theorem dX11_digest_455 : decode cX11_digest 455 = .ok (.lreturn, 1) := by decide +kernel
