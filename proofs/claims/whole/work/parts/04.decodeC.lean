theorem dX0_init_0 : decode cX0_init 0 = .ok (.aload_n 0, 1) := by decide +kernel
theorem dX0_init_1 : decode cX0_init 1 = .ok (.invokespecial 1, 3) := by decide +kernel
theorem dX0_init_4 : decode cX0_init 4 = .ok (.aload_n 0, 1) := by decide +kernel
theorem dX0_init_5 : decode cX0_init 5 = .ok (.bipush 6, 2) := by decide +kernel
theorem dX0_init_7 : decode cX0_init 7 = .ok (.newarray .int, 2) := by decide +kernel
theorem dX0_init_9 : decode cX0_init 9 = .ok (.putfield 9, 3) := by decide +kernel
theorem dX0_init_12 : decode cX0_init 12 = .ok (.aload_n 0, 1) := by decide +kernel
theorem dX0_init_13 : decode cX0_init 13 = .ok (.bipush 6, 2) := by decide +kernel
theorem dX0_init_15 : decode cX0_init 15 = .ok (.newarray .int, 2) := by decide +kernel
theorem dX0_init_17 : decode cX0_init 17 = .ok (.putfield 13, 3) := by decide +kernel
theorem dX0_init_20 : decode cX0_init 20 = .ok (.aload_n 0, 1) := by decide +kernel
theorem dX0_init_21 : decode cX0_init 21 = .ok (.bipush 6, 2) := by decide +kernel
theorem dX0_init_23 : decode cX0_init 23 = .ok (.newarray .int, 2) := by decide +kernel
theorem dX0_init_25 : decode cX0_init 25 = .ok (.putfield 16, 3) := by decide +kernel
theorem dX0_init_28 : decode cX0_init 28 = .ok (.aload_n 0, 1) := by decide +kernel
theorem dX0_init_29 : decode cX0_init 29 = .ok (.bipush 6, 2) := by decide +kernel
theorem dX0_init_31 : decode cX0_init 31 = .ok (.newarray .int, 2) := by decide +kernel
theorem dX0_init_33 : decode cX0_init 33 = .ok (.putfield 19, 3) := by decide +kernel
theorem dX0_init_36 : decode cX0_init 36 = .ok (.aload_n 0, 1) := by decide +kernel
theorem dX0_init_37 : decode cX0_init 37 = .ok (.iconst 0, 1) := by decide +kernel
theorem dX0_init_38 : decode cX0_init 38 = .ok (.putfield 22, 3) := by decide +kernel
theorem dX0_init_41 : decode cX0_init 41 = .ok (.return_, 1) := by decide +kernel
theorem dX0_size_0 : decode cX0_size 0 = .ok (.aload_n 0, 1) := by decide +kernel
theorem dX0_size_1 : decode cX0_size 1 = .ok (.getfield 22, 3) := by decide +kernel
theorem dX0_size_4 : decode cX0_size 4 = .ok (.ireturn, 1) := by decide +kernel
theorem dX0_add_0 : decode cX0_add 0 = .ok (.aload_n 0, 1) := by decide +kernel
theorem dX0_add_1 : decode cX0_add 1 = .ok (.getfield 22, 3) := by decide +kernel
theorem dX0_add_4 : decode cX0_add 4 = .ok (.bipush 6, 2) := by decide +kernel
theorem dX0_add_6 : decode cX0_add 6 = .ok (.if_icmp .lt 5, 3) := by decide +kernel
theorem dX0_add_9 : decode cX0_add 9 = .ok (.iconst 0, 1) := by decide +kernel
theorem dX0_add_10 : decode cX0_add 10 = .ok (.ireturn, 1) := by decide +kernel
theorem dX0_add_11 : decode cX0_add 11 = .ok (.aload_n 0, 1) := by decide +kernel
theorem dX0_add_12 : decode cX0_add 12 = .ok (.getfield 9, 3) := by decide +kernel
theorem dX0_add_15 : decode cX0_add 15 = .ok (.aload_n 0, 1) := by decide +kernel
theorem dX0_add_16 : decode cX0_add 16 = .ok (.getfield 22, 3) := by decide +kernel
theorem dX0_add_19 : decode cX0_add 19 = .ok (.iload_n 1, 1) := by decide +kernel
theorem dX0_add_20 : decode cX0_add 20 = .ok (.iastore, 1) := by decide +kernel
theorem dX0_add_21 : decode cX0_add 21 = .ok (.aload_n 0, 1) := by decide +kernel
theorem dX0_add_22 : decode cX0_add 22 = .ok (.getfield 13, 3) := by decide +kernel
theorem dX0_add_25 : decode cX0_add 25 = .ok (.aload_n 0, 1) := by decide +kernel
theorem dX0_add_26 : decode cX0_add 26 = .ok (.getfield 22, 3) := by decide +kernel
theorem dX0_add_29 : decode cX0_add 29 = .ok (.iload_n 2, 1) := by decide +kernel
theorem dX0_add_30 : decode cX0_add 30 = .ok (.iastore, 1) := by decide +kernel
theorem dX0_add_31 : decode cX0_add 31 = .ok (.aload_n 0, 1) := by decide +kernel
theorem dX0_add_32 : decode cX0_add 32 = .ok (.getfield 16, 3) := by decide +kernel
theorem dX0_add_35 : decode cX0_add 35 = .ok (.aload_n 0, 1) := by decide +kernel
theorem dX0_add_36 : decode cX0_add 36 = .ok (.getfield 22, 3) := by decide +kernel
theorem dX0_add_39 : decode cX0_add 39 = .ok (.iload_n 3, 1) := by decide +kernel
theorem dX0_add_40 : decode cX0_add 40 = .ok (.iastore, 1) := by decide +kernel
theorem dX0_add_41 : decode cX0_add 41 = .ok (.aload_n 0, 1) := by decide +kernel
theorem dX0_add_42 : decode cX0_add 42 = .ok (.getfield 19, 3) := by decide +kernel
theorem dX0_add_45 : decode cX0_add 45 = .ok (.aload_n 0, 1) := by decide +kernel
theorem dX0_add_46 : decode cX0_add 46 = .ok (.getfield 22, 3) := by decide +kernel
theorem dX0_add_49 : decode cX0_add 49 = .ok (.iload 4, 2) := by decide +kernel
theorem dX0_add_51 : decode cX0_add 51 = .ok (.iastore, 1) := by decide +kernel
theorem dX0_add_52 : decode cX0_add 52 = .ok (.aload_n 0, 1) := by decide +kernel
theorem dX0_add_53 : decode cX0_add 53 = .ok (.dup, 1) := by decide +kernel
theorem dX0_add_54 : decode cX0_add 54 = .ok (.getfield 22, 3) := by decide +kernel
theorem dX0_add_57 : decode cX0_add 57 = .ok (.iconst 1, 1) := by decide +kernel
theorem dX0_add_58 : decode cX0_add 58 = .ok (.iadd, 1) := by decide +kernel
theorem dX0_add_59 : decode cX0_add 59 = .ok (.putfield 22, 3) := by decide +kernel
theorem dX0_add_62 : decode cX0_add 62 = .ok (.iconst 1, 1) := by decide +kernel
theorem dX0_add_63 : decode cX0_add 63 = .ok (.ireturn, 1) := by decide +kernel
theorem dX0_clear_0 : decode cX0_clear 0 = .ok (.aload_n 0, 1) := by decide +kernel
theorem dX0_clear_1 : decode cX0_clear 1 = .ok (.iconst 0, 1) := by decide +kernel
theorem dX0_clear_2 : decode cX0_clear 2 = .ok (.putfield 22, 3) := by decide +kernel
theorem dX0_clear_5 : decode cX0_clear 5 = .ok (.return_, 1) := by decide +kernel
theorem dX0_allow_0 : decode cX0_allow 0 = .ok (.iconst 0, 1) := by decide +kernel
theorem dX0_allow_1 : decode cX0_allow 1 = .ok (.istore 4, 2) := by decide +kernel
theorem dX0_allow_3 : decode cX0_allow 3 = .ok (.iload 4, 2) := by decide +kernel
theorem dX0_allow_5 : decode cX0_allow 5 = .ok (.aload_n 0, 1) := by decide +kernel
theorem dX0_allow_6 : decode cX0_allow 6 = .ok (.getfield 22, 3) := by decide +kernel
theorem dX0_allow_9 : decode cX0_allow 9 = .ok (.if_icmp .ge 52, 3) := by decide +kernel
theorem dX0_allow_12 : decode cX0_allow 12 = .ok (.aload_n 0, 1) := by decide +kernel
theorem dX0_allow_13 : decode cX0_allow 13 = .ok (.getfield 9, 3) := by decide +kernel
theorem dX0_allow_16 : decode cX0_allow 16 = .ok (.iload 4, 2) := by decide +kernel
theorem dX0_allow_18 : decode cX0_allow 18 = .ok (.iaload, 1) := by decide +kernel
theorem dX0_allow_19 : decode cX0_allow 19 = .ok (.iload_n 1, 1) := by decide +kernel
theorem dX0_allow_20 : decode cX0_allow 20 = .ok (.if_icmp .gt 33, 3) := by decide +kernel
theorem dX0_allow_23 : decode cX0_allow 23 = .ok (.aload_n 0, 1) := by decide +kernel
theorem dX0_allow_24 : decode cX0_allow 24 = .ok (.getfield 16, 3) := by decide +kernel
theorem dX0_allow_27 : decode cX0_allow 27 = .ok (.iload 4, 2) := by decide +kernel
theorem dX0_allow_29 : decode cX0_allow 29 = .ok (.iaload, 1) := by decide +kernel
theorem dX0_allow_30 : decode cX0_allow 30 = .ok (.aload_n 3, 1) := by decide +kernel
theorem dX0_allow_31 : decode cX0_allow 31 = .ok (.aload_n 0, 1) := by decide +kernel
theorem dX0_allow_32 : decode cX0_allow 32 = .ok (.getfield 13, 3) := by decide +kernel
theorem dX0_allow_35 : decode cX0_allow 35 = .ok (.iload 4, 2) := by decide +kernel
theorem dX0_allow_37 : decode cX0_allow 37 = .ok (.iaload, 1) := by decide +kernel
theorem dX0_allow_38 : decode cX0_allow 38 = .ok (.invokevirtual 26, 3) := by decide +kernel
theorem dX0_allow_41 : decode cX0_allow 41 = .ok (.aload_n 0, 1) := by decide +kernel
theorem dX0_allow_42 : decode cX0_allow 42 = .ok (.iload 4, 2) := by decide +kernel
theorem dX0_allow_44 : decode cX0_allow 44 = .ok (.iload_n 1, 1) := by decide +kernel
theorem dX0_allow_45 : decode cX0_allow 45 = .ok (.aload_n 2, 1) := by decide +kernel
theorem dX0_allow_46 : decode cX0_allow 46 = .ok (.invokevirtual 32, 3) := by decide +kernel
theorem dX0_allow_49 : decode cX0_allow 49 = .ok (.isub, 1) := by decide +kernel
theorem dX0_allow_50 : decode cX0_allow 50 = .ok (.if_icmp .eq 5, 3) := by decide +kernel
theorem dX0_allow_53 : decode cX0_allow 53 = .ok (.iconst 0, 1) := by decide +kernel
theorem dX0_allow_54 : decode cX0_allow 54 = .ok (.ireturn, 1) := by decide +kernel
theorem dX0_allow_55 : decode cX0_allow 55 = .ok (.iinc 4 1, 3) := by decide +kernel
theorem dX0_allow_58 : decode cX0_allow 58 = .ok (.goto (-55), 3) := by decide +kernel
theorem dX0_allow_61 : decode cX0_allow 61 = .ok (.iconst 1, 1) := by decide +kernel
theorem dX0_allow_62 : decode cX0_allow 62 = .ok (.ireturn, 1) := by decide +kernel
theorem dX0_minutesTill_0 : decode cX0_minutesTill 0 = .ok (.aload_n 0, 1) := by decide +kernel
theorem dX0_minutesTill_1 : decode cX0_minutesTill 1 = .ok (.getfield 19, 3) := by decide +kernel
theorem dX0_minutesTill_4 : decode cX0_minutesTill 4 = .ok (.iload_n 1, 1) := by decide +kernel
theorem dX0_minutesTill_5 : decode cX0_minutesTill 5 = .ok (.iaload, 1) := by decide +kernel
theorem dX0_minutesTill_6 : decode cX0_minutesTill 6 = .ok (.ifCond .ne 15, 3) := by decide +kernel
theorem dX0_minutesTill_9 : decode cX0_minutesTill 9 = .ok (.aload_n 3, 1) := by decide +kernel
theorem dX0_minutesTill_10 : decode cX0_minutesTill 10 = .ok (.iconst 0, 1) := by decide +kernel
theorem dX0_minutesTill_11 : decode cX0_minutesTill 11 = .ok (.aload_n 0, 1) := by decide +kernel
theorem dX0_minutesTill_12 : decode cX0_minutesTill 12 = .ok (.getfield 9, 3) := by decide +kernel
theorem dX0_minutesTill_15 : decode cX0_minutesTill 15 = .ok (.iload_n 1, 1) := by decide +kernel
theorem dX0_minutesTill_16 : decode cX0_minutesTill 16 = .ok (.iaload, 1) := by decide +kernel
theorem dX0_minutesTill_17 : decode cX0_minutesTill 17 = .ok (.invokevirtual 38, 3) := by decide +kernel
theorem dX0_minutesTill_20 : decode cX0_minutesTill 20 = .ok (.ireturn, 1) := by decide +kernel
theorem dX0_minutesTill_21 : decode cX0_minutesTill 21 = .ok (.aload_n 3, 1) := by decide +kernel
theorem dX0_minutesTill_22 : decode cX0_minutesTill 22 = .ok (.iconst 1, 1) := by decide +kernel
theorem dX0_minutesTill_23 : decode cX0_minutesTill 23 = .ok (.iload_n 2, 1) := by decide +kernel
theorem dX0_minutesTill_24 : decode cX0_minutesTill 24 = .ok (.invokevirtual 38, 3) := by decide +kernel
theorem dX0_minutesTill_27 : decode cX0_minutesTill 27 = .ok (.aload_n 3, 1) := by decide +kernel
theorem dX0_minutesTill_28 : decode cX0_minutesTill 28 = .ok (.iconst 1, 1) := by decide +kernel
theorem dX0_minutesTill_29 : decode cX0_minutesTill 29 = .ok (.aload_n 0, 1) := by decide +kernel
theorem dX0_minutesTill_30 : decode cX0_minutesTill 30 = .ok (.getfield 9, 3) := by decide +kernel
theorem dX0_minutesTill_33 : decode cX0_minutesTill 33 = .ok (.iload_n 1, 1) := by decide +kernel
theorem dX0_minutesTill_34 : decode cX0_minutesTill 34 = .ok (.iaload, 1) := by decide +kernel
theorem dX0_minutesTill_35 : decode cX0_minutesTill 35 = .ok (.invokevirtual 38, 3) := by decide +kernel
theorem dX0_minutesTill_38 : decode cX0_minutesTill 38 = .ok (.isub, 1) := by decide +kernel
theorem dX0_minutesTill_39 : decode cX0_minutesTill 39 = .ok (.istore 4, 2) := by decide +kernel
theorem dX0_minutesTill_41 : decode cX0_minutesTill 41 = .ok (.aload_n 3, 1) := by decide +kernel
theorem dX0_minutesTill_42 : decode cX0_minutesTill 42 = .ok (.iconst 0, 1) := by decide +kernel
theorem dX0_minutesTill_43 : decode cX0_minutesTill 43 = .ok (.iload_n 2, 1) := by decide +kernel
theorem dX0_minutesTill_44 : decode cX0_minutesTill 44 = .ok (.invokevirtual 38, 3) := by decide +kernel
theorem dX0_minutesTill_47 : decode cX0_minutesTill 47 = .ok (.iload 4, 2) := by decide +kernel
theorem dX0_minutesTill_49 : decode cX0_minutesTill 49 = .ok (.iadd, 1) := by decide +kernel
theorem dX0_minutesTill_50 : decode cX0_minutesTill 50 = .ok (.ireturn, 1) := by decide +kernel
theorem dX1_init_0 : decode cX1_init 0 = .ok (.aload_n 0, 1) := by decide +kernel
theorem dX1_init_1 : decode cX1_init 1 = .ok (.invokespecial 3, 3) := by decide +kernel
theorem dX1_init_4 : decode cX1_init 4 = .ok (.aload_n 0, 1) := by decide +kernel
theorem dX1_init_5 : decode cX1_init 5 = .ok (.bipush 16, 2) := by decide +kernel
theorem dX1_init_7 : decode cX1_init 7 = .ok (.iconst 4, 1) := by decide +kernel
theorem dX1_init_8 : decode cX1_init 8 = .ok (.multianewarray 9 2, 4) := by decide +kernel
theorem dX1_init_12 : decode cX1_init 12 = .ok (.putfield 11, 3) := by decide +kernel
theorem dX1_init_15 : decode cX1_init 15 = .ok (.aload_n 0, 1) := by decide +kernel
theorem dX1_init_16 : decode cX1_init 16 = .ok (.iconst 0, 1) := by decide +kernel
theorem dX1_init_17 : decode cX1_init 17 = .ok (.putfield 16, 3) := by decide +kernel
theorem dX1_init_20 : decode cX1_init 20 = .ok (.aload_n 0, 1) := by decide +kernel
theorem dX1_init_21 : decode cX1_init 21 = .ok (.iconst (-1), 1) := by decide +kernel
theorem dX1_init_22 : decode cX1_init 22 = .ok (.putfield 20, 3) := by decide +kernel
theorem dX1_init_25 : decode cX1_init 25 = .ok (.return_, 1) := by decide +kernel
theorem dX1_size_0 : decode cX1_size 0 = .ok (.aload_n 0, 1) := by decide +kernel
theorem dX1_size_1 : decode cX1_size 1 = .ok (.getfield 16, 3) := by decide +kernel
theorem dX1_size_4 : decode cX1_size 4 = .ok (.ireturn, 1) := by decide +kernel
theorem dX1_faultPlace_0 : decode cX1_faultPlace 0 = .ok (.aload_n 0, 1) := by decide +kernel
theorem dX1_faultPlace_1 : decode cX1_faultPlace 1 = .ok (.getfield 20, 3) := by decide +kernel
theorem dX1_faultPlace_4 : decode cX1_faultPlace 4 = .ok (.ireturn, 1) := by decide +kernel
theorem dX1_figure_0 : decode cX1_figure 0 = .ok (.iload_n 1, 1) := by decide +kernel
theorem dX1_figure_1 : decode cX1_figure 1 = .ok (.ifCond .lt 20, 3) := by decide +kernel
theorem dX1_figure_4 : decode cX1_figure 4 = .ok (.iload_n 1, 1) := by decide +kernel
theorem dX1_figure_5 : decode cX1_figure 5 = .ok (.aload_n 0, 1) := by decide +kernel
theorem dX1_figure_6 : decode cX1_figure 6 = .ok (.getfield 16, 3) := by decide +kernel
theorem dX1_figure_9 : decode cX1_figure 9 = .ok (.if_icmp .ge 12, 3) := by decide +kernel
theorem dX1_figure_12 : decode cX1_figure 12 = .ok (.iload_n 2, 1) := by decide +kernel
theorem dX1_figure_13 : decode cX1_figure 13 = .ok (.ifCond .lt 8, 3) := by decide +kernel
theorem dX1_figure_16 : decode cX1_figure 16 = .ok (.iload_n 2, 1) := by decide +kernel
theorem dX1_figure_17 : decode cX1_figure 17 = .ok (.iconst 3, 1) := by decide +kernel
theorem dX1_figure_18 : decode cX1_figure 18 = .ok (.if_icmp .le 5, 3) := by decide +kernel
theorem dX1_figure_21 : decode cX1_figure 21 = .ok (.iconst 0, 1) := by decide +kernel
theorem dX1_figure_22 : decode cX1_figure 22 = .ok (.ireturn, 1) := by decide +kernel
theorem dX1_figure_23 : decode cX1_figure 23 = .ok (.aload_n 0, 1) := by decide +kernel
theorem dX1_figure_24 : decode cX1_figure 24 = .ok (.getfield 11, 3) := by decide +kernel
theorem dX1_figure_27 : decode cX1_figure 27 = .ok (.iload_n 1, 1) := by decide +kernel
theorem dX1_figure_28 : decode cX1_figure 28 = .ok (.aaload, 1) := by decide +kernel
theorem dX1_figure_29 : decode cX1_figure 29 = .ok (.iload_n 2, 1) := by decide +kernel
theorem dX1_figure_30 : decode cX1_figure 30 = .ok (.iaload, 1) := by decide +kernel
theorem dX1_figure_31 : decode cX1_figure 31 = .ok (.ireturn, 1) := by decide +kernel
theorem dX1_parse_0 : decode cX1_parse 0 = .ok (.aload_n 1, 1) := by decide +kernel
theorem dX1_parse_1 : decode cX1_parse 1 = .ok (.invokevirtual 23, 3) := by decide +kernel
theorem dX1_parse_4 : decode cX1_parse 4 = .ok (.istore_n 2, 1) := by decide +kernel
theorem dX1_parse_5 : decode cX1_parse 5 = .ok (.aload_n 0, 1) := by decide +kernel
theorem dX1_parse_6 : decode cX1_parse 6 = .ok (.iconst 0, 1) := by decide +kernel
theorem dX1_parse_7 : decode cX1_parse 7 = .ok (.putfield 16, 3) := by decide +kernel
theorem dX1_parse_10 : decode cX1_parse 10 = .ok (.aload_n 0, 1) := by decide +kernel
theorem dX1_parse_11 : decode cX1_parse 11 = .ok (.iconst (-1), 1) := by decide +kernel
theorem dX1_parse_12 : decode cX1_parse 12 = .ok (.putfield 20, 3) := by decide +kernel
theorem dX1_parse_15 : decode cX1_parse 15 = .ok (.iconst 0, 1) := by decide +kernel
theorem dX1_parse_16 : decode cX1_parse 16 = .ok (.istore_n 3, 1) := by decide +kernel
theorem dX1_parse_17 : decode cX1_parse 17 = .ok (.iload_n 3, 1) := by decide +kernel
theorem dX1_parse_18 : decode cX1_parse 18 = .ok (.iload_n 2, 1) := by decide +kernel
theorem dX1_parse_19 : decode cX1_parse 19 = .ok (.if_icmp .ge 33, 3) := by decide +kernel
theorem dX1_parse_22 : decode cX1_parse 22 = .ok (.aload_n 0, 1) := by decide +kernel
theorem dX1_parse_23 : decode cX1_parse 23 = .ok (.iload_n 3, 1) := by decide +kernel
theorem dX1_parse_24 : decode cX1_parse 24 = .ok (.iconst 5, 1) := by decide +kernel
theorem dX1_parse_25 : decode cX1_parse 25 = .ok (.idiv, 1) := by decide +kernel
theorem dX1_parse_26 : decode cX1_parse 26 = .ok (.iload_n 3, 1) := by decide +kernel
theorem dX1_parse_27 : decode cX1_parse 27 = .ok (.iconst 5, 1) := by decide +kernel
theorem dX1_parse_28 : decode cX1_parse 28 = .ok (.irem, 1) := by decide +kernel
theorem dX1_parse_29 : decode cX1_parse 29 = .ok (.aload_n 1, 1) := by decide +kernel
theorem dX1_parse_30 : decode cX1_parse 30 = .ok (.iload_n 3, 1) := by decide +kernel
theorem dX1_parse_31 : decode cX1_parse 31 = .ok (.invokevirtual 29, 3) := by decide +kernel
theorem dX1_parse_34 : decode cX1_parse 34 = .ok (.invokevirtual 33, 3) := by decide +kernel
theorem dX1_parse_37 : decode cX1_parse 37 = .ok (.ifCond .ne 9, 3) := by decide +kernel
theorem dX1_parse_40 : decode cX1_parse 40 = .ok (.aload_n 0, 1) := by decide +kernel
theorem dX1_parse_41 : decode cX1_parse 41 = .ok (.iload_n 3, 1) := by decide +kernel
theorem dX1_parse_42 : decode cX1_parse 42 = .ok (.putfield 20, 3) := by decide +kernel
theorem dX1_parse_45 : decode cX1_parse 45 = .ok (.return_, 1) := by decide +kernel
theorem dX1_parse_46 : decode cX1_parse 46 = .ok (.iinc 3 1, 3) := by decide +kernel
theorem dX1_parse_49 : decode cX1_parse 49 = .ok (.goto (-32), 3) := by decide +kernel
theorem dX1_parse_52 : decode cX1_parse 52 = .ok (.iload_n 2, 1) := by decide +kernel
theorem dX1_parse_53 : decode cX1_parse 53 = .ok (.ifCond .le 16, 3) := by decide +kernel
theorem dX1_parse_56 : decode cX1_parse 56 = .ok (.iload_n 2, 1) := by decide +kernel
theorem dX1_parse_57 : decode cX1_parse 57 = .ok (.iconst 5, 1) := by decide +kernel
theorem dX1_parse_58 : decode cX1_parse 58 = .ok (.irem, 1) := by decide +kernel
theorem dX1_parse_59 : decode cX1_parse 59 = .ok (.iconst 4, 1) := by decide +kernel
theorem dX1_parse_60 : decode cX1_parse 60 = .ok (.if_icmp .eq 9, 3) := by decide +kernel
theorem dX1_parse_63 : decode cX1_parse 63 = .ok (.aload_n 0, 1) := by decide +kernel
theorem dX1_parse_64 : decode cX1_parse 64 = .ok (.iload_n 2, 1) := by decide +kernel
theorem dX1_parse_65 : decode cX1_parse 65 = .ok (.putfield 20, 3) := by decide +kernel
theorem dX1_parse_68 : decode cX1_parse 68 = .ok (.return_, 1) := by decide +kernel
theorem dX1_parse_69 : decode cX1_parse 69 = .ok (.aload_n 0, 1) := by decide +kernel
theorem dX1_parse_70 : decode cX1_parse 70 = .ok (.iload_n 2, 1) := by decide +kernel
theorem dX1_parse_71 : decode cX1_parse 71 = .ok (.iconst 1, 1) := by decide +kernel
theorem dX1_parse_72 : decode cX1_parse 72 = .ok (.iadd, 1) := by decide +kernel
theorem dX1_parse_73 : decode cX1_parse 73 = .ok (.iconst 5, 1) := by decide +kernel
theorem dX1_parse_74 : decode cX1_parse 74 = .ok (.idiv, 1) := by decide +kernel
theorem dX1_parse_75 : decode cX1_parse 75 = .ok (.putfield 16, 3) := by decide +kernel
theorem dX1_parse_78 : decode cX1_parse 78 = .ok (.return_, 1) := by decide +kernel
theorem dX1_accept_0 : decode cX1_accept 0 = .ok (.iload_n 1, 1) := by decide +kernel
theorem dX1_accept_1 : decode cX1_accept 1 = .ok (.ifCond .lt 9, 3) := by decide +kernel
theorem dX1_accept_4 : decode cX1_accept 4 = .ok (.iload_n 1, 1) := by decide +kernel
theorem dX1_accept_5 : decode cX1_accept 5 = .ok (.bipush 16, 2) := by decide +kernel
theorem dX1_accept_7 : decode cX1_accept 7 = .ok (.if_icmp .lt 5, 3) := by decide +kernel
theorem dX1_accept_10 : decode cX1_accept 10 = .ok (.iconst 0, 1) := by decide +kernel
theorem dX1_accept_11 : decode cX1_accept 11 = .ok (.ireturn, 1) := by decide +kernel
theorem dX1_accept_12 : decode cX1_accept 12 = .ok (.iload_n 2, 1) := by decide +kernel
theorem dX1_accept_13 : decode cX1_accept 13 = .ok (.iconst 3, 1) := by decide +kernel
theorem dX1_accept_14 : decode cX1_accept 14 = .ok (.if_icmp .le 15, 3) := by decide +kernel
theorem dX1_accept_17 : decode cX1_accept 17 = .ok (.iload_n 3, 1) := by decide +kernel
theorem dX1_accept_18 : decode cX1_accept 18 = .ok (.bipush 59, 2) := by decide +kernel
theorem dX1_accept_20 : decode cX1_accept 20 = .ok (.if_icmp .ne 7, 3) := by decide +kernel
theorem dX1_accept_23 : decode cX1_accept 23 = .ok (.iconst 1, 1) := by decide +kernel
theorem dX1_accept_24 : decode cX1_accept 24 = .ok (.goto 4, 3) := by decide +kernel
theorem dX1_accept_27 : decode cX1_accept 27 = .ok (.iconst 0, 1) := by decide +kernel
theorem dX1_accept_28 : decode cX1_accept 28 = .ok (.ireturn, 1) := by decide +kernel
theorem dX1_accept_29 : decode cX1_accept 29 = .ok (.iload_n 2, 1) := by decide +kernel
theorem dX1_accept_30 : decode cX1_accept 30 = .ok (.iconst 3, 1) := by decide +kernel
theorem dX1_accept_31 : decode cX1_accept 31 = .ok (.if_icmp .ne 40, 3) := by decide +kernel
theorem dX1_accept_34 : decode cX1_accept 34 = .ok (.aload_n 0, 1) := by decide +kernel
theorem dX1_accept_35 : decode cX1_accept 35 = .ok (.getfield 11, 3) := by decide +kernel
theorem dX1_accept_38 : decode cX1_accept 38 = .ok (.iload_n 1, 1) := by decide +kernel
theorem dX1_accept_39 : decode cX1_accept 39 = .ok (.aaload, 1) := by decide +kernel
theorem dX1_accept_40 : decode cX1_accept 40 = .ok (.iconst 3, 1) := by decide +kernel
theorem dX1_accept_41 : decode cX1_accept 41 = .ok (.iload_n 3, 1) := by decide +kernel
theorem dX1_accept_42 : decode cX1_accept 42 = .ok (.bipush 114, 2) := by decide +kernel
theorem dX1_accept_44 : decode cX1_accept 44 = .ok (.if_icmp .ne 7, 3) := by decide +kernel
theorem dX1_accept_47 : decode cX1_accept 47 = .ok (.iconst 1, 1) := by decide +kernel
theorem dX1_accept_48 : decode cX1_accept 48 = .ok (.goto 4, 3) := by decide +kernel
theorem dX1_accept_51 : decode cX1_accept 51 = .ok (.iconst 0, 1) := by decide +kernel
theorem dX1_accept_52 : decode cX1_accept 52 = .ok (.iastore, 1) := by decide +kernel
theorem dX1_accept_53 : decode cX1_accept 53 = .ok (.iload_n 3, 1) := by decide +kernel
theorem dX1_accept_54 : decode cX1_accept 54 = .ok (.bipush 114, 2) := by decide +kernel
theorem dX1_accept_56 : decode cX1_accept 56 = .ok (.if_icmp .eq 9, 3) := by decide +kernel
theorem dX1_accept_59 : decode cX1_accept 59 = .ok (.iload_n 3, 1) := by decide +kernel
theorem dX1_accept_60 : decode cX1_accept 60 = .ok (.bipush 46, 2) := by decide +kernel
theorem dX1_accept_62 : decode cX1_accept 62 = .ok (.if_icmp .ne 7, 3) := by decide +kernel
theorem dX1_accept_65 : decode cX1_accept 65 = .ok (.iconst 1, 1) := by decide +kernel
theorem dX1_accept_66 : decode cX1_accept 66 = .ok (.goto 4, 3) := by decide +kernel
theorem dX1_accept_69 : decode cX1_accept 69 = .ok (.iconst 0, 1) := by decide +kernel
theorem dX1_accept_70 : decode cX1_accept 70 = .ok (.ireturn, 1) := by decide +kernel
theorem dX1_accept_71 : decode cX1_accept 71 = .ok (.iload_n 3, 1) := by decide +kernel
theorem dX1_accept_72 : decode cX1_accept 72 = .ok (.bipush 49, 2) := by decide +kernel
theorem dX1_accept_74 : decode cX1_accept 74 = .ok (.if_icmp .lt 9, 3) := by decide +kernel
theorem dX1_accept_77 : decode cX1_accept 77 = .ok (.iload_n 3, 1) := by decide +kernel
theorem dX1_accept_78 : decode cX1_accept 78 = .ok (.bipush 57, 2) := by decide +kernel
theorem dX1_accept_80 : decode cX1_accept 80 = .ok (.if_icmp .le 5, 3) := by decide +kernel
theorem dX1_accept_83 : decode cX1_accept 83 = .ok (.iconst 0, 1) := by decide +kernel
theorem dX1_accept_84 : decode cX1_accept 84 = .ok (.ireturn, 1) := by decide +kernel
theorem dX1_accept_85 : decode cX1_accept 85 = .ok (.aload_n 0, 1) := by decide +kernel
theorem dX1_accept_86 : decode cX1_accept 86 = .ok (.getfield 11, 3) := by decide +kernel
theorem dX1_accept_89 : decode cX1_accept 89 = .ok (.iload_n 1, 1) := by decide +kernel
theorem dX1_accept_90 : decode cX1_accept 90 = .ok (.aaload, 1) := by decide +kernel
theorem dX1_accept_91 : decode cX1_accept 91 = .ok (.iload_n 2, 1) := by decide +kernel
theorem dX1_accept_92 : decode cX1_accept 92 = .ok (.iload_n 3, 1) := by decide +kernel
theorem dX1_accept_93 : decode cX1_accept 93 = .ok (.bipush 48, 2) := by decide +kernel
theorem dX1_accept_95 : decode cX1_accept 95 = .ok (.isub, 1) := by decide +kernel
theorem dX1_accept_96 : decode cX1_accept 96 = .ok (.iastore, 1) := by decide +kernel
theorem dX1_accept_97 : decode cX1_accept 97 = .ok (.iload_n 2, 1) := by decide +kernel
theorem dX1_accept_98 : decode cX1_accept 98 = .ok (.iconst 2, 1) := by decide +kernel
theorem dX1_accept_99 : decode cX1_accept 99 = .ok (.if_icmp .ne 22, 3) := by decide +kernel
theorem dX1_accept_102 : decode cX1_accept 102 = .ok (.aload_n 0, 1) := by decide +kernel
theorem dX1_accept_103 : decode cX1_accept 103 = .ok (.getfield 11, 3) := by decide +kernel
theorem dX1_accept_106 : decode cX1_accept 106 = .ok (.iload_n 1, 1) := by decide +kernel
theorem dX1_accept_107 : decode cX1_accept 107 = .ok (.aaload, 1) := by decide +kernel
theorem dX1_accept_108 : decode cX1_accept 108 = .ok (.iconst 2, 1) := by decide +kernel
theorem dX1_accept_109 : decode cX1_accept 109 = .ok (.iaload, 1) := by decide +kernel
theorem dX1_accept_110 : decode cX1_accept 110 = .ok (.aload_n 0, 1) := by decide +kernel
theorem dX1_accept_111 : decode cX1_accept 111 = .ok (.getfield 11, 3) := by decide +kernel
theorem dX1_accept_114 : decode cX1_accept 114 = .ok (.iload_n 1, 1) := by decide +kernel
theorem dX1_accept_115 : decode cX1_accept 115 = .ok (.aaload, 1) := by decide +kernel
theorem dX1_accept_116 : decode cX1_accept 116 = .ok (.iconst 1, 1) := by decide +kernel
theorem dX1_accept_117 : decode cX1_accept 117 = .ok (.iaload, 1) := by decide +kernel
theorem dX1_accept_118 : decode cX1_accept 118 = .ok (.if_icmp .lt 7, 3) := by decide +kernel
theorem dX1_accept_121 : decode cX1_accept 121 = .ok (.iconst 1, 1) := by decide +kernel
theorem dX1_accept_122 : decode cX1_accept 122 = .ok (.goto 4, 3) := by decide +kernel
theorem dX1_accept_125 : decode cX1_accept 125 = .ok (.iconst 0, 1) := by decide +kernel
theorem dX1_accept_126 : decode cX1_accept 126 = .ok (.ireturn, 1) := by decide +kernel
theorem dX1_allIn_0 : decode cX1_allIn 0 = .ok (.aload_n 0, 1) := by decide +kernel
theorem dX1_allIn_1 : decode cX1_allIn 1 = .ok (.iconst 0, 1) := by decide +kernel
theorem dX1_allIn_2 : decode cX1_allIn 2 = .ok (.aload_n 0, 1) := by decide +kernel
theorem dX1_allIn_3 : decode cX1_allIn 3 = .ok (.getfield 16, 3) := by decide +kernel
theorem dX1_allIn_6 : decode cX1_allIn 6 = .ok (.invokevirtual 37, 3) := by decide +kernel
theorem dX1_allIn_9 : decode cX1_allIn 9 = .ok (.ireturn, 1) := by decide +kernel
theorem dX1_sum_0 : decode cX1_sum 0 = .ok (.iconst 0, 1) := by decide +kernel
theorem dX1_sum_1 : decode cX1_sum 1 = .ok (.istore_n 3, 1) := by decide +kernel
theorem dX1_sum_2 : decode cX1_sum 2 = .ok (.iconst 0, 1) := by decide +kernel
theorem dX1_sum_3 : decode cX1_sum 3 = .ok (.istore 4, 2) := by decide +kernel
theorem dX1_sum_5 : decode cX1_sum 5 = .ok (.iload 4, 2) := by decide +kernel
theorem dX1_sum_7 : decode cX1_sum 7 = .ok (.iload_n 2, 1) := by decide +kernel
theorem dX1_sum_8 : decode cX1_sum 8 = .ok (.if_icmp .ge 28, 3) := by decide +kernel
theorem dX1_sum_11 : decode cX1_sum 11 = .ok (.iload 4, 2) := by decide +kernel
theorem dX1_sum_13 : decode cX1_sum 13 = .ok (.aload_n 0, 1) := by decide +kernel
theorem dX1_sum_14 : decode cX1_sum 14 = .ok (.getfield 16, 3) := by decide +kernel
theorem dX1_sum_17 : decode cX1_sum 17 = .ok (.if_icmp .ge 19, 3) := by decide +kernel
theorem dX1_sum_20 : decode cX1_sum 20 = .ok (.iload_n 3, 1) := by decide +kernel
theorem dX1_sum_21 : decode cX1_sum 21 = .ok (.aload_n 0, 1) := by decide +kernel
theorem dX1_sum_22 : decode cX1_sum 22 = .ok (.iload 4, 2) := by decide +kernel
theorem dX1_sum_24 : decode cX1_sum 24 = .ok (.iload_n 1, 1) := by decide +kernel
theorem dX1_sum_25 : decode cX1_sum 25 = .ok (.invokevirtual 41, 3) := by decide +kernel
theorem dX1_sum_28 : decode cX1_sum 28 = .ok (.iadd, 1) := by decide +kernel
theorem dX1_sum_29 : decode cX1_sum 29 = .ok (.istore_n 3, 1) := by decide +kernel
theorem dX1_sum_30 : decode cX1_sum 30 = .ok (.iinc 4 1, 3) := by decide +kernel
theorem dX1_sum_33 : decode cX1_sum 33 = .ok (.goto (-28), 3) := by decide +kernel
theorem dX1_sum_36 : decode cX1_sum 36 = .ok (.iload_n 3, 1) := by decide +kernel
theorem dX1_sum_37 : decode cX1_sum 37 = .ok (.ireturn, 1) := by decide +kernel
theorem dX1_inMinutes_0 : decode cX1_inMinutes 0 = .ok (.aload_n 0, 1) := by decide +kernel
theorem dX1_inMinutes_1 : decode cX1_inMinutes 1 = .ok (.iload_n 1, 1) := by decide +kernel
theorem dX1_inMinutes_2 : decode cX1_inMinutes 2 = .ok (.iconst 0, 1) := by decide +kernel
theorem dX1_inMinutes_3 : decode cX1_inMinutes 3 = .ok (.invokevirtual 41, 3) := by decide +kernel
theorem dX1_inMinutes_6 : decode cX1_inMinutes 6 = .ok (.ireturn, 1) := by decide +kernel
theorem dX1_outMinutes_0 : decode cX1_outMinutes 0 = .ok (.iload_n 2, 1) := by decide +kernel
theorem dX1_outMinutes_1 : decode cX1_outMinutes 1 = .ok (.iconst 1, 1) := by decide +kernel
theorem dX1_outMinutes_2 : decode cX1_outMinutes 2 = .ok (.if_icmp .gt 12, 3) := by decide +kernel
theorem dX1_outMinutes_5 : decode cX1_outMinutes 5 = .ok (.aload_n 0, 1) := by decide +kernel
theorem dX1_outMinutes_6 : decode cX1_outMinutes 6 = .ok (.iload_n 1, 1) := by decide +kernel
theorem dX1_outMinutes_7 : decode cX1_outMinutes 7 = .ok (.iconst 1, 1) := by decide +kernel
theorem dX1_outMinutes_8 : decode cX1_outMinutes 8 = .ok (.invokevirtual 41, 3) := by decide +kernel
theorem dX1_outMinutes_11 : decode cX1_outMinutes 11 = .ok (.goto 13, 3) := by decide +kernel
theorem dX1_outMinutes_14 : decode cX1_outMinutes 14 = .ok (.iload_n 2, 1) := by decide +kernel
theorem dX1_outMinutes_15 : decode cX1_outMinutes 15 = .ok (.iconst 1, 1) := by decide +kernel
theorem dX1_outMinutes_16 : decode cX1_outMinutes 16 = .ok (.isub, 1) := by decide +kernel
theorem dX1_outMinutes_17 : decode cX1_outMinutes 17 = .ok (.aload_n 0, 1) := by decide +kernel
theorem dX1_outMinutes_18 : decode cX1_outMinutes 18 = .ok (.iload_n 1, 1) := by decide +kernel
theorem dX1_outMinutes_19 : decode cX1_outMinutes 19 = .ok (.iconst 2, 1) := by decide +kernel
theorem dX1_outMinutes_20 : decode cX1_outMinutes 20 = .ok (.invokevirtual 41, 3) := by decide +kernel
theorem dX1_outMinutes_23 : decode cX1_outMinutes 23 = .ok (.imul, 1) := by decide +kernel
theorem dX1_outMinutes_24 : decode cX1_outMinutes 24 = .ok (.ireturn, 1) := by decide +kernel
theorem dX1_thereAndBack_0 : decode cX1_thereAndBack 0 = .ok (.iload_n 2, 1) := by decide +kernel
theorem dX1_thereAndBack_1 : decode cX1_thereAndBack 1 = .ok (.ifCond .ne 7, 3) := by decide +kernel
theorem dX1_thereAndBack_4 : decode cX1_thereAndBack 4 = .ok (.iconst 0, 1) := by decide +kernel
theorem dX1_thereAndBack_5 : decode cX1_thereAndBack 5 = .ok (.goto 9, 3) := by decide +kernel
theorem dX1_thereAndBack_8 : decode cX1_thereAndBack 8 = .ok (.aload_n 0, 1) := by decide +kernel
theorem dX1_thereAndBack_9 : decode cX1_thereAndBack 9 = .ok (.iload_n 1, 1) := by decide +kernel
theorem dX1_thereAndBack_10 : decode cX1_thereAndBack 10 = .ok (.iload_n 2, 1) := by decide +kernel
theorem dX1_thereAndBack_11 : decode cX1_thereAndBack 11 = .ok (.invokevirtual 44, 3) := by decide +kernel
theorem dX1_thereAndBack_14 : decode cX1_thereAndBack 14 = .ok (.istore_n 3, 1) := by decide +kernel
theorem dX1_thereAndBack_15 : decode cX1_thereAndBack 15 = .ok (.aload_n 0, 1) := by decide +kernel
theorem dX1_thereAndBack_16 : decode cX1_thereAndBack 16 = .ok (.iload_n 1, 1) := by decide +kernel
theorem dX1_thereAndBack_17 : decode cX1_thereAndBack 17 = .ok (.invokevirtual 47, 3) := by decide +kernel
theorem dX1_thereAndBack_20 : decode cX1_thereAndBack 20 = .ok (.iload_n 3, 1) := by decide +kernel
theorem dX1_thereAndBack_21 : decode cX1_thereAndBack 21 = .ok (.iadd, 1) := by decide +kernel
theorem dX1_thereAndBack_22 : decode cX1_thereAndBack 22 = .ok (.ireturn, 1) := by decide +kernel
theorem dX1_reach_0 : decode cX1_reach 0 = .ok (.iload_n 2, 1) := by decide +kernel
theorem dX1_reach_1 : decode cX1_reach 1 = .ok (.i2l, 1) := by decide +kernel
theorem dX1_reach_2 : decode cX1_reach 2 = .ok (.lstore 5, 2) := by decide +kernel
theorem dX1_reach_4 : decode cX1_reach 4 = .ok (.iconst 0, 1) := by decide +kernel
theorem dX1_reach_5 : decode cX1_reach 5 = .ok (.istore 7, 2) := by decide +kernel
theorem dX1_reach_7 : decode cX1_reach 7 = .ok (.iload 7, 2) := by decide +kernel
theorem dX1_reach_9 : decode cX1_reach 9 = .ok (.aload_n 0, 1) := by decide +kernel
theorem dX1_reach_10 : decode cX1_reach 10 = .ok (.getfield 16, 3) := by decide +kernel
theorem dX1_reach_13 : decode cX1_reach 13 = .ok (.if_icmp .ge 54, 3) := by decide +kernel
theorem dX1_reach_16 : decode cX1_reach 16 = .ok (.iload_n 3, 1) := by decide +kernel
theorem dX1_reach_17 : decode cX1_reach 17 = .ok (.i2l, 1) := by decide +kernel
theorem dX1_reach_18 : decode cX1_reach 18 = .ok (.aload_n 0, 1) := by decide +kernel
theorem dX1_reach_19 : decode cX1_reach 19 = .ok (.iload 7, 2) := by decide +kernel
theorem dX1_reach_21 : decode cX1_reach 21 = .ok (.iload 4, 2) := by decide +kernel
theorem dX1_reach_23 : decode cX1_reach 23 = .ok (.invokevirtual 50, 3) := by decide +kernel
theorem dX1_reach_26 : decode cX1_reach 26 = .ok (.i2l, 1) := by decide +kernel
theorem dX1_reach_27 : decode cX1_reach 27 = .ok (.lmul, 1) := by decide +kernel
theorem dX1_reach_28 : decode cX1_reach 28 = .ok (.lstore 8, 2) := by decide +kernel
theorem dX1_reach_30 : decode cX1_reach 30 = .ok (.lload 8, 2) := by decide +kernel
theorem dX1_reach_32 : decode cX1_reach 32 = .ok (.lload 5, 2) := by decide +kernel
theorem dX1_reach_34 : decode cX1_reach 34 = .ok (.lcmp, 1) := by decide +kernel
theorem dX1_reach_35 : decode cX1_reach 35 = .ok (.ifCond .le 19, 3) := by decide +kernel
theorem dX1_reach_38 : decode cX1_reach 38 = .ok (.aload_n 1, 1) := by decide +kernel
theorem dX1_reach_39 : decode cX1_reach 39 = .ok (.iload 7, 2) := by decide +kernel
theorem dX1_reach_41 : decode cX1_reach 41 = .ok (.i2l, 1) := by decide +kernel
theorem dX1_reach_42 : decode cX1_reach 42 = .ok (.lload 8, 2) := by decide +kernel
theorem dX1_reach_44 : decode cX1_reach 44 = .ok (.lmul, 1) := by decide +kernel
theorem dX1_reach_45 : decode cX1_reach 45 = .ok (.lload 5, 2) := by decide +kernel
theorem dX1_reach_47 : decode cX1_reach 47 = .ok (.ladd, 1) := by decide +kernel
theorem dX1_reach_48 : decode cX1_reach 48 = .ok (.lload 8, 2) := by decide +kernel
theorem dX1_reach_50 : decode cX1_reach 50 = .ok (.invokevirtual 53, 3) := by decide +kernel
theorem dX1_reach_53 : decode cX1_reach 53 = .ok (.return_, 1) := by decide +kernel
theorem dX1_reach_54 : decode cX1_reach 54 = .ok (.lload 5, 2) := by decide +kernel
theorem dX1_reach_56 : decode cX1_reach 56 = .ok (.lload 8, 2) := by decide +kernel
theorem dX1_reach_58 : decode cX1_reach 58 = .ok (.lsub, 1) := by decide +kernel
theorem dX1_reach_59 : decode cX1_reach 59 = .ok (.lstore 5, 2) := by decide +kernel
theorem dX1_reach_61 : decode cX1_reach 61 = .ok (.iinc 7 1, 3) := by decide +kernel
theorem dX1_reach_64 : decode cX1_reach 64 = .ok (.goto (-57), 3) := by decide +kernel
theorem dX1_reach_67 : decode cX1_reach 67 = .ok (.aload_n 1, 1) := by decide +kernel
theorem dX1_reach_68 : decode cX1_reach 68 = .ok (.aload_n 0, 1) := by decide +kernel
theorem dX1_reach_69 : decode cX1_reach 69 = .ok (.getfield 16, 3) := by decide +kernel
theorem dX1_reach_72 : decode cX1_reach 72 = .ok (.i2l, 1) := by decide +kernel
theorem dX1_reach_73 : decode cX1_reach 73 = .ok (.lconst 1, 1) := by decide +kernel
theorem dX1_reach_74 : decode cX1_reach 74 = .ok (.invokevirtual 53, 3) := by decide +kernel
theorem dX1_reach_77 : decode cX1_reach 77 = .ok (.return_, 1) := by decide +kernel
theorem dX1_isOutWithin_0 : decode cX1_isOutWithin 0 = .ok (.aload_n 1, 1) := by decide +kernel
theorem dX1_isOutWithin_1 : decode cX1_isOutWithin 1 = .ok (.iconst 1, 1) := by decide +kernel
theorem dX1_isOutWithin_2 : decode cX1_isOutWithin 2 = .ok (.invokevirtual 59, 3) := by decide +kernel
theorem dX1_isOutWithin_5 : decode cX1_isOutWithin 5 = .ok (.lstore 4, 2) := by decide +kernel
theorem dX1_isOutWithin_7 : decode cX1_isOutWithin 7 = .ok (.lload 4, 2) := by decide +kernel
theorem dX1_isOutWithin_9 : decode cX1_isOutWithin 9 = .ok (.lconst 0, 1) := by decide +kernel
theorem dX1_isOutWithin_10 : decode cX1_isOutWithin 10 = .ok (.lcmp, 1) := by decide +kernel
theorem dX1_isOutWithin_11 : decode cX1_isOutWithin 11 = .ok (.ifCond .gt 5, 3) := by decide +kernel
theorem dX1_isOutWithin_14 : decode cX1_isOutWithin 14 = .ok (.iconst 0, 1) := by decide +kernel
theorem dX1_isOutWithin_15 : decode cX1_isOutWithin 15 = .ok (.ireturn, 1) := by decide +kernel
theorem dX1_isOutWithin_16 : decode cX1_isOutWithin 16 = .ok (.aload_n 1, 1) := by decide +kernel
theorem dX1_isOutWithin_17 : decode cX1_isOutWithin 17 = .ok (.iconst 0, 1) := by decide +kernel
theorem dX1_isOutWithin_18 : decode cX1_isOutWithin 18 = .ok (.invokevirtual 59, 3) := by decide +kernel
theorem dX1_isOutWithin_21 : decode cX1_isOutWithin 21 = .ok (.lload 4, 2) := by decide +kernel
theorem dX1_isOutWithin_23 : decode cX1_isOutWithin 23 = .ok (.ldiv, 1) := by decide +kernel
theorem dX1_isOutWithin_24 : decode cX1_isOutWithin 24 = .ok (.l2i, 1) := by decide +kernel
theorem dX1_isOutWithin_25 : decode cX1_isOutWithin 25 = .ok (.istore 6, 2) := by decide +kernel
theorem dX1_isOutWithin_27 : decode cX1_isOutWithin 27 = .ok (.aload_n 1, 1) := by decide +kernel
theorem dX1_isOutWithin_28 : decode cX1_isOutWithin 28 = .ok (.iconst 0, 1) := by decide +kernel
theorem dX1_isOutWithin_29 : decode cX1_isOutWithin 29 = .ok (.invokevirtual 59, 3) := by decide +kernel
theorem dX1_isOutWithin_32 : decode cX1_isOutWithin 32 = .ok (.lload 4, 2) := by decide +kernel
theorem dX1_isOutWithin_34 : decode cX1_isOutWithin 34 = .ok (.lrem, 1) := by decide +kernel
theorem dX1_isOutWithin_35 : decode cX1_isOutWithin 35 = .ok (.aload_n 0, 1) := by decide +kernel
theorem dX1_isOutWithin_36 : decode cX1_isOutWithin 36 = .ok (.iload 6, 2) := by decide +kernel
theorem dX1_isOutWithin_38 : decode cX1_isOutWithin 38 = .ok (.iload_n 3, 1) := by decide +kernel
theorem dX1_isOutWithin_39 : decode cX1_isOutWithin 39 = .ok (.invokevirtual 50, 3) := by decide +kernel
theorem dX1_isOutWithin_42 : decode cX1_isOutWithin 42 = .ok (.i2l, 1) := by decide +kernel
theorem dX1_isOutWithin_43 : decode cX1_isOutWithin 43 = .ok (.lmul, 1) := by decide +kernel
theorem dX1_isOutWithin_44 : decode cX1_isOutWithin 44 = .ok (.lstore 7, 2) := by decide +kernel
theorem dX1_isOutWithin_46 : decode cX1_isOutWithin 46 = .ok (.iconst 0, 1) := by decide +kernel
theorem dX1_isOutWithin_47 : decode cX1_isOutWithin 47 = .ok (.istore 9, 2) := by decide +kernel
theorem dX1_isOutWithin_49 : decode cX1_isOutWithin 49 = .ok (.iload 9, 2) := by decide +kernel
theorem dX1_isOutWithin_51 : decode cX1_isOutWithin 51 = .ok (.iload 6, 2) := by decide +kernel
theorem dX1_isOutWithin_53 : decode cX1_isOutWithin 53 = .ok (.if_icmp .ge 34, 3) := by decide +kernel
theorem dX1_isOutWithin_56 : decode cX1_isOutWithin 56 = .ok (.iload 9, 2) := by decide +kernel
theorem dX1_isOutWithin_58 : decode cX1_isOutWithin 58 = .ok (.aload_n 0, 1) := by decide +kernel
theorem dX1_isOutWithin_59 : decode cX1_isOutWithin 59 = .ok (.getfield 16, 3) := by decide +kernel
theorem dX1_isOutWithin_62 : decode cX1_isOutWithin 62 = .ok (.if_icmp .ge 25, 3) := by decide +kernel
theorem dX1_isOutWithin_65 : decode cX1_isOutWithin 65 = .ok (.lload 7, 2) := by decide +kernel
theorem dX1_isOutWithin_67 : decode cX1_isOutWithin 67 = .ok (.lload 4, 2) := by decide +kernel
theorem dX1_isOutWithin_69 : decode cX1_isOutWithin 69 = .ok (.aload_n 0, 1) := by decide +kernel
theorem dX1_isOutWithin_70 : decode cX1_isOutWithin 70 = .ok (.iload 9, 2) := by decide +kernel
theorem dX1_isOutWithin_72 : decode cX1_isOutWithin 72 = .ok (.iload_n 3, 1) := by decide +kernel
theorem dX1_isOutWithin_73 : decode cX1_isOutWithin 73 = .ok (.invokevirtual 50, 3) := by decide +kernel
theorem dX1_isOutWithin_76 : decode cX1_isOutWithin 76 = .ok (.i2l, 1) := by decide +kernel
theorem dX1_isOutWithin_77 : decode cX1_isOutWithin 77 = .ok (.lmul, 1) := by decide +kernel
theorem dX1_isOutWithin_78 : decode cX1_isOutWithin 78 = .ok (.ladd, 1) := by decide +kernel
theorem dX1_isOutWithin_79 : decode cX1_isOutWithin 79 = .ok (.lstore 7, 2) := by decide +kernel
theorem dX1_isOutWithin_81 : decode cX1_isOutWithin 81 = .ok (.iinc 9 1, 3) := by decide +kernel
theorem dX1_isOutWithin_84 : decode cX1_isOutWithin 84 = .ok (.goto (-35), 3) := by decide +kernel
theorem dX1_isOutWithin_87 : decode cX1_isOutWithin 87 = .ok (.lload 7, 2) := by decide +kernel
theorem dX1_isOutWithin_89 : decode cX1_isOutWithin 89 = .ok (.lload 4, 2) := by decide +kernel
theorem dX1_isOutWithin_91 : decode cX1_isOutWithin 91 = .ok (.iload_n 2, 1) := by decide +kernel
theorem dX1_isOutWithin_92 : decode cX1_isOutWithin 92 = .ok (.i2l, 1) := by decide +kernel
theorem dX1_isOutWithin_93 : decode cX1_isOutWithin 93 = .ok (.lmul, 1) := by decide +kernel
theorem dX1_isOutWithin_94 : decode cX1_isOutWithin 94 = .ok (.lcmp, 1) := by decide +kernel
theorem dX1_isOutWithin_95 : decode cX1_isOutWithin 95 = .ok (.ifCond .gt 7, 3) := by decide +kernel
theorem dX1_isOutWithin_98 : decode cX1_isOutWithin 98 = .ok (.iconst 1, 1) := by decide +kernel
theorem dX1_isOutWithin_99 : decode cX1_isOutWithin 99 = .ok (.goto 4, 3) := by decide +kernel
theorem dX1_isOutWithin_102 : decode cX1_isOutWithin 102 = .ok (.iconst 0, 1) := by decide +kernel
theorem dX1_isOutWithin_103 : decode cX1_isOutWithin 103 = .ok (.ireturn, 1) := by decide +kernel
theorem dX2_init_0 : decode cX2_init 0 = .ok (.aload_n 0, 1) := by decide +kernel
theorem dX2_init_1 : decode cX2_init 1 = .ok (.invokespecial 1, 3) := by decide +kernel
theorem dX2_init_4 : decode cX2_init 4 = .ok (.aload_n 0, 1) := by decide +kernel
theorem dX2_init_5 : decode cX2_init 5 = .ok (.lconst 0, 1) := by decide +kernel
theorem dX2_init_6 : decode cX2_init 6 = .ok (.putfield 7, 3) := by decide +kernel
theorem dX2_init_9 : decode cX2_init 9 = .ok (.aload_n 0, 1) := by decide +kernel
theorem dX2_init_10 : decode cX2_init 10 = .ok (.lconst 1, 1) := by decide +kernel
theorem dX2_init_11 : decode cX2_init 11 = .ok (.putfield 13, 3) := by decide +kernel
theorem dX2_init_14 : decode cX2_init 14 = .ok (.return_, 1) := by decide +kernel
theorem dX2_set_0 : decode cX2_set 0 = .ok (.lload_n 1, 1) := by decide +kernel
theorem dX2_set_1 : decode cX2_set 1 = .ok (.lload_n 3, 1) := by decide +kernel
theorem dX2_set_2 : decode cX2_set 2 = .ok (.invokestatic 16, 3) := by decide +kernel
theorem dX2_set_5 : decode cX2_set 5 = .ok (.lstore 5, 2) := by decide +kernel
theorem dX2_set_7 : decode cX2_set 7 = .ok (.lload 5, 2) := by decide +kernel
theorem dX2_set_9 : decode cX2_set 9 = .ok (.lconst 0, 1) := by decide +kernel
theorem dX2_set_10 : decode cX2_set 10 = .ok (.lcmp, 1) := by decide +kernel
theorem dX2_set_11 : decode cX2_set 11 = .ok (.ifCond .gt 14, 3) := by decide +kernel
theorem dX2_set_14 : decode cX2_set 14 = .ok (.aload_n 0, 1) := by decide +kernel
theorem dX2_set_15 : decode cX2_set 15 = .ok (.lconst 0, 1) := by decide +kernel
theorem dX2_set_16 : decode cX2_set 16 = .ok (.putfield 7, 3) := by decide +kernel
theorem dX2_set_19 : decode cX2_set 19 = .ok (.aload_n 0, 1) := by decide +kernel
theorem dX2_set_20 : decode cX2_set 20 = .ok (.lconst 1, 1) := by decide +kernel
theorem dX2_set_21 : decode cX2_set 21 = .ok (.putfield 13, 3) := by decide +kernel
theorem dX2_set_24 : decode cX2_set 24 = .ok (.return_, 1) := by decide +kernel
theorem dX2_set_25 : decode cX2_set 25 = .ok (.aload_n 0, 1) := by decide +kernel
theorem dX2_set_26 : decode cX2_set 26 = .ok (.lload_n 1, 1) := by decide +kernel
theorem dX2_set_27 : decode cX2_set 27 = .ok (.lload 5, 2) := by decide +kernel
theorem dX2_set_29 : decode cX2_set 29 = .ok (.ldiv, 1) := by decide +kernel
theorem dX2_set_30 : decode cX2_set 30 = .ok (.putfield 7, 3) := by decide +kernel
theorem dX2_set_33 : decode cX2_set 33 = .ok (.aload_n 0, 1) := by decide +kernel
theorem dX2_set_34 : decode cX2_set 34 = .ok (.lload_n 3, 1) := by decide +kernel
theorem dX2_set_35 : decode cX2_set 35 = .ok (.lload 5, 2) := by decide +kernel
theorem dX2_set_37 : decode cX2_set 37 = .ok (.ldiv, 1) := by decide +kernel
theorem dX2_set_38 : decode cX2_set 38 = .ok (.putfield 13, 3) := by decide +kernel
theorem dX2_set_41 : decode cX2_set 41 = .ok (.return_, 1) := by decide +kernel
theorem dX2_term_0 : decode cX2_term 0 = .ok (.iload_n 1, 1) := by decide +kernel
theorem dX2_term_1 : decode cX2_term 1 = .ok (.ifCond .ne 10, 3) := by decide +kernel
theorem dX2_term_4 : decode cX2_term 4 = .ok (.aload_n 0, 1) := by decide +kernel
theorem dX2_term_5 : decode cX2_term 5 = .ok (.getfield 7, 3) := by decide +kernel
theorem dX2_term_8 : decode cX2_term 8 = .ok (.goto 7, 3) := by decide +kernel
theorem dX2_term_11 : decode cX2_term 11 = .ok (.aload_n 0, 1) := by decide +kernel
theorem dX2_term_12 : decode cX2_term 12 = .ok (.getfield 13, 3) := by decide +kernel
theorem dX2_term_15 : decode cX2_term 15 = .ok (.lreturn, 1) := by decide +kernel
theorem dX2_commonDivisor_0 : decode cX2_commonDivisor 0 = .ok (.lload_n 0, 1) := by decide +kernel
theorem dX2_commonDivisor_1 : decode cX2_commonDivisor 1 = .ok (.lstore 4, 2) := by decide +kernel
theorem dX2_commonDivisor_3 : decode cX2_commonDivisor 3 = .ok (.lload_n 2, 1) := by decide +kernel
theorem dX2_commonDivisor_4 : decode cX2_commonDivisor 4 = .ok (.lstore 6, 2) := by decide +kernel
theorem dX2_commonDivisor_6 : decode cX2_commonDivisor 6 = .ok (.iconst 0, 1) := by decide +kernel
theorem dX2_commonDivisor_7 : decode cX2_commonDivisor 7 = .ok (.istore 8, 2) := by decide +kernel
theorem dX2_commonDivisor_9 : decode cX2_commonDivisor 9 = .ok (.iload 8, 2) := by decide +kernel
theorem dX2_commonDivisor_11 : decode cX2_commonDivisor 11 = .ok (.bipush 100, 2) := by decide +kernel
theorem dX2_commonDivisor_13 : decode cX2_commonDivisor 13 = .ok (.if_icmp .ge 31, 3) := by decide +kernel
theorem dX2_commonDivisor_16 : decode cX2_commonDivisor 16 = .ok (.lload 6, 2) := by decide +kernel
theorem dX2_commonDivisor_18 : decode cX2_commonDivisor 18 = .ok (.lconst 0, 1) := by decide +kernel
theorem dX2_commonDivisor_19 : decode cX2_commonDivisor 19 = .ok (.lcmp, 1) := by decide +kernel
theorem dX2_commonDivisor_20 : decode cX2_commonDivisor 20 = .ok (.ifCond .eq 24, 3) := by decide +kernel
theorem dX2_commonDivisor_23 : decode cX2_commonDivisor 23 = .ok (.lload 4, 2) := by decide +kernel
theorem dX2_commonDivisor_25 : decode cX2_commonDivisor 25 = .ok (.lload 6, 2) := by decide +kernel
theorem dX2_commonDivisor_27 : decode cX2_commonDivisor 27 = .ok (.lrem, 1) := by decide +kernel
theorem dX2_commonDivisor_28 : decode cX2_commonDivisor 28 = .ok (.lstore 9, 2) := by decide +kernel
theorem dX2_commonDivisor_30 : decode cX2_commonDivisor 30 = .ok (.lload 6, 2) := by decide +kernel
theorem dX2_commonDivisor_32 : decode cX2_commonDivisor 32 = .ok (.lstore 4, 2) := by decide +kernel
theorem dX2_commonDivisor_34 : decode cX2_commonDivisor 34 = .ok (.lload 9, 2) := by decide +kernel
theorem dX2_commonDivisor_36 : decode cX2_commonDivisor 36 = .ok (.lstore 6, 2) := by decide +kernel
theorem dX2_commonDivisor_38 : decode cX2_commonDivisor 38 = .ok (.iinc 8 1, 3) := by decide +kernel
theorem dX2_commonDivisor_41 : decode cX2_commonDivisor 41 = .ok (.goto (-32), 3) := by decide +kernel
theorem dX2_commonDivisor_44 : decode cX2_commonDivisor 44 = .ok (.lload 4, 2) := by decide +kernel
theorem dX2_commonDivisor_46 : decode cX2_commonDivisor 46 = .ok (.lreturn, 1) := by decide +kernel
theorem dX3_init_0 : decode cX3_init 0 = .ok (.aload_n 0, 1) := by decide +kernel
theorem dX3_init_1 : decode cX3_init 1 = .ok (.invokespecial 3, 3) := by decide +kernel
theorem dX3_init_4 : decode cX3_init 4 = .ok (.aload_n 0, 1) := by decide +kernel
theorem dX3_init_5 : decode cX3_init 5 = .ok (.iconst 4, 1) := by decide +kernel
theorem dX3_init_6 : decode cX3_init 6 = .ok (.newarray .int, 2) := by decide +kernel
theorem dX3_init_8 : decode cX3_init 8 = .ok (.dup, 1) := by decide +kernel
theorem dX3_init_9 : decode cX3_init 9 = .ok (.iconst 0, 1) := by decide +kernel
theorem dX3_init_10 : decode cX3_init 10 = .ok (.bipush 60, 2) := by decide +kernel
theorem dX3_init_12 : decode cX3_init 12 = .ok (.iastore, 1) := by decide +kernel
theorem dX3_init_13 : decode cX3_init 13 = .ok (.dup, 1) := by decide +kernel
theorem dX3_init_14 : decode cX3_init 14 = .ok (.iconst 1, 1) := by decide +kernel
theorem dX3_init_15 : decode cX3_init 15 = .ok (.bipush 60, 2) := by decide +kernel
theorem dX3_init_17 : decode cX3_init 17 = .ok (.iastore, 1) := by decide +kernel
theorem dX3_init_18 : decode cX3_init 18 = .ok (.dup, 1) := by decide +kernel
theorem dX3_init_19 : decode cX3_init 19 = .ok (.iconst 2, 1) := by decide +kernel
theorem dX3_init_20 : decode cX3_init 20 = .ok (.bipush 60, 2) := by decide +kernel
theorem dX3_init_22 : decode cX3_init 22 = .ok (.iastore, 1) := by decide +kernel
theorem dX3_init_23 : decode cX3_init 23 = .ok (.dup, 1) := by decide +kernel
theorem dX3_init_24 : decode cX3_init 24 = .ok (.iconst 3, 1) := by decide +kernel
theorem dX3_init_25 : decode cX3_init 25 = .ok (.bipush 60, 2) := by decide +kernel
theorem dX3_init_27 : decode cX3_init 27 = .ok (.iastore, 1) := by decide +kernel
theorem dX3_init_28 : decode cX3_init 28 = .ok (.putfield 9, 3) := by decide +kernel
theorem dX3_init_31 : decode cX3_init 31 = .ok (.aload_n 0, 1) := by decide +kernel
theorem dX3_init_32 : decode cX3_init 32 = .ok (.iconst 4, 1) := by decide +kernel
theorem dX3_init_33 : decode cX3_init 33 = .ok (.putfield 15, 3) := by decide +kernel
theorem dX3_init_36 : decode cX3_init 36 = .ok (.return_, 1) := by decide +kernel
theorem dX3_party_0 : decode cX3_party 0 = .ok (.aload_n 0, 1) := by decide +kernel
theorem dX3_party_1 : decode cX3_party 1 = .ok (.getfield 15, 3) := by decide +kernel
theorem dX3_party_4 : decode cX3_party 4 = .ok (.ireturn, 1) := by decide +kernel
theorem dX3_setParty_0 : decode cX3_setParty 0 = .ok (.aload_n 0, 1) := by decide +kernel
theorem dX3_setParty_1 : decode cX3_setParty 1 = .ok (.iload_n 1, 1) := by decide +kernel
theorem dX3_setParty_2 : decode cX3_setParty 2 = .ok (.putfield 15, 3) := by decide +kernel
theorem dX3_setParty_5 : decode cX3_setParty 5 = .ok (.return_, 1) := by decide +kernel
theorem dX3_burns_0 : decode cX3_burns 0 = .ok (.iload_n 1, 1) := by decide +kernel
theorem dX3_burns_1 : decode cX3_burns 1 = .ok (.ifCond .lt 21, 3) := by decide +kernel
theorem dX3_burns_4 : decode cX3_burns 4 = .ok (.iload_n 1, 1) := by decide +kernel
theorem dX3_burns_5 : decode cX3_burns 5 = .ok (.aload_n 0, 1) := by decide +kernel
theorem dX3_burns_6 : decode cX3_burns 6 = .ok (.getfield 9, 3) := by decide +kernel
theorem dX3_burns_9 : decode cX3_burns 9 = .ok (.arraylength, 1) := by decide +kernel
theorem dX3_burns_10 : decode cX3_burns 10 = .ok (.if_icmp .ge 12, 3) := by decide +kernel
theorem dX3_burns_13 : decode cX3_burns 13 = .ok (.aload_n 0, 1) := by decide +kernel
theorem dX3_burns_14 : decode cX3_burns 14 = .ok (.getfield 9, 3) := by decide +kernel
theorem dX3_burns_17 : decode cX3_burns 17 = .ok (.iload_n 1, 1) := by decide +kernel
theorem dX3_burns_18 : decode cX3_burns 18 = .ok (.iaload, 1) := by decide +kernel
theorem dX3_burns_19 : decode cX3_burns 19 = .ok (.goto 4, 3) := by decide +kernel
theorem dX3_burns_22 : decode cX3_burns 22 = .ok (.iconst 0, 1) := by decide +kernel
theorem dX3_burns_23 : decode cX3_burns 23 = .ok (.ireturn, 1) := by decide +kernel
theorem dX3_setBurns_0 : decode cX3_setBurns 0 = .ok (.iload_n 1, 1) := by decide +kernel
theorem dX3_setBurns_1 : decode cX3_setBurns 1 = .ok (.ifCond .lt 19, 3) := by decide +kernel
theorem dX3_setBurns_4 : decode cX3_setBurns 4 = .ok (.iload_n 1, 1) := by decide +kernel
theorem dX3_setBurns_5 : decode cX3_setBurns 5 = .ok (.aload_n 0, 1) := by decide +kernel
theorem dX3_setBurns_6 : decode cX3_setBurns 6 = .ok (.getfield 9, 3) := by decide +kernel
theorem dX3_setBurns_9 : decode cX3_setBurns 9 = .ok (.arraylength, 1) := by decide +kernel
theorem dX3_setBurns_10 : decode cX3_setBurns 10 = .ok (.if_icmp .ge 10, 3) := by decide +kernel
theorem dX3_setBurns_13 : decode cX3_setBurns 13 = .ok (.aload_n 0, 1) := by decide +kernel
theorem dX3_setBurns_14 : decode cX3_setBurns 14 = .ok (.getfield 9, 3) := by decide +kernel
theorem dX3_setBurns_17 : decode cX3_setBurns 17 = .ok (.iload_n 1, 1) := by decide +kernel
theorem dX3_setBurns_18 : decode cX3_setBurns 18 = .ok (.iload_n 2, 1) := by decide +kernel
theorem dX3_setBurns_19 : decode cX3_setBurns 19 = .ok (.iastore, 1) := by decide +kernel
theorem dX3_setBurns_20 : decode cX3_setBurns 20 = .ok (.return_, 1) := by decide +kernel
theorem dX3_leastBurn_0 : decode cX3_leastBurn 0 = .ok (.aload_n 0, 1) := by decide +kernel
theorem dX3_leastBurn_1 : decode cX3_leastBurn 1 = .ok (.iconst 0, 1) := by decide +kernel
theorem dX3_leastBurn_2 : decode cX3_leastBurn 2 = .ok (.invokevirtual 19, 3) := by decide +kernel
theorem dX3_leastBurn_5 : decode cX3_leastBurn 5 = .ok (.istore_n 1, 1) := by decide +kernel
theorem dX3_leastBurn_6 : decode cX3_leastBurn 6 = .ok (.iconst 1, 1) := by decide +kernel
theorem dX3_leastBurn_7 : decode cX3_leastBurn 7 = .ok (.istore_n 2, 1) := by decide +kernel
theorem dX3_leastBurn_8 : decode cX3_leastBurn 8 = .ok (.iload_n 2, 1) := by decide +kernel
theorem dX3_leastBurn_9 : decode cX3_leastBurn 9 = .ok (.aload_n 0, 1) := by decide +kernel
theorem dX3_leastBurn_10 : decode cX3_leastBurn 10 = .ok (.getfield 15, 3) := by decide +kernel
theorem dX3_leastBurn_13 : decode cX3_leastBurn 13 = .ok (.if_icmp .ge 19, 3) := by decide +kernel
theorem dX3_leastBurn_16 : decode cX3_leastBurn 16 = .ok (.iload_n 1, 1) := by decide +kernel
theorem dX3_leastBurn_17 : decode cX3_leastBurn 17 = .ok (.aload_n 0, 1) := by decide +kernel
theorem dX3_leastBurn_18 : decode cX3_leastBurn 18 = .ok (.iload_n 2, 1) := by decide +kernel
theorem dX3_leastBurn_19 : decode cX3_leastBurn 19 = .ok (.invokevirtual 19, 3) := by decide +kernel
theorem dX3_leastBurn_22 : decode cX3_leastBurn 22 = .ok (.invokestatic 22, 3) := by decide +kernel
theorem dX3_leastBurn_25 : decode cX3_leastBurn 25 = .ok (.istore_n 1, 1) := by decide +kernel
theorem dX3_leastBurn_26 : decode cX3_leastBurn 26 = .ok (.iinc 2 1, 3) := by decide +kernel
theorem dX3_leastBurn_29 : decode cX3_leastBurn 29 = .ok (.goto (-21), 3) := by decide +kernel
theorem dX3_leastBurn_32 : decode cX3_leastBurn 32 = .ok (.iload_n 1, 1) := by decide +kernel
theorem dX3_leastBurn_33 : decode cX3_leastBurn 33 = .ok (.ireturn, 1) := by decide +kernel
theorem dX3_toALight_0 : decode cX3_toALight 0 = .ok (.iload_n 1, 1) := by decide +kernel
theorem dX3_toALight_1 : decode cX3_toALight 1 = .ok (.ifCond .gt 10, 3) := by decide +kernel
theorem dX3_toALight_4 : decode cX3_toALight 4 = .ok (.aload_n 0, 1) := by decide +kernel
theorem dX3_toALight_5 : decode cX3_toALight 5 = .ok (.getfield 15, 3) := by decide +kernel
theorem dX3_toALight_8 : decode cX3_toALight 8 = .ok (.goto 13, 3) := by decide +kernel
theorem dX3_toALight_11 : decode cX3_toALight 11 = .ok (.aload_n 0, 1) := by decide +kernel
theorem dX3_toALight_12 : decode cX3_toALight 12 = .ok (.getfield 15, 3) := by decide +kernel
theorem dX3_toALight_15 : decode cX3_toALight 15 = .ok (.iload_n 1, 1) := by decide +kernel
theorem dX3_toALight_16 : decode cX3_toALight 16 = .ok (.iadd, 1) := by decide +kernel
theorem dX3_toALight_17 : decode cX3_toALight 17 = .ok (.iconst 1, 1) := by decide +kernel
theorem dX3_toALight_18 : decode cX3_toALight 18 = .ok (.isub, 1) := by decide +kernel
theorem dX3_toALight_19 : decode cX3_toALight 19 = .ok (.iload_n 1, 1) := by decide +kernel
theorem dX3_toALight_20 : decode cX3_toALight 20 = .ok (.idiv, 1) := by decide +kernel
theorem dX3_toALight_21 : decode cX3_toALight 21 = .ok (.ireturn, 1) := by decide +kernel
theorem dX4_init_0 : decode cX4_init 0 = .ok (.aload_n 0, 1) := by decide +kernel
theorem dX4_init_1 : decode cX4_init 1 = .ok (.invokespecial 3, 3) := by decide +kernel
theorem dX4_init_4 : decode cX4_init 4 = .ok (.aload_n 0, 1) := by decide +kernel
theorem dX4_init_5 : decode cX4_init 5 = .ok (.iconst 0, 1) := by decide +kernel
theorem dX4_init_6 : decode cX4_init 6 = .ok (.putfield 9, 3) := by decide +kernel
theorem dX4_init_9 : decode cX4_init 9 = .ok (.aload_n 0, 1) := by decide +kernel
theorem dX4_init_10 : decode cX4_init 10 = .ok (.iconst (-1), 1) := by decide +kernel
theorem dX4_init_11 : decode cX4_init 11 = .ok (.putfield 15, 3) := by decide +kernel
theorem dX4_init_14 : decode cX4_init 14 = .ok (.return_, 1) := by decide +kernel
theorem dX4_size_0 : decode cX4_size 0 = .ok (.aload_n 0, 1) := by decide +kernel
theorem dX4_size_1 : decode cX4_size 1 = .ok (.getfield 9, 3) := by decide +kernel
theorem dX4_size_4 : decode cX4_size 4 = .ok (.ireturn, 1) := by decide +kernel
theorem dX4_faultPlace_0 : decode cX4_faultPlace 0 = .ok (.aload_n 0, 1) := by decide +kernel
theorem dX4_faultPlace_1 : decode cX4_faultPlace 1 = .ok (.getfield 15, 3) := by decide +kernel
theorem dX4_faultPlace_4 : decode cX4_faultPlace 4 = .ok (.ireturn, 1) := by decide +kernel
theorem dX4_parse_0 : decode cX4_parse 0 = .ok (.aload_n 1, 1) := by decide +kernel
theorem dX4_parse_1 : decode cX4_parse 1 = .ok (.invokevirtual 18, 3) := by decide +kernel
theorem dX4_parse_4 : decode cX4_parse 4 = .ok (.istore_n 2, 1) := by decide +kernel
theorem dX4_parse_5 : decode cX4_parse 5 = .ok (.iconst 0, 1) := by decide +kernel
theorem dX4_parse_6 : decode cX4_parse 6 = .ok (.istore_n 3, 1) := by decide +kernel
theorem dX4_parse_7 : decode cX4_parse 7 = .ok (.aload_n 0, 1) := by decide +kernel
theorem dX4_parse_8 : decode cX4_parse 8 = .ok (.iconst 0, 1) := by decide +kernel
theorem dX4_parse_9 : decode cX4_parse 9 = .ok (.putfield 9, 3) := by decide +kernel
theorem dX4_parse_12 : decode cX4_parse 12 = .ok (.aload_n 0, 1) := by decide +kernel
theorem dX4_parse_13 : decode cX4_parse 13 = .ok (.iconst (-1), 1) := by decide +kernel
theorem dX4_parse_14 : decode cX4_parse 14 = .ok (.putfield 15, 3) := by decide +kernel
theorem dX4_parse_17 : decode cX4_parse 17 = .ok (.iconst 0, 1) := by decide +kernel
theorem dX4_parse_18 : decode cX4_parse 18 = .ok (.istore 4, 2) := by decide +kernel
theorem dX4_parse_20 : decode cX4_parse 20 = .ok (.iload 4, 2) := by decide +kernel
theorem dX4_parse_22 : decode cX4_parse 22 = .ok (.iload_n 2, 1) := by decide +kernel
theorem dX4_parse_23 : decode cX4_parse 23 = .ok (.if_icmp .ge 64, 3) := by decide +kernel
theorem dX4_parse_26 : decode cX4_parse 26 = .ok (.aload_n 1, 1) := by decide +kernel
theorem dX4_parse_27 : decode cX4_parse 27 = .ok (.iload 4, 2) := by decide +kernel
theorem dX4_parse_29 : decode cX4_parse 29 = .ok (.invokevirtual 24, 3) := by decide +kernel
theorem dX4_parse_32 : decode cX4_parse 32 = .ok (.istore 5, 2) := by decide +kernel
theorem dX4_parse_34 : decode cX4_parse 34 = .ok (.iload_n 3, 1) := by decide +kernel
theorem dX4_parse_35 : decode cX4_parse 35 = .ok (.ifCond .eq 14, 3) := by decide +kernel
theorem dX4_parse_38 : decode cX4_parse 38 = .ok (.iload 5, 2) := by decide +kernel
theorem dX4_parse_40 : decode cX4_parse 40 = .ok (.invokestatic 28, 3) := by decide +kernel
theorem dX4_parse_43 : decode cX4_parse 43 = .ok (.ifCond .ne 21, 3) := by decide +kernel
theorem dX4_parse_46 : decode cX4_parse 46 = .ok (.goto 11, 3) := by decide +kernel
theorem dX4_parse_49 : decode cX4_parse 49 = .ok (.iload 5, 2) := by decide +kernel
theorem dX4_parse_51 : decode cX4_parse 51 = .ok (.invokestatic 32, 3) := by decide +kernel
theorem dX4_parse_54 : decode cX4_parse 54 = .ok (.ifCond .ne 10, 3) := by decide +kernel
theorem dX4_parse_57 : decode cX4_parse 57 = .ok (.aload_n 0, 1) := by decide +kernel
theorem dX4_parse_58 : decode cX4_parse 58 = .ok (.iload 4, 2) := by decide +kernel
theorem dX4_parse_60 : decode cX4_parse 60 = .ok (.putfield 15, 3) := by decide +kernel
theorem dX4_parse_63 : decode cX4_parse 63 = .ok (.return_, 1) := by decide +kernel
theorem dX4_parse_64 : decode cX4_parse 64 = .ok (.iload_n 3, 1) := by decide +kernel
theorem dX4_parse_65 : decode cX4_parse 65 = .ok (.ifCond .ne 14, 3) := by decide +kernel
theorem dX4_parse_68 : decode cX4_parse 68 = .ok (.iload 5, 2) := by decide +kernel
theorem dX4_parse_70 : decode cX4_parse 70 = .ok (.bipush 120, 2) := by decide +kernel
theorem dX4_parse_72 : decode cX4_parse 72 = .ok (.if_icmp .ne 7, 3) := by decide +kernel
theorem dX4_parse_75 : decode cX4_parse 75 = .ok (.iconst 1, 1) := by decide +kernel
theorem dX4_parse_76 : decode cX4_parse 76 = .ok (.goto 4, 3) := by decide +kernel
theorem dX4_parse_79 : decode cX4_parse 79 = .ok (.iconst 0, 1) := by decide +kernel
theorem dX4_parse_80 : decode cX4_parse 80 = .ok (.istore_n 3, 1) := by decide +kernel
theorem dX4_parse_81 : decode cX4_parse 81 = .ok (.iinc 4 1, 3) := by decide +kernel
theorem dX4_parse_84 : decode cX4_parse 84 = .ok (.goto (-64), 3) := by decide +kernel
theorem dX4_parse_87 : decode cX4_parse 87 = .ok (.iload_n 3, 1) := by decide +kernel
theorem dX4_parse_88 : decode cX4_parse 88 = .ok (.ifCond .eq 9, 3) := by decide +kernel
theorem dX4_parse_91 : decode cX4_parse 91 = .ok (.aload_n 0, 1) := by decide +kernel
theorem dX4_parse_92 : decode cX4_parse 92 = .ok (.iload_n 2, 1) := by decide +kernel
theorem dX4_parse_93 : decode cX4_parse 93 = .ok (.putfield 15, 3) := by decide +kernel
theorem dX4_parse_96 : decode cX4_parse 96 = .ok (.return_, 1) := by decide +kernel
theorem dX4_parse_97 : decode cX4_parse 97 = .ok (.aload_n 0, 1) := by decide +kernel
theorem dX4_parse_98 : decode cX4_parse 98 = .ok (.iload_n 2, 1) := by decide +kernel
theorem dX4_parse_99 : decode cX4_parse 99 = .ok (.putfield 9, 3) := by decide +kernel
theorem dX4_parse_102 : decode cX4_parse 102 = .ok (.return_, 1) := by decide +kernel
theorem dX4_isGoerFigure_0 : decode cX4_isGoerFigure 0 = .ok (.iload_n 0, 1) := by decide +kernel
theorem dX4_isGoerFigure_1 : decode cX4_isGoerFigure 1 = .ok (.bipush 48, 2) := by decide +kernel
theorem dX4_isGoerFigure_3 : decode cX4_isGoerFigure 3 = .ok (.if_icmp .lt 13, 3) := by decide +kernel
theorem dX4_isGoerFigure_6 : decode cX4_isGoerFigure 6 = .ok (.iload_n 0, 1) := by decide +kernel
theorem dX4_isGoerFigure_7 : decode cX4_isGoerFigure 7 = .ok (.bipush 51, 2) := by decide +kernel
theorem dX4_isGoerFigure_9 : decode cX4_isGoerFigure 9 = .ok (.if_icmp .gt 7, 3) := by decide +kernel
theorem dX4_isGoerFigure_12 : decode cX4_isGoerFigure 12 = .ok (.iconst 1, 1) := by decide +kernel
theorem dX4_isGoerFigure_13 : decode cX4_isGoerFigure 13 = .ok (.goto 4, 3) := by decide +kernel
theorem dX4_isGoerFigure_16 : decode cX4_isGoerFigure 16 = .ok (.iconst 0, 1) := by decide +kernel
theorem dX4_isGoerFigure_17 : decode cX4_isGoerFigure 17 = .ok (.ireturn, 1) := by decide +kernel
theorem dX4_isAct_0 : decode cX4_isAct 0 = .ok (.iload_n 0, 1) := by decide +kernel
theorem dX4_isAct_1 : decode cX4_isAct 1 = .ok (.bipush 43, 2) := by decide +kernel
theorem dX4_isAct_3 : decode cX4_isAct 3 = .ok (.if_icmp .eq 21, 3) := by decide +kernel
theorem dX4_isAct_6 : decode cX4_isAct 6 = .ok (.iload_n 0, 1) := by decide +kernel
theorem dX4_isAct_7 : decode cX4_isAct 7 = .ok (.bipush 45, 2) := by decide +kernel
theorem dX4_isAct_9 : decode cX4_isAct 9 = .ok (.if_icmp .eq 15, 3) := by decide +kernel
theorem dX4_isAct_12 : decode cX4_isAct 12 = .ok (.iload_n 0, 1) := by decide +kernel
theorem dX4_isAct_13 : decode cX4_isAct 13 = .ok (.bipush 117, 2) := by decide +kernel
theorem dX4_isAct_15 : decode cX4_isAct 15 = .ok (.if_icmp .eq 9, 3) := by decide +kernel
theorem dX4_isAct_18 : decode cX4_isAct 18 = .ok (.iload_n 0, 1) := by decide +kernel
theorem dX4_isAct_19 : decode cX4_isAct 19 = .ok (.bipush 120, 2) := by decide +kernel
theorem dX4_isAct_21 : decode cX4_isAct 21 = .ok (.if_icmp .ne 7, 3) := by decide +kernel
theorem dX4_isAct_24 : decode cX4_isAct 24 = .ok (.iconst 1, 1) := by decide +kernel
theorem dX4_isAct_25 : decode cX4_isAct 25 = .ok (.goto 4, 3) := by decide +kernel
theorem dX4_isAct_28 : decode cX4_isAct 28 = .ok (.iconst 0, 1) := by decide +kernel
theorem dX4_isAct_29 : decode cX4_isAct 29 = .ok (.ireturn, 1) := by decide +kernel
theorem dX5_init_0 : decode cX5_init 0 = .ok (.aload_n 0, 1) := by decide +kernel
theorem dX5_init_1 : decode cX5_init 1 = .ok (.invokespecial 3, 3) := by decide +kernel
theorem dX5_init_4 : decode cX5_init 4 = .ok (.aload_n 0, 1) := by decide +kernel
theorem dX5_init_5 : decode cX5_init 5 = .ok (.iconst 4, 1) := by decide +kernel
theorem dX5_init_6 : decode cX5_init 6 = .ok (.bipush 60, 2) := by decide +kernel
theorem dX5_init_8 : decode cX5_init 8 = .ok (.multianewarray 11 2, 4) := by decide +kernel
theorem dX5_init_12 : decode cX5_init 12 = .ok (.putfield 13, 3) := by decide +kernel
theorem dX5_init_15 : decode cX5_init 15 = .ok (.aload_n 0, 1) := by decide +kernel
theorem dX5_init_16 : decode cX5_init 16 = .ok (.iconst 4, 1) := by decide +kernel
theorem dX5_init_17 : decode cX5_init 17 = .ok (.newarray .int, 2) := by decide +kernel
theorem dX5_init_19 : decode cX5_init 19 = .ok (.putfield 16, 3) := by decide +kernel
theorem dX5_init_22 : decode cX5_init 22 = .ok (.aload_n 0, 1) := by decide +kernel
theorem dX5_init_23 : decode cX5_init 23 = .ok (.iconst 4, 1) := by decide +kernel
theorem dX5_init_24 : decode cX5_init 24 = .ok (.newarray .int, 2) := by decide +kernel
theorem dX5_init_26 : decode cX5_init 26 = .ok (.dup, 1) := by decide +kernel
theorem dX5_init_27 : decode cX5_init 27 = .ok (.iconst 0, 1) := by decide +kernel
theorem dX5_init_28 : decode cX5_init 28 = .ok (.iconst (-1), 1) := by decide +kernel
theorem dX5_init_29 : decode cX5_init 29 = .ok (.iastore, 1) := by decide +kernel
theorem dX5_init_30 : decode cX5_init 30 = .ok (.dup, 1) := by decide +kernel
theorem dX5_init_31 : decode cX5_init 31 = .ok (.iconst 1, 1) := by decide +kernel
theorem dX5_init_32 : decode cX5_init 32 = .ok (.iconst (-1), 1) := by decide +kernel
theorem dX5_init_33 : decode cX5_init 33 = .ok (.iastore, 1) := by decide +kernel
theorem dX5_init_34 : decode cX5_init 34 = .ok (.dup, 1) := by decide +kernel
theorem dX5_init_35 : decode cX5_init 35 = .ok (.iconst 2, 1) := by decide +kernel
theorem dX5_init_36 : decode cX5_init 36 = .ok (.iconst (-1), 1) := by decide +kernel
theorem dX5_init_37 : decode cX5_init 37 = .ok (.iastore, 1) := by decide +kernel
theorem dX5_init_38 : decode cX5_init 38 = .ok (.dup, 1) := by decide +kernel
theorem dX5_init_39 : decode cX5_init 39 = .ok (.iconst 3, 1) := by decide +kernel
theorem dX5_init_40 : decode cX5_init 40 = .ok (.iconst (-1), 1) := by decide +kernel
theorem dX5_init_41 : decode cX5_init 41 = .ok (.iastore, 1) := by decide +kernel
theorem dX5_init_42 : decode cX5_init 42 = .ok (.putfield 20, 3) := by decide +kernel
theorem dX5_init_45 : decode cX5_init 45 = .ok (.aload_n 0, 1) := by decide +kernel
theorem dX5_init_46 : decode cX5_init 46 = .ok (.iconst 0, 1) := by decide +kernel
theorem dX5_init_47 : decode cX5_init 47 = .ok (.putfield 23, 3) := by decide +kernel
theorem dX5_init_50 : decode cX5_init 50 = .ok (.return_, 1) := by decide +kernel
theorem dX5_exists_0 : decode cX5_exists 0 = .ok (.iload_n 0, 1) := by decide +kernel
theorem dX5_exists_1 : decode cX5_exists 1 = .ok (.ifCond .lt 12, 3) := by decide +kernel
theorem dX5_exists_4 : decode cX5_exists 4 = .ok (.iload_n 0, 1) := by decide +kernel
theorem dX5_exists_5 : decode cX5_exists 5 = .ok (.iconst 4, 1) := by decide +kernel
theorem dX5_exists_6 : decode cX5_exists 6 = .ok (.if_icmp .ge 7, 3) := by decide +kernel
theorem dX5_exists_9 : decode cX5_exists 9 = .ok (.iconst 1, 1) := by decide +kernel
theorem dX5_exists_10 : decode cX5_exists 10 = .ok (.goto 4, 3) := by decide +kernel
theorem dX5_exists_13 : decode cX5_exists 13 = .ok (.iconst 0, 1) := by decide +kernel
theorem dX5_exists_14 : decode cX5_exists 14 = .ok (.ireturn, 1) := by decide +kernel
theorem dX5_isForm_0 : decode cX5_isForm 0 = .ok (.iload_n 0, 1) := by decide +kernel
theorem dX5_isForm_1 : decode cX5_isForm 1 = .ok (.ifCond .lt 12, 3) := by decide +kernel
theorem dX5_isForm_4 : decode cX5_isForm 4 = .ok (.iload_n 0, 1) := by decide +kernel
theorem dX5_isForm_5 : decode cX5_isForm 5 = .ok (.iconst 2, 1) := by decide +kernel
theorem dX5_isForm_6 : decode cX5_isForm 6 = .ok (.if_icmp .gt 7, 3) := by decide +kernel
theorem dX5_isForm_9 : decode cX5_isForm 9 = .ok (.iconst 1, 1) := by decide +kernel
theorem dX5_isForm_10 : decode cX5_isForm 10 = .ok (.goto 4, 3) := by decide +kernel
theorem dX5_isForm_13 : decode cX5_isForm 13 = .ok (.iconst 0, 1) := by decide +kernel
theorem dX5_isForm_14 : decode cX5_isForm 14 = .ok (.ireturn, 1) := by decide +kernel
theorem dX5_latestFinding_0 : decode cX5_latestFinding 0 = .ok (.aload_n 0, 1) := by decide +kernel
theorem dX5_latestFinding_1 : decode cX5_latestFinding 1 = .ok (.getfield 23, 3) := by decide +kernel
theorem dX5_latestFinding_4 : decode cX5_latestFinding 4 = .ok (.ireturn, 1) := by decide +kernel
theorem dX5_found_0 : decode cX5_found 0 = .ok (.aload_n 0, 1) := by decide +kernel
theorem dX5_found_1 : decode cX5_found 1 = .ok (.iload_n 1, 1) := by decide +kernel
theorem dX5_found_2 : decode cX5_found 2 = .ok (.putfield 23, 3) := by decide +kernel
theorem dX5_found_5 : decode cX5_found 5 = .ok (.bipush (-10), 2) := by decide +kernel
theorem dX5_found_7 : decode cX5_found 7 = .ok (.iload_n 1, 1) := by decide +kernel
theorem dX5_found_8 : decode cX5_found 8 = .ok (.isub, 1) := by decide +kernel
theorem dX5_found_9 : decode cX5_found 9 = .ok (.ireturn, 1) := by decide +kernel
theorem dX5_isLost_0 : decode cX5_isLost 0 = .ok (.iload_n 1, 1) := by decide +kernel
theorem dX5_isLost_1 : decode cX5_isLost 1 = .ok (.invokestatic 27, 3) := by decide +kernel
theorem dX5_isLost_4 : decode cX5_isLost 4 = .ok (.ifCond .eq 13, 3) := by decide +kernel
theorem dX5_isLost_7 : decode cX5_isLost 7 = .ok (.aload_n 0, 1) := by decide +kernel
theorem dX5_isLost_8 : decode cX5_isLost 8 = .ok (.getfield 20, 3) := by decide +kernel
theorem dX5_isLost_11 : decode cX5_isLost 11 = .ok (.iload_n 1, 1) := by decide +kernel
theorem dX5_isLost_12 : decode cX5_isLost 12 = .ok (.iaload, 1) := by decide +kernel
theorem dX5_isLost_13 : decode cX5_isLost 13 = .ok (.iconst (-1), 1) := by decide +kernel
theorem dX5_isLost_14 : decode cX5_isLost 14 = .ok (.if_icmp .ne 7, 3) := by decide +kernel
theorem dX5_isLost_17 : decode cX5_isLost 17 = .ok (.iconst 1, 1) := by decide +kernel
theorem dX5_isLost_18 : decode cX5_isLost 18 = .ok (.goto 4, 3) := by decide +kernel
theorem dX5_isLost_21 : decode cX5_isLost 21 = .ok (.iconst 0, 1) := by decide +kernel
theorem dX5_isLost_22 : decode cX5_isLost 22 = .ok (.ireturn, 1) := by decide +kernel
theorem dX5_size_0 : decode cX5_size 0 = .ok (.aload_n 0, 1) := by decide +kernel
theorem dX5_size_1 : decode cX5_size 1 = .ok (.iload_n 1, 1) := by decide +kernel
theorem dX5_size_2 : decode cX5_size 2 = .ok (.invokevirtual 31, 3) := by decide +kernel
theorem dX5_size_5 : decode cX5_size 5 = .ok (.ifCond .eq 7, 3) := by decide +kernel
theorem dX5_size_8 : decode cX5_size 8 = .ok (.iconst 0, 1) := by decide +kernel
theorem dX5_size_9 : decode cX5_size 9 = .ok (.goto 9, 3) := by decide +kernel
theorem dX5_size_12 : decode cX5_size 12 = .ok (.aload_n 0, 1) := by decide +kernel
theorem dX5_size_13 : decode cX5_size 13 = .ok (.getfield 20, 3) := by decide +kernel
theorem dX5_size_16 : decode cX5_size 16 = .ok (.iload_n 1, 1) := by decide +kernel
theorem dX5_size_17 : decode cX5_size 17 = .ok (.iaload, 1) := by decide +kernel
theorem dX5_size_18 : decode cX5_size 18 = .ok (.ireturn, 1) := by decide +kernel
theorem dX5_alike_0 : decode cX5_alike 0 = .ok (.iload_n 1, 1) := by decide +kernel
theorem dX5_alike_1 : decode cX5_alike 1 = .ok (.invokestatic 27, 3) := by decide +kernel
theorem dX5_alike_4 : decode cX5_alike 4 = .ok (.ifCond .eq 29, 3) := by decide +kernel
theorem dX5_alike_7 : decode cX5_alike 7 = .ok (.iload_n 2, 1) := by decide +kernel
theorem dX5_alike_8 : decode cX5_alike 8 = .ok (.invokestatic 27, 3) := by decide +kernel
theorem dX5_alike_11 : decode cX5_alike 11 = .ok (.ifCond .eq 22, 3) := by decide +kernel
theorem dX5_alike_14 : decode cX5_alike 14 = .ok (.aload_n 0, 1) := by decide +kernel
theorem dX5_alike_15 : decode cX5_alike 15 = .ok (.getfield 16, 3) := by decide +kernel
theorem dX5_alike_18 : decode cX5_alike 18 = .ok (.iload_n 1, 1) := by decide +kernel
theorem dX5_alike_19 : decode cX5_alike 19 = .ok (.iaload, 1) := by decide +kernel
theorem dX5_alike_20 : decode cX5_alike 20 = .ok (.aload_n 0, 1) := by decide +kernel
theorem dX5_alike_21 : decode cX5_alike 21 = .ok (.getfield 16, 3) := by decide +kernel
theorem dX5_alike_24 : decode cX5_alike 24 = .ok (.iload_n 2, 1) := by decide +kernel
theorem dX5_alike_25 : decode cX5_alike 25 = .ok (.iaload, 1) := by decide +kernel
theorem dX5_alike_26 : decode cX5_alike 26 = .ok (.if_icmp .ne 7, 3) := by decide +kernel
theorem dX5_alike_29 : decode cX5_alike 29 = .ok (.iconst 1, 1) := by decide +kernel
theorem dX5_alike_30 : decode cX5_alike 30 = .ok (.goto 4, 3) := by decide +kernel
theorem dX5_alike_33 : decode cX5_alike 33 = .ok (.iconst 0, 1) := by decide +kernel
theorem dX5_alike_34 : decode cX5_alike 34 = .ok (.ireturn, 1) := by decide +kernel
theorem dX5_holds_0 : decode cX5_holds 0 = .ok (.iload_n 2, 1) := by decide +kernel
theorem dX5_holds_1 : decode cX5_holds 1 = .ok (.ifCond .lt 26, 3) := by decide +kernel
theorem dX5_holds_4 : decode cX5_holds 4 = .ok (.iload_n 3, 1) := by decide +kernel
theorem dX5_holds_5 : decode cX5_holds 5 = .ok (.ifCond .lt 22, 3) := by decide +kernel
theorem dX5_holds_8 : decode cX5_holds 8 = .ok (.iload_n 2, 1) := by decide +kernel
theorem dX5_holds_9 : decode cX5_holds 9 = .ok (.i2l, 1) := by decide +kernel
theorem dX5_holds_10 : decode cX5_holds 10 = .ok (.iload_n 3, 1) := by decide +kernel
theorem dX5_holds_11 : decode cX5_holds 11 = .ok (.i2l, 1) := by decide +kernel
theorem dX5_holds_12 : decode cX5_holds 12 = .ok (.ladd, 1) := by decide +kernel
theorem dX5_holds_13 : decode cX5_holds 13 = .ok (.aload_n 0, 1) := by decide +kernel
theorem dX5_holds_14 : decode cX5_holds 14 = .ok (.iload_n 1, 1) := by decide +kernel
theorem dX5_holds_15 : decode cX5_holds 15 = .ok (.invokevirtual 34, 3) := by decide +kernel
theorem dX5_holds_18 : decode cX5_holds 18 = .ok (.i2l, 1) := by decide +kernel
theorem dX5_holds_19 : decode cX5_holds 19 = .ok (.lcmp, 1) := by decide +kernel
theorem dX5_holds_20 : decode cX5_holds 20 = .ok (.ifCond .gt 7, 3) := by decide +kernel
theorem dX5_holds_23 : decode cX5_holds 23 = .ok (.iconst 1, 1) := by decide +kernel
theorem dX5_holds_24 : decode cX5_holds 24 = .ok (.goto 4, 3) := by decide +kernel
theorem dX5_holds_27 : decode cX5_holds 27 = .ok (.iconst 0, 1) := by decide +kernel
theorem dX5_holds_28 : decode cX5_holds 28 = .ok (.ireturn, 1) := by decide +kernel
theorem dX5_make_0 : decode cX5_make 0 = .ok (.iload_n 1, 1) := by decide +kernel
theorem dX5_make_1 : decode cX5_make 1 = .ok (.invokestatic 27, 3) := by decide +kernel
theorem dX5_make_4 : decode cX5_make 4 = .ok (.ifCond .ne 4, 3) := by decide +kernel
theorem dX5_make_7 : decode cX5_make 7 = .ok (.return_, 1) := by decide +kernel
theorem dX5_make_8 : decode cX5_make 8 = .ok (.iconst 0, 1) := by decide +kernel
theorem dX5_make_9 : decode cX5_make 9 = .ok (.istore 4, 2) := by decide +kernel
theorem dX5_make_11 : decode cX5_make 11 = .ok (.iload 4, 2) := by decide +kernel
theorem dX5_make_13 : decode cX5_make 13 = .ok (.bipush 60, 2) := by decide +kernel
theorem dX5_make_15 : decode cX5_make 15 = .ok (.if_icmp .ge 19, 3) := by decide +kernel
theorem dX5_make_18 : decode cX5_make 18 = .ok (.aload_n 0, 1) := by decide +kernel
theorem dX5_make_19 : decode cX5_make 19 = .ok (.getfield 13, 3) := by decide +kernel
theorem dX5_make_22 : decode cX5_make 22 = .ok (.iload_n 1, 1) := by decide +kernel
theorem dX5_make_23 : decode cX5_make 23 = .ok (.aaload, 1) := by decide +kernel
theorem dX5_make_24 : decode cX5_make 24 = .ok (.iload 4, 2) := by decide +kernel
theorem dX5_make_26 : decode cX5_make 26 = .ok (.iconst 0, 1) := by decide +kernel
theorem dX5_make_27 : decode cX5_make 27 = .ok (.iastore, 1) := by decide +kernel
theorem dX5_make_28 : decode cX5_make 28 = .ok (.iinc 4 1, 3) := by decide +kernel
theorem dX5_make_31 : decode cX5_make 31 = .ok (.goto (-20), 3) := by decide +kernel
theorem dX5_make_34 : decode cX5_make 34 = .ok (.aload_n 0, 1) := by decide +kernel
theorem dX5_make_35 : decode cX5_make 35 = .ok (.getfield 16, 3) := by decide +kernel
theorem dX5_make_38 : decode cX5_make 38 = .ok (.iload_n 1, 1) := by decide +kernel
theorem dX5_make_39 : decode cX5_make 39 = .ok (.iload_n 2, 1) := by decide +kernel
theorem dX5_make_40 : decode cX5_make 40 = .ok (.iastore, 1) := by decide +kernel
theorem dX5_make_41 : decode cX5_make 41 = .ok (.aload_n 0, 1) := by decide +kernel
theorem dX5_make_42 : decode cX5_make 42 = .ok (.getfield 20, 3) := by decide +kernel
theorem dX5_make_45 : decode cX5_make 45 = .ok (.iload_n 1, 1) := by decide +kernel
theorem dX5_make_46 : decode cX5_make 46 = .ok (.iload_n 3, 1) := by decide +kernel
theorem dX5_make_47 : decode cX5_make 47 = .ok (.iastore, 1) := by decide +kernel
theorem dX5_make_48 : decode cX5_make 48 = .ok (.return_, 1) := by decide +kernel
theorem dX5_drop_0 : decode cX5_drop 0 = .ok (.iload_n 1, 1) := by decide +kernel
theorem dX5_drop_1 : decode cX5_drop 1 = .ok (.invokestatic 27, 3) := by decide +kernel
theorem dX5_drop_4 : decode cX5_drop 4 = .ok (.ifCond .eq 10, 3) := by decide +kernel
theorem dX5_drop_7 : decode cX5_drop 7 = .ok (.aload_n 0, 1) := by decide +kernel
theorem dX5_drop_8 : decode cX5_drop 8 = .ok (.getfield 20, 3) := by decide +kernel
theorem dX5_drop_11 : decode cX5_drop 11 = .ok (.iload_n 1, 1) := by decide +kernel
theorem dX5_drop_12 : decode cX5_drop 12 = .ok (.iconst (-1), 1) := by decide +kernel
theorem dX5_drop_13 : decode cX5_drop 13 = .ok (.iastore, 1) := by decide +kernel
theorem dX5_drop_14 : decode cX5_drop 14 = .ok (.return_, 1) := by decide +kernel
theorem dX5_look_0 : decode cX5_look 0 = .ok (.iload_n 1, 1) := by decide +kernel
theorem dX5_look_1 : decode cX5_look 1 = .ok (.invokestatic 27, 3) := by decide +kernel
theorem dX5_look_4 : decode cX5_look 4 = .ok (.ifCond .eq 10, 3) := by decide +kernel
theorem dX5_look_7 : decode cX5_look 7 = .ok (.iload_n 2, 1) := by decide +kernel
theorem dX5_look_8 : decode cX5_look 8 = .ok (.invokestatic 38, 3) := by decide +kernel
theorem dX5_look_11 : decode cX5_look 11 = .ok (.ifCond .ne 6, 3) := by decide +kernel
theorem dX5_look_14 : decode cX5_look 14 = .ok (.bipush (-2), 2) := by decide +kernel
theorem dX5_look_16 : decode cX5_look 16 = .ok (.ireturn, 1) := by decide +kernel
theorem dX5_look_17 : decode cX5_look 17 = .ok (.aload_n 0, 1) := by decide +kernel
theorem dX5_look_18 : decode cX5_look 18 = .ok (.iload_n 1, 1) := by decide +kernel
theorem dX5_look_19 : decode cX5_look 19 = .ok (.invokevirtual 31, 3) := by decide +kernel
theorem dX5_look_22 : decode cX5_look 22 = .ok (.ifCond .eq 9, 3) := by decide +kernel
theorem dX5_look_25 : decode cX5_look 25 = .ok (.aload_n 0, 1) := by decide +kernel
theorem dX5_look_26 : decode cX5_look 26 = .ok (.iconst 1, 1) := by decide +kernel
theorem dX5_look_27 : decode cX5_look 27 = .ok (.invokevirtual 41, 3) := by decide +kernel
theorem dX5_look_30 : decode cX5_look 30 = .ok (.ireturn, 1) := by decide +kernel
theorem dX5_look_31 : decode cX5_look 31 = .ok (.aload_n 0, 1) := by decide +kernel
theorem dX5_look_32 : decode cX5_look 32 = .ok (.getfield 16, 3) := by decide +kernel
theorem dX5_look_35 : decode cX5_look 35 = .ok (.iload_n 1, 1) := by decide +kernel
theorem dX5_look_36 : decode cX5_look 36 = .ok (.iaload, 1) := by decide +kernel
theorem dX5_look_37 : decode cX5_look 37 = .ok (.iload_n 2, 1) := by decide +kernel
theorem dX5_look_38 : decode cX5_look 38 = .ok (.if_icmp .eq 9, 3) := by decide +kernel
theorem dX5_look_41 : decode cX5_look 41 = .ok (.aload_n 0, 1) := by decide +kernel
theorem dX5_look_42 : decode cX5_look 42 = .ok (.iconst 3, 1) := by decide +kernel
theorem dX5_look_43 : decode cX5_look 43 = .ok (.invokevirtual 41, 3) := by decide +kernel
theorem dX5_look_46 : decode cX5_look 46 = .ok (.ireturn, 1) := by decide +kernel
theorem dX5_look_47 : decode cX5_look 47 = .ok (.aload_n 0, 1) := by decide +kernel
theorem dX5_look_48 : decode cX5_look 48 = .ok (.iload_n 1, 1) := by decide +kernel
theorem dX5_look_49 : decode cX5_look 49 = .ok (.iload_n 3, 1) := by decide +kernel
theorem dX5_look_50 : decode cX5_look 50 = .ok (.iconst 1, 1) := by decide +kernel
theorem dX5_look_51 : decode cX5_look 51 = .ok (.invokevirtual 44, 3) := by decide +kernel
theorem dX5_look_54 : decode cX5_look 54 = .ok (.ifCond .eq 7, 3) := by decide +kernel
theorem dX5_look_57 : decode cX5_look 57 = .ok (.iconst 0, 1) := by decide +kernel
theorem dX5_look_58 : decode cX5_look 58 = .ok (.goto 8, 3) := by decide +kernel
theorem dX5_look_61 : decode cX5_look 61 = .ok (.aload_n 0, 1) := by decide +kernel
theorem dX5_look_62 : decode cX5_look 62 = .ok (.iconst 2, 1) := by decide +kernel
theorem dX5_look_63 : decode cX5_look 63 = .ok (.invokevirtual 41, 3) := by decide +kernel
theorem dX5_look_66 : decode cX5_look 66 = .ok (.ireturn, 1) := by decide +kernel
theorem dX5_item_0 : decode cX5_item 0 = .ok (.aload_n 0, 1) := by decide +kernel
theorem dX5_item_1 : decode cX5_item 1 = .ok (.iload_n 1, 1) := by decide +kernel
theorem dX5_item_2 : decode cX5_item 2 = .ok (.iload_n 2, 1) := by decide +kernel
theorem dX5_item_3 : decode cX5_item 3 = .ok (.iconst 1, 1) := by decide +kernel
theorem dX5_item_4 : decode cX5_item 4 = .ok (.invokevirtual 44, 3) := by decide +kernel
theorem dX5_item_7 : decode cX5_item 7 = .ok (.ifCond .eq 14, 3) := by decide +kernel
theorem dX5_item_10 : decode cX5_item 10 = .ok (.aload_n 0, 1) := by decide +kernel
theorem dX5_item_11 : decode cX5_item 11 = .ok (.getfield 13, 3) := by decide +kernel
theorem dX5_item_14 : decode cX5_item 14 = .ok (.iload_n 1, 1) := by decide +kernel
theorem dX5_item_15 : decode cX5_item 15 = .ok (.aaload, 1) := by decide +kernel
theorem dX5_item_16 : decode cX5_item 16 = .ok (.iload_n 2, 1) := by decide +kernel
theorem dX5_item_17 : decode cX5_item 17 = .ok (.iaload, 1) := by decide +kernel
theorem dX5_item_18 : decode cX5_item 18 = .ok (.goto 4, 3) := by decide +kernel
theorem dX5_item_21 : decode cX5_item 21 = .ok (.iconst 0, 1) := by decide +kernel
theorem dX5_item_22 : decode cX5_item 22 = .ok (.ireturn, 1) := by decide +kernel
theorem dX5_put_0 : decode cX5_put 0 = .ok (.aload_n 0, 1) := by decide +kernel
theorem dX5_put_1 : decode cX5_put 1 = .ok (.iload_n 1, 1) := by decide +kernel
theorem dX5_put_2 : decode cX5_put 2 = .ok (.iload_n 2, 1) := by decide +kernel
theorem dX5_put_3 : decode cX5_put 3 = .ok (.iconst 1, 1) := by decide +kernel
theorem dX5_put_4 : decode cX5_put 4 = .ok (.invokevirtual 44, 3) := by decide +kernel
theorem dX5_put_7 : decode cX5_put 7 = .ok (.ifCond .eq 21, 3) := by decide +kernel
theorem dX5_put_10 : decode cX5_put 10 = .ok (.aload_n 0, 1) := by decide +kernel
theorem dX5_put_11 : decode cX5_put 11 = .ok (.getfield 13, 3) := by decide +kernel
theorem dX5_put_14 : decode cX5_put 14 = .ok (.iload_n 1, 1) := by decide +kernel
theorem dX5_put_15 : decode cX5_put 15 = .ok (.aaload, 1) := by decide +kernel
theorem dX5_put_16 : decode cX5_put 16 = .ok (.iload_n 2, 1) := by decide +kernel
theorem dX5_put_17 : decode cX5_put 17 = .ok (.aload_n 0, 1) := by decide +kernel
theorem dX5_put_18 : decode cX5_put 18 = .ok (.getfield 16, 3) := by decide +kernel
theorem dX5_put_21 : decode cX5_put 21 = .ok (.iload_n 1, 1) := by decide +kernel
theorem dX5_put_22 : decode cX5_put 22 = .ok (.iaload, 1) := by decide +kernel
theorem dX5_put_23 : decode cX5_put 23 = .ok (.iload_n 3, 1) := by decide +kernel
theorem dX5_put_24 : decode cX5_put 24 = .ok (.invokestatic 48, 3) := by decide +kernel
theorem dX5_put_27 : decode cX5_put 27 = .ok (.iastore, 1) := by decide +kernel
theorem dX5_put_28 : decode cX5_put 28 = .ok (.return_, 1) := by decide +kernel
theorem dX5_move_0 : decode cX5_move 0 = .ok (.aload_n 0, 1) := by decide +kernel
theorem dX5_move_1 : decode cX5_move 1 = .ok (.iload_n 1, 1) := by decide +kernel
theorem dX5_move_2 : decode cX5_move 2 = .ok (.iload_n 2, 1) := by decide +kernel
theorem dX5_move_3 : decode cX5_move 3 = .ok (.iload 5, 2) := by decide +kernel
theorem dX5_move_5 : decode cX5_move 5 = .ok (.invokevirtual 44, 3) := by decide +kernel
theorem dX5_move_8 : decode cX5_move 8 = .ok (.ifCond .eq 35, 3) := by decide +kernel
theorem dX5_move_11 : decode cX5_move 11 = .ok (.aload_n 0, 1) := by decide +kernel
theorem dX5_move_12 : decode cX5_move 12 = .ok (.iload_n 3, 1) := by decide +kernel
theorem dX5_move_13 : decode cX5_move 13 = .ok (.iload 4, 2) := by decide +kernel
theorem dX5_move_15 : decode cX5_move 15 = .ok (.iload 5, 2) := by decide +kernel
theorem dX5_move_17 : decode cX5_move 17 = .ok (.invokevirtual 44, 3) := by decide +kernel
theorem dX5_move_20 : decode cX5_move 20 = .ok (.ifCond .eq 23, 3) := by decide +kernel
theorem dX5_move_23 : decode cX5_move 23 = .ok (.aload_n 0, 1) := by decide +kernel
theorem dX5_move_24 : decode cX5_move 24 = .ok (.getfield 13, 3) := by decide +kernel
theorem dX5_move_27 : decode cX5_move 27 = .ok (.iload_n 1, 1) := by decide +kernel
theorem dX5_move_28 : decode cX5_move 28 = .ok (.aaload, 1) := by decide +kernel
theorem dX5_move_29 : decode cX5_move 29 = .ok (.iload_n 2, 1) := by decide +kernel
theorem dX5_move_30 : decode cX5_move 30 = .ok (.aload_n 0, 1) := by decide +kernel
theorem dX5_move_31 : decode cX5_move 31 = .ok (.getfield 13, 3) := by decide +kernel
theorem dX5_move_34 : decode cX5_move 34 = .ok (.iload_n 3, 1) := by decide +kernel
theorem dX5_move_35 : decode cX5_move 35 = .ok (.aaload, 1) := by decide +kernel
theorem dX5_move_36 : decode cX5_move 36 = .ok (.iload 4, 2) := by decide +kernel
theorem dX5_move_38 : decode cX5_move 38 = .ok (.iload 5, 2) := by decide +kernel
theorem dX5_move_40 : decode cX5_move 40 = .ok (.invokestatic 52, 3) := by decide +kernel
theorem dX5_move_43 : decode cX5_move 43 = .ok (.return_, 1) := by decide +kernel
theorem dX5_cut_0 : decode cX5_cut 0 = .ok (.iload_n 0, 1) := by decide +kernel
theorem dX5_cut_1 : decode cX5_cut 1 = .ok (.ifCond .ne 6, 3) := by decide +kernel
theorem dX5_cut_4 : decode cX5_cut 4 = .ok (.iload_n 1, 1) := by decide +kernel
theorem dX5_cut_5 : decode cX5_cut 5 = .ok (.i2b, 1) := by decide +kernel
theorem dX5_cut_6 : decode cX5_cut 6 = .ok (.ireturn, 1) := by decide +kernel
theorem dX5_cut_7 : decode cX5_cut 7 = .ok (.iload_n 0, 1) := by decide +kernel
theorem dX5_cut_8 : decode cX5_cut 8 = .ok (.iconst 1, 1) := by decide +kernel
theorem dX5_cut_9 : decode cX5_cut 9 = .ok (.if_icmp .ne 8, 3) := by decide +kernel
theorem dX5_cut_12 : decode cX5_cut 12 = .ok (.iload_n 1, 1) := by decide +kernel
theorem dX5_cut_13 : decode cX5_cut 13 = .ok (.i2s, 1) := by decide +kernel
theorem dX5_cut_14 : decode cX5_cut 14 = .ok (.goto 4, 3) := by decide +kernel
theorem dX5_cut_17 : decode cX5_cut 17 = .ok (.iload_n 1, 1) := by decide +kernel
theorem dX5_cut_18 : decode cX5_cut 18 = .ok (.ireturn, 1) := by decide +kernel
theorem dX6_init_0 : decode cX6_init 0 = .ok (.aload_n 0, 1) := by decide +kernel
theorem dX6_init_1 : decode cX6_init 1 = .ok (.invokespecial 3, 3) := by decide +kernel
theorem dX6_init_4 : decode cX6_init 4 = .ok (.aload_n 0, 1) := by decide +kernel
theorem dX6_init_5 : decode cX6_init 5 = .ok (.bipush 6, 2) := by decide +kernel
theorem dX6_init_7 : decode cX6_init 7 = .ok (.newarray .int, 2) := by decide +kernel
theorem dX6_init_9 : decode cX6_init 9 = .ok (.putfield 11, 3) := by decide +kernel
theorem dX6_init_12 : decode cX6_init 12 = .ok (.aload_n 0, 1) := by decide +kernel
theorem dX6_init_13 : decode cX6_init 13 = .ok (.bipush 6, 2) := by decide +kernel
theorem dX6_init_15 : decode cX6_init 15 = .ok (.newarray .int, 2) := by decide +kernel
theorem dX6_init_17 : decode cX6_init 17 = .ok (.putfield 15, 3) := by decide +kernel
theorem dX6_init_20 : decode cX6_init 20 = .ok (.aload_n 0, 1) := by decide +kernel
theorem dX6_init_21 : decode cX6_init 21 = .ok (.bipush 6, 2) := by decide +kernel
theorem dX6_init_23 : decode cX6_init 23 = .ok (.newarray .int, 2) := by decide +kernel
theorem dX6_init_25 : decode cX6_init 25 = .ok (.putfield 18, 3) := by decide +kernel
theorem dX6_init_28 : decode cX6_init 28 = .ok (.aload_n 0, 1) := by decide +kernel
theorem dX6_init_29 : decode cX6_init 29 = .ok (.iconst 0, 1) := by decide +kernel
theorem dX6_init_30 : decode cX6_init 30 = .ok (.putfield 21, 3) := by decide +kernel
theorem dX6_init_33 : decode cX6_init 33 = .ok (.return_, 1) := by decide +kernel
theorem dX6_size_0 : decode cX6_size 0 = .ok (.aload_n 0, 1) := by decide +kernel
theorem dX6_size_1 : decode cX6_size 1 = .ok (.getfield 21, 3) := by decide +kernel
theorem dX6_size_4 : decode cX6_size 4 = .ok (.ireturn, 1) := by decide +kernel
theorem dX6_add_0 : decode cX6_add 0 = .ok (.aload_n 0, 1) := by decide +kernel
theorem dX6_add_1 : decode cX6_add 1 = .ok (.getfield 21, 3) := by decide +kernel
theorem dX6_add_4 : decode cX6_add 4 = .ok (.bipush 6, 2) := by decide +kernel
theorem dX6_add_6 : decode cX6_add 6 = .ok (.if_icmp .ge 14, 3) := by decide +kernel
theorem dX6_add_9 : decode cX6_add 9 = .ok (.aload_n 0, 1) := by decide +kernel
theorem dX6_add_10 : decode cX6_add 10 = .ok (.invokevirtual 25, 3) := by decide +kernel
theorem dX6_add_13 : decode cX6_add 13 = .ok (.iload_n 1, 1) := by decide +kernel
theorem dX6_add_14 : decode cX6_add 14 = .ok (.iadd, 1) := by decide +kernel
theorem dX6_add_15 : decode cX6_add 15 = .ok (.bipush 16, 2) := by decide +kernel
theorem dX6_add_17 : decode cX6_add 17 = .ok (.if_icmp .le 5, 3) := by decide +kernel
theorem dX6_add_20 : decode cX6_add 20 = .ok (.iconst 0, 1) := by decide +kernel
theorem dX6_add_21 : decode cX6_add 21 = .ok (.ireturn, 1) := by decide +kernel
theorem dX6_add_22 : decode cX6_add 22 = .ok (.aload_n 0, 1) := by decide +kernel
theorem dX6_add_23 : decode cX6_add 23 = .ok (.getfield 11, 3) := by decide +kernel
theorem dX6_add_26 : decode cX6_add 26 = .ok (.aload_n 0, 1) := by decide +kernel
theorem dX6_add_27 : decode cX6_add 27 = .ok (.getfield 21, 3) := by decide +kernel
theorem dX6_add_30 : decode cX6_add 30 = .ok (.iload_n 1, 1) := by decide +kernel
theorem dX6_add_31 : decode cX6_add 31 = .ok (.iastore, 1) := by decide +kernel
theorem dX6_add_32 : decode cX6_add 32 = .ok (.aload_n 0, 1) := by decide +kernel
theorem dX6_add_33 : decode cX6_add 33 = .ok (.getfield 15, 3) := by decide +kernel
theorem dX6_add_36 : decode cX6_add 36 = .ok (.aload_n 0, 1) := by decide +kernel
theorem dX6_add_37 : decode cX6_add 37 = .ok (.getfield 21, 3) := by decide +kernel
theorem dX6_add_40 : decode cX6_add 40 = .ok (.iload_n 2, 1) := by decide +kernel
theorem dX6_add_41 : decode cX6_add 41 = .ok (.iastore, 1) := by decide +kernel
theorem dX6_add_42 : decode cX6_add 42 = .ok (.aload_n 0, 1) := by decide +kernel
theorem dX6_add_43 : decode cX6_add 43 = .ok (.dup, 1) := by decide +kernel
theorem dX6_add_44 : decode cX6_add 44 = .ok (.getfield 21, 3) := by decide +kernel
theorem dX6_add_47 : decode cX6_add 47 = .ok (.iconst 1, 1) := by decide +kernel
theorem dX6_add_48 : decode cX6_add 48 = .ok (.iadd, 1) := by decide +kernel
theorem dX6_add_49 : decode cX6_add 49 = .ok (.putfield 21, 3) := by decide +kernel
theorem dX6_add_52 : decode cX6_add 52 = .ok (.aload_n 0, 1) := by decide +kernel
theorem dX6_add_53 : decode cX6_add 53 = .ok (.invokevirtual 29, 3) := by decide +kernel
theorem dX6_add_56 : decode cX6_add 56 = .ok (.iconst 1, 1) := by decide +kernel
theorem dX6_add_57 : decode cX6_add 57 = .ok (.ireturn, 1) := by decide +kernel
theorem dX6_dropLast_0 : decode cX6_dropLast 0 = .ok (.aload_n 0, 1) := by decide +kernel
theorem dX6_dropLast_1 : decode cX6_dropLast 1 = .ok (.getfield 21, 3) := by decide +kernel
theorem dX6_dropLast_4 : decode cX6_dropLast 4 = .ok (.ifCond .ne 5, 3) := by decide +kernel
theorem dX6_dropLast_7 : decode cX6_dropLast 7 = .ok (.iconst 0, 1) := by decide +kernel
theorem dX6_dropLast_8 : decode cX6_dropLast 8 = .ok (.ireturn, 1) := by decide +kernel
theorem dX6_dropLast_9 : decode cX6_dropLast 9 = .ok (.aload_n 0, 1) := by decide +kernel
theorem dX6_dropLast_10 : decode cX6_dropLast 10 = .ok (.dup, 1) := by decide +kernel
theorem dX6_dropLast_11 : decode cX6_dropLast 11 = .ok (.getfield 21, 3) := by decide +kernel
theorem dX6_dropLast_14 : decode cX6_dropLast 14 = .ok (.iconst 1, 1) := by decide +kernel
theorem dX6_dropLast_15 : decode cX6_dropLast 15 = .ok (.isub, 1) := by decide +kernel
theorem dX6_dropLast_16 : decode cX6_dropLast 16 = .ok (.putfield 21, 3) := by decide +kernel
theorem dX6_dropLast_19 : decode cX6_dropLast 19 = .ok (.aload_n 0, 1) := by decide +kernel
theorem dX6_dropLast_20 : decode cX6_dropLast 20 = .ok (.invokevirtual 29, 3) := by decide +kernel
theorem dX6_dropLast_23 : decode cX6_dropLast 23 = .ok (.iconst 1, 1) := by decide +kernel
theorem dX6_dropLast_24 : decode cX6_dropLast 24 = .ok (.ireturn, 1) := by decide +kernel
theorem dX6_tried_0 : decode cX6_tried 0 = .ok (.iload_n 1, 1) := by decide +kernel
theorem dX6_tried_1 : decode cX6_tried 1 = .ok (.ifCond .lt 20, 3) := by decide +kernel
theorem dX6_tried_4 : decode cX6_tried 4 = .ok (.iload_n 1, 1) := by decide +kernel
theorem dX6_tried_5 : decode cX6_tried 5 = .ok (.aload_n 0, 1) := by decide +kernel
theorem dX6_tried_6 : decode cX6_tried 6 = .ok (.getfield 21, 3) := by decide +kernel
theorem dX6_tried_9 : decode cX6_tried 9 = .ok (.if_icmp .ge 12, 3) := by decide +kernel
theorem dX6_tried_12 : decode cX6_tried 12 = .ok (.aload_n 0, 1) := by decide +kernel
theorem dX6_tried_13 : decode cX6_tried 13 = .ok (.getfield 18, 3) := by decide +kernel
theorem dX6_tried_16 : decode cX6_tried 16 = .ok (.iload_n 1, 1) := by decide +kernel
theorem dX6_tried_17 : decode cX6_tried 17 = .ok (.iaload, 1) := by decide +kernel
theorem dX6_tried_18 : decode cX6_tried 18 = .ok (.goto 4, 3) := by decide +kernel
theorem dX6_tried_21 : decode cX6_tried 21 = .ok (.iconst (-1), 1) := by decide +kernel
theorem dX6_tried_22 : decode cX6_tried 22 = .ok (.ireturn, 1) := by decide +kernel
theorem dX6_meanSixteenths_0 : decode cX6_meanSixteenths 0 = .ok (.iconst 0, 1) := by decide +kernel
theorem dX6_meanSixteenths_1 : decode cX6_meanSixteenths 1 = .ok (.istore_n 1, 1) := by decide +kernel
theorem dX6_meanSixteenths_2 : decode cX6_meanSixteenths 2 = .ok (.iconst 0, 1) := by decide +kernel
theorem dX6_meanSixteenths_3 : decode cX6_meanSixteenths 3 = .ok (.istore_n 2, 1) := by decide +kernel
theorem dX6_meanSixteenths_4 : decode cX6_meanSixteenths 4 = .ok (.iconst 0, 1) := by decide +kernel
theorem dX6_meanSixteenths_5 : decode cX6_meanSixteenths 5 = .ok (.istore_n 3, 1) := by decide +kernel
theorem dX6_meanSixteenths_6 : decode cX6_meanSixteenths 6 = .ok (.iload_n 3, 1) := by decide +kernel
theorem dX6_meanSixteenths_7 : decode cX6_meanSixteenths 7 = .ok (.aload_n 0, 1) := by decide +kernel
theorem dX6_meanSixteenths_8 : decode cX6_meanSixteenths 8 = .ok (.getfield 21, 3) := by decide +kernel
theorem dX6_meanSixteenths_11 : decode cX6_meanSixteenths 11 = .ok (.if_icmp .ge 39, 3) := by decide +kernel
theorem dX6_meanSixteenths_14 : decode cX6_meanSixteenths 14 = .ok (.aload_n 0, 1) := by decide +kernel
theorem dX6_meanSixteenths_15 : decode cX6_meanSixteenths 15 = .ok (.getfield 18, 3) := by decide +kernel
theorem dX6_meanSixteenths_18 : decode cX6_meanSixteenths 18 = .ok (.iload_n 3, 1) := by decide +kernel
theorem dX6_meanSixteenths_19 : decode cX6_meanSixteenths 19 = .ok (.iaload, 1) := by decide +kernel
theorem dX6_meanSixteenths_20 : decode cX6_meanSixteenths 20 = .ok (.istore 4, 2) := by decide +kernel
theorem dX6_meanSixteenths_22 : decode cX6_meanSixteenths 22 = .ok (.iload_n 1, 1) := by decide +kernel
theorem dX6_meanSixteenths_23 : decode cX6_meanSixteenths 23 = .ok (.aload_n 0, 1) := by decide +kernel
theorem dX6_meanSixteenths_24 : decode cX6_meanSixteenths 24 = .ok (.getfield 15, 3) := by decide +kernel
theorem dX6_meanSixteenths_27 : decode cX6_meanSixteenths 27 = .ok (.iload 4, 2) := by decide +kernel
theorem dX6_meanSixteenths_29 : decode cX6_meanSixteenths 29 = .ok (.iaload, 1) := by decide +kernel
theorem dX6_meanSixteenths_30 : decode cX6_meanSixteenths 30 = .ok (.iadd, 1) := by decide +kernel
theorem dX6_meanSixteenths_31 : decode cX6_meanSixteenths 31 = .ok (.istore_n 1, 1) := by decide +kernel
theorem dX6_meanSixteenths_32 : decode cX6_meanSixteenths 32 = .ok (.iload_n 2, 1) := by decide +kernel
theorem dX6_meanSixteenths_33 : decode cX6_meanSixteenths 33 = .ok (.iload_n 1, 1) := by decide +kernel
theorem dX6_meanSixteenths_34 : decode cX6_meanSixteenths 34 = .ok (.aload_n 0, 1) := by decide +kernel
theorem dX6_meanSixteenths_35 : decode cX6_meanSixteenths 35 = .ok (.getfield 11, 3) := by decide +kernel
theorem dX6_meanSixteenths_38 : decode cX6_meanSixteenths 38 = .ok (.iload 4, 2) := by decide +kernel
theorem dX6_meanSixteenths_40 : decode cX6_meanSixteenths 40 = .ok (.iaload, 1) := by decide +kernel
theorem dX6_meanSixteenths_41 : decode cX6_meanSixteenths 41 = .ok (.imul, 1) := by decide +kernel
theorem dX6_meanSixteenths_42 : decode cX6_meanSixteenths 42 = .ok (.iadd, 1) := by decide +kernel
theorem dX6_meanSixteenths_43 : decode cX6_meanSixteenths 43 = .ok (.istore_n 2, 1) := by decide +kernel
theorem dX6_meanSixteenths_44 : decode cX6_meanSixteenths 44 = .ok (.iinc 3 1, 3) := by decide +kernel
theorem dX6_meanSixteenths_47 : decode cX6_meanSixteenths 47 = .ok (.goto (-41), 3) := by decide +kernel
theorem dX6_meanSixteenths_50 : decode cX6_meanSixteenths 50 = .ok (.iload_n 2, 1) := by decide +kernel
theorem dX6_meanSixteenths_51 : decode cX6_meanSixteenths 51 = .ok (.iload_n 1, 1) := by decide +kernel
theorem dX6_meanSixteenths_52 : decode cX6_meanSixteenths 52 = .ok (.bipush 16, 2) := by decide +kernel
theorem dX6_meanSixteenths_54 : decode cX6_meanSixteenths 54 = .ok (.aload_n 0, 1) := by decide +kernel
theorem dX6_meanSixteenths_55 : decode cX6_meanSixteenths 55 = .ok (.invokevirtual 25, 3) := by decide +kernel
theorem dX6_meanSixteenths_58 : decode cX6_meanSixteenths 58 = .ok (.isub, 1) := by decide +kernel
theorem dX6_meanSixteenths_59 : decode cX6_meanSixteenths 59 = .ok (.imul, 1) := by decide +kernel
theorem dX6_meanSixteenths_60 : decode cX6_meanSixteenths 60 = .ok (.iadd, 1) := by decide +kernel
theorem dX6_meanSixteenths_61 : decode cX6_meanSixteenths 61 = .ok (.ireturn, 1) := by decide +kernel
theorem dX6_allChances_0 : decode cX6_allChances 0 = .ok (.iconst 0, 1) := by decide +kernel
theorem dX6_allChances_1 : decode cX6_allChances 1 = .ok (.istore_n 1, 1) := by decide +kernel
theorem dX6_allChances_2 : decode cX6_allChances 2 = .ok (.iconst 0, 1) := by decide +kernel
theorem dX6_allChances_3 : decode cX6_allChances 3 = .ok (.istore_n 2, 1) := by decide +kernel
theorem dX6_allChances_4 : decode cX6_allChances 4 = .ok (.iload_n 2, 1) := by decide +kernel
theorem dX6_allChances_5 : decode cX6_allChances 5 = .ok (.aload_n 0, 1) := by decide +kernel
theorem dX6_allChances_6 : decode cX6_allChances 6 = .ok (.getfield 21, 3) := by decide +kernel
theorem dX6_allChances_9 : decode cX6_allChances 9 = .ok (.if_icmp .ge 18, 3) := by decide +kernel
theorem dX6_allChances_12 : decode cX6_allChances 12 = .ok (.iload_n 1, 1) := by decide +kernel
theorem dX6_allChances_13 : decode cX6_allChances 13 = .ok (.aload_n 0, 1) := by decide +kernel
theorem dX6_allChances_14 : decode cX6_allChances 14 = .ok (.getfield 11, 3) := by decide +kernel
theorem dX6_allChances_17 : decode cX6_allChances 17 = .ok (.iload_n 2, 1) := by decide +kernel
theorem dX6_allChances_18 : decode cX6_allChances 18 = .ok (.iaload, 1) := by decide +kernel
theorem dX6_allChances_19 : decode cX6_allChances 19 = .ok (.iadd, 1) := by decide +kernel
theorem dX6_allChances_20 : decode cX6_allChances 20 = .ok (.istore_n 1, 1) := by decide +kernel
theorem dX6_allChances_21 : decode cX6_allChances 21 = .ok (.iinc 2 1, 3) := by decide +kernel
theorem dX6_allChances_24 : decode cX6_allChances 24 = .ok (.goto (-20), 3) := by decide +kernel
theorem dX6_allChances_27 : decode cX6_allChances 27 = .ok (.iload_n 1, 1) := by decide +kernel
theorem dX6_allChances_28 : decode cX6_allChances 28 = .ok (.ireturn, 1) := by decide +kernel
theorem dX6_sort_0 : decode cX6_sort 0 = .ok (.iconst 0, 1) := by decide +kernel
theorem dX6_sort_1 : decode cX6_sort 1 = .ok (.istore_n 1, 1) := by decide +kernel
theorem dX6_sort_2 : decode cX6_sort 2 = .ok (.iload_n 1, 1) := by decide +kernel
theorem dX6_sort_3 : decode cX6_sort 3 = .ok (.aload_n 0, 1) := by decide +kernel
theorem dX6_sort_4 : decode cX6_sort 4 = .ok (.getfield 21, 3) := by decide +kernel
theorem dX6_sort_7 : decode cX6_sort 7 = .ok (.if_icmp .ge 58, 3) := by decide +kernel
theorem dX6_sort_10 : decode cX6_sort 10 = .ok (.iload_n 1, 1) := by decide +kernel
theorem dX6_sort_11 : decode cX6_sort 11 = .ok (.istore_n 2, 1) := by decide +kernel
theorem dX6_sort_12 : decode cX6_sort 12 = .ok (.iload_n 2, 1) := by decide +kernel
theorem dX6_sort_13 : decode cX6_sort 13 = .ok (.ifCond .le 39, 3) := by decide +kernel
theorem dX6_sort_16 : decode cX6_sort 16 = .ok (.aload_n 0, 1) := by decide +kernel
theorem dX6_sort_17 : decode cX6_sort 17 = .ok (.iload_n 1, 1) := by decide +kernel
theorem dX6_sort_18 : decode cX6_sort 18 = .ok (.aload_n 0, 1) := by decide +kernel
theorem dX6_sort_19 : decode cX6_sort 19 = .ok (.getfield 18, 3) := by decide +kernel
theorem dX6_sort_22 : decode cX6_sort 22 = .ok (.iload_n 2, 1) := by decide +kernel
theorem dX6_sort_23 : decode cX6_sort 23 = .ok (.iconst 1, 1) := by decide +kernel
theorem dX6_sort_24 : decode cX6_sort 24 = .ok (.isub, 1) := by decide +kernel
theorem dX6_sort_25 : decode cX6_sort 25 = .ok (.iaload, 1) := by decide +kernel
theorem dX6_sort_26 : decode cX6_sort 26 = .ok (.invokevirtual 32, 3) := by decide +kernel
theorem dX6_sort_29 : decode cX6_sort 29 = .ok (.ifCond .eq 23, 3) := by decide +kernel
theorem dX6_sort_32 : decode cX6_sort 32 = .ok (.aload_n 0, 1) := by decide +kernel
theorem dX6_sort_33 : decode cX6_sort 33 = .ok (.getfield 18, 3) := by decide +kernel
theorem dX6_sort_36 : decode cX6_sort 36 = .ok (.iload_n 2, 1) := by decide +kernel
theorem dX6_sort_37 : decode cX6_sort 37 = .ok (.aload_n 0, 1) := by decide +kernel
theorem dX6_sort_38 : decode cX6_sort 38 = .ok (.getfield 18, 3) := by decide +kernel
theorem dX6_sort_41 : decode cX6_sort 41 = .ok (.iload_n 2, 1) := by decide +kernel
theorem dX6_sort_42 : decode cX6_sort 42 = .ok (.iconst 1, 1) := by decide +kernel
theorem dX6_sort_43 : decode cX6_sort 43 = .ok (.isub, 1) := by decide +kernel
theorem dX6_sort_44 : decode cX6_sort 44 = .ok (.iaload, 1) := by decide +kernel
theorem dX6_sort_45 : decode cX6_sort 45 = .ok (.iastore, 1) := by decide +kernel
theorem dX6_sort_46 : decode cX6_sort 46 = .ok (.iinc 2 (-1), 3) := by decide +kernel
theorem dX6_sort_49 : decode cX6_sort 49 = .ok (.goto (-37), 3) := by decide +kernel
theorem dX6_sort_52 : decode cX6_sort 52 = .ok (.aload_n 0, 1) := by decide +kernel
theorem dX6_sort_53 : decode cX6_sort 53 = .ok (.getfield 18, 3) := by decide +kernel
theorem dX6_sort_56 : decode cX6_sort 56 = .ok (.iload_n 2, 1) := by decide +kernel
theorem dX6_sort_57 : decode cX6_sort 57 = .ok (.iload_n 1, 1) := by decide +kernel
theorem dX6_sort_58 : decode cX6_sort 58 = .ok (.iastore, 1) := by decide +kernel
theorem dX6_sort_59 : decode cX6_sort 59 = .ok (.iinc 1 1, 3) := by decide +kernel
theorem dX6_sort_62 : decode cX6_sort 62 = .ok (.goto (-60), 3) := by decide +kernel
theorem dX6_sort_65 : decode cX6_sort 65 = .ok (.return_, 1) := by decide +kernel
theorem dX6_isBetter_0 : decode cX6_isBetter 0 = .ok (.aload_n 0, 1) := by decide +kernel
theorem dX6_isBetter_1 : decode cX6_isBetter 1 = .ok (.getfield 11, 3) := by decide +kernel
theorem dX6_isBetter_4 : decode cX6_isBetter 4 = .ok (.iload_n 1, 1) := by decide +kernel
theorem dX6_isBetter_5 : decode cX6_isBetter 5 = .ok (.iaload, 1) := by decide +kernel
theorem dX6_isBetter_6 : decode cX6_isBetter 6 = .ok (.aload_n 0, 1) := by decide +kernel
theorem dX6_isBetter_7 : decode cX6_isBetter 7 = .ok (.getfield 15, 3) := by decide +kernel
theorem dX6_isBetter_10 : decode cX6_isBetter 10 = .ok (.iload_n 2, 1) := by decide +kernel
theorem dX6_isBetter_11 : decode cX6_isBetter 11 = .ok (.iaload, 1) := by decide +kernel
theorem dX6_isBetter_12 : decode cX6_isBetter 12 = .ok (.imul, 1) := by decide +kernel
theorem dX6_isBetter_13 : decode cX6_isBetter 13 = .ok (.aload_n 0, 1) := by decide +kernel
theorem dX6_isBetter_14 : decode cX6_isBetter 14 = .ok (.getfield 11, 3) := by decide +kernel
theorem dX6_isBetter_17 : decode cX6_isBetter 17 = .ok (.iload_n 2, 1) := by decide +kernel
theorem dX6_isBetter_18 : decode cX6_isBetter 18 = .ok (.iaload, 1) := by decide +kernel
theorem dX6_isBetter_19 : decode cX6_isBetter 19 = .ok (.aload_n 0, 1) := by decide +kernel
theorem dX6_isBetter_20 : decode cX6_isBetter 20 = .ok (.getfield 15, 3) := by decide +kernel
theorem dX6_isBetter_23 : decode cX6_isBetter 23 = .ok (.iload_n 1, 1) := by decide +kernel
theorem dX6_isBetter_24 : decode cX6_isBetter 24 = .ok (.iaload, 1) := by decide +kernel
theorem dX6_isBetter_25 : decode cX6_isBetter 25 = .ok (.imul, 1) := by decide +kernel
theorem dX6_isBetter_26 : decode cX6_isBetter 26 = .ok (.if_icmp .le 7, 3) := by decide +kernel
theorem dX6_isBetter_29 : decode cX6_isBetter 29 = .ok (.iconst 1, 1) := by decide +kernel
theorem dX6_isBetter_30 : decode cX6_isBetter 30 = .ok (.goto 4, 3) := by decide +kernel
theorem dX6_isBetter_33 : decode cX6_isBetter 33 = .ok (.iconst 0, 1) := by decide +kernel
theorem dX6_isBetter_34 : decode cX6_isBetter 34 = .ok (.ireturn, 1) := by decide +kernel
theorem dX7_init_0 : decode cX7_init 0 = .ok (.aload_n 0, 1) := by decide +kernel
theorem dX7_init_1 : decode cX7_init 1 = .ok (.invokespecial 3, 3) := by decide +kernel
theorem dX7_init_4 : decode cX7_init 4 = .ok (.aload_n 0, 1) := by decide +kernel
theorem dX7_init_5 : decode cX7_init 5 = .ok (.iconst 0, 1) := by decide +kernel
theorem dX7_init_6 : decode cX7_init 6 = .ok (.putfield 9, 3) := by decide +kernel
theorem dX7_init_9 : decode cX7_init 9 = .ok (.aload_n 0, 1) := by decide +kernel
theorem dX7_init_10 : decode cX7_init 10 = .ok (.iconst 0, 1) := by decide +kernel
theorem dX7_init_11 : decode cX7_init 11 = .ok (.iload_n 1, 1) := by decide +kernel
theorem dX7_init_12 : decode cX7_init 12 = .ok (.invokestatic 15, 3) := by decide +kernel
theorem dX7_init_15 : decode cX7_init 15 = .ok (.newarray .int, 2) := by decide +kernel
theorem dX7_init_17 : decode cX7_init 17 = .ok (.putfield 21, 3) := by decide +kernel
theorem dX7_init_20 : decode cX7_init 20 = .ok (.return_, 1) := by decide +kernel
theorem dX7_length_0 : decode cX7_length 0 = .ok (.aload_n 0, 1) := by decide +kernel
theorem dX7_length_1 : decode cX7_length 1 = .ok (.getfield 9, 3) := by decide +kernel
theorem dX7_length_4 : decode cX7_length 4 = .ok (.ireturn, 1) := by decide +kernel
theorem dX7_at_0 : decode cX7_at 0 = .ok (.iload_n 1, 1) := by decide +kernel
theorem dX7_at_1 : decode cX7_at 1 = .ok (.ifCond .lt 20, 3) := by decide +kernel
theorem dX7_at_4 : decode cX7_at 4 = .ok (.iload_n 1, 1) := by decide +kernel
theorem dX7_at_5 : decode cX7_at 5 = .ok (.aload_n 0, 1) := by decide +kernel
theorem dX7_at_6 : decode cX7_at 6 = .ok (.getfield 9, 3) := by decide +kernel
theorem dX7_at_9 : decode cX7_at 9 = .ok (.if_icmp .ge 12, 3) := by decide +kernel
theorem dX7_at_12 : decode cX7_at 12 = .ok (.aload_n 0, 1) := by decide +kernel
theorem dX7_at_13 : decode cX7_at 13 = .ok (.getfield 21, 3) := by decide +kernel
theorem dX7_at_16 : decode cX7_at 16 = .ok (.iload_n 1, 1) := by decide +kernel
theorem dX7_at_17 : decode cX7_at 17 = .ok (.iaload, 1) := by decide +kernel
theorem dX7_at_18 : decode cX7_at 18 = .ok (.goto 4, 3) := by decide +kernel
theorem dX7_at_21 : decode cX7_at 21 = .ok (.iconst (-1), 1) := by decide +kernel
theorem dX7_at_22 : decode cX7_at 22 = .ok (.ireturn, 1) := by decide +kernel
theorem dX7_push_0 : decode cX7_push 0 = .ok (.aload_n 0, 1) := by decide +kernel
theorem dX7_push_1 : decode cX7_push 1 = .ok (.getfield 9, 3) := by decide +kernel
theorem dX7_push_4 : decode cX7_push 4 = .ok (.aload_n 0, 1) := by decide +kernel
theorem dX7_push_5 : decode cX7_push 5 = .ok (.getfield 21, 3) := by decide +kernel
theorem dX7_push_8 : decode cX7_push 8 = .ok (.arraylength, 1) := by decide +kernel
theorem dX7_push_9 : decode cX7_push 9 = .ok (.if_icmp .lt 5, 3) := by decide +kernel
theorem dX7_push_12 : decode cX7_push 12 = .ok (.iconst 0, 1) := by decide +kernel
theorem dX7_push_13 : decode cX7_push 13 = .ok (.ireturn, 1) := by decide +kernel
theorem dX7_push_14 : decode cX7_push 14 = .ok (.aload_n 0, 1) := by decide +kernel
theorem dX7_push_15 : decode cX7_push 15 = .ok (.getfield 21, 3) := by decide +kernel
theorem dX7_push_18 : decode cX7_push 18 = .ok (.aload_n 0, 1) := by decide +kernel
theorem dX7_push_19 : decode cX7_push 19 = .ok (.getfield 9, 3) := by decide +kernel
theorem dX7_push_22 : decode cX7_push 22 = .ok (.iload_n 1, 1) := by decide +kernel
theorem dX7_push_23 : decode cX7_push 23 = .ok (.iastore, 1) := by decide +kernel
theorem dX7_push_24 : decode cX7_push 24 = .ok (.aload_n 0, 1) := by decide +kernel
theorem dX7_push_25 : decode cX7_push 25 = .ok (.dup, 1) := by decide +kernel
theorem dX7_push_26 : decode cX7_push 26 = .ok (.getfield 9, 3) := by decide +kernel
theorem dX7_push_29 : decode cX7_push 29 = .ok (.iconst 1, 1) := by decide +kernel
theorem dX7_push_30 : decode cX7_push 30 = .ok (.iadd, 1) := by decide +kernel
theorem dX7_push_31 : decode cX7_push 31 = .ok (.putfield 9, 3) := by decide +kernel
theorem dX7_push_34 : decode cX7_push 34 = .ok (.iconst 1, 1) := by decide +kernel
theorem dX7_push_35 : decode cX7_push 35 = .ok (.ireturn, 1) := by decide +kernel
theorem dX7_pop_0 : decode cX7_pop 0 = .ok (.aload_n 0, 1) := by decide +kernel
theorem dX7_pop_1 : decode cX7_pop 1 = .ok (.getfield 9, 3) := by decide +kernel
theorem dX7_pop_4 : decode cX7_pop 4 = .ok (.ifCond .ne 5, 3) := by decide +kernel
theorem dX7_pop_7 : decode cX7_pop 7 = .ok (.iconst 0, 1) := by decide +kernel
theorem dX7_pop_8 : decode cX7_pop 8 = .ok (.ireturn, 1) := by decide +kernel
theorem dX7_pop_9 : decode cX7_pop 9 = .ok (.aload_n 0, 1) := by decide +kernel
theorem dX7_pop_10 : decode cX7_pop 10 = .ok (.dup, 1) := by decide +kernel
theorem dX7_pop_11 : decode cX7_pop 11 = .ok (.getfield 9, 3) := by decide +kernel
theorem dX7_pop_14 : decode cX7_pop 14 = .ok (.iconst 1, 1) := by decide +kernel
theorem dX7_pop_15 : decode cX7_pop 15 = .ok (.isub, 1) := by decide +kernel
theorem dX7_pop_16 : decode cX7_pop 16 = .ok (.putfield 9, 3) := by decide +kernel
theorem dX7_pop_19 : decode cX7_pop 19 = .ok (.iconst 1, 1) := by decide +kernel
theorem dX7_pop_20 : decode cX7_pop 20 = .ok (.ireturn, 1) := by decide +kernel
theorem dX7_clear_0 : decode cX7_clear 0 = .ok (.aload_n 0, 1) := by decide +kernel
theorem dX7_clear_1 : decode cX7_clear 1 = .ok (.iconst 0, 1) := by decide +kernel
theorem dX7_clear_2 : decode cX7_clear 2 = .ok (.putfield 9, 3) := by decide +kernel
theorem dX7_clear_5 : decode cX7_clear 5 = .ok (.return_, 1) := by decide +kernel
theorem dX8_init_0 : decode cX8_init 0 = .ok (.aload_n 0, 1) := by decide +kernel
theorem dX8_init_1 : decode cX8_init 1 = .ok (.invokespecial 3, 3) := by decide +kernel
theorem dX8_init_4 : decode cX8_init 4 = .ok (.aload_n 0, 1) := by decide +kernel
theorem dX8_init_5 : decode cX8_init 5 = .ok (.iconst (-1), 1) := by decide +kernel
theorem dX8_init_6 : decode cX8_init 6 = .ok (.putfield 9, 3) := by decide +kernel
theorem dX8_init_9 : decode cX8_init 9 = .ok (.aload_n 0, 1) := by decide +kernel
theorem dX8_init_10 : decode cX8_init 10 = .ok (.iconst (-1), 1) := by decide +kernel
theorem dX8_init_11 : decode cX8_init 11 = .ok (.putfield 15, 3) := by decide +kernel
theorem dX8_init_14 : decode cX8_init 14 = .ok (.return_, 1) := by decide +kernel
theorem dX8_minutes_0 : decode cX8_minutes 0 = .ok (.aload_n 0, 1) := by decide +kernel
theorem dX8_minutes_1 : decode cX8_minutes 1 = .ok (.getfield 9, 3) := by decide +kernel
theorem dX8_minutes_4 : decode cX8_minutes 4 = .ok (.ireturn, 1) := by decide +kernel
theorem dX8_bits_0 : decode cX8_bits 0 = .ok (.aload_n 0, 1) := by decide +kernel
theorem dX8_bits_1 : decode cX8_bits 1 = .ok (.getfield 15, 3) := by decide +kernel
theorem dX8_bits_4 : decode cX8_bits 4 = .ok (.ireturn, 1) := by decide +kernel
theorem dX8_search_0 : decode cX8_search 0 = .ok (.aload_n 1, 1) := by decide +kernel
theorem dX8_search_1 : decode cX8_search 1 = .ok (.iconst 0, 1) := by decide +kernel
theorem dX8_search_2 : decode cX8_search 2 = .ok (.iload_n 2, 1) := by decide +kernel
theorem dX8_search_3 : decode cX8_search 3 = .ok (.invokevirtual 20, 3) := by decide +kernel
theorem dX8_search_6 : decode cX8_search 6 = .ok (.aload_n 1, 1) := by decide +kernel
theorem dX8_search_7 : decode cX8_search 7 = .ok (.iconst 1, 1) := by decide +kernel
theorem dX8_search_8 : decode cX8_search 8 = .ok (.iload_n 2, 1) := by decide +kernel
theorem dX8_search_9 : decode cX8_search 9 = .ok (.invokevirtual 20, 3) := by decide +kernel
theorem dX8_search_12 : decode cX8_search 12 = .ok (.iadd, 1) := by decide +kernel
theorem dX8_search_13 : decode cX8_search 13 = .ok (.istore 4, 2) := by decide +kernel
theorem dX8_search_15 : decode cX8_search 15 = .ok (.aload_n 1, 1) := by decide +kernel
theorem dX8_search_16 : decode cX8_search 16 = .ok (.iload_n 2, 1) := by decide +kernel
theorem dX8_search_17 : decode cX8_search 17 = .ok (.invokestatic 24, 3) := by decide +kernel
theorem dX8_search_20 : decode cX8_search 20 = .ok (.istore 5, 2) := by decide +kernel
theorem dX8_search_22 : decode cX8_search 22 = .ok (.iconst (-1), 1) := by decide +kernel
theorem dX8_search_23 : decode cX8_search 23 = .ok (.istore 6, 2) := by decide +kernel
theorem dX8_search_25 : decode cX8_search 25 = .ok (.aload_n 0, 1) := by decide +kernel
theorem dX8_search_26 : decode cX8_search 26 = .ok (.iconst (-1), 1) := by decide +kernel
theorem dX8_search_27 : decode cX8_search 27 = .ok (.putfield 9, 3) := by decide +kernel
theorem dX8_search_30 : decode cX8_search 30 = .ok (.aload_n 0, 1) := by decide +kernel
theorem dX8_search_31 : decode cX8_search 31 = .ok (.iconst (-1), 1) := by decide +kernel
theorem dX8_search_32 : decode cX8_search 32 = .ok (.putfield 15, 3) := by decide +kernel
theorem dX8_search_35 : decode cX8_search 35 = .ok (.iconst 0, 1) := by decide +kernel
theorem dX8_search_36 : decode cX8_search 36 = .ok (.istore 7, 2) := by decide +kernel
theorem dX8_search_38 : decode cX8_search 38 = .ok (.iload 7, 2) := by decide +kernel
theorem dX8_search_40 : decode cX8_search 40 = .ok (.iconst 1, 1) := by decide +kernel
theorem dX8_search_41 : decode cX8_search 41 = .ok (.iload_n 2, 1) := by decide +kernel
theorem dX8_search_42 : decode cX8_search 42 = .ok (.ishl, 1) := by decide +kernel
theorem dX8_search_43 : decode cX8_search 43 = .ok (.if_icmp .ge 72, 3) := by decide +kernel
theorem dX8_search_46 : decode cX8_search 46 = .ok (.iload 7, 2) := by decide +kernel
theorem dX8_search_48 : decode cX8_search 48 = .ok (.iload 5, 2) := by decide +kernel
theorem dX8_search_50 : decode cX8_search 50 = .ok (.iconst (-1), 1) := by decide +kernel
theorem dX8_search_51 : decode cX8_search 51 = .ok (.ixor, 1) := by decide +kernel
theorem dX8_search_52 : decode cX8_search 52 = .ok (.iand, 1) := by decide +kernel
theorem dX8_search_53 : decode cX8_search 53 = .ok (.ifCond .eq 6, 3) := by decide +kernel
theorem dX8_search_56 : decode cX8_search 56 = .ok (.goto 53, 3) := by decide +kernel
theorem dX8_search_59 : decode cX8_search 59 = .ok (.aload_n 1, 1) := by decide +kernel
theorem dX8_search_60 : decode cX8_search 60 = .ok (.iload_n 2, 1) := by decide +kernel
theorem dX8_search_61 : decode cX8_search 61 = .ok (.iload 7, 2) := by decide +kernel
theorem dX8_search_63 : decode cX8_search 63 = .ok (.invokestatic 28, 3) := by decide +kernel
theorem dX8_search_66 : decode cX8_search 66 = .ok (.istore 8, 2) := by decide +kernel
theorem dX8_search_68 : decode cX8_search 68 = .ok (.iload 4, 2) := by decide +kernel
theorem dX8_search_70 : decode cX8_search 70 = .ok (.iload 8, 2) := by decide +kernel
theorem dX8_search_72 : decode cX8_search 72 = .ok (.isub, 1) := by decide +kernel
theorem dX8_search_73 : decode cX8_search 73 = .ok (.iload_n 3, 1) := by decide +kernel
theorem dX8_search_74 : decode cX8_search 74 = .ok (.if_icmp .gt 35, 3) := by decide +kernel
theorem dX8_search_77 : decode cX8_search 77 = .ok (.iload 6, 2) := by decide +kernel
theorem dX8_search_79 : decode cX8_search 79 = .ok (.iconst (-1), 1) := by decide +kernel
theorem dX8_search_80 : decode cX8_search 80 = .ok (.if_icmp .eq 10, 3) := by decide +kernel
theorem dX8_search_83 : decode cX8_search 83 = .ok (.iload 8, 2) := by decide +kernel
theorem dX8_search_85 : decode cX8_search 85 = .ok (.iload 6, 2) := by decide +kernel
theorem dX8_search_87 : decode cX8_search 87 = .ok (.if_icmp .ge 22, 3) := by decide +kernel
theorem dX8_search_90 : decode cX8_search 90 = .ok (.iload 8, 2) := by decide +kernel
theorem dX8_search_92 : decode cX8_search 92 = .ok (.istore 6, 2) := by decide +kernel
theorem dX8_search_94 : decode cX8_search 94 = .ok (.aload_n 0, 1) := by decide +kernel
theorem dX8_search_95 : decode cX8_search 95 = .ok (.iload 4, 2) := by decide +kernel
theorem dX8_search_97 : decode cX8_search 97 = .ok (.iload 8, 2) := by decide +kernel
theorem dX8_search_99 : decode cX8_search 99 = .ok (.iadd, 1) := by decide +kernel
theorem dX8_search_100 : decode cX8_search 100 = .ok (.putfield 9, 3) := by decide +kernel
theorem dX8_search_103 : decode cX8_search 103 = .ok (.aload_n 0, 1) := by decide +kernel
theorem dX8_search_104 : decode cX8_search 104 = .ok (.iload 7, 2) := by decide +kernel
theorem dX8_search_106 : decode cX8_search 106 = .ok (.putfield 15, 3) := by decide +kernel
theorem dX8_search_109 : decode cX8_search 109 = .ok (.iinc 7 1, 3) := by decide +kernel
theorem dX8_search_112 : decode cX8_search 112 = .ok (.goto (-74), 3) := by decide +kernel
theorem dX8_search_115 : decode cX8_search 115 = .ok (.return_, 1) := by decide +kernel
theorem dX8_ropeBits_0 : decode cX8_ropeBits 0 = .ok (.iconst 0, 1) := by decide +kernel
theorem dX8_ropeBits_1 : decode cX8_ropeBits 1 = .ok (.istore_n 2, 1) := by decide +kernel
theorem dX8_ropeBits_2 : decode cX8_ropeBits 2 = .ok (.iconst 0, 1) := by decide +kernel
theorem dX8_ropeBits_3 : decode cX8_ropeBits 3 = .ok (.istore_n 3, 1) := by decide +kernel
theorem dX8_ropeBits_4 : decode cX8_ropeBits 4 = .ok (.iload_n 3, 1) := by decide +kernel
theorem dX8_ropeBits_5 : decode cX8_ropeBits 5 = .ok (.iload_n 1, 1) := by decide +kernel
theorem dX8_ropeBits_6 : decode cX8_ropeBits 6 = .ok (.if_icmp .ge 20, 3) := by decide +kernel
theorem dX8_ropeBits_9 : decode cX8_ropeBits 9 = .ok (.iload_n 2, 1) := by decide +kernel
theorem dX8_ropeBits_10 : decode cX8_ropeBits 10 = .ok (.aload_n 0, 1) := by decide +kernel
theorem dX8_ropeBits_11 : decode cX8_ropeBits 11 = .ok (.iload_n 3, 1) := by decide +kernel
theorem dX8_ropeBits_12 : decode cX8_ropeBits 12 = .ok (.iconst 3, 1) := by decide +kernel
theorem dX8_ropeBits_13 : decode cX8_ropeBits 13 = .ok (.invokevirtual 32, 3) := by decide +kernel
theorem dX8_ropeBits_16 : decode cX8_ropeBits 16 = .ok (.iload_n 3, 1) := by decide +kernel
theorem dX8_ropeBits_17 : decode cX8_ropeBits 17 = .ok (.ishl, 1) := by decide +kernel
theorem dX8_ropeBits_18 : decode cX8_ropeBits 18 = .ok (.ior, 1) := by decide +kernel
theorem dX8_ropeBits_19 : decode cX8_ropeBits 19 = .ok (.istore_n 2, 1) := by decide +kernel
theorem dX8_ropeBits_20 : decode cX8_ropeBits 20 = .ok (.iinc 3 1, 3) := by decide +kernel
theorem dX8_ropeBits_23 : decode cX8_ropeBits 23 = .ok (.goto (-19), 3) := by decide +kernel
theorem dX8_ropeBits_26 : decode cX8_ropeBits 26 = .ok (.iload_n 2, 1) := by decide +kernel
theorem dX8_ropeBits_27 : decode cX8_ropeBits 27 = .ok (.ireturn, 1) := by decide +kernel
theorem dX8_minutesOf_0 : decode cX8_minutesOf 0 = .ok (.iconst 0, 1) := by decide +kernel
theorem dX8_minutesOf_1 : decode cX8_minutesOf 1 = .ok (.istore_n 3, 1) := by decide +kernel
theorem dX8_minutesOf_2 : decode cX8_minutesOf 2 = .ok (.iconst 0, 1) := by decide +kernel
theorem dX8_minutesOf_3 : decode cX8_minutesOf 3 = .ok (.istore 4, 2) := by decide +kernel
theorem dX8_minutesOf_5 : decode cX8_minutesOf 5 = .ok (.iload 4, 2) := by decide +kernel
theorem dX8_minutesOf_7 : decode cX8_minutesOf 7 = .ok (.iload_n 1, 1) := by decide +kernel
theorem dX8_minutesOf_8 : decode cX8_minutesOf 8 = .ok (.if_icmp .ge 37, 3) := by decide +kernel
theorem dX8_minutesOf_11 : decode cX8_minutesOf 11 = .ok (.iload_n 2, 1) := by decide +kernel
theorem dX8_minutesOf_12 : decode cX8_minutesOf 12 = .ok (.iload 4, 2) := by decide +kernel
theorem dX8_minutesOf_14 : decode cX8_minutesOf 14 = .ok (.ishr, 1) := by decide +kernel
theorem dX8_minutesOf_15 : decode cX8_minutesOf 15 = .ok (.iconst 1, 1) := by decide +kernel
theorem dX8_minutesOf_16 : decode cX8_minutesOf 16 = .ok (.iand, 1) := by decide +kernel
theorem dX8_minutesOf_17 : decode cX8_minutesOf 17 = .ok (.iconst 1, 1) := by decide +kernel
theorem dX8_minutesOf_18 : decode cX8_minutesOf 18 = .ok (.if_icmp .ne 21, 3) := by decide +kernel
theorem dX8_minutesOf_21 : decode cX8_minutesOf 21 = .ok (.iload_n 3, 1) := by decide +kernel
theorem dX8_minutesOf_22 : decode cX8_minutesOf 22 = .ok (.aload_n 0, 1) := by decide +kernel
theorem dX8_minutesOf_23 : decode cX8_minutesOf 23 = .ok (.iload 4, 2) := by decide +kernel
theorem dX8_minutesOf_25 : decode cX8_minutesOf 25 = .ok (.iconst 0, 1) := by decide +kernel
theorem dX8_minutesOf_26 : decode cX8_minutesOf 26 = .ok (.invokevirtual 32, 3) := by decide +kernel
theorem dX8_minutesOf_29 : decode cX8_minutesOf 29 = .ok (.aload_n 0, 1) := by decide +kernel
theorem dX8_minutesOf_30 : decode cX8_minutesOf 30 = .ok (.iload 4, 2) := by decide +kernel
theorem dX8_minutesOf_32 : decode cX8_minutesOf 32 = .ok (.iconst 1, 1) := by decide +kernel
theorem dX8_minutesOf_33 : decode cX8_minutesOf 33 = .ok (.invokevirtual 32, 3) := by decide +kernel
theorem dX8_minutesOf_36 : decode cX8_minutesOf 36 = .ok (.iadd, 1) := by decide +kernel
theorem dX8_minutesOf_37 : decode cX8_minutesOf 37 = .ok (.iadd, 1) := by decide +kernel
theorem dX8_minutesOf_38 : decode cX8_minutesOf 38 = .ok (.istore_n 3, 1) := by decide +kernel
theorem dX8_minutesOf_39 : decode cX8_minutesOf 39 = .ok (.iinc 4 1, 3) := by decide +kernel
theorem dX8_minutesOf_42 : decode cX8_minutesOf 42 = .ok (.goto (-37), 3) := by decide +kernel
theorem dX8_minutesOf_45 : decode cX8_minutesOf 45 = .ok (.iload_n 3, 1) := by decide +kernel
theorem dX8_minutesOf_46 : decode cX8_minutesOf 46 = .ok (.ireturn, 1) := by decide +kernel
theorem dX9_init_0 : decode cX9_init 0 = .ok (.aload_n 0, 1) := by decide +kernel
theorem dX9_init_1 : decode cX9_init 1 = .ok (.invokespecial 3, 3) := by decide +kernel
theorem dX9_init_4 : decode cX9_init 4 = .ok (.aload_n 0, 1) := by decide +kernel
theorem dX9_init_5 : decode cX9_init 5 = .ok (.iconst 4, 1) := by decide +kernel
theorem dX9_init_6 : decode cX9_init 6 = .ok (.newarray .int, 2) := by decide +kernel
theorem dX9_init_8 : decode cX9_init 8 = .ok (.putfield 9, 3) := by decide +kernel
theorem dX9_init_11 : decode cX9_init 11 = .ok (.aload_n 0, 1) := by decide +kernel
theorem dX9_init_12 : decode cX9_init 12 = .ok (.iconst 4, 1) := by decide +kernel
theorem dX9_init_13 : decode cX9_init 13 = .ok (.newarray .boolean, 2) := by decide +kernel
theorem dX9_init_15 : decode cX9_init 15 = .ok (.putfield 15, 3) := by decide +kernel
theorem dX9_init_18 : decode cX9_init 18 = .ok (.aload_n 0, 1) := by decide +kernel
theorem dX9_init_19 : decode cX9_init 19 = .ok (.iconst 0, 1) := by decide +kernel
theorem dX9_init_20 : decode cX9_init 20 = .ok (.putfield 19, 3) := by decide +kernel
theorem dX9_init_23 : decode cX9_init 23 = .ok (.aload_n 0, 1) := by decide +kernel
theorem dX9_init_24 : decode cX9_init 24 = .ok (.iconst 0, 1) := by decide +kernel
theorem dX9_init_25 : decode cX9_init 25 = .ok (.putfield 23, 3) := by decide +kernel
theorem dX9_init_28 : decode cX9_init 28 = .ok (.aload_n 0, 1) := by decide +kernel
theorem dX9_init_29 : decode cX9_init 29 = .ok (.iconst (-1), 1) := by decide +kernel
theorem dX9_init_30 : decode cX9_init 30 = .ok (.putfield 26, 3) := by decide +kernel
theorem dX9_init_33 : decode cX9_init 33 = .ok (.aload_n 0, 1) := by decide +kernel
theorem dX9_init_34 : decode cX9_init 34 = .ok (.iconst 0, 1) := by decide +kernel
theorem dX9_init_35 : decode cX9_init 35 = .ok (.putfield 29, 3) := by decide +kernel
theorem dX9_init_38 : decode cX9_init 38 = .ok (.aload_n 0, 1) := by decide +kernel
theorem dX9_init_39 : decode cX9_init 39 = .ok (.iconst 0, 1) := by decide +kernel
theorem dX9_init_40 : decode cX9_init 40 = .ok (.putfield 33, 3) := by decide +kernel
theorem dX9_init_43 : decode cX9_init 43 = .ok (.return_, 1) := by decide +kernel
theorem dX9_depth_0 : decode cX9_depth 0 = .ok (.aload_n 0, 1) := by decide +kernel
theorem dX9_depth_1 : decode cX9_depth 1 = .ok (.getfield 19, 3) := by decide +kernel
theorem dX9_depth_4 : decode cX9_depth 4 = .ok (.ireturn, 1) := by decide +kernel
theorem dX9_spent_0 : decode cX9_spent 0 = .ok (.aload_n 0, 1) := by decide +kernel
theorem dX9_spent_1 : decode cX9_spent 1 = .ok (.getfield 23, 3) := by decide +kernel
theorem dX9_spent_4 : decode cX9_spent 4 = .ok (.ireturn, 1) := by decide +kernel
theorem dX9_stuckAt_0 : decode cX9_stuckAt 0 = .ok (.aload_n 0, 1) := by decide +kernel
theorem dX9_stuckAt_1 : decode cX9_stuckAt 1 = .ok (.getfield 26, 3) := by decide +kernel
theorem dX9_stuckAt_4 : decode cX9_stuckAt 4 = .ok (.ireturn, 1) := by decide +kernel
theorem dX9_remains_0 : decode cX9_remains 0 = .ok (.iload_n 1, 1) := by decide +kernel
theorem dX9_remains_1 : decode cX9_remains 1 = .ok (.ifCond .lt 17, 3) := by decide +kernel
theorem dX9_remains_4 : decode cX9_remains 4 = .ok (.iload_n 1, 1) := by decide +kernel
theorem dX9_remains_5 : decode cX9_remains 5 = .ok (.iconst 4, 1) := by decide +kernel
theorem dX9_remains_6 : decode cX9_remains 6 = .ok (.if_icmp .ge 12, 3) := by decide +kernel
theorem dX9_remains_9 : decode cX9_remains 9 = .ok (.aload_n 0, 1) := by decide +kernel
theorem dX9_remains_10 : decode cX9_remains 10 = .ok (.getfield 9, 3) := by decide +kernel
theorem dX9_remains_13 : decode cX9_remains 13 = .ok (.iload_n 1, 1) := by decide +kernel
theorem dX9_remains_14 : decode cX9_remains 14 = .ok (.iaload, 1) := by decide +kernel
theorem dX9_remains_15 : decode cX9_remains 15 = .ok (.goto 4, 3) := by decide +kernel
theorem dX9_remains_18 : decode cX9_remains 18 = .ok (.iconst 0, 1) := by decide +kernel
theorem dX9_remains_19 : decode cX9_remains 19 = .ok (.ireturn, 1) := by decide +kernel
theorem dX9_run_0 : decode cX9_run 0 = .ok (.aload_n 0, 1) := by decide +kernel
theorem dX9_run_1 : decode cX9_run 1 = .ok (.aload 4, 2) := by decide +kernel
theorem dX9_run_3 : decode cX9_run 3 = .ok (.invokevirtual 36, 3) := by decide +kernel
theorem dX9_run_6 : decode cX9_run 6 = .ok (.iconst 0, 1) := by decide +kernel
theorem dX9_run_7 : decode cX9_run 7 = .ok (.istore 5, 2) := by decide +kernel
theorem dX9_run_9 : decode cX9_run 9 = .ok (.iload 5, 2) := by decide +kernel
theorem dX9_run_11 : decode cX9_run 11 = .ok (.iload_n 2, 1) := by decide +kernel
theorem dX9_run_12 : decode cX9_run 12 = .ok (.if_icmp .ge 107, 3) := by decide +kernel
theorem dX9_run_15 : decode cX9_run 15 = .ok (.aload_n 0, 1) := by decide +kernel
theorem dX9_run_16 : decode cX9_run 16 = .ok (.getfield 26, 3) := by decide +kernel
theorem dX9_run_19 : decode cX9_run 19 = .ok (.iconst (-1), 1) := by decide +kernel
theorem dX9_run_20 : decode cX9_run 20 = .ok (.if_icmp .ne 99, 3) := by decide +kernel
theorem dX9_run_23 : decode cX9_run 23 = .ok (.aload_n 1, 1) := by decide +kernel
theorem dX9_run_24 : decode cX9_run 24 = .ok (.iload 5, 2) := by decide +kernel
theorem dX9_run_26 : decode cX9_run 26 = .ok (.invokevirtual 40, 3) := by decide +kernel
theorem dX9_run_29 : decode cX9_run 29 = .ok (.istore 6, 2) := by decide +kernel
theorem dX9_run_31 : decode cX9_run 31 = .ok (.aload_n 0, 1) := by decide +kernel
theorem dX9_run_32 : decode cX9_run 32 = .ok (.getfield 33, 3) := by decide +kernel
theorem dX9_run_35 : decode cX9_run 35 = .ok (.ifCond .eq 20, 3) := by decide +kernel
theorem dX9_run_38 : decode cX9_run 38 = .ok (.aload_n 0, 1) := by decide +kernel
theorem dX9_run_39 : decode cX9_run 39 = .ok (.iconst 0, 1) := by decide +kernel
theorem dX9_run_40 : decode cX9_run 40 = .ok (.putfield 33, 3) := by decide +kernel
theorem dX9_run_43 : decode cX9_run 43 = .ok (.aload_n 0, 1) := by decide +kernel
theorem dX9_run_44 : decode cX9_run 44 = .ok (.iload 6, 2) := by decide +kernel
theorem dX9_run_46 : decode cX9_run 46 = .ok (.bipush 48, 2) := by decide +kernel
theorem dX9_run_48 : decode cX9_run 48 = .ok (.isub, 1) := by decide +kernel
theorem dX9_run_49 : decode cX9_run 49 = .ok (.invokevirtual 46, 3) := by decide +kernel
theorem dX9_run_52 : decode cX9_run 52 = .ok (.goto 61, 3) := by decide +kernel
theorem dX9_run_55 : decode cX9_run 55 = .ok (.iload 6, 2) := by decide +kernel
theorem dX9_run_57 : decode cX9_run 57 = .ok (.bipush 120, 2) := by decide +kernel
theorem dX9_run_59 : decode cX9_run 59 = .ok (.if_icmp .ne 11, 3) := by decide +kernel
theorem dX9_run_62 : decode cX9_run 62 = .ok (.aload_n 0, 1) := by decide +kernel
theorem dX9_run_63 : decode cX9_run 63 = .ok (.iconst 1, 1) := by decide +kernel
theorem dX9_run_64 : decode cX9_run 64 = .ok (.putfield 33, 3) := by decide +kernel
theorem dX9_run_67 : decode cX9_run 67 = .ok (.goto 46, 3) := by decide +kernel
theorem dX9_run_70 : decode cX9_run 70 = .ok (.iload 6, 2) := by decide +kernel
theorem dX9_run_72 : decode cX9_run 72 = .ok (.bipush 117, 2) := by decide +kernel
theorem dX9_run_74 : decode cX9_run 74 = .ok (.if_icmp .ne 11, 3) := by decide +kernel
theorem dX9_run_77 : decode cX9_run 77 = .ok (.aload_n 0, 1) := by decide +kernel
theorem dX9_run_78 : decode cX9_run 78 = .ok (.iconst 1, 1) := by decide +kernel
theorem dX9_run_79 : decode cX9_run 79 = .ok (.putfield 29, 3) := by decide +kernel
theorem dX9_run_82 : decode cX9_run 82 = .ok (.goto 31, 3) := by decide +kernel
theorem dX9_run_85 : decode cX9_run 85 = .ok (.aload_n 0, 1) := by decide +kernel
theorem dX9_run_86 : decode cX9_run 86 = .ok (.iload 6, 2) := by decide +kernel
theorem dX9_run_88 : decode cX9_run 88 = .ok (.bipush 43, 2) := by decide +kernel
theorem dX9_run_90 : decode cX9_run 90 = .ok (.if_icmp .ne 7, 3) := by decide +kernel
theorem dX9_run_93 : decode cX9_run 93 = .ok (.iconst 1, 1) := by decide +kernel
theorem dX9_run_94 : decode cX9_run 94 = .ok (.goto 4, 3) := by decide +kernel
theorem dX9_run_97 : decode cX9_run 97 = .ok (.iconst 0, 1) := by decide +kernel
theorem dX9_run_98 : decode cX9_run 98 = .ok (.aload_n 3, 1) := by decide +kernel
theorem dX9_run_99 : decode cX9_run 99 = .ok (.aload 4, 2) := by decide +kernel
theorem dX9_run_101 : decode cX9_run 101 = .ok (.invokevirtual 50, 3) := by decide +kernel
theorem dX9_run_104 : decode cX9_run 104 = .ok (.ifCond .ne 9, 3) := by decide +kernel
theorem dX9_run_107 : decode cX9_run 107 = .ok (.aload_n 0, 1) := by decide +kernel
theorem dX9_run_108 : decode cX9_run 108 = .ok (.iload 5, 2) := by decide +kernel
theorem dX9_run_110 : decode cX9_run 110 = .ok (.putfield 26, 3) := by decide +kernel
theorem dX9_run_113 : decode cX9_run 113 = .ok (.iinc 5 1, 3) := by decide +kernel
theorem dX9_run_116 : decode cX9_run 116 = .ok (.goto (-107), 3) := by decide +kernel
theorem dX9_run_119 : decode cX9_run 119 = .ok (.return_, 1) := by decide +kernel
theorem dX9_begin_0 : decode cX9_begin 0 = .ok (.iconst 0, 1) := by decide +kernel
theorem dX9_begin_1 : decode cX9_begin 1 = .ok (.istore_n 2, 1) := by decide +kernel
theorem dX9_begin_2 : decode cX9_begin 2 = .ok (.iload_n 2, 1) := by decide +kernel
theorem dX9_begin_3 : decode cX9_begin 3 = .ok (.iconst 4, 1) := by decide +kernel
theorem dX9_begin_4 : decode cX9_begin 4 = .ok (.if_icmp .ge 39, 3) := by decide +kernel
theorem dX9_begin_7 : decode cX9_begin 7 = .ok (.aload_n 0, 1) := by decide +kernel
theorem dX9_begin_8 : decode cX9_begin 8 = .ok (.getfield 9, 3) := by decide +kernel
theorem dX9_begin_11 : decode cX9_begin 11 = .ok (.iload_n 2, 1) := by decide +kernel
theorem dX9_begin_12 : decode cX9_begin 12 = .ok (.aload_n 1, 1) := by decide +kernel
theorem dX9_begin_13 : decode cX9_begin 13 = .ok (.iload_n 2, 1) := by decide +kernel
theorem dX9_begin_14 : decode cX9_begin 14 = .ok (.invokevirtual 54, 3) := by decide +kernel
theorem dX9_begin_17 : decode cX9_begin 17 = .ok (.iastore, 1) := by decide +kernel
theorem dX9_begin_18 : decode cX9_begin 18 = .ok (.aload_n 0, 1) := by decide +kernel
theorem dX9_begin_19 : decode cX9_begin 19 = .ok (.getfield 15, 3) := by decide +kernel
theorem dX9_begin_22 : decode cX9_begin 22 = .ok (.iload_n 2, 1) := by decide +kernel
theorem dX9_begin_23 : decode cX9_begin 23 = .ok (.iload_n 2, 1) := by decide +kernel
theorem dX9_begin_24 : decode cX9_begin 24 = .ok (.aload_n 1, 1) := by decide +kernel
theorem dX9_begin_25 : decode cX9_begin 25 = .ok (.invokevirtual 59, 3) := by decide +kernel
theorem dX9_begin_28 : decode cX9_begin 28 = .ok (.if_icmp .ge 7, 3) := by decide +kernel
theorem dX9_begin_31 : decode cX9_begin 31 = .ok (.iconst 1, 1) := by decide +kernel
theorem dX9_begin_32 : decode cX9_begin 32 = .ok (.goto 4, 3) := by decide +kernel
theorem dX9_begin_35 : decode cX9_begin 35 = .ok (.iconst 0, 1) := by decide +kernel
theorem dX9_begin_36 : decode cX9_begin 36 = .ok (.bastore, 1) := by decide +kernel
theorem dX9_begin_37 : decode cX9_begin 37 = .ok (.iinc 2 1, 3) := by decide +kernel
theorem dX9_begin_40 : decode cX9_begin 40 = .ok (.goto (-38), 3) := by decide +kernel
theorem dX9_begin_43 : decode cX9_begin 43 = .ok (.aload_n 0, 1) := by decide +kernel
theorem dX9_begin_44 : decode cX9_begin 44 = .ok (.iconst 0, 1) := by decide +kernel
theorem dX9_begin_45 : decode cX9_begin 45 = .ok (.putfield 19, 3) := by decide +kernel
theorem dX9_begin_48 : decode cX9_begin 48 = .ok (.aload_n 0, 1) := by decide +kernel
theorem dX9_begin_49 : decode cX9_begin 49 = .ok (.iconst 0, 1) := by decide +kernel
theorem dX9_begin_50 : decode cX9_begin 50 = .ok (.putfield 23, 3) := by decide +kernel
theorem dX9_begin_53 : decode cX9_begin 53 = .ok (.aload_n 0, 1) := by decide +kernel
theorem dX9_begin_54 : decode cX9_begin 54 = .ok (.iconst (-1), 1) := by decide +kernel
theorem dX9_begin_55 : decode cX9_begin 55 = .ok (.putfield 26, 3) := by decide +kernel
theorem dX9_begin_58 : decode cX9_begin 58 = .ok (.aload_n 0, 1) := by decide +kernel
theorem dX9_begin_59 : decode cX9_begin 59 = .ok (.iconst 0, 1) := by decide +kernel
theorem dX9_begin_60 : decode cX9_begin 60 = .ok (.putfield 29, 3) := by decide +kernel
theorem dX9_begin_63 : decode cX9_begin 63 = .ok (.aload_n 0, 1) := by decide +kernel
theorem dX9_begin_64 : decode cX9_begin 64 = .ok (.iconst 0, 1) := by decide +kernel
theorem dX9_begin_65 : decode cX9_begin 65 = .ok (.putfield 33, 3) := by decide +kernel
theorem dX9_begin_68 : decode cX9_begin 68 = .ok (.return_, 1) := by decide +kernel
theorem dX9_putOut_0 : decode cX9_putOut 0 = .ok (.iload_n 1, 1) := by decide +kernel
theorem dX9_putOut_1 : decode cX9_putOut 1 = .ok (.ifCond .lt 22, 3) := by decide +kernel
theorem dX9_putOut_4 : decode cX9_putOut 4 = .ok (.iload_n 1, 1) := by decide +kernel
theorem dX9_putOut_5 : decode cX9_putOut 5 = .ok (.iconst 4, 1) := by decide +kernel
theorem dX9_putOut_6 : decode cX9_putOut 6 = .ok (.if_icmp .ge 17, 3) := by decide +kernel
theorem dX9_putOut_9 : decode cX9_putOut 9 = .ok (.aload_n 0, 1) := by decide +kernel
theorem dX9_putOut_10 : decode cX9_putOut 10 = .ok (.getfield 15, 3) := by decide +kernel
theorem dX9_putOut_13 : decode cX9_putOut 13 = .ok (.iload_n 1, 1) := by decide +kernel
theorem dX9_putOut_14 : decode cX9_putOut 14 = .ok (.iconst 0, 1) := by decide +kernel
theorem dX9_putOut_15 : decode cX9_putOut 15 = .ok (.bastore, 1) := by decide +kernel
theorem dX9_putOut_16 : decode cX9_putOut 16 = .ok (.aload_n 0, 1) := by decide +kernel
theorem dX9_putOut_17 : decode cX9_putOut 17 = .ok (.getfield 9, 3) := by decide +kernel
theorem dX9_putOut_20 : decode cX9_putOut 20 = .ok (.iload_n 1, 1) := by decide +kernel
theorem dX9_putOut_21 : decode cX9_putOut 21 = .ok (.iconst 0, 1) := by decide +kernel
theorem dX9_putOut_22 : decode cX9_putOut 22 = .ok (.iastore, 1) := by decide +kernel
theorem dX9_putOut_23 : decode cX9_putOut 23 = .ok (.return_, 1) := by decide +kernel
theorem dX9_step_0 : decode cX9_step 0 = .ok (.iload_n 1, 1) := by decide +kernel
theorem dX9_step_1 : decode cX9_step 1 = .ok (.ifCond .eq 10, 3) := by decide +kernel
theorem dX9_step_4 : decode cX9_step 4 = .ok (.aload_n 0, 1) := by decide +kernel
theorem dX9_step_5 : decode cX9_step 5 = .ok (.getfield 19, 3) := by decide +kernel
theorem dX9_step_8 : decode cX9_step 8 = .ok (.goto 9, 3) := by decide +kernel
theorem dX9_step_11 : decode cX9_step 11 = .ok (.aload_n 0, 1) := by decide +kernel
theorem dX9_step_12 : decode cX9_step 12 = .ok (.getfield 19, 3) := by decide +kernel
theorem dX9_step_15 : decode cX9_step 15 = .ok (.iconst 1, 1) := by decide +kernel
theorem dX9_step_16 : decode cX9_step 16 = .ok (.isub, 1) := by decide +kernel
theorem dX9_step_17 : decode cX9_step 17 = .ok (.istore 4, 2) := by decide +kernel
theorem dX9_step_19 : decode cX9_step 19 = .ok (.aload_n 0, 1) := by decide +kernel
theorem dX9_step_20 : decode cX9_step 20 = .ok (.getfield 29, 3) := by decide +kernel
theorem dX9_step_23 : decode cX9_step 23 = .ok (.istore 5, 2) := by decide +kernel
theorem dX9_step_25 : decode cX9_step 25 = .ok (.aload_n 0, 1) := by decide +kernel
theorem dX9_step_26 : decode cX9_step 26 = .ok (.iconst 0, 1) := by decide +kernel
theorem dX9_step_27 : decode cX9_step 27 = .ok (.putfield 29, 3) := by decide +kernel
theorem dX9_step_30 : decode cX9_step 30 = .ok (.iload 4, 2) := by decide +kernel
theorem dX9_step_32 : decode cX9_step 32 = .ok (.ifCond .lt 12, 3) := by decide +kernel
theorem dX9_step_35 : decode cX9_step 35 = .ok (.iload 4, 2) := by decide +kernel
theorem dX9_step_37 : decode cX9_step 37 = .ok (.aload_n 2, 1) := by decide +kernel
theorem dX9_step_38 : decode cX9_step 38 = .ok (.invokevirtual 63, 3) := by decide +kernel
theorem dX9_step_41 : decode cX9_step 41 = .ok (.if_icmp .lt 5, 3) := by decide +kernel
theorem dX9_step_44 : decode cX9_step 44 = .ok (.iconst 0, 1) := by decide +kernel
theorem dX9_step_45 : decode cX9_step 45 = .ok (.ireturn, 1) := by decide +kernel
theorem dX9_step_46 : decode cX9_step 46 = .ok (.iload 5, 2) := by decide +kernel
theorem dX9_step_48 : decode cX9_step 48 = .ok (.ifCond .eq 13, 3) := by decide +kernel
theorem dX9_step_51 : decode cX9_step 51 = .ok (.iload 4, 2) := by decide +kernel
theorem dX9_step_53 : decode cX9_step 53 = .ok (.iload_n 1, 1) := by decide +kernel
theorem dX9_step_54 : decode cX9_step 54 = .ok (.aload_n 2, 1) := by decide +kernel
theorem dX9_step_55 : decode cX9_step 55 = .ok (.invokestatic 68, 3) := by decide +kernel
theorem dX9_step_58 : decode cX9_step 58 = .ok (.goto 12, 3) := by decide +kernel
theorem dX9_step_61 : decode cX9_step 61 = .ok (.aload_n 0, 1) := by decide +kernel
theorem dX9_step_62 : decode cX9_step 62 = .ok (.iload 4, 2) := by decide +kernel
theorem dX9_step_64 : decode cX9_step 64 = .ok (.iload_n 1, 1) := by decide +kernel
theorem dX9_step_65 : decode cX9_step 65 = .ok (.aload_n 2, 1) := by decide +kernel
theorem dX9_step_66 : decode cX9_step 66 = .ok (.aload_n 3, 1) := by decide +kernel
theorem dX9_step_67 : decode cX9_step 67 = .ok (.invokevirtual 72, 3) := by decide +kernel
theorem dX9_step_70 : decode cX9_step 70 = .ok (.istore 6, 2) := by decide +kernel
theorem dX9_step_72 : decode cX9_step 72 = .ok (.iload 6, 2) := by decide +kernel
theorem dX9_step_74 : decode cX9_step 74 = .ok (.iconst (-1), 1) := by decide +kernel
theorem dX9_step_75 : decode cX9_step 75 = .ok (.if_icmp .ne 5, 3) := by decide +kernel
theorem dX9_step_78 : decode cX9_step 78 = .ok (.iconst 0, 1) := by decide +kernel
theorem dX9_step_79 : decode cX9_step 79 = .ok (.ireturn, 1) := by decide +kernel
theorem dX9_step_80 : decode cX9_step 80 = .ok (.iload 5, 2) := by decide +kernel
theorem dX9_step_82 : decode cX9_step 82 = .ok (.ifCond .ne 9, 3) := by decide +kernel
theorem dX9_step_85 : decode cX9_step 85 = .ok (.aload_n 0, 1) := by decide +kernel
theorem dX9_step_86 : decode cX9_step 86 = .ok (.iload 6, 2) := by decide +kernel
theorem dX9_step_88 : decode cX9_step 88 = .ok (.invokevirtual 76, 3) := by decide +kernel
theorem dX9_step_91 : decode cX9_step 91 = .ok (.aload_n 0, 1) := by decide +kernel
theorem dX9_step_92 : decode cX9_step 92 = .ok (.dup, 1) := by decide +kernel
theorem dX9_step_93 : decode cX9_step 93 = .ok (.getfield 23, 3) := by decide +kernel
theorem dX9_step_96 : decode cX9_step 96 = .ok (.iload 6, 2) := by decide +kernel
theorem dX9_step_98 : decode cX9_step 98 = .ok (.iadd, 1) := by decide +kernel
theorem dX9_step_99 : decode cX9_step 99 = .ok (.putfield 23, 3) := by decide +kernel
theorem dX9_step_102 : decode cX9_step 102 = .ok (.aload_n 0, 1) := by decide +kernel
theorem dX9_step_103 : decode cX9_step 103 = .ok (.dup, 1) := by decide +kernel
theorem dX9_step_104 : decode cX9_step 104 = .ok (.getfield 19, 3) := by decide +kernel
theorem dX9_step_107 : decode cX9_step 107 = .ok (.iload_n 1, 1) := by decide +kernel
theorem dX9_step_108 : decode cX9_step 108 = .ok (.ifCond .eq 7, 3) := by decide +kernel
theorem dX9_step_111 : decode cX9_step 111 = .ok (.iconst 1, 1) := by decide +kernel
theorem dX9_step_112 : decode cX9_step 112 = .ok (.goto 4, 3) := by decide +kernel
theorem dX9_step_115 : decode cX9_step 115 = .ok (.iconst (-1), 1) := by decide +kernel
theorem dX9_step_116 : decode cX9_step 116 = .ok (.iadd, 1) := by decide +kernel
theorem dX9_step_117 : decode cX9_step 117 = .ok (.putfield 19, 3) := by decide +kernel
theorem dX9_step_120 : decode cX9_step 120 = .ok (.iconst 1, 1) := by decide +kernel
theorem dX9_step_121 : decode cX9_step 121 = .ok (.ireturn, 1) := by decide +kernel
theorem dX9_unlitMinutes_0 : decode cX9_unlitMinutes 0 = .ok (.aload_n 2, 1) := by decide +kernel
theorem dX9_unlitMinutes_1 : decode cX9_unlitMinutes 1 = .ok (.iload_n 0, 1) := by decide +kernel
theorem dX9_unlitMinutes_2 : decode cX9_unlitMinutes 2 = .ok (.iconst 3, 1) := by decide +kernel
theorem dX9_unlitMinutes_3 : decode cX9_unlitMinutes 3 = .ok (.invokevirtual 79, 3) := by decide +kernel
theorem dX9_unlitMinutes_6 : decode cX9_unlitMinutes 6 = .ok (.ifCond .ne 5, 3) := by decide +kernel
theorem dX9_unlitMinutes_9 : decode cX9_unlitMinutes 9 = .ok (.iconst (-1), 1) := by decide +kernel
theorem dX9_unlitMinutes_10 : decode cX9_unlitMinutes 10 = .ok (.ireturn, 1) := by decide +kernel
theorem dX9_unlitMinutes_11 : decode cX9_unlitMinutes 11 = .ok (.iconst 2, 1) := by decide +kernel
theorem dX9_unlitMinutes_12 : decode cX9_unlitMinutes 12 = .ok (.iload_n 1, 1) := by decide +kernel
theorem dX9_unlitMinutes_13 : decode cX9_unlitMinutes 13 = .ok (.ifCond .eq 11, 3) := by decide +kernel
theorem dX9_unlitMinutes_16 : decode cX9_unlitMinutes 16 = .ok (.aload_n 2, 1) := by decide +kernel
theorem dX9_unlitMinutes_17 : decode cX9_unlitMinutes 17 = .ok (.iload_n 0, 1) := by decide +kernel
theorem dX9_unlitMinutes_18 : decode cX9_unlitMinutes 18 = .ok (.invokevirtual 83, 3) := by decide +kernel
theorem dX9_unlitMinutes_21 : decode cX9_unlitMinutes 21 = .ok (.goto 9, 3) := by decide +kernel
theorem dX9_unlitMinutes_24 : decode cX9_unlitMinutes 24 = .ok (.aload_n 2, 1) := by decide +kernel
theorem dX9_unlitMinutes_25 : decode cX9_unlitMinutes 25 = .ok (.iload_n 0, 1) := by decide +kernel
theorem dX9_unlitMinutes_26 : decode cX9_unlitMinutes 26 = .ok (.iconst 1, 1) := by decide +kernel
theorem dX9_unlitMinutes_27 : decode cX9_unlitMinutes 27 = .ok (.invokevirtual 86, 3) := by decide +kernel
theorem dX9_unlitMinutes_30 : decode cX9_unlitMinutes 30 = .ok (.imul, 1) := by decide +kernel
theorem dX9_unlitMinutes_31 : decode cX9_unlitMinutes 31 = .ok (.ireturn, 1) := by decide +kernel
theorem dX9_litMinutes_0 : decode cX9_litMinutes 0 = .ok (.iconst 0, 1) := by decide +kernel
theorem dX9_litMinutes_1 : decode cX9_litMinutes 1 = .ok (.istore 5, 2) := by decide +kernel
theorem dX9_litMinutes_3 : decode cX9_litMinutes 3 = .ok (.iload 5, 2) := by decide +kernel
theorem dX9_litMinutes_5 : decode cX9_litMinutes 5 = .ok (.iconst 4, 1) := by decide +kernel
theorem dX9_litMinutes_6 : decode cX9_litMinutes 6 = .ok (.if_icmp .gt 64, 3) := by decide +kernel
theorem dX9_litMinutes_9 : decode cX9_litMinutes 9 = .ok (.aload_n 0, 1) := by decide +kernel
theorem dX9_litMinutes_10 : decode cX9_litMinutes 10 = .ok (.invokevirtual 89, 3) := by decide +kernel
theorem dX9_litMinutes_13 : decode cX9_litMinutes 13 = .ok (.istore 6, 2) := by decide +kernel
theorem dX9_litMinutes_15 : decode cX9_litMinutes 15 = .ok (.iload 6, 2) := by decide +kernel
theorem dX9_litMinutes_17 : decode cX9_litMinutes 17 = .ok (.ifCond .ne 5, 3) := by decide +kernel
theorem dX9_litMinutes_20 : decode cX9_litMinutes 20 = .ok (.iconst (-1), 1) := by decide +kernel
theorem dX9_litMinutes_21 : decode cX9_litMinutes 21 = .ok (.ireturn, 1) := by decide +kernel
theorem dX9_litMinutes_22 : decode cX9_litMinutes 22 = .ok (.aload 4, 2) := by decide +kernel
theorem dX9_litMinutes_24 : decode cX9_litMinutes 24 = .ok (.iload 6, 2) := by decide +kernel
theorem dX9_litMinutes_26 : decode cX9_litMinutes 26 = .ok (.invokevirtual 92, 3) := by decide +kernel
theorem dX9_litMinutes_29 : decode cX9_litMinutes 29 = .ok (.istore 7, 2) := by decide +kernel
theorem dX9_litMinutes_31 : decode cX9_litMinutes 31 = .ok (.iload_n 2, 1) := by decide +kernel
theorem dX9_litMinutes_32 : decode cX9_litMinutes 32 = .ok (.ifCond .eq 11, 3) := by decide +kernel
theorem dX9_litMinutes_35 : decode cX9_litMinutes 35 = .ok (.aload_n 3, 1) := by decide +kernel
theorem dX9_litMinutes_36 : decode cX9_litMinutes 36 = .ok (.iload_n 1, 1) := by decide +kernel
theorem dX9_litMinutes_37 : decode cX9_litMinutes 37 = .ok (.invokevirtual 83, 3) := by decide +kernel
theorem dX9_litMinutes_40 : decode cX9_litMinutes 40 = .ok (.goto 10, 3) := by decide +kernel
theorem dX9_litMinutes_43 : decode cX9_litMinutes 43 = .ok (.aload_n 3, 1) := by decide +kernel
theorem dX9_litMinutes_44 : decode cX9_litMinutes 44 = .ok (.iload_n 1, 1) := by decide +kernel
theorem dX9_litMinutes_45 : decode cX9_litMinutes 45 = .ok (.iload 7, 2) := by decide +kernel
theorem dX9_litMinutes_47 : decode cX9_litMinutes 47 = .ok (.invokevirtual 86, 3) := by decide +kernel
theorem dX9_litMinutes_50 : decode cX9_litMinutes 50 = .ok (.istore 8, 2) := by decide +kernel
theorem dX9_litMinutes_52 : decode cX9_litMinutes 52 = .ok (.aload_n 0, 1) := by decide +kernel
theorem dX9_litMinutes_53 : decode cX9_litMinutes 53 = .ok (.iload 8, 2) := by decide +kernel
theorem dX9_litMinutes_55 : decode cX9_litMinutes 55 = .ok (.invokevirtual 95, 3) := by decide +kernel
theorem dX9_litMinutes_58 : decode cX9_litMinutes 58 = .ok (.ifCond .ne 6, 3) := by decide +kernel
theorem dX9_litMinutes_61 : decode cX9_litMinutes 61 = .ok (.iload 8, 2) := by decide +kernel
theorem dX9_litMinutes_63 : decode cX9_litMinutes 63 = .ok (.ireturn, 1) := by decide +kernel
theorem dX9_litMinutes_64 : decode cX9_litMinutes 64 = .ok (.iinc 5 1, 3) := by decide +kernel
theorem dX9_litMinutes_67 : decode cX9_litMinutes 67 = .ok (.goto (-64), 3) := by decide +kernel
theorem dX9_litMinutes_70 : decode cX9_litMinutes 70 = .ok (.iconst (-1), 1) := by decide +kernel
theorem dX9_litMinutes_71 : decode cX9_litMinutes 71 = .ok (.ireturn, 1) := by decide +kernel
theorem dX9_going_0 : decode cX9_going 0 = .ok (.iconst 0, 1) := by decide +kernel
theorem dX9_going_1 : decode cX9_going 1 = .ok (.istore_n 1, 1) := by decide +kernel
theorem dX9_going_2 : decode cX9_going 2 = .ok (.iconst 0, 1) := by decide +kernel
theorem dX9_going_3 : decode cX9_going 3 = .ok (.istore_n 2, 1) := by decide +kernel
theorem dX9_going_4 : decode cX9_going 4 = .ok (.iload_n 2, 1) := by decide +kernel
theorem dX9_going_5 : decode cX9_going 5 = .ok (.iconst 4, 1) := by decide +kernel
theorem dX9_going_6 : decode cX9_going 6 = .ok (.if_icmp .ge 26, 3) := by decide +kernel
theorem dX9_going_9 : decode cX9_going 9 = .ok (.iload_n 1, 1) := by decide +kernel
theorem dX9_going_10 : decode cX9_going 10 = .ok (.aload_n 0, 1) := by decide +kernel
theorem dX9_going_11 : decode cX9_going 11 = .ok (.getfield 15, 3) := by decide +kernel
theorem dX9_going_14 : decode cX9_going 14 = .ok (.iload_n 2, 1) := by decide +kernel
theorem dX9_going_15 : decode cX9_going 15 = .ok (.baload, 1) := by decide +kernel
theorem dX9_going_16 : decode cX9_going 16 = .ok (.ifCond .eq 7, 3) := by decide +kernel
theorem dX9_going_19 : decode cX9_going 19 = .ok (.iconst 1, 1) := by decide +kernel
theorem dX9_going_20 : decode cX9_going 20 = .ok (.goto 4, 3) := by decide +kernel
theorem dX9_going_23 : decode cX9_going 23 = .ok (.iconst 0, 1) := by decide +kernel
theorem dX9_going_24 : decode cX9_going 24 = .ok (.iadd, 1) := by decide +kernel
theorem dX9_going_25 : decode cX9_going 25 = .ok (.istore_n 1, 1) := by decide +kernel
theorem dX9_going_26 : decode cX9_going 26 = .ok (.iinc 2 1, 3) := by decide +kernel
theorem dX9_going_29 : decode cX9_going 29 = .ok (.goto (-25), 3) := by decide +kernel
theorem dX9_going_32 : decode cX9_going 32 = .ok (.iload_n 1, 1) := by decide +kernel
theorem dX9_going_33 : decode cX9_going 33 = .ok (.ireturn, 1) := by decide +kernel
theorem dX9_putOutBelow_0 : decode cX9_putOutBelow 0 = .ok (.iconst 0, 1) := by decide +kernel
theorem dX9_putOutBelow_1 : decode cX9_putOutBelow 1 = .ok (.istore_n 2, 1) := by decide +kernel
theorem dX9_putOutBelow_2 : decode cX9_putOutBelow 2 = .ok (.iconst 0, 1) := by decide +kernel
theorem dX9_putOutBelow_3 : decode cX9_putOutBelow 3 = .ok (.istore_n 3, 1) := by decide +kernel
theorem dX9_putOutBelow_4 : decode cX9_putOutBelow 4 = .ok (.iload_n 3, 1) := by decide +kernel
theorem dX9_putOutBelow_5 : decode cX9_putOutBelow 5 = .ok (.iconst 4, 1) := by decide +kernel
theorem dX9_putOutBelow_6 : decode cX9_putOutBelow 6 = .ok (.if_icmp .ge 35, 3) := by decide +kernel
theorem dX9_putOutBelow_9 : decode cX9_putOutBelow 9 = .ok (.aload_n 0, 1) := by decide +kernel
theorem dX9_putOutBelow_10 : decode cX9_putOutBelow 10 = .ok (.getfield 15, 3) := by decide +kernel
theorem dX9_putOutBelow_13 : decode cX9_putOutBelow 13 = .ok (.iload_n 3, 1) := by decide +kernel
theorem dX9_putOutBelow_14 : decode cX9_putOutBelow 14 = .ok (.baload, 1) := by decide +kernel
theorem dX9_putOutBelow_15 : decode cX9_putOutBelow 15 = .ok (.ifCond .eq 20, 3) := by decide +kernel
theorem dX9_putOutBelow_18 : decode cX9_putOutBelow 18 = .ok (.aload_n 0, 1) := by decide +kernel
theorem dX9_putOutBelow_19 : decode cX9_putOutBelow 19 = .ok (.getfield 9, 3) := by decide +kernel
theorem dX9_putOutBelow_22 : decode cX9_putOutBelow 22 = .ok (.iload_n 3, 1) := by decide +kernel
theorem dX9_putOutBelow_23 : decode cX9_putOutBelow 23 = .ok (.iaload, 1) := by decide +kernel
theorem dX9_putOutBelow_24 : decode cX9_putOutBelow 24 = .ok (.iload_n 1, 1) := by decide +kernel
theorem dX9_putOutBelow_25 : decode cX9_putOutBelow 25 = .ok (.if_icmp .ge 10, 3) := by decide +kernel
theorem dX9_putOutBelow_28 : decode cX9_putOutBelow 28 = .ok (.aload_n 0, 1) := by decide +kernel
theorem dX9_putOutBelow_29 : decode cX9_putOutBelow 29 = .ok (.iload_n 3, 1) := by decide +kernel
theorem dX9_putOutBelow_30 : decode cX9_putOutBelow 30 = .ok (.invokevirtual 46, 3) := by decide +kernel
theorem dX9_putOutBelow_33 : decode cX9_putOutBelow 33 = .ok (.iconst 1, 1) := by decide +kernel
theorem dX9_putOutBelow_34 : decode cX9_putOutBelow 34 = .ok (.istore_n 2, 1) := by decide +kernel
theorem dX9_putOutBelow_35 : decode cX9_putOutBelow 35 = .ok (.iinc 3 1, 3) := by decide +kernel
theorem dX9_putOutBelow_38 : decode cX9_putOutBelow 38 = .ok (.goto (-34), 3) := by decide +kernel
theorem dX9_putOutBelow_41 : decode cX9_putOutBelow 41 = .ok (.iload_n 2, 1) := by decide +kernel
theorem dX9_putOutBelow_42 : decode cX9_putOutBelow 42 = .ok (.ireturn, 1) := by decide +kernel
theorem dX9_burn_0 : decode cX9_burn 0 = .ok (.iconst 0, 1) := by decide +kernel
theorem dX9_burn_1 : decode cX9_burn 1 = .ok (.istore_n 2, 1) := by decide +kernel
theorem dX9_burn_2 : decode cX9_burn 2 = .ok (.iload_n 2, 1) := by decide +kernel
theorem dX9_burn_3 : decode cX9_burn 3 = .ok (.iconst 4, 1) := by decide +kernel
theorem dX9_burn_4 : decode cX9_burn 4 = .ok (.if_icmp .ge 28, 3) := by decide +kernel
theorem dX9_burn_7 : decode cX9_burn 7 = .ok (.aload_n 0, 1) := by decide +kernel
theorem dX9_burn_8 : decode cX9_burn 8 = .ok (.getfield 15, 3) := by decide +kernel
theorem dX9_burn_11 : decode cX9_burn 11 = .ok (.iload_n 2, 1) := by decide +kernel
theorem dX9_burn_12 : decode cX9_burn 12 = .ok (.baload, 1) := by decide +kernel
theorem dX9_burn_13 : decode cX9_burn 13 = .ok (.ifCond .eq 13, 3) := by decide +kernel
theorem dX9_burn_16 : decode cX9_burn 16 = .ok (.aload_n 0, 1) := by decide +kernel
theorem dX9_burn_17 : decode cX9_burn 17 = .ok (.getfield 9, 3) := by decide +kernel
theorem dX9_burn_20 : decode cX9_burn 20 = .ok (.iload_n 2, 1) := by decide +kernel
theorem dX9_burn_21 : decode cX9_burn 21 = .ok (.dup2, 1) := by decide +kernel
theorem dX9_burn_22 : decode cX9_burn 22 = .ok (.iaload, 1) := by decide +kernel
theorem dX9_burn_23 : decode cX9_burn 23 = .ok (.iload_n 1, 1) := by decide +kernel
theorem dX9_burn_24 : decode cX9_burn 24 = .ok (.isub, 1) := by decide +kernel
theorem dX9_burn_25 : decode cX9_burn 25 = .ok (.iastore, 1) := by decide +kernel
theorem dX9_burn_26 : decode cX9_burn 26 = .ok (.iinc 2 1, 3) := by decide +kernel
theorem dX9_burn_29 : decode cX9_burn 29 = .ok (.goto (-27), 3) := by decide +kernel
theorem dX9_burn_32 : decode cX9_burn 32 = .ok (.return_, 1) := by decide +kernel
theorem dX10_init_0 : decode cX10_init 0 = .ok (.aload_n 0, 1) := by decide +kernel
theorem dX10_init_1 : decode cX10_init 1 = .ok (.invokespecial 1, 3) := by decide +kernel
theorem dX10_init_4 : decode cX10_init 4 = .ok (.aload_n 0, 1) := by decide +kernel
theorem dX10_init_5 : decode cX10_init 5 = .ok (.new 7, 3) := by decide +kernel
theorem dX10_init_8 : decode cX10_init 8 = .ok (.dup, 1) := by decide +kernel
theorem dX10_init_9 : decode cX10_init 9 = .ok (.bipush 79, 2) := by decide +kernel
theorem dX10_init_11 : decode cX10_init 11 = .ok (.invokespecial 11, 3) := by decide +kernel
theorem dX10_init_14 : decode cX10_init 14 = .ok (.putfield 14, 3) := by decide +kernel
theorem dX10_init_17 : decode cX10_init 17 = .ok (.aload_n 0, 1) := by decide +kernel
theorem dX10_init_18 : decode cX10_init 18 = .ok (.new 7, 3) := by decide +kernel
theorem dX10_init_21 : decode cX10_init 21 = .ok (.dup, 1) := by decide +kernel
theorem dX10_init_22 : decode cX10_init 22 = .ok (.bipush 40, 2) := by decide +kernel
theorem dX10_init_24 : decode cX10_init 24 = .ok (.invokespecial 11, 3) := by decide +kernel
theorem dX10_init_27 : decode cX10_init 27 = .ok (.putfield 18, 3) := by decide +kernel
theorem dX10_init_30 : decode cX10_init 30 = .ok (.aload_n 0, 1) := by decide +kernel
theorem dX10_init_31 : decode cX10_init 31 = .ok (.new 21, 3) := by decide +kernel
theorem dX10_init_34 : decode cX10_init 34 = .ok (.dup, 1) := by decide +kernel
theorem dX10_init_35 : decode cX10_init 35 = .ok (.invokespecial 23, 3) := by decide +kernel
theorem dX10_init_38 : decode cX10_init 38 = .ok (.putfield 24, 3) := by decide +kernel
theorem dX10_init_41 : decode cX10_init 41 = .ok (.aload_n 0, 1) := by decide +kernel
theorem dX10_init_42 : decode cX10_init 42 = .ok (.new 28, 3) := by decide +kernel
theorem dX10_init_45 : decode cX10_init 45 = .ok (.dup, 1) := by decide +kernel
theorem dX10_init_46 : decode cX10_init 46 = .ok (.invokespecial 30, 3) := by decide +kernel
theorem dX10_init_49 : decode cX10_init 49 = .ok (.putfield 31, 3) := by decide +kernel
theorem dX10_init_52 : decode cX10_init 52 = .ok (.aload_n 0, 1) := by decide +kernel
theorem dX10_init_53 : decode cX10_init 53 = .ok (.new 35, 3) := by decide +kernel
theorem dX10_init_56 : decode cX10_init 56 = .ok (.dup, 1) := by decide +kernel
theorem dX10_init_57 : decode cX10_init 57 = .ok (.invokespecial 37, 3) := by decide +kernel
theorem dX10_init_60 : decode cX10_init 60 = .ok (.putfield 38, 3) := by decide +kernel
theorem dX10_init_63 : decode cX10_init 63 = .ok (.aload_n 0, 1) := by decide +kernel
theorem dX10_init_64 : decode cX10_init 64 = .ok (.new 42, 3) := by decide +kernel
theorem dX10_init_67 : decode cX10_init 67 = .ok (.dup, 1) := by decide +kernel
theorem dX10_init_68 : decode cX10_init 68 = .ok (.invokespecial 44, 3) := by decide +kernel
theorem dX10_init_71 : decode cX10_init 71 = .ok (.putfield 45, 3) := by decide +kernel
theorem dX10_init_74 : decode cX10_init 74 = .ok (.aload_n 0, 1) := by decide +kernel
theorem dX10_init_75 : decode cX10_init 75 = .ok (.new 49, 3) := by decide +kernel
theorem dX10_init_78 : decode cX10_init 78 = .ok (.dup, 1) := by decide +kernel
theorem dX10_init_79 : decode cX10_init 79 = .ok (.invokespecial 51, 3) := by decide +kernel
theorem dX10_init_82 : decode cX10_init 82 = .ok (.putfield 52, 3) := by decide +kernel
theorem dX10_init_85 : decode cX10_init 85 = .ok (.aload_n 0, 1) := by decide +kernel
theorem dX10_init_86 : decode cX10_init 86 = .ok (.new 56, 3) := by decide +kernel
theorem dX10_init_89 : decode cX10_init 89 = .ok (.dup, 1) := by decide +kernel
theorem dX10_init_90 : decode cX10_init 90 = .ok (.invokespecial 58, 3) := by decide +kernel
theorem dX10_init_93 : decode cX10_init 93 = .ok (.putfield 59, 3) := by decide +kernel
theorem dX10_init_96 : decode cX10_init 96 = .ok (.aload_n 0, 1) := by decide +kernel
theorem dX10_init_97 : decode cX10_init 97 = .ok (.new 63, 3) := by decide +kernel
theorem dX10_init_100 : decode cX10_init 100 = .ok (.dup, 1) := by decide +kernel
theorem dX10_init_101 : decode cX10_init 101 = .ok (.invokespecial 65, 3) := by decide +kernel
theorem dX10_init_104 : decode cX10_init 104 = .ok (.putfield 66, 3) := by decide +kernel
theorem dX10_init_107 : decode cX10_init 107 = .ok (.aload_n 0, 1) := by decide +kernel
theorem dX10_init_108 : decode cX10_init 108 = .ok (.new 70, 3) := by decide +kernel
theorem dX10_init_111 : decode cX10_init 111 = .ok (.dup, 1) := by decide +kernel
theorem dX10_init_112 : decode cX10_init 112 = .ok (.invokespecial 72, 3) := by decide +kernel
theorem dX10_init_115 : decode cX10_init 115 = .ok (.putfield 73, 3) := by decide +kernel
theorem dX10_init_118 : decode cX10_init 118 = .ok (.aload_n 0, 1) := by decide +kernel
theorem dX10_init_119 : decode cX10_init 119 = .ok (.new 77, 3) := by decide +kernel
theorem dX10_init_122 : decode cX10_init 122 = .ok (.dup, 1) := by decide +kernel
theorem dX10_init_123 : decode cX10_init 123 = .ok (.invokespecial 79, 3) := by decide +kernel
theorem dX10_init_126 : decode cX10_init 126 = .ok (.putfield 80, 3) := by decide +kernel
theorem dX10_init_129 : decode cX10_init 129 = .ok (.return_, 1) := by decide +kernel
theorem dX10_type_0 : decode cX10_type 0 = .ok (.aload_n 0, 1) := by decide +kernel
theorem dX10_type_1 : decode cX10_type 1 = .ok (.iload_n 1, 1) := by decide +kernel
theorem dX10_type_2 : decode cX10_type 2 = .ok (.invokevirtual 84, 3) := by decide +kernel
theorem dX10_type_5 : decode cX10_type 5 = .ok (.astore_n 3, 1) := by decide +kernel
theorem dX10_type_6 : decode cX10_type 6 = .ok (.aload_n 3, 1) := by decide +kernel
theorem dX10_type_7 : decode cX10_type 7 = .ok (.ifnull 14, 3) := by decide +kernel
theorem dX10_type_10 : decode cX10_type 10 = .ok (.iload_n 2, 1) := by decide +kernel
theorem dX10_type_11 : decode cX10_type 11 = .ok (.iconst 0, 1) := by decide +kernel
theorem dX10_type_12 : decode cX10_type 12 = .ok (.sipush 255, 3) := by decide +kernel
theorem dX10_type_15 : decode cX10_type 15 = .ok (.invokestatic 88, 3) := by decide +kernel
theorem dX10_type_18 : decode cX10_type 18 = .ok (.ifCond .ne 6, 3) := by decide +kernel
theorem dX10_type_21 : decode cX10_type 21 = .ok (.bipush (-2), 2) := by decide +kernel
theorem dX10_type_23 : decode cX10_type 23 = .ok (.ireturn, 1) := by decide +kernel
theorem dX10_type_24 : decode cX10_type 24 = .ok (.aload_n 3, 1) := by decide +kernel
theorem dX10_type_25 : decode cX10_type 25 = .ok (.iload_n 2, 1) := by decide +kernel
theorem dX10_type_26 : decode cX10_type 26 = .ok (.invokevirtual 92, 3) := by decide +kernel
theorem dX10_type_29 : decode cX10_type 29 = .ok (.ifCond .ne 6, 3) := by decide +kernel
theorem dX10_type_32 : decode cX10_type 32 = .ok (.bipush (-4), 2) := by decide +kernel
theorem dX10_type_34 : decode cX10_type 34 = .ok (.ireturn, 1) := by decide +kernel
theorem dX10_type_35 : decode cX10_type 35 = .ok (.aload_n 0, 1) := by decide +kernel
theorem dX10_type_36 : decode cX10_type 36 = .ok (.iload_n 1, 1) := by decide +kernel
theorem dX10_type_37 : decode cX10_type 37 = .ok (.invokevirtual 96, 3) := by decide +kernel
theorem dX10_type_40 : decode cX10_type 40 = .ok (.aload_n 3, 1) := by decide +kernel
theorem dX10_type_41 : decode cX10_type 41 = .ok (.invokevirtual 99, 3) := by decide +kernel
theorem dX10_type_44 : decode cX10_type 44 = .ok (.ireturn, 1) := by decide +kernel
theorem dX10_wipe_0 : decode cX10_wipe 0 = .ok (.aload_n 0, 1) := by decide +kernel
theorem dX10_wipe_1 : decode cX10_wipe 1 = .ok (.iload_n 1, 1) := by decide +kernel
theorem dX10_wipe_2 : decode cX10_wipe 2 = .ok (.invokevirtual 84, 3) := by decide +kernel
theorem dX10_wipe_5 : decode cX10_wipe 5 = .ok (.astore_n 2, 1) := by decide +kernel
theorem dX10_wipe_6 : decode cX10_wipe 6 = .ok (.aload_n 2, 1) := by decide +kernel
theorem dX10_wipe_7 : decode cX10_wipe 7 = .ok (.ifnonnull 6, 3) := by decide +kernel
theorem dX10_wipe_10 : decode cX10_wipe 10 = .ok (.bipush (-2), 2) := by decide +kernel
theorem dX10_wipe_12 : decode cX10_wipe 12 = .ok (.ireturn, 1) := by decide +kernel
theorem dX10_wipe_13 : decode cX10_wipe 13 = .ok (.aload_n 2, 1) := by decide +kernel
theorem dX10_wipe_14 : decode cX10_wipe 14 = .ok (.invokevirtual 99, 3) := by decide +kernel
theorem dX10_wipe_17 : decode cX10_wipe 17 = .ok (.istore_n 3, 1) := by decide +kernel
theorem dX10_wipe_18 : decode cX10_wipe 18 = .ok (.aload_n 2, 1) := by decide +kernel
theorem dX10_wipe_19 : decode cX10_wipe 19 = .ok (.invokevirtual 103, 3) := by decide +kernel
theorem dX10_wipe_22 : decode cX10_wipe 22 = .ok (.aload_n 0, 1) := by decide +kernel
theorem dX10_wipe_23 : decode cX10_wipe 23 = .ok (.iload_n 1, 1) := by decide +kernel
theorem dX10_wipe_24 : decode cX10_wipe 24 = .ok (.invokevirtual 96, 3) := by decide +kernel
theorem dX10_wipe_27 : decode cX10_wipe 27 = .ok (.iload_n 3, 1) := by decide +kernel
theorem dX10_wipe_28 : decode cX10_wipe 28 = .ok (.ireturn, 1) := by decide +kernel
theorem dX10_undo_0 : decode cX10_undo 0 = .ok (.aload_n 0, 1) := by decide +kernel
theorem dX10_undo_1 : decode cX10_undo 1 = .ok (.iload_n 1, 1) := by decide +kernel
theorem dX10_undo_2 : decode cX10_undo 2 = .ok (.invokevirtual 84, 3) := by decide +kernel
theorem dX10_undo_5 : decode cX10_undo 5 = .ok (.astore_n 2, 1) := by decide +kernel
theorem dX10_undo_6 : decode cX10_undo 6 = .ok (.aload_n 2, 1) := by decide +kernel
theorem dX10_undo_7 : decode cX10_undo 7 = .ok (.ifnonnull 6, 3) := by decide +kernel
theorem dX10_undo_10 : decode cX10_undo 10 = .ok (.bipush (-2), 2) := by decide +kernel
theorem dX10_undo_12 : decode cX10_undo 12 = .ok (.ireturn, 1) := by decide +kernel
theorem dX10_undo_13 : decode cX10_undo 13 = .ok (.aload_n 2, 1) := by decide +kernel
theorem dX10_undo_14 : decode cX10_undo 14 = .ok (.invokevirtual 106, 3) := by decide +kernel
theorem dX10_undo_17 : decode cX10_undo 17 = .ok (.ifCond .ne 6, 3) := by decide +kernel
theorem dX10_undo_20 : decode cX10_undo 20 = .ok (.bipush (-3), 2) := by decide +kernel
theorem dX10_undo_22 : decode cX10_undo 22 = .ok (.ireturn, 1) := by decide +kernel
theorem dX10_undo_23 : decode cX10_undo 23 = .ok (.aload_n 0, 1) := by decide +kernel
theorem dX10_undo_24 : decode cX10_undo 24 = .ok (.iload_n 1, 1) := by decide +kernel
theorem dX10_undo_25 : decode cX10_undo 25 = .ok (.invokevirtual 96, 3) := by decide +kernel
theorem dX10_undo_28 : decode cX10_undo 28 = .ok (.aload_n 2, 1) := by decide +kernel
theorem dX10_undo_29 : decode cX10_undo 29 = .ok (.invokevirtual 99, 3) := by decide +kernel
theorem dX10_undo_32 : decode cX10_undo 32 = .ok (.ireturn, 1) := by decide +kernel
theorem dX10_fault_0 : decode cX10_fault 0 = .ok (.iload_n 1, 1) := by decide +kernel
theorem dX10_fault_1 : decode cX10_fault 1 = .ok (.iconst 0, 1) := by decide +kernel
theorem dX10_fault_2 : decode cX10_fault 2 = .ok (.iconst 1, 1) := by decide +kernel
theorem dX10_fault_3 : decode cX10_fault 3 = .ok (.invokestatic 88, 3) := by decide +kernel
theorem dX10_fault_6 : decode cX10_fault 6 = .ok (.ifCond .ne 6, 3) := by decide +kernel
theorem dX10_fault_9 : decode cX10_fault 9 = .ok (.bipush (-2), 2) := by decide +kernel
theorem dX10_fault_11 : decode cX10_fault 11 = .ok (.ireturn, 1) := by decide +kernel
theorem dX10_fault_12 : decode cX10_fault 12 = .ok (.iload_n 1, 1) := by decide +kernel
theorem dX10_fault_13 : decode cX10_fault 13 = .ok (.ifCond .ne 13, 3) := by decide +kernel
theorem dX10_fault_16 : decode cX10_fault 16 = .ok (.aload_n 0, 1) := by decide +kernel
theorem dX10_fault_17 : decode cX10_fault 17 = .ok (.getfield 24, 3) := by decide +kernel
theorem dX10_fault_20 : decode cX10_fault 20 = .ok (.invokevirtual 110, 3) := by decide +kernel
theorem dX10_fault_23 : decode cX10_fault 23 = .ok (.goto 10, 3) := by decide +kernel
theorem dX10_fault_26 : decode cX10_fault 26 = .ok (.aload_n 0, 1) := by decide +kernel
theorem dX10_fault_27 : decode cX10_fault 27 = .ok (.getfield 31, 3) := by decide +kernel
theorem dX10_fault_30 : decode cX10_fault 30 = .ok (.invokevirtual 113, 3) := by decide +kernel
theorem dX10_fault_33 : decode cX10_fault 33 = .ok (.ireturn, 1) := by decide +kernel
theorem dX10_part_0 : decode cX10_part 0 = .ok (.iload_n 1, 1) := by decide +kernel
theorem dX10_part_1 : decode cX10_part 1 = .ok (.iconst 0, 1) := by decide +kernel
theorem dX10_part_2 : decode cX10_part 2 = .ok (.aload_n 0, 1) := by decide +kernel
theorem dX10_part_3 : decode cX10_part 3 = .ok (.getfield 24, 3) := by decide +kernel
theorem dX10_part_6 : decode cX10_part 6 = .ok (.invokevirtual 114, 3) := by decide +kernel
theorem dX10_part_9 : decode cX10_part 9 = .ok (.iconst 1, 1) := by decide +kernel
theorem dX10_part_10 : decode cX10_part 10 = .ok (.isub, 1) := by decide +kernel
theorem dX10_part_11 : decode cX10_part 11 = .ok (.invokestatic 88, 3) := by decide +kernel
theorem dX10_part_14 : decode cX10_part 14 = .ok (.ifCond .eq 12, 3) := by decide +kernel
theorem dX10_part_17 : decode cX10_part 17 = .ok (.iload_n 2, 1) := by decide +kernel
theorem dX10_part_18 : decode cX10_part 18 = .ok (.iconst 0, 1) := by decide +kernel
theorem dX10_part_19 : decode cX10_part 19 = .ok (.iconst 3, 1) := by decide +kernel
theorem dX10_part_20 : decode cX10_part 20 = .ok (.invokestatic 88, 3) := by decide +kernel
theorem dX10_part_23 : decode cX10_part 23 = .ok (.ifCond .ne 6, 3) := by decide +kernel
theorem dX10_part_26 : decode cX10_part 26 = .ok (.bipush (-2), 2) := by decide +kernel
theorem dX10_part_28 : decode cX10_part 28 = .ok (.ireturn, 1) := by decide +kernel
theorem dX10_part_29 : decode cX10_part 29 = .ok (.aload_n 0, 1) := by decide +kernel
theorem dX10_part_30 : decode cX10_part 30 = .ok (.getfield 24, 3) := by decide +kernel
theorem dX10_part_33 : decode cX10_part 33 = .ok (.iload_n 1, 1) := by decide +kernel
theorem dX10_part_34 : decode cX10_part 34 = .ok (.iload_n 2, 1) := by decide +kernel
theorem dX10_part_35 : decode cX10_part 35 = .ok (.invokevirtual 117, 3) := by decide +kernel
theorem dX10_part_38 : decode cX10_part 38 = .ok (.ireturn, 1) := by decide +kernel
theorem dX10_goers_0 : decode cX10_goers 0 = .ok (.iload_n 1, 1) := by decide +kernel
theorem dX10_goers_1 : decode cX10_goers 1 = .ok (.iconst 1, 1) := by decide +kernel
theorem dX10_goers_2 : decode cX10_goers 2 = .ok (.iconst 4, 1) := by decide +kernel
theorem dX10_goers_3 : decode cX10_goers 3 = .ok (.invokestatic 88, 3) := by decide +kernel
theorem dX10_goers_6 : decode cX10_goers 6 = .ok (.ifCond .ne 6, 3) := by decide +kernel
theorem dX10_goers_9 : decode cX10_goers 9 = .ok (.bipush (-2), 2) := by decide +kernel
theorem dX10_goers_11 : decode cX10_goers 11 = .ok (.ireturn, 1) := by decide +kernel
theorem dX10_goers_12 : decode cX10_goers 12 = .ok (.aload_n 0, 1) := by decide +kernel
theorem dX10_goers_13 : decode cX10_goers 13 = .ok (.getfield 38, 3) := by decide +kernel
theorem dX10_goers_16 : decode cX10_goers 16 = .ok (.invokevirtual 121, 3) := by decide +kernel
theorem dX10_goers_19 : decode cX10_goers 19 = .ok (.istore_n 2, 1) := by decide +kernel
theorem dX10_goers_20 : decode cX10_goers 20 = .ok (.aload_n 0, 1) := by decide +kernel
theorem dX10_goers_21 : decode cX10_goers 21 = .ok (.getfield 38, 3) := by decide +kernel
theorem dX10_goers_24 : decode cX10_goers 24 = .ok (.iload_n 1, 1) := by decide +kernel
theorem dX10_goers_25 : decode cX10_goers 25 = .ok (.invokevirtual 124, 3) := by decide +kernel
theorem dX10_goers_28 : decode cX10_goers 28 = .ok (.iload_n 2, 1) := by decide +kernel
theorem dX10_goers_29 : decode cX10_goers 29 = .ok (.ireturn, 1) := by decide +kernel
theorem dX10_lamp_0 : decode cX10_lamp 0 = .ok (.iload_n 1, 1) := by decide +kernel
theorem dX10_lamp_1 : decode cX10_lamp 1 = .ok (.iconst 0, 1) := by decide +kernel
theorem dX10_lamp_2 : decode cX10_lamp 2 = .ok (.iconst 3, 1) := by decide +kernel
theorem dX10_lamp_3 : decode cX10_lamp 3 = .ok (.invokestatic 88, 3) := by decide +kernel
theorem dX10_lamp_6 : decode cX10_lamp 6 = .ok (.ifCond .eq 14, 3) := by decide +kernel
theorem dX10_lamp_9 : decode cX10_lamp 9 = .ok (.iload_n 2, 1) := by decide +kernel
theorem dX10_lamp_10 : decode cX10_lamp 10 = .ok (.iconst 0, 1) := by decide +kernel
theorem dX10_lamp_11 : decode cX10_lamp 11 = .ok (.sipush 999, 3) := by decide +kernel
theorem dX10_lamp_14 : decode cX10_lamp 14 = .ok (.invokestatic 88, 3) := by decide +kernel
theorem dX10_lamp_17 : decode cX10_lamp 17 = .ok (.ifCond .ne 6, 3) := by decide +kernel
theorem dX10_lamp_20 : decode cX10_lamp 20 = .ok (.bipush (-2), 2) := by decide +kernel
theorem dX10_lamp_22 : decode cX10_lamp 22 = .ok (.ireturn, 1) := by decide +kernel
theorem dX10_lamp_23 : decode cX10_lamp 23 = .ok (.aload_n 0, 1) := by decide +kernel
theorem dX10_lamp_24 : decode cX10_lamp 24 = .ok (.getfield 38, 3) := by decide +kernel
theorem dX10_lamp_27 : decode cX10_lamp 27 = .ok (.iload_n 1, 1) := by decide +kernel
theorem dX10_lamp_28 : decode cX10_lamp 28 = .ok (.invokevirtual 127, 3) := by decide +kernel
theorem dX10_lamp_31 : decode cX10_lamp 31 = .ok (.istore_n 3, 1) := by decide +kernel
theorem dX10_lamp_32 : decode cX10_lamp 32 = .ok (.aload_n 0, 1) := by decide +kernel
theorem dX10_lamp_33 : decode cX10_lamp 33 = .ok (.getfield 38, 3) := by decide +kernel
theorem dX10_lamp_36 : decode cX10_lamp 36 = .ok (.iload_n 1, 1) := by decide +kernel
theorem dX10_lamp_37 : decode cX10_lamp 37 = .ok (.iload_n 2, 1) := by decide +kernel
theorem dX10_lamp_38 : decode cX10_lamp 38 = .ok (.invokevirtual 131, 3) := by decide +kernel
theorem dX10_lamp_41 : decode cX10_lamp 41 = .ok (.iload_n 3, 1) := by decide +kernel
theorem dX10_lamp_42 : decode cX10_lamp 42 = .ok (.ireturn, 1) := by decide +kernel
theorem dX10_read_0 : decode cX10_read 0 = .ok (.iload_n 1, 1) := by decide +kernel
theorem dX10_read_1 : decode cX10_read 1 = .ok (.invokestatic 135, 3) := by decide +kernel
theorem dX10_read_4 : decode cX10_read 4 = .ok (.ifCond .ne 6, 3) := by decide +kernel
theorem dX10_read_7 : decode cX10_read 7 = .ok (.bipush (-2), 2) := by decide +kernel
theorem dX10_read_9 : decode cX10_read 9 = .ok (.ireturn, 1) := by decide +kernel
theorem dX10_read_10 : decode cX10_read 10 = .ok (.aload_n 0, 1) := by decide +kernel
theorem dX10_read_11 : decode cX10_read 11 = .ok (.getfield 73, 3) := by decide +kernel
theorem dX10_read_14 : decode cX10_read 14 = .ok (.iload_n 1, 1) := by decide +kernel
theorem dX10_read_15 : decode cX10_read 15 = .ok (.invokevirtual 138, 3) := by decide +kernel
theorem dX10_read_18 : decode cX10_read 18 = .ok (.ifCond .eq 12, 3) := by decide +kernel
theorem dX10_read_21 : decode cX10_read 21 = .ok (.aload_n 0, 1) := by decide +kernel
theorem dX10_read_22 : decode cX10_read 22 = .ok (.getfield 73, 3) := by decide +kernel
theorem dX10_read_25 : decode cX10_read 25 = .ok (.iconst 1, 1) := by decide +kernel
theorem dX10_read_26 : decode cX10_read 26 = .ok (.invokevirtual 141, 3) := by decide +kernel
theorem dX10_read_29 : decode cX10_read 29 = .ok (.ireturn, 1) := by decide +kernel
theorem dX10_read_30 : decode cX10_read 30 = .ok (.iconst 4, 1) := by decide +kernel
theorem dX10_read_31 : decode cX10_read 31 = .ok (.aload_n 0, 1) := by decide +kernel
theorem dX10_read_32 : decode cX10_read 32 = .ok (.getfield 73, 3) := by decide +kernel
theorem dX10_read_35 : decode cX10_read 35 = .ok (.iload_n 1, 1) := by decide +kernel
theorem dX10_read_36 : decode cX10_read 36 = .ok (.invokevirtual 144, 3) := by decide +kernel
theorem dX10_read_39 : decode cX10_read 39 = .ok (.invokestatic 146, 3) := by decide +kernel
theorem dX10_read_42 : decode cX10_read 42 = .ok (.istore_n 2, 1) := by decide +kernel
theorem dX10_read_43 : decode cX10_read 43 = .ok (.iconst 0, 1) := by decide +kernel
theorem dX10_read_44 : decode cX10_read 44 = .ok (.istore_n 3, 1) := by decide +kernel
theorem dX10_read_45 : decode cX10_read 45 = .ok (.iload_n 3, 1) := by decide +kernel
theorem dX10_read_46 : decode cX10_read 46 = .ok (.iload_n 2, 1) := by decide +kernel
theorem dX10_read_47 : decode cX10_read 47 = .ok (.if_icmp .ge 45, 3) := by decide +kernel
theorem dX10_read_50 : decode cX10_read 50 = .ok (.aload_n 0, 1) := by decide +kernel
theorem dX10_read_51 : decode cX10_read 51 = .ok (.getfield 73, 3) := by decide +kernel
theorem dX10_read_54 : decode cX10_read 54 = .ok (.iload_n 1, 1) := by decide +kernel
theorem dX10_read_55 : decode cX10_read 55 = .ok (.iload_n 3, 1) := by decide +kernel
theorem dX10_read_56 : decode cX10_read 56 = .ok (.invokevirtual 151, 3) := by decide +kernel
theorem dX10_read_59 : decode cX10_read 59 = .ok (.iconst 0, 1) := by decide +kernel
theorem dX10_read_60 : decode cX10_read 60 = .ok (.sipush 999, 3) := by decide +kernel
theorem dX10_read_63 : decode cX10_read 63 = .ok (.invokestatic 88, 3) := by decide +kernel
theorem dX10_read_66 : decode cX10_read 66 = .ok (.ifCond .eq 26, 3) := by decide +kernel
theorem dX10_read_69 : decode cX10_read 69 = .ok (.aload_n 0, 1) := by decide +kernel
theorem dX10_read_70 : decode cX10_read 70 = .ok (.getfield 38, 3) := by decide +kernel
theorem dX10_read_73 : decode cX10_read 73 = .ok (.iload_n 3, 1) := by decide +kernel
theorem dX10_read_74 : decode cX10_read 74 = .ok (.aload_n 0, 1) := by decide +kernel
theorem dX10_read_75 : decode cX10_read 75 = .ok (.getfield 73, 3) := by decide +kernel
theorem dX10_read_78 : decode cX10_read 78 = .ok (.iload_n 1, 1) := by decide +kernel
theorem dX10_read_79 : decode cX10_read 79 = .ok (.iload_n 3, 1) := by decide +kernel
theorem dX10_read_80 : decode cX10_read 80 = .ok (.invokevirtual 151, 3) := by decide +kernel
theorem dX10_read_83 : decode cX10_read 83 = .ok (.invokevirtual 131, 3) := by decide +kernel
theorem dX10_read_86 : decode cX10_read 86 = .ok (.iinc 3 1, 3) := by decide +kernel
theorem dX10_read_89 : decode cX10_read 89 = .ok (.goto (-44), 3) := by decide +kernel
theorem dX10_read_92 : decode cX10_read 92 = .ok (.iload_n 3, 1) := by decide +kernel
theorem dX10_read_93 : decode cX10_read 93 = .ok (.ireturn, 1) := by decide +kernel
theorem dX10_far_0 : decode cX10_far 0 = .ok (.aload_n 0, 1) := by decide +kernel
theorem dX10_far_1 : decode cX10_far 1 = .ok (.iload_n 1, 1) := by decide +kernel
theorem dX10_far_2 : decode cX10_far 2 = .ok (.invokevirtual 154, 3) := by decide +kernel
theorem dX10_far_5 : decode cX10_far 5 = .ok (.ifCond .eq 12, 3) := by decide +kernel
theorem dX10_far_8 : decode cX10_far 8 = .ok (.iload_n 2, 1) := by decide +kernel
theorem dX10_far_9 : decode cX10_far 9 = .ok (.iconst 0, 1) := by decide +kernel
theorem dX10_far_10 : decode cX10_far 10 = .ok (.iconst 1, 1) := by decide +kernel
theorem dX10_far_11 : decode cX10_far 11 = .ok (.invokestatic 88, 3) := by decide +kernel
theorem dX10_far_14 : decode cX10_far 14 = .ok (.ifCond .ne 9, 3) := by decide +kernel
theorem dX10_far_17 : decode cX10_far 17 = .ok (.bipush (-2), 2) := by decide +kernel
theorem dX10_far_19 : decode cX10_far 19 = .ok (.invokestatic 157, 3) := by decide +kernel
theorem dX10_far_22 : decode cX10_far 22 = .ok (.lreturn, 1) := by decide +kernel
theorem dX10_far_23 : decode cX10_far 23 = .ok (.aload_n 0, 1) := by decide +kernel
theorem dX10_far_24 : decode cX10_far 24 = .ok (.getfield 24, 3) := by decide +kernel
theorem dX10_far_27 : decode cX10_far 27 = .ok (.aload_n 0, 1) := by decide +kernel
theorem dX10_far_28 : decode cX10_far 28 = .ok (.getfield 80, 3) := by decide +kernel
theorem dX10_far_31 : decode cX10_far 31 = .ok (.aload_n 0, 1) := by decide +kernel
theorem dX10_far_32 : decode cX10_far 32 = .ok (.getfield 38, 3) := by decide +kernel
theorem dX10_far_35 : decode cX10_far 35 = .ok (.iload_n 1, 1) := by decide +kernel
theorem dX10_far_36 : decode cX10_far 36 = .ok (.invokevirtual 127, 3) := by decide +kernel
theorem dX10_far_39 : decode cX10_far 39 = .ok (.iconst 1, 1) := by decide +kernel
theorem dX10_far_40 : decode cX10_far 40 = .ok (.iconst 1, 1) := by decide +kernel
theorem dX10_far_41 : decode cX10_far 41 = .ok (.invokevirtual 161, 3) := by decide +kernel
theorem dX10_far_44 : decode cX10_far 44 = .ok (.aload_n 0, 1) := by decide +kernel
theorem dX10_far_45 : decode cX10_far 45 = .ok (.getfield 80, 3) := by decide +kernel
theorem dX10_far_48 : decode cX10_far 48 = .ok (.iload_n 2, 1) := by decide +kernel
theorem dX10_far_49 : decode cX10_far 49 = .ok (.invokevirtual 165, 3) := by decide +kernel
theorem dX10_far_52 : decode cX10_far 52 = .ok (.lreturn, 1) := by decide +kernel
theorem dX10_safe_0 : decode cX10_safe 0 = .ok (.aload_n 0, 1) := by decide +kernel
theorem dX10_safe_1 : decode cX10_safe 1 = .ok (.iload_n 1, 1) := by decide +kernel
theorem dX10_safe_2 : decode cX10_safe 2 = .ok (.invokevirtual 154, 3) := by decide +kernel
theorem dX10_safe_5 : decode cX10_safe 5 = .ok (.ifCond .eq 12, 3) := by decide +kernel
theorem dX10_safe_8 : decode cX10_safe 8 = .ok (.iload_n 2, 1) := by decide +kernel
theorem dX10_safe_9 : decode cX10_safe 9 = .ok (.iconst 0, 1) := by decide +kernel
theorem dX10_safe_10 : decode cX10_safe 10 = .ok (.iconst 1, 1) := by decide +kernel
theorem dX10_safe_11 : decode cX10_safe 11 = .ok (.invokestatic 88, 3) := by decide +kernel
theorem dX10_safe_14 : decode cX10_safe 14 = .ok (.ifCond .ne 9, 3) := by decide +kernel
theorem dX10_safe_17 : decode cX10_safe 17 = .ok (.bipush (-2), 2) := by decide +kernel
theorem dX10_safe_19 : decode cX10_safe 19 = .ok (.invokestatic 157, 3) := by decide +kernel
theorem dX10_safe_22 : decode cX10_safe 22 = .ok (.lreturn, 1) := by decide +kernel
theorem dX10_safe_23 : decode cX10_safe 23 = .ok (.aload_n 0, 1) := by decide +kernel
theorem dX10_safe_24 : decode cX10_safe 24 = .ok (.getfield 24, 3) := by decide +kernel
theorem dX10_safe_27 : decode cX10_safe 27 = .ok (.aload_n 0, 1) := by decide +kernel
theorem dX10_safe_28 : decode cX10_safe 28 = .ok (.getfield 80, 3) := by decide +kernel
theorem dX10_safe_31 : decode cX10_safe 31 = .ok (.aload_n 0, 1) := by decide +kernel
theorem dX10_safe_32 : decode cX10_safe 32 = .ok (.getfield 38, 3) := by decide +kernel
theorem dX10_safe_35 : decode cX10_safe 35 = .ok (.invokevirtual 168, 3) := by decide +kernel
theorem dX10_safe_38 : decode cX10_safe 38 = .ok (.iconst 1, 1) := by decide +kernel
theorem dX10_safe_39 : decode cX10_safe 39 = .ok (.aload_n 0, 1) := by decide +kernel
theorem dX10_safe_40 : decode cX10_safe 40 = .ok (.getfield 38, 3) := by decide +kernel
theorem dX10_safe_43 : decode cX10_safe 43 = .ok (.aload_n 0, 1) := by decide +kernel
theorem dX10_safe_44 : decode cX10_safe 44 = .ok (.getfield 38, 3) := by decide +kernel
theorem dX10_safe_47 : decode cX10_safe 47 = .ok (.invokevirtual 121, 3) := by decide +kernel
theorem dX10_safe_50 : decode cX10_safe 50 = .ok (.iload_n 1, 1) := by decide +kernel
theorem dX10_safe_51 : decode cX10_safe 51 = .ok (.isub, 1) := by decide +kernel
theorem dX10_safe_52 : decode cX10_safe 52 = .ok (.invokevirtual 171, 3) := by decide +kernel
theorem dX10_safe_55 : decode cX10_safe 55 = .ok (.invokevirtual 161, 3) := by decide +kernel
theorem dX10_safe_58 : decode cX10_safe 58 = .ok (.aload_n 0, 1) := by decide +kernel
theorem dX10_safe_59 : decode cX10_safe 59 = .ok (.getfield 80, 3) := by decide +kernel
theorem dX10_safe_62 : decode cX10_safe 62 = .ok (.iload_n 2, 1) := by decide +kernel
theorem dX10_safe_63 : decode cX10_safe 63 = .ok (.invokevirtual 165, 3) := by decide +kernel
theorem dX10_safe_66 : decode cX10_safe 66 = .ok (.lreturn, 1) := by decide +kernel
theorem dX10_rule_0 : decode cX10_rule 0 = .ok (.iload_n 1, 1) := by decide +kernel
theorem dX10_rule_1 : decode cX10_rule 1 = .ok (.iconst 2, 1) := by decide +kernel
theorem dX10_rule_2 : decode cX10_rule 2 = .ok (.bipush 9, 2) := by decide +kernel
theorem dX10_rule_4 : decode cX10_rule 4 = .ok (.invokestatic 88, 3) := by decide +kernel
theorem dX10_rule_7 : decode cX10_rule 7 = .ok (.ifCond .eq 20, 3) := by decide +kernel
theorem dX10_rule_10 : decode cX10_rule 10 = .ok (.aload_n 0, 1) := by decide +kernel
theorem dX10_rule_11 : decode cX10_rule 11 = .ok (.iload_n 2, 1) := by decide +kernel
theorem dX10_rule_12 : decode cX10_rule 12 = .ok (.invokevirtual 154, 3) := by decide +kernel
theorem dX10_rule_15 : decode cX10_rule 15 = .ok (.ifCond .eq 12, 3) := by decide +kernel
theorem dX10_rule_18 : decode cX10_rule 18 = .ok (.iload_n 3, 1) := by decide +kernel
theorem dX10_rule_19 : decode cX10_rule 19 = .ok (.iconst 0, 1) := by decide +kernel
theorem dX10_rule_20 : decode cX10_rule 20 = .ok (.iconst 2, 1) := by decide +kernel
theorem dX10_rule_21 : decode cX10_rule 21 = .ok (.invokestatic 88, 3) := by decide +kernel
theorem dX10_rule_24 : decode cX10_rule 24 = .ok (.ifCond .ne 9, 3) := by decide +kernel
theorem dX10_rule_27 : decode cX10_rule 27 = .ok (.bipush (-2), 2) := by decide +kernel
theorem dX10_rule_29 : decode cX10_rule 29 = .ok (.invokestatic 157, 3) := by decide +kernel
theorem dX10_rule_32 : decode cX10_rule 32 = .ok (.lreturn, 1) := by decide +kernel
theorem dX10_rule_33 : decode cX10_rule 33 = .ok (.aload_n 0, 1) := by decide +kernel
theorem dX10_rule_34 : decode cX10_rule 34 = .ok (.getfield 38, 3) := by decide +kernel
theorem dX10_rule_37 : decode cX10_rule 37 = .ok (.invokevirtual 168, 3) := by decide +kernel
theorem dX10_rule_40 : decode cX10_rule 40 = .ok (.istore 4, 2) := by decide +kernel
theorem dX10_rule_42 : decode cX10_rule 42 = .ok (.aload_n 0, 1) := by decide +kernel
theorem dX10_rule_43 : decode cX10_rule 43 = .ok (.getfield 24, 3) := by decide +kernel
theorem dX10_rule_46 : decode cX10_rule 46 = .ok (.aload_n 0, 1) := by decide +kernel
theorem dX10_rule_47 : decode cX10_rule 47 = .ok (.getfield 80, 3) := by decide +kernel
theorem dX10_rule_50 : decode cX10_rule 50 = .ok (.iload 4, 2) := by decide +kernel
theorem dX10_rule_52 : decode cX10_rule 52 = .ok (.iload_n 1, 1) := by decide +kernel
theorem dX10_rule_53 : decode cX10_rule 53 = .ok (.iconst 0, 1) := by decide +kernel
theorem dX10_rule_54 : decode cX10_rule 54 = .ok (.invokevirtual 161, 3) := by decide +kernel
theorem dX10_rule_57 : decode cX10_rule 57 = .ok (.iload_n 3, 1) := by decide +kernel
theorem dX10_rule_58 : decode cX10_rule 58 = .ok (.iconst 2, 1) := by decide +kernel
theorem dX10_rule_59 : decode cX10_rule 59 = .ok (.if_icmp .ne 41, 3) := by decide +kernel
theorem dX10_rule_62 : decode cX10_rule 62 = .ok (.aload_n 0, 1) := by decide +kernel
theorem dX10_rule_63 : decode cX10_rule 63 = .ok (.getfield 24, 3) := by decide +kernel
theorem dX10_rule_66 : decode cX10_rule 66 = .ok (.aload_n 0, 1) := by decide +kernel
theorem dX10_rule_67 : decode cX10_rule 67 = .ok (.getfield 80, 3) := by decide +kernel
theorem dX10_rule_70 : decode cX10_rule 70 = .ok (.iload 4, 2) := by decide +kernel
theorem dX10_rule_72 : decode cX10_rule 72 = .ok (.aload_n 0, 1) := by decide +kernel
theorem dX10_rule_73 : decode cX10_rule 73 = .ok (.getfield 38, 3) := by decide +kernel
theorem dX10_rule_76 : decode cX10_rule 76 = .ok (.aload_n 0, 1) := by decide +kernel
theorem dX10_rule_77 : decode cX10_rule 77 = .ok (.getfield 38, 3) := by decide +kernel
theorem dX10_rule_80 : decode cX10_rule 80 = .ok (.invokevirtual 121, 3) := by decide +kernel
theorem dX10_rule_83 : decode cX10_rule 83 = .ok (.iload_n 2, 1) := by decide +kernel
theorem dX10_rule_84 : decode cX10_rule 84 = .ok (.isub, 1) := by decide +kernel
theorem dX10_rule_85 : decode cX10_rule 85 = .ok (.invokevirtual 171, 3) := by decide +kernel
theorem dX10_rule_88 : decode cX10_rule 88 = .ok (.invokevirtual 174, 3) := by decide +kernel
theorem dX10_rule_91 : decode cX10_rule 91 = .ok (.ifCond .eq 7, 3) := by decide +kernel
theorem dX10_rule_94 : decode cX10_rule 94 = .ok (.lconst 1, 1) := by decide +kernel
theorem dX10_rule_95 : decode cX10_rule 95 = .ok (.goto 4, 3) := by decide +kernel
theorem dX10_rule_98 : decode cX10_rule 98 = .ok (.lconst 0, 1) := by decide +kernel
theorem dX10_rule_99 : decode cX10_rule 99 = .ok (.lreturn, 1) := by decide +kernel
theorem dX10_rule_100 : decode cX10_rule 100 = .ok (.aload_n 0, 1) := by decide +kernel
theorem dX10_rule_101 : decode cX10_rule 101 = .ok (.getfield 80, 3) := by decide +kernel
theorem dX10_rule_104 : decode cX10_rule 104 = .ok (.iload_n 3, 1) := by decide +kernel
theorem dX10_rule_105 : decode cX10_rule 105 = .ok (.invokevirtual 165, 3) := by decide +kernel
theorem dX10_rule_108 : decode cX10_rule 108 = .ok (.lreturn, 1) := by decide +kernel
theorem dX10_point_0 : decode cX10_point 0 = .ok (.iload_n 1, 1) := by decide +kernel
theorem dX10_point_1 : decode cX10_point 1 = .ok (.iconst 0, 1) := by decide +kernel
theorem dX10_point_2 : decode cX10_point 2 = .ok (.iconst 1, 1) := by decide +kernel
theorem dX10_point_3 : decode cX10_point 3 = .ok (.invokestatic 88, 3) := by decide +kernel
theorem dX10_point_6 : decode cX10_point 6 = .ok (.ifCond .ne 9, 3) := by decide +kernel
theorem dX10_point_9 : decode cX10_point 9 = .ok (.bipush (-2), 2) := by decide +kernel
theorem dX10_point_11 : decode cX10_point 11 = .ok (.invokestatic 157, 3) := by decide +kernel
theorem dX10_point_14 : decode cX10_point 14 = .ok (.lreturn, 1) := by decide +kernel
theorem dX10_point_15 : decode cX10_point 15 = .ok (.aload_n 0, 1) := by decide +kernel
theorem dX10_point_16 : decode cX10_point 16 = .ok (.getfield 24, 3) := by decide +kernel
theorem dX10_point_19 : decode cX10_point 19 = .ok (.aload_n 0, 1) := by decide +kernel
theorem dX10_point_20 : decode cX10_point 20 = .ok (.getfield 80, 3) := by decide +kernel
theorem dX10_point_23 : decode cX10_point 23 = .ok (.aload_n 0, 1) := by decide +kernel
theorem dX10_point_24 : decode cX10_point 24 = .ok (.getfield 24, 3) := by decide +kernel
theorem dX10_point_27 : decode cX10_point 27 = .ok (.invokevirtual 178, 3) := by decide +kernel
theorem dX10_point_30 : decode cX10_point 30 = .ok (.iconst 1, 1) := by decide +kernel
theorem dX10_point_31 : decode cX10_point 31 = .ok (.iconst 1, 1) := by decide +kernel
theorem dX10_point_32 : decode cX10_point 32 = .ok (.invokevirtual 161, 3) := by decide +kernel
theorem dX10_point_35 : decode cX10_point 35 = .ok (.aload_n 0, 1) := by decide +kernel
theorem dX10_point_36 : decode cX10_point 36 = .ok (.getfield 80, 3) := by decide +kernel
theorem dX10_point_39 : decode cX10_point 39 = .ok (.iload_n 1, 1) := by decide +kernel
theorem dX10_point_40 : decode cX10_point 40 = .ok (.invokevirtual 165, 3) := by decide +kernel
theorem dX10_point_43 : decode cX10_point 43 = .ok (.lreturn, 1) := by decide +kernel
theorem dX10_judged_0 : decode cX10_judged 0 = .ok (.aload_n 0, 1) := by decide +kernel
theorem dX10_judged_1 : decode cX10_judged 1 = .ok (.getfield 45, 3) := by decide +kernel
theorem dX10_judged_4 : decode cX10_judged 4 = .ok (.aload_n 0, 1) := by decide +kernel
theorem dX10_judged_5 : decode cX10_judged 5 = .ok (.getfield 18, 3) := by decide +kernel
theorem dX10_judged_8 : decode cX10_judged 8 = .ok (.aload_n 0, 1) := by decide +kernel
theorem dX10_judged_9 : decode cX10_judged 9 = .ok (.getfield 31, 3) := by decide +kernel
theorem dX10_judged_12 : decode cX10_judged 12 = .ok (.invokevirtual 181, 3) := by decide +kernel
theorem dX10_judged_15 : decode cX10_judged 15 = .ok (.aload_n 0, 1) := by decide +kernel
theorem dX10_judged_16 : decode cX10_judged 16 = .ok (.getfield 24, 3) := by decide +kernel
theorem dX10_judged_19 : decode cX10_judged 19 = .ok (.aload_n 0, 1) := by decide +kernel
theorem dX10_judged_20 : decode cX10_judged 20 = .ok (.getfield 38, 3) := by decide +kernel
theorem dX10_judged_23 : decode cX10_judged 23 = .ok (.invokevirtual 182, 3) := by decide +kernel
theorem dX10_judged_26 : decode cX10_judged 26 = .ok (.aload_n 0, 1) := by decide +kernel
theorem dX10_judged_27 : decode cX10_judged 27 = .ok (.getfield 45, 3) := by decide +kernel
theorem dX10_judged_30 : decode cX10_judged 30 = .ok (.invokevirtual 186, 3) := by decide +kernel
theorem dX10_judged_33 : decode cX10_judged 33 = .ok (.ireturn, 1) := by decide +kernel
theorem dX10_state_0 : decode cX10_state 0 = .ok (.iload_n 1, 1) := by decide +kernel
theorem dX10_state_1 : decode cX10_state 1 = .ok (.iconst 0, 1) := by decide +kernel
theorem dX10_state_2 : decode cX10_state 2 = .ok (.aload_n 0, 1) := by decide +kernel
theorem dX10_state_3 : decode cX10_state 3 = .ok (.getfield 31, 3) := by decide +kernel
theorem dX10_state_6 : decode cX10_state 6 = .ok (.invokevirtual 181, 3) := by decide +kernel
theorem dX10_state_9 : decode cX10_state 9 = .ok (.invokestatic 88, 3) := by decide +kernel
theorem dX10_state_12 : decode cX10_state 12 = .ok (.ifCond .eq 12, 3) := by decide +kernel
theorem dX10_state_15 : decode cX10_state 15 = .ok (.iload_n 2, 1) := by decide +kernel
theorem dX10_state_16 : decode cX10_state 16 = .ok (.iconst 0, 1) := by decide +kernel
theorem dX10_state_17 : decode cX10_state 17 = .ok (.iconst 1, 1) := by decide +kernel
theorem dX10_state_18 : decode cX10_state 18 = .ok (.invokestatic 88, 3) := by decide +kernel
theorem dX10_state_21 : decode cX10_state 21 = .ok (.ifCond .ne 6, 3) := by decide +kernel
theorem dX10_state_24 : decode cX10_state 24 = .ok (.bipush (-2), 2) := by decide +kernel
theorem dX10_state_26 : decode cX10_state 26 = .ok (.ireturn, 1) := by decide +kernel
theorem dX10_state_27 : decode cX10_state 27 = .ok (.aload_n 0, 1) := by decide +kernel
theorem dX10_state_28 : decode cX10_state 28 = .ok (.getfield 45, 3) := by decide +kernel
theorem dX10_state_31 : decode cX10_state 31 = .ok (.aload_n 0, 1) := by decide +kernel
theorem dX10_state_32 : decode cX10_state 32 = .ok (.getfield 18, 3) := by decide +kernel
theorem dX10_state_35 : decode cX10_state 35 = .ok (.iload_n 1, 1) := by decide +kernel
theorem dX10_state_36 : decode cX10_state 36 = .ok (.aload_n 0, 1) := by decide +kernel
theorem dX10_state_37 : decode cX10_state 37 = .ok (.getfield 24, 3) := by decide +kernel
theorem dX10_state_40 : decode cX10_state 40 = .ok (.aload_n 0, 1) := by decide +kernel
theorem dX10_state_41 : decode cX10_state 41 = .ok (.getfield 38, 3) := by decide +kernel
theorem dX10_state_44 : decode cX10_state 44 = .ok (.invokevirtual 182, 3) := by decide +kernel
theorem dX10_state_47 : decode cX10_state 47 = .ok (.iload_n 2, 1) := by decide +kernel
theorem dX10_state_48 : decode cX10_state 48 = .ok (.ifCond .ne 13, 3) := by decide +kernel
theorem dX10_state_51 : decode cX10_state 51 = .ok (.aload_n 0, 1) := by decide +kernel
theorem dX10_state_52 : decode cX10_state 52 = .ok (.getfield 45, 3) := by decide +kernel
theorem dX10_state_55 : decode cX10_state 55 = .ok (.invokevirtual 189, 3) := by decide +kernel
theorem dX10_state_58 : decode cX10_state 58 = .ok (.goto 10, 3) := by decide +kernel
theorem dX10_state_61 : decode cX10_state 61 = .ok (.aload_n 0, 1) := by decide +kernel
theorem dX10_state_62 : decode cX10_state 62 = .ok (.getfield 45, 3) := by decide +kernel
theorem dX10_state_65 : decode cX10_state 65 = .ok (.invokevirtual 192, 3) := by decide +kernel
theorem dX10_state_68 : decode cX10_state 68 = .ok (.ireturn, 1) := by decide +kernel
theorem dX10_left_0 : decode cX10_left 0 = .ok (.iload_n 1, 1) := by decide +kernel
theorem dX10_left_1 : decode cX10_left 1 = .ok (.iconst 0, 1) := by decide +kernel
theorem dX10_left_2 : decode cX10_left 2 = .ok (.aload_n 0, 1) := by decide +kernel
theorem dX10_left_3 : decode cX10_left 3 = .ok (.getfield 31, 3) := by decide +kernel
theorem dX10_left_6 : decode cX10_left 6 = .ok (.invokevirtual 181, 3) := by decide +kernel
theorem dX10_left_9 : decode cX10_left 9 = .ok (.invokestatic 88, 3) := by decide +kernel
theorem dX10_left_12 : decode cX10_left 12 = .ok (.ifCond .eq 11, 3) := by decide +kernel
theorem dX10_left_15 : decode cX10_left 15 = .ok (.aload_n 0, 1) := by decide +kernel
theorem dX10_left_16 : decode cX10_left 16 = .ok (.iload_n 2, 1) := by decide +kernel
theorem dX10_left_17 : decode cX10_left 17 = .ok (.invokevirtual 154, 3) := by decide +kernel
theorem dX10_left_20 : decode cX10_left 20 = .ok (.ifCond .ne 6, 3) := by decide +kernel
theorem dX10_left_23 : decode cX10_left 23 = .ok (.bipush (-2), 2) := by decide +kernel
theorem dX10_left_25 : decode cX10_left 25 = .ok (.ireturn, 1) := by decide +kernel
theorem dX10_left_26 : decode cX10_left 26 = .ok (.aload_n 0, 1) := by decide +kernel
theorem dX10_left_27 : decode cX10_left 27 = .ok (.getfield 45, 3) := by decide +kernel
theorem dX10_left_30 : decode cX10_left 30 = .ok (.aload_n 0, 1) := by decide +kernel
theorem dX10_left_31 : decode cX10_left 31 = .ok (.getfield 18, 3) := by decide +kernel
theorem dX10_left_34 : decode cX10_left 34 = .ok (.iload_n 1, 1) := by decide +kernel
theorem dX10_left_35 : decode cX10_left 35 = .ok (.aload_n 0, 1) := by decide +kernel
theorem dX10_left_36 : decode cX10_left 36 = .ok (.getfield 24, 3) := by decide +kernel
theorem dX10_left_39 : decode cX10_left 39 = .ok (.aload_n 0, 1) := by decide +kernel
theorem dX10_left_40 : decode cX10_left 40 = .ok (.getfield 38, 3) := by decide +kernel
theorem dX10_left_43 : decode cX10_left 43 = .ok (.invokevirtual 182, 3) := by decide +kernel
theorem dX10_left_46 : decode cX10_left 46 = .ok (.aload_n 0, 1) := by decide +kernel
theorem dX10_left_47 : decode cX10_left 47 = .ok (.getfield 45, 3) := by decide +kernel
theorem dX10_left_50 : decode cX10_left 50 = .ok (.iload_n 2, 1) := by decide +kernel
theorem dX10_left_51 : decode cX10_left 51 = .ok (.invokevirtual 195, 3) := by decide +kernel
theorem dX10_left_54 : decode cX10_left 54 = .ok (.ireturn, 1) := by decide +kernel
theorem dX10_home_0 : decode cX10_home 0 = .ok (.aload_n 0, 1) := by decide +kernel
theorem dX10_home_1 : decode cX10_home 1 = .ok (.getfield 45, 3) := by decide +kernel
theorem dX10_home_4 : decode cX10_home 4 = .ok (.aload_n 0, 1) := by decide +kernel
theorem dX10_home_5 : decode cX10_home 5 = .ok (.getfield 18, 3) := by decide +kernel
theorem dX10_home_8 : decode cX10_home 8 = .ok (.aload_n 0, 1) := by decide +kernel
theorem dX10_home_9 : decode cX10_home 9 = .ok (.getfield 31, 3) := by decide +kernel
theorem dX10_home_12 : decode cX10_home 12 = .ok (.invokevirtual 181, 3) := by decide +kernel
theorem dX10_home_15 : decode cX10_home 15 = .ok (.aload_n 0, 1) := by decide +kernel
theorem dX10_home_16 : decode cX10_home 16 = .ok (.getfield 24, 3) := by decide +kernel
theorem dX10_home_19 : decode cX10_home 19 = .ok (.aload_n 0, 1) := by decide +kernel
theorem dX10_home_20 : decode cX10_home 20 = .ok (.getfield 38, 3) := by decide +kernel
theorem dX10_home_23 : decode cX10_home 23 = .ok (.invokevirtual 182, 3) := by decide +kernel
theorem dX10_home_26 : decode cX10_home 26 = .ok (.aload_n 0, 1) := by decide +kernel
theorem dX10_home_27 : decode cX10_home 27 = .ok (.getfield 45, 3) := by decide +kernel
theorem dX10_home_30 : decode cX10_home 30 = .ok (.invokevirtual 186, 3) := by decide +kernel
theorem dX10_home_33 : decode cX10_home 33 = .ok (.iconst (-1), 1) := by decide +kernel
theorem dX10_home_34 : decode cX10_home 34 = .ok (.if_icmp .ne 17, 3) := by decide +kernel
theorem dX10_home_37 : decode cX10_home 37 = .ok (.aload_n 0, 1) := by decide +kernel
theorem dX10_home_38 : decode cX10_home 38 = .ok (.getfield 45, 3) := by decide +kernel
theorem dX10_home_41 : decode cX10_home 41 = .ok (.invokevirtual 189, 3) := by decide +kernel
theorem dX10_home_44 : decode cX10_home 44 = .ok (.ifCond .ne 7, 3) := by decide +kernel
theorem dX10_home_47 : decode cX10_home 47 = .ok (.iconst 1, 1) := by decide +kernel
theorem dX10_home_48 : decode cX10_home 48 = .ok (.goto 4, 3) := by decide +kernel
theorem dX10_home_51 : decode cX10_home 51 = .ok (.iconst 0, 1) := by decide +kernel
theorem dX10_home_52 : decode cX10_home 52 = .ok (.ireturn, 1) := by decide +kernel
theorem dX10_unlit_0 : decode cX10_unlit 0 = .ok (.iload_n 1, 1) := by decide +kernel
theorem dX10_unlit_1 : decode cX10_unlit 1 = .ok (.iconst 0, 1) := by decide +kernel
theorem dX10_unlit_2 : decode cX10_unlit 2 = .ok (.bipush 10, 2) := by decide +kernel
theorem dX10_unlit_4 : decode cX10_unlit 4 = .ok (.invokestatic 88, 3) := by decide +kernel
theorem dX10_unlit_7 : decode cX10_unlit 7 = .ok (.ifCond .eq 18, 3) := by decide +kernel
theorem dX10_unlit_10 : decode cX10_unlit 10 = .ok (.iload_n 1, 1) := by decide +kernel
theorem dX10_unlit_11 : decode cX10_unlit 11 = .ok (.aload_n 0, 1) := by decide +kernel
theorem dX10_unlit_12 : decode cX10_unlit 12 = .ok (.getfield 24, 3) := by decide +kernel
theorem dX10_unlit_15 : decode cX10_unlit 15 = .ok (.invokevirtual 114, 3) := by decide +kernel
theorem dX10_unlit_18 : decode cX10_unlit 18 = .ok (.if_icmp .gt 7, 3) := by decide +kernel
theorem dX10_unlit_21 : decode cX10_unlit 21 = .ok (.iconst 1, 1) := by decide +kernel
theorem dX10_unlit_22 : decode cX10_unlit 22 = .ok (.goto 4, 3) := by decide +kernel
theorem dX10_unlit_25 : decode cX10_unlit 25 = .ok (.iconst 0, 1) := by decide +kernel
theorem dX10_unlit_26 : decode cX10_unlit 26 = .ok (.istore 4, 2) := by decide +kernel
theorem dX10_unlit_28 : decode cX10_unlit 28 = .ok (.iload 4, 2) := by decide +kernel
theorem dX10_unlit_30 : decode cX10_unlit 30 = .ok (.ifCond .eq 20, 3) := by decide +kernel
theorem dX10_unlit_33 : decode cX10_unlit 33 = .ok (.aload_n 0, 1) := by decide +kernel
theorem dX10_unlit_34 : decode cX10_unlit 34 = .ok (.iload_n 2, 1) := by decide +kernel
theorem dX10_unlit_35 : decode cX10_unlit 35 = .ok (.invokevirtual 154, 3) := by decide +kernel
theorem dX10_unlit_38 : decode cX10_unlit 38 = .ok (.ifCond .eq 12, 3) := by decide +kernel
theorem dX10_unlit_41 : decode cX10_unlit 41 = .ok (.iload_n 3, 1) := by decide +kernel
theorem dX10_unlit_42 : decode cX10_unlit 42 = .ok (.iconst 0, 1) := by decide +kernel
theorem dX10_unlit_43 : decode cX10_unlit 43 = .ok (.iconst 1, 1) := by decide +kernel
theorem dX10_unlit_44 : decode cX10_unlit 44 = .ok (.invokestatic 88, 3) := by decide +kernel
theorem dX10_unlit_47 : decode cX10_unlit 47 = .ok (.ifCond .ne 6, 3) := by decide +kernel
theorem dX10_unlit_50 : decode cX10_unlit 50 = .ok (.bipush (-2), 2) := by decide +kernel
theorem dX10_unlit_52 : decode cX10_unlit 52 = .ok (.ireturn, 1) := by decide +kernel
theorem dX10_unlit_53 : decode cX10_unlit 53 = .ok (.aload_n 0, 1) := by decide +kernel
theorem dX10_unlit_54 : decode cX10_unlit 54 = .ok (.getfield 52, 3) := by decide +kernel
theorem dX10_unlit_57 : decode cX10_unlit 57 = .ok (.aload_n 0, 1) := by decide +kernel
theorem dX10_unlit_58 : decode cX10_unlit 58 = .ok (.getfield 24, 3) := by decide +kernel
theorem dX10_unlit_61 : decode cX10_unlit 61 = .ok (.iload_n 1, 1) := by decide +kernel
theorem dX10_unlit_62 : decode cX10_unlit 62 = .ok (.aload_n 0, 1) := by decide +kernel
theorem dX10_unlit_63 : decode cX10_unlit 63 = .ok (.getfield 38, 3) := by decide +kernel
theorem dX10_unlit_66 : decode cX10_unlit 66 = .ok (.iload_n 2, 1) := by decide +kernel
theorem dX10_unlit_67 : decode cX10_unlit 67 = .ok (.invokevirtual 127, 3) := by decide +kernel
theorem dX10_unlit_70 : decode cX10_unlit 70 = .ok (.invokevirtual 198, 3) := by decide +kernel
theorem dX10_unlit_73 : decode cX10_unlit 73 = .ok (.iload_n 3, 1) := by decide +kernel
theorem dX10_unlit_74 : decode cX10_unlit 74 = .ok (.ifCond .ne 13, 3) := by decide +kernel
theorem dX10_unlit_77 : decode cX10_unlit 77 = .ok (.aload_n 0, 1) := by decide +kernel
theorem dX10_unlit_78 : decode cX10_unlit 78 = .ok (.getfield 52, 3) := by decide +kernel
theorem dX10_unlit_81 : decode cX10_unlit 81 = .ok (.invokevirtual 202, 3) := by decide +kernel
theorem dX10_unlit_84 : decode cX10_unlit 84 = .ok (.goto 10, 3) := by decide +kernel
theorem dX10_unlit_87 : decode cX10_unlit 87 = .ok (.aload_n 0, 1) := by decide +kernel
theorem dX10_unlit_88 : decode cX10_unlit 88 = .ok (.getfield 52, 3) := by decide +kernel
theorem dX10_unlit_91 : decode cX10_unlit 91 = .ok (.invokevirtual 205, 3) := by decide +kernel
theorem dX10_unlit_94 : decode cX10_unlit 94 = .ok (.ireturn, 1) := by decide +kernel
theorem dX10_help_0 : decode cX10_help 0 = .ok (.iload_n 1, 1) := by decide +kernel
theorem dX10_help_1 : decode cX10_help 1 = .ok (.iconst 1, 1) := by decide +kernel
theorem dX10_help_2 : decode cX10_help 2 = .ok (.bipush 6, 2) := by decide +kernel
theorem dX10_help_4 : decode cX10_help 4 = .ok (.invokestatic 88, 3) := by decide +kernel
theorem dX10_help_7 : decode cX10_help 7 = .ok (.ifCond .eq 23, 3) := by decide +kernel
theorem dX10_help_10 : decode cX10_help 10 = .ok (.iload_n 2, 1) := by decide +kernel
theorem dX10_help_11 : decode cX10_help 11 = .ok (.iconst 1, 1) := by decide +kernel
theorem dX10_help_12 : decode cX10_help 12 = .ok (.sipush 999, 3) := by decide +kernel
theorem dX10_help_15 : decode cX10_help 15 = .ok (.invokestatic 88, 3) := by decide +kernel
theorem dX10_help_18 : decode cX10_help 18 = .ok (.ifCond .eq 12, 3) := by decide +kernel
theorem dX10_help_21 : decode cX10_help 21 = .ok (.iload_n 3, 1) := by decide +kernel
theorem dX10_help_22 : decode cX10_help 22 = .ok (.iconst 0, 1) := by decide +kernel
theorem dX10_help_23 : decode cX10_help 23 = .ok (.iconst 1, 1) := by decide +kernel
theorem dX10_help_24 : decode cX10_help 24 = .ok (.invokestatic 88, 3) := by decide +kernel
theorem dX10_help_27 : decode cX10_help 27 = .ok (.ifCond .ne 9, 3) := by decide +kernel
theorem dX10_help_30 : decode cX10_help 30 = .ok (.bipush (-2), 2) := by decide +kernel
theorem dX10_help_32 : decode cX10_help 32 = .ok (.invokestatic 157, 3) := by decide +kernel
theorem dX10_help_35 : decode cX10_help 35 = .ok (.lreturn, 1) := by decide +kernel
theorem dX10_help_36 : decode cX10_help 36 = .ok (.aload_n 0, 1) := by decide +kernel
theorem dX10_help_37 : decode cX10_help 37 = .ok (.iload_n 1, 1) := by decide +kernel
theorem dX10_help_38 : decode cX10_help 38 = .ok (.iload_n 2, 1) := by decide +kernel
theorem dX10_help_39 : decode cX10_help 39 = .ok (.invokevirtual 208, 3) := by decide +kernel
theorem dX10_help_42 : decode cX10_help 42 = .ok (.aload_n 0, 1) := by decide +kernel
theorem dX10_help_43 : decode cX10_help 43 = .ok (.getfield 80, 3) := by decide +kernel
theorem dX10_help_46 : decode cX10_help 46 = .ok (.iload_n 3, 1) := by decide +kernel
theorem dX10_help_47 : decode cX10_help 47 = .ok (.invokevirtual 165, 3) := by decide +kernel
theorem dX10_help_50 : decode cX10_help 50 = .ok (.lreturn, 1) := by decide +kernel
theorem dX10_least_0 : decode cX10_least 0 = .ok (.iload_n 1, 1) := by decide +kernel
theorem dX10_least_1 : decode cX10_least 1 = .ok (.iconst 1, 1) := by decide +kernel
theorem dX10_least_2 : decode cX10_least 2 = .ok (.sipush 999, 3) := by decide +kernel
theorem dX10_least_5 : decode cX10_least 5 = .ok (.invokestatic 88, 3) := by decide +kernel
theorem dX10_least_8 : decode cX10_least 8 = .ok (.ifCond .eq 14, 3) := by decide +kernel
theorem dX10_least_11 : decode cX10_least 11 = .ok (.iload_n 2, 1) := by decide +kernel
theorem dX10_least_12 : decode cX10_least 12 = .ok (.iconst 1, 1) := by decide +kernel
theorem dX10_least_13 : decode cX10_least 13 = .ok (.sipush 999, 3) := by decide +kernel
theorem dX10_least_16 : decode cX10_least 16 = .ok (.invokestatic 88, 3) := by decide +kernel
theorem dX10_least_19 : decode cX10_least 19 = .ok (.ifCond .ne 6, 3) := by decide +kernel
theorem dX10_least_22 : decode cX10_least 22 = .ok (.bipush (-2), 2) := by decide +kernel
theorem dX10_least_24 : decode cX10_least 24 = .ok (.ireturn, 1) := by decide +kernel
theorem dX10_least_25 : decode cX10_least 25 = .ok (.iconst 1, 1) := by decide +kernel
theorem dX10_least_26 : decode cX10_least 26 = .ok (.istore_n 3, 1) := by decide +kernel
theorem dX10_least_27 : decode cX10_least 27 = .ok (.iload_n 3, 1) := by decide +kernel
theorem dX10_least_28 : decode cX10_least 28 = .ok (.bipush 6, 2) := by decide +kernel
theorem dX10_least_30 : decode cX10_least 30 = .ok (.if_icmp .gt 40, 3) := by decide +kernel
theorem dX10_least_33 : decode cX10_least 33 = .ok (.aload_n 0, 1) := by decide +kernel
theorem dX10_least_34 : decode cX10_least 34 = .ok (.iload_n 3, 1) := by decide +kernel
theorem dX10_least_35 : decode cX10_least 35 = .ok (.iload_n 2, 1) := by decide +kernel
theorem dX10_least_36 : decode cX10_least 36 = .ok (.invokevirtual 208, 3) := by decide +kernel
theorem dX10_least_39 : decode cX10_least 39 = .ok (.aload_n 0, 1) := by decide +kernel
theorem dX10_least_40 : decode cX10_least 40 = .ok (.getfield 80, 3) := by decide +kernel
theorem dX10_least_43 : decode cX10_least 43 = .ok (.iconst 0, 1) := by decide +kernel
theorem dX10_least_44 : decode cX10_least 44 = .ok (.invokevirtual 165, 3) := by decide +kernel
theorem dX10_least_47 : decode cX10_least 47 = .ok (.iload_n 1, 1) := by decide +kernel
theorem dX10_least_48 : decode cX10_least 48 = .ok (.i2l, 1) := by decide +kernel
theorem dX10_least_49 : decode cX10_least 49 = .ok (.aload_n 0, 1) := by decide +kernel
theorem dX10_least_50 : decode cX10_least 50 = .ok (.getfield 80, 3) := by decide +kernel
theorem dX10_least_53 : decode cX10_least 53 = .ok (.iconst 1, 1) := by decide +kernel
theorem dX10_least_54 : decode cX10_least 54 = .ok (.invokevirtual 165, 3) := by decide +kernel
theorem dX10_least_57 : decode cX10_least 57 = .ok (.lmul, 1) := by decide +kernel
theorem dX10_least_58 : decode cX10_least 58 = .ok (.lcmp, 1) := by decide +kernel
theorem dX10_least_59 : decode cX10_least 59 = .ok (.ifCond .lt 5, 3) := by decide +kernel
theorem dX10_least_62 : decode cX10_least 62 = .ok (.iload_n 3, 1) := by decide +kernel
theorem dX10_least_63 : decode cX10_least 63 = .ok (.ireturn, 1) := by decide +kernel
theorem dX10_least_64 : decode cX10_least 64 = .ok (.iinc 3 1, 3) := by decide +kernel
theorem dX10_least_67 : decode cX10_least 67 = .ok (.goto (-40), 3) := by decide +kernel
theorem dX10_least_70 : decode cX10_least 70 = .ok (.iconst (-1), 1) := by decide +kernel
theorem dX10_least_71 : decode cX10_least 71 = .ok (.ireturn, 1) := by decide +kernel
theorem dX10_side_0 : decode cX10_side 0 = .ok (.iload_n 1, 1) := by decide +kernel
theorem dX10_side_1 : decode cX10_side 1 = .ok (.iconst 0, 1) := by decide +kernel
theorem dX10_side_2 : decode cX10_side 2 = .ok (.bipush 16, 2) := by decide +kernel
theorem dX10_side_4 : decode cX10_side 4 = .ok (.invokestatic 88, 3) := by decide +kernel
theorem dX10_side_7 : decode cX10_side 7 = .ok (.ifCond .eq 13, 3) := by decide +kernel
theorem dX10_side_10 : decode cX10_side 10 = .ok (.iload_n 2, 1) := by decide +kernel
theorem dX10_side_11 : decode cX10_side 11 = .ok (.iconst 1, 1) := by decide +kernel
theorem dX10_side_12 : decode cX10_side 12 = .ok (.bipush 99, 2) := by decide +kernel
theorem dX10_side_14 : decode cX10_side 14 = .ok (.invokestatic 88, 3) := by decide +kernel
theorem dX10_side_17 : decode cX10_side 17 = .ok (.ifCond .ne 6, 3) := by decide +kernel
theorem dX10_side_20 : decode cX10_side 20 = .ok (.bipush (-2), 2) := by decide +kernel
theorem dX10_side_22 : decode cX10_side 22 = .ok (.ireturn, 1) := by decide +kernel
theorem dX10_side_23 : decode cX10_side 23 = .ok (.aload_n 0, 1) := by decide +kernel
theorem dX10_side_24 : decode cX10_side 24 = .ok (.getfield 59, 3) := by decide +kernel
theorem dX10_side_27 : decode cX10_side 27 = .ok (.iload_n 1, 1) := by decide +kernel
theorem dX10_side_28 : decode cX10_side 28 = .ok (.iload_n 2, 1) := by decide +kernel
theorem dX10_side_29 : decode cX10_side 29 = .ok (.invokevirtual 211, 3) := by decide +kernel
theorem dX10_side_32 : decode cX10_side 32 = .ok (.ifCond .eq 13, 3) := by decide +kernel
theorem dX10_side_35 : decode cX10_side 35 = .ok (.aload_n 0, 1) := by decide +kernel
theorem dX10_side_36 : decode cX10_side 36 = .ok (.getfield 59, 3) := by decide +kernel
theorem dX10_side_39 : decode cX10_side 39 = .ok (.invokevirtual 215, 3) := by decide +kernel
theorem dX10_side_42 : decode cX10_side 42 = .ok (.goto 5, 3) := by decide +kernel
theorem dX10_side_45 : decode cX10_side 45 = .ok (.bipush (-4), 2) := by decide +kernel
theorem dX10_side_47 : decode cX10_side 47 = .ok (.ireturn, 1) := by decide +kernel
theorem dX10_gone_0 : decode cX10_gone 0 = .ok (.aload_n 0, 1) := by decide +kernel
theorem dX10_gone_1 : decode cX10_gone 1 = .ok (.getfield 59, 3) := by decide +kernel
theorem dX10_gone_4 : decode cX10_gone 4 = .ok (.invokevirtual 216, 3) := by decide +kernel
theorem dX10_gone_7 : decode cX10_gone 7 = .ok (.ifCond .eq 13, 3) := by decide +kernel
theorem dX10_gone_10 : decode cX10_gone 10 = .ok (.aload_n 0, 1) := by decide +kernel
theorem dX10_gone_11 : decode cX10_gone 11 = .ok (.getfield 59, 3) := by decide +kernel
theorem dX10_gone_14 : decode cX10_gone 14 = .ok (.invokevirtual 215, 3) := by decide +kernel
theorem dX10_gone_17 : decode cX10_gone 17 = .ok (.goto 5, 3) := by decide +kernel
theorem dX10_gone_20 : decode cX10_gone 20 = .ok (.bipush (-3), 2) := by decide +kernel
theorem dX10_gone_22 : decode cX10_gone 22 = .ok (.ireturn, 1) := by decide +kernel
theorem dX10_first_0 : decode cX10_first 0 = .ok (.iload_n 1, 1) := by decide +kernel
theorem dX10_first_1 : decode cX10_first 1 = .ok (.iconst 0, 1) := by decide +kernel
theorem dX10_first_2 : decode cX10_first 2 = .ok (.iconst 5, 1) := by decide +kernel
theorem dX10_first_3 : decode cX10_first 3 = .ok (.invokestatic 88, 3) := by decide +kernel
theorem dX10_first_6 : decode cX10_first 6 = .ok (.ifCond .ne 6, 3) := by decide +kernel
theorem dX10_first_9 : decode cX10_first 9 = .ok (.bipush (-2), 2) := by decide +kernel
theorem dX10_first_11 : decode cX10_first 11 = .ok (.ireturn, 1) := by decide +kernel
theorem dX10_first_12 : decode cX10_first 12 = .ok (.aload_n 0, 1) := by decide +kernel
theorem dX10_first_13 : decode cX10_first 13 = .ok (.getfield 59, 3) := by decide +kernel
theorem dX10_first_16 : decode cX10_first 16 = .ok (.iload_n 1, 1) := by decide +kernel
theorem dX10_first_17 : decode cX10_first 17 = .ok (.invokevirtual 219, 3) := by decide +kernel
theorem dX10_first_20 : decode cX10_first 20 = .ok (.ireturn, 1) := by decide +kernel
theorem dX10_mean_0 : decode cX10_mean 0 = .ok (.iload_n 1, 1) := by decide +kernel
theorem dX10_mean_1 : decode cX10_mean 1 = .ok (.iconst 0, 1) := by decide +kernel
theorem dX10_mean_2 : decode cX10_mean 2 = .ok (.iconst 1, 1) := by decide +kernel
theorem dX10_mean_3 : decode cX10_mean 3 = .ok (.invokestatic 88, 3) := by decide +kernel
theorem dX10_mean_6 : decode cX10_mean 6 = .ok (.ifCond .ne 9, 3) := by decide +kernel
theorem dX10_mean_9 : decode cX10_mean 9 = .ok (.bipush (-2), 2) := by decide +kernel
theorem dX10_mean_11 : decode cX10_mean 11 = .ok (.invokestatic 157, 3) := by decide +kernel
theorem dX10_mean_14 : decode cX10_mean 14 = .ok (.lreturn, 1) := by decide +kernel
theorem dX10_mean_15 : decode cX10_mean 15 = .ok (.aload_n 0, 1) := by decide +kernel
theorem dX10_mean_16 : decode cX10_mean 16 = .ok (.getfield 80, 3) := by decide +kernel
theorem dX10_mean_19 : decode cX10_mean 19 = .ok (.aload_n 0, 1) := by decide +kernel
theorem dX10_mean_20 : decode cX10_mean 20 = .ok (.getfield 59, 3) := by decide +kernel
theorem dX10_mean_23 : decode cX10_mean 23 = .ok (.invokevirtual 222, 3) := by decide +kernel
theorem dX10_mean_26 : decode cX10_mean 26 = .ok (.i2l, 1) := by decide +kernel
theorem dX10_mean_27 : decode cX10_mean 27 = .ok (.ldc2_w 225, 3) := by decide +kernel
theorem dX10_mean_30 : decode cX10_mean 30 = .ok (.invokevirtual 227, 3) := by decide +kernel
theorem dX10_mean_33 : decode cX10_mean 33 = .ok (.aload_n 0, 1) := by decide +kernel
theorem dX10_mean_34 : decode cX10_mean 34 = .ok (.getfield 80, 3) := by decide +kernel
theorem dX10_mean_37 : decode cX10_mean 37 = .ok (.iload_n 1, 1) := by decide +kernel
theorem dX10_mean_38 : decode cX10_mean 38 = .ok (.invokevirtual 165, 3) := by decide +kernel
theorem dX10_mean_41 : decode cX10_mean 41 = .ok (.lreturn, 1) := by decide +kernel
theorem dX10_can_0 : decode cX10_can 0 = .ok (.iload_n 1, 1) := by decide +kernel
theorem dX10_can_1 : decode cX10_can 1 = .ok (.iconst 0, 1) := by decide +kernel
theorem dX10_can_2 : decode cX10_can 2 = .ok (.bipush 16, 2) := by decide +kernel
theorem dX10_can_4 : decode cX10_can 4 = .ok (.invokestatic 88, 3) := by decide +kernel
theorem dX10_can_7 : decode cX10_can 7 = .ok (.ifCond .eq 37, 3) := by decide +kernel
theorem dX10_can_10 : decode cX10_can 10 = .ok (.iload_n 2, 1) := by decide +kernel
theorem dX10_can_11 : decode cX10_can 11 = .ok (.iconst 0, 1) := by decide +kernel
theorem dX10_can_12 : decode cX10_can 12 = .ok (.iconst 3, 1) := by decide +kernel
theorem dX10_can_13 : decode cX10_can 13 = .ok (.invokestatic 88, 3) := by decide +kernel
theorem dX10_can_16 : decode cX10_can 16 = .ok (.ifCond .eq 28, 3) := by decide +kernel
theorem dX10_can_19 : decode cX10_can 19 = .ok (.iload_n 3, 1) := by decide +kernel
theorem dX10_can_20 : decode cX10_can 20 = .ok (.iconst 0, 1) := by decide +kernel
theorem dX10_can_21 : decode cX10_can 21 = .ok (.sipush 999, 3) := by decide +kernel
theorem dX10_can_24 : decode cX10_can 24 = .ok (.invokestatic 88, 3) := by decide +kernel
theorem dX10_can_27 : decode cX10_can 27 = .ok (.ifCond .eq 17, 3) := by decide +kernel
theorem dX10_can_30 : decode cX10_can 30 = .ok (.iload 4, 2) := by decide +kernel
theorem dX10_can_32 : decode cX10_can 32 = .ok (.iconst 0, 1) := by decide +kernel
theorem dX10_can_33 : decode cX10_can 33 = .ok (.iconst 1, 1) := by decide +kernel
theorem dX10_can_34 : decode cX10_can 34 = .ok (.invokestatic 88, 3) := by decide +kernel
theorem dX10_can_37 : decode cX10_can 37 = .ok (.ifCond .eq 7, 3) := by decide +kernel
theorem dX10_can_40 : decode cX10_can 40 = .ok (.iconst 1, 1) := by decide +kernel
theorem dX10_can_41 : decode cX10_can 41 = .ok (.goto 4, 3) := by decide +kernel
theorem dX10_can_44 : decode cX10_can 44 = .ok (.iconst 0, 1) := by decide +kernel
theorem dX10_can_45 : decode cX10_can 45 = .ok (.istore 5, 2) := by decide +kernel
theorem dX10_can_47 : decode cX10_can 47 = .ok (.iload 5, 2) := by decide +kernel
theorem dX10_can_49 : decode cX10_can 49 = .ok (.ifCond .ne 6, 3) := by decide +kernel
theorem dX10_can_52 : decode cX10_can 52 = .ok (.bipush (-2), 2) := by decide +kernel
theorem dX10_can_54 : decode cX10_can 54 = .ok (.ireturn, 1) := by decide +kernel
theorem dX10_can_55 : decode cX10_can 55 = .ok (.aload_n 0, 1) := by decide +kernel
theorem dX10_can_56 : decode cX10_can 56 = .ok (.getfield 66, 3) := by decide +kernel
theorem dX10_can_59 : decode cX10_can 59 = .ok (.iload_n 1, 1) := by decide +kernel
theorem dX10_can_60 : decode cX10_can 60 = .ok (.iload_n 2, 1) := by decide +kernel
theorem dX10_can_61 : decode cX10_can 61 = .ok (.iload_n 3, 1) := by decide +kernel
theorem dX10_can_62 : decode cX10_can 62 = .ok (.iload 4, 2) := by decide +kernel
theorem dX10_can_64 : decode cX10_can 64 = .ok (.invokevirtual 231, 3) := by decide +kernel
theorem dX10_can_67 : decode cX10_can 67 = .ok (.ifCond .eq 13, 3) := by decide +kernel
theorem dX10_can_70 : decode cX10_can 70 = .ok (.aload_n 0, 1) := by decide +kernel
theorem dX10_can_71 : decode cX10_can 71 = .ok (.getfield 66, 3) := by decide +kernel
theorem dX10_can_74 : decode cX10_can 74 = .ok (.invokevirtual 234, 3) := by decide +kernel
theorem dX10_can_77 : decode cX10_can 77 = .ok (.goto 5, 3) := by decide +kernel
theorem dX10_can_80 : decode cX10_can 80 = .ok (.bipush (-4), 2) := by decide +kernel
theorem dX10_can_82 : decode cX10_can 82 = .ok (.ireturn, 1) := by decide +kernel
theorem dX10_forget_0 : decode cX10_forget 0 = .ok (.aload_n 0, 1) := by decide +kernel
theorem dX10_forget_1 : decode cX10_forget 1 = .ok (.getfield 66, 3) := by decide +kernel
theorem dX10_forget_4 : decode cX10_forget 4 = .ok (.invokevirtual 234, 3) := by decide +kernel
theorem dX10_forget_7 : decode cX10_forget 7 = .ok (.istore_n 1, 1) := by decide +kernel
theorem dX10_forget_8 : decode cX10_forget 8 = .ok (.aload_n 0, 1) := by decide +kernel
theorem dX10_forget_9 : decode cX10_forget 9 = .ok (.getfield 66, 3) := by decide +kernel
theorem dX10_forget_12 : decode cX10_forget 12 = .ok (.invokevirtual 235, 3) := by decide +kernel
theorem dX10_forget_15 : decode cX10_forget 15 = .ok (.iload_n 1, 1) := by decide +kernel
theorem dX10_forget_16 : decode cX10_forget 16 = .ok (.ireturn, 1) := by decide +kernel
theorem dX10_turned_0 : decode cX10_turned 0 = .ok (.iconst 0, 1) := by decide +kernel
theorem dX10_turned_1 : decode cX10_turned 1 = .ok (.istore_n 1, 1) := by decide +kernel
theorem dX10_turned_2 : decode cX10_turned 2 = .ok (.iconst 0, 1) := by decide +kernel
theorem dX10_turned_3 : decode cX10_turned 3 = .ok (.istore_n 2, 1) := by decide +kernel
theorem dX10_turned_4 : decode cX10_turned 4 = .ok (.iload_n 2, 1) := by decide +kernel
theorem dX10_turned_5 : decode cX10_turned 5 = .ok (.aload_n 0, 1) := by decide +kernel
theorem dX10_turned_6 : decode cX10_turned 6 = .ok (.getfield 24, 3) := by decide +kernel
theorem dX10_turned_9 : decode cX10_turned 9 = .ok (.invokevirtual 114, 3) := by decide +kernel
theorem dX10_turned_12 : decode cX10_turned 12 = .ok (.if_icmp .gt 34, 3) := by decide +kernel
theorem dX10_turned_15 : decode cX10_turned 15 = .ok (.aload_n 0, 1) := by decide +kernel
theorem dX10_turned_16 : decode cX10_turned 16 = .ok (.getfield 66, 3) := by decide +kernel
theorem dX10_turned_19 : decode cX10_turned 19 = .ok (.iload_n 2, 1) := by decide +kernel
theorem dX10_turned_20 : decode cX10_turned 20 = .ok (.aload_n 0, 1) := by decide +kernel
theorem dX10_turned_21 : decode cX10_turned 21 = .ok (.getfield 24, 3) := by decide +kernel
theorem dX10_turned_24 : decode cX10_turned 24 = .ok (.aload_n 0, 1) := by decide +kernel
theorem dX10_turned_25 : decode cX10_turned 25 = .ok (.getfield 38, 3) := by decide +kernel
theorem dX10_turned_28 : decode cX10_turned 28 = .ok (.invokevirtual 236, 3) := by decide +kernel
theorem dX10_turned_31 : decode cX10_turned 31 = .ok (.ifCond .eq 9, 3) := by decide +kernel
theorem dX10_turned_34 : decode cX10_turned 34 = .ok (.iload_n 1, 1) := by decide +kernel
theorem dX10_turned_35 : decode cX10_turned 35 = .ok (.iconst 1, 1) := by decide +kernel
theorem dX10_turned_36 : decode cX10_turned 36 = .ok (.iload_n 2, 1) := by decide +kernel
theorem dX10_turned_37 : decode cX10_turned 37 = .ok (.ishl, 1) := by decide +kernel
theorem dX10_turned_38 : decode cX10_turned 38 = .ok (.ior, 1) := by decide +kernel
theorem dX10_turned_39 : decode cX10_turned 39 = .ok (.istore_n 1, 1) := by decide +kernel
theorem dX10_turned_40 : decode cX10_turned 40 = .ok (.iinc 2 1, 3) := by decide +kernel
theorem dX10_turned_43 : decode cX10_turned 43 = .ok (.goto (-39), 3) := by decide +kernel
theorem dX10_turned_46 : decode cX10_turned 46 = .ok (.iload_n 1, 1) := by decide +kernel
theorem dX10_turned_47 : decode cX10_turned 47 = .ok (.ireturn, 1) := by decide +kernel
theorem dX10_sheet_0 : decode cX10_sheet 0 = .ok (.iload_n 1, 1) := by decide +kernel
theorem dX10_sheet_1 : decode cX10_sheet 1 = .ok (.invokestatic 135, 3) := by decide +kernel
theorem dX10_sheet_4 : decode cX10_sheet 4 = .ok (.ifCond .eq 16, 3) := by decide +kernel
theorem dX10_sheet_7 : decode cX10_sheet 7 = .ok (.iload_n 2, 1) := by decide +kernel
theorem dX10_sheet_8 : decode cX10_sheet 8 = .ok (.invokestatic 240, 3) := by decide +kernel
theorem dX10_sheet_11 : decode cX10_sheet 11 = .ok (.ifCond .eq 9, 3) := by decide +kernel
theorem dX10_sheet_14 : decode cX10_sheet 14 = .ok (.iload_n 3, 1) := by decide +kernel
theorem dX10_sheet_15 : decode cX10_sheet 15 = .ok (.bipush 60, 2) := by decide +kernel
theorem dX10_sheet_17 : decode cX10_sheet 17 = .ok (.if_icmp .le 6, 3) := by decide +kernel
theorem dX10_sheet_20 : decode cX10_sheet 20 = .ok (.bipush (-2), 2) := by decide +kernel
theorem dX10_sheet_22 : decode cX10_sheet 22 = .ok (.ireturn, 1) := by decide +kernel
theorem dX10_sheet_23 : decode cX10_sheet 23 = .ok (.iload_n 3, 1) := by decide +kernel
theorem dX10_sheet_24 : decode cX10_sheet 24 = .ok (.ifCond .ge 12, 3) := by decide +kernel
theorem dX10_sheet_27 : decode cX10_sheet 27 = .ok (.aload_n 0, 1) := by decide +kernel
theorem dX10_sheet_28 : decode cX10_sheet 28 = .ok (.getfield 73, 3) := by decide +kernel
theorem dX10_sheet_31 : decode cX10_sheet 31 = .ok (.iconst 5, 1) := by decide +kernel
theorem dX10_sheet_32 : decode cX10_sheet 32 = .ok (.invokevirtual 141, 3) := by decide +kernel
theorem dX10_sheet_35 : decode cX10_sheet 35 = .ok (.ireturn, 1) := by decide +kernel
theorem dX10_sheet_36 : decode cX10_sheet 36 = .ok (.aload_n 0, 1) := by decide +kernel
theorem dX10_sheet_37 : decode cX10_sheet 37 = .ok (.getfield 73, 3) := by decide +kernel
theorem dX10_sheet_40 : decode cX10_sheet 40 = .ok (.iload_n 1, 1) := by decide +kernel
theorem dX10_sheet_41 : decode cX10_sheet 41 = .ok (.iload_n 2, 1) := by decide +kernel
theorem dX10_sheet_42 : decode cX10_sheet 42 = .ok (.iload_n 3, 1) := by decide +kernel
theorem dX10_sheet_43 : decode cX10_sheet 43 = .ok (.invokevirtual 243, 3) := by decide +kernel
theorem dX10_sheet_46 : decode cX10_sheet 46 = .ok (.iload_n 3, 1) := by decide +kernel
theorem dX10_sheet_47 : decode cX10_sheet 47 = .ok (.ireturn, 1) := by decide +kernel
theorem dX10_lose_0 : decode cX10_lose 0 = .ok (.iload_n 1, 1) := by decide +kernel
theorem dX10_lose_1 : decode cX10_lose 1 = .ok (.invokestatic 135, 3) := by decide +kernel
theorem dX10_lose_4 : decode cX10_lose 4 = .ok (.ifCond .ne 6, 3) := by decide +kernel
theorem dX10_lose_7 : decode cX10_lose 7 = .ok (.bipush (-2), 2) := by decide +kernel
theorem dX10_lose_9 : decode cX10_lose 9 = .ok (.ireturn, 1) := by decide +kernel
theorem dX10_lose_10 : decode cX10_lose 10 = .ok (.aload_n 0, 1) := by decide +kernel
theorem dX10_lose_11 : decode cX10_lose 11 = .ok (.getfield 73, 3) := by decide +kernel
theorem dX10_lose_14 : decode cX10_lose 14 = .ok (.iload_n 1, 1) := by decide +kernel
theorem dX10_lose_15 : decode cX10_lose 15 = .ok (.invokevirtual 138, 3) := by decide +kernel
theorem dX10_lose_18 : decode cX10_lose 18 = .ok (.ifCond .eq 12, 3) := by decide +kernel
theorem dX10_lose_21 : decode cX10_lose 21 = .ok (.aload_n 0, 1) := by decide +kernel
theorem dX10_lose_22 : decode cX10_lose 22 = .ok (.getfield 73, 3) := by decide +kernel
theorem dX10_lose_25 : decode cX10_lose 25 = .ok (.iconst 1, 1) := by decide +kernel
theorem dX10_lose_26 : decode cX10_lose 26 = .ok (.invokevirtual 141, 3) := by decide +kernel
theorem dX10_lose_29 : decode cX10_lose 29 = .ok (.ireturn, 1) := by decide +kernel
theorem dX10_lose_30 : decode cX10_lose 30 = .ok (.aload_n 0, 1) := by decide +kernel
theorem dX10_lose_31 : decode cX10_lose 31 = .ok (.getfield 73, 3) := by decide +kernel
theorem dX10_lose_34 : decode cX10_lose 34 = .ok (.iload_n 1, 1) := by decide +kernel
theorem dX10_lose_35 : decode cX10_lose 35 = .ok (.invokevirtual 144, 3) := by decide +kernel
theorem dX10_lose_38 : decode cX10_lose 38 = .ok (.istore_n 2, 1) := by decide +kernel
theorem dX10_lose_39 : decode cX10_lose 39 = .ok (.aload_n 0, 1) := by decide +kernel
theorem dX10_lose_40 : decode cX10_lose 40 = .ok (.getfield 73, 3) := by decide +kernel
theorem dX10_lose_43 : decode cX10_lose 43 = .ok (.iload_n 1, 1) := by decide +kernel
theorem dX10_lose_44 : decode cX10_lose 44 = .ok (.invokevirtual 247, 3) := by decide +kernel
theorem dX10_lose_47 : decode cX10_lose 47 = .ok (.iload_n 2, 1) := by decide +kernel
theorem dX10_lose_48 : decode cX10_lose 48 = .ok (.ireturn, 1) := by decide +kernel
theorem dX10_lay_0 : decode cX10_lay 0 = .ok (.aload_n 0, 1) := by decide +kernel
theorem dX10_lay_1 : decode cX10_lay 1 = .ok (.getfield 73, 3) := by decide +kernel
theorem dX10_lay_4 : decode cX10_lay 4 = .ok (.iload_n 1, 1) := by decide +kernel
theorem dX10_lay_5 : decode cX10_lay 5 = .ok (.iload_n 2, 1) := by decide +kernel
theorem dX10_lay_6 : decode cX10_lay 6 = .ok (.iload_n 3, 1) := by decide +kernel
theorem dX10_lay_7 : decode cX10_lay 7 = .ok (.invokevirtual 250, 3) := by decide +kernel
theorem dX10_lay_10 : decode cX10_lay 10 = .ok (.istore 5, 2) := by decide +kernel
theorem dX10_lay_12 : decode cX10_lay 12 = .ok (.iload 5, 2) := by decide +kernel
theorem dX10_lay_14 : decode cX10_lay 14 = .ok (.ifCond .eq 6, 3) := by decide +kernel
theorem dX10_lay_17 : decode cX10_lay 17 = .ok (.iload 5, 2) := by decide +kernel
theorem dX10_lay_19 : decode cX10_lay 19 = .ok (.ireturn, 1) := by decide +kernel
theorem dX10_lay_20 : decode cX10_lay 20 = .ok (.aload_n 0, 1) := by decide +kernel
theorem dX10_lay_21 : decode cX10_lay 21 = .ok (.getfield 73, 3) := by decide +kernel
theorem dX10_lay_24 : decode cX10_lay 24 = .ok (.iload_n 1, 1) := by decide +kernel
theorem dX10_lay_25 : decode cX10_lay 25 = .ok (.iload_n 3, 1) := by decide +kernel
theorem dX10_lay_26 : decode cX10_lay 26 = .ok (.iload 4, 2) := by decide +kernel
theorem dX10_lay_28 : decode cX10_lay 28 = .ok (.invokevirtual 254, 3) := by decide +kernel
theorem dX10_lay_31 : decode cX10_lay 31 = .ok (.iconst 1, 1) := by decide +kernel
theorem dX10_lay_32 : decode cX10_lay 32 = .ok (.ireturn, 1) := by decide +kernel
theorem dX10_get_0 : decode cX10_get 0 = .ok (.aload_n 0, 1) := by decide +kernel
theorem dX10_get_1 : decode cX10_get 1 = .ok (.getfield 73, 3) := by decide +kernel
theorem dX10_get_4 : decode cX10_get 4 = .ok (.iload_n 1, 1) := by decide +kernel
theorem dX10_get_5 : decode cX10_get 5 = .ok (.iload_n 2, 1) := by decide +kernel
theorem dX10_get_6 : decode cX10_get 6 = .ok (.iload_n 3, 1) := by decide +kernel
theorem dX10_get_7 : decode cX10_get 7 = .ok (.invokevirtual 250, 3) := by decide +kernel
theorem dX10_get_10 : decode cX10_get 10 = .ok (.ifCond .eq 9, 3) := by decide +kernel
theorem dX10_get_13 : decode cX10_get 13 = .ok (.ldc_w 257, 3) := by decide +kernel
theorem dX10_get_16 : decode cX10_get 16 = .ok (.goto 12, 3) := by decide +kernel
theorem dX10_get_19 : decode cX10_get 19 = .ok (.aload_n 0, 1) := by decide +kernel
theorem dX10_get_20 : decode cX10_get 20 = .ok (.getfield 73, 3) := by decide +kernel
theorem dX10_get_23 : decode cX10_get 23 = .ok (.iload_n 1, 1) := by decide +kernel
theorem dX10_get_24 : decode cX10_get 24 = .ok (.iload_n 3, 1) := by decide +kernel
theorem dX10_get_25 : decode cX10_get 25 = .ok (.invokevirtual 151, 3) := by decide +kernel
theorem dX10_get_28 : decode cX10_get 28 = .ok (.ireturn, 1) := by decide +kernel
theorem dX10_copy_0 : decode cX10_copy 0 = .ok (.iload_n 1, 1) := by decide +kernel
theorem dX10_copy_1 : decode cX10_copy 1 = .ok (.invokestatic 135, 3) := by decide +kernel
theorem dX10_copy_4 : decode cX10_copy 4 = .ok (.ifCond .eq 10, 3) := by decide +kernel
theorem dX10_copy_7 : decode cX10_copy 7 = .ok (.iload_n 3, 1) := by decide +kernel
theorem dX10_copy_8 : decode cX10_copy 8 = .ok (.invokestatic 135, 3) := by decide +kernel
theorem dX10_copy_11 : decode cX10_copy 11 = .ok (.ifCond .ne 6, 3) := by decide +kernel
theorem dX10_copy_14 : decode cX10_copy 14 = .ok (.bipush (-2), 2) := by decide +kernel
theorem dX10_copy_16 : decode cX10_copy 16 = .ok (.ireturn, 1) := by decide +kernel
theorem dX10_copy_17 : decode cX10_copy 17 = .ok (.aload_n 0, 1) := by decide +kernel
theorem dX10_copy_18 : decode cX10_copy 18 = .ok (.getfield 73, 3) := by decide +kernel
theorem dX10_copy_21 : decode cX10_copy 21 = .ok (.iload_n 1, 1) := by decide +kernel
theorem dX10_copy_22 : decode cX10_copy 22 = .ok (.invokevirtual 138, 3) := by decide +kernel
theorem dX10_copy_25 : decode cX10_copy 25 = .ok (.ifCond .ne 14, 3) := by decide +kernel
theorem dX10_copy_28 : decode cX10_copy 28 = .ok (.aload_n 0, 1) := by decide +kernel
theorem dX10_copy_29 : decode cX10_copy 29 = .ok (.getfield 73, 3) := by decide +kernel
theorem dX10_copy_32 : decode cX10_copy 32 = .ok (.iload_n 3, 1) := by decide +kernel
theorem dX10_copy_33 : decode cX10_copy 33 = .ok (.invokevirtual 138, 3) := by decide +kernel
theorem dX10_copy_36 : decode cX10_copy 36 = .ok (.ifCond .eq 12, 3) := by decide +kernel
theorem dX10_copy_39 : decode cX10_copy 39 = .ok (.aload_n 0, 1) := by decide +kernel
theorem dX10_copy_40 : decode cX10_copy 40 = .ok (.getfield 73, 3) := by decide +kernel
theorem dX10_copy_43 : decode cX10_copy 43 = .ok (.iconst 1, 1) := by decide +kernel
theorem dX10_copy_44 : decode cX10_copy 44 = .ok (.invokevirtual 141, 3) := by decide +kernel
theorem dX10_copy_47 : decode cX10_copy 47 = .ok (.ireturn, 1) := by decide +kernel
theorem dX10_copy_48 : decode cX10_copy 48 = .ok (.aload_n 0, 1) := by decide +kernel
theorem dX10_copy_49 : decode cX10_copy 49 = .ok (.getfield 73, 3) := by decide +kernel
theorem dX10_copy_52 : decode cX10_copy 52 = .ok (.iload_n 1, 1) := by decide +kernel
theorem dX10_copy_53 : decode cX10_copy 53 = .ok (.iload_n 3, 1) := by decide +kernel
theorem dX10_copy_54 : decode cX10_copy 54 = .ok (.invokevirtual 258, 3) := by decide +kernel
theorem dX10_copy_57 : decode cX10_copy 57 = .ok (.ifCond .ne 12, 3) := by decide +kernel
theorem dX10_copy_60 : decode cX10_copy 60 = .ok (.aload_n 0, 1) := by decide +kernel
theorem dX10_copy_61 : decode cX10_copy 61 = .ok (.getfield 73, 3) := by decide +kernel
theorem dX10_copy_64 : decode cX10_copy 64 = .ok (.iconst 4, 1) := by decide +kernel
theorem dX10_copy_65 : decode cX10_copy 65 = .ok (.invokevirtual 141, 3) := by decide +kernel
theorem dX10_copy_68 : decode cX10_copy 68 = .ok (.ireturn, 1) := by decide +kernel
theorem dX10_copy_69 : decode cX10_copy 69 = .ok (.aload_n 0, 1) := by decide +kernel
theorem dX10_copy_70 : decode cX10_copy 70 = .ok (.getfield 73, 3) := by decide +kernel
theorem dX10_copy_73 : decode cX10_copy 73 = .ok (.iload_n 1, 1) := by decide +kernel
theorem dX10_copy_74 : decode cX10_copy 74 = .ok (.iload_n 2, 1) := by decide +kernel
theorem dX10_copy_75 : decode cX10_copy 75 = .ok (.iload 5, 2) := by decide +kernel
theorem dX10_copy_77 : decode cX10_copy 77 = .ok (.invokevirtual 261, 3) := by decide +kernel
theorem dX10_copy_80 : decode cX10_copy 80 = .ok (.ifCond .eq 18, 3) := by decide +kernel
theorem dX10_copy_83 : decode cX10_copy 83 = .ok (.aload_n 0, 1) := by decide +kernel
theorem dX10_copy_84 : decode cX10_copy 84 = .ok (.getfield 73, 3) := by decide +kernel
theorem dX10_copy_87 : decode cX10_copy 87 = .ok (.iload_n 3, 1) := by decide +kernel
theorem dX10_copy_88 : decode cX10_copy 88 = .ok (.iload 4, 2) := by decide +kernel
theorem dX10_copy_90 : decode cX10_copy 90 = .ok (.iload 5, 2) := by decide +kernel
theorem dX10_copy_92 : decode cX10_copy 92 = .ok (.invokevirtual 261, 3) := by decide +kernel
theorem dX10_copy_95 : decode cX10_copy 95 = .ok (.ifCond .ne 12, 3) := by decide +kernel
theorem dX10_copy_98 : decode cX10_copy 98 = .ok (.aload_n 0, 1) := by decide +kernel
theorem dX10_copy_99 : decode cX10_copy 99 = .ok (.getfield 73, 3) := by decide +kernel
theorem dX10_copy_102 : decode cX10_copy 102 = .ok (.iconst 2, 1) := by decide +kernel
theorem dX10_copy_103 : decode cX10_copy 103 = .ok (.invokevirtual 141, 3) := by decide +kernel
theorem dX10_copy_106 : decode cX10_copy 106 = .ok (.ireturn, 1) := by decide +kernel
theorem dX10_copy_107 : decode cX10_copy 107 = .ok (.aload_n 0, 1) := by decide +kernel
theorem dX10_copy_108 : decode cX10_copy 108 = .ok (.getfield 73, 3) := by decide +kernel
theorem dX10_copy_111 : decode cX10_copy 111 = .ok (.iload_n 1, 1) := by decide +kernel
theorem dX10_copy_112 : decode cX10_copy 112 = .ok (.iload_n 2, 1) := by decide +kernel
theorem dX10_copy_113 : decode cX10_copy 113 = .ok (.iload_n 3, 1) := by decide +kernel
theorem dX10_copy_114 : decode cX10_copy 114 = .ok (.iload 4, 2) := by decide +kernel
theorem dX10_copy_116 : decode cX10_copy 116 = .ok (.iload 5, 2) := by decide +kernel
theorem dX10_copy_118 : decode cX10_copy 118 = .ok (.invokevirtual 264, 3) := by decide +kernel
theorem dX10_copy_121 : decode cX10_copy 121 = .ok (.iconst 1, 1) := by decide +kernel
theorem dX10_copy_122 : decode cX10_copy 122 = .ok (.ireturn, 1) := by decide +kernel
theorem dX10_write_0 : decode cX10_write 0 = .ok (.iload_n 1, 1) := by decide +kernel
theorem dX10_write_1 : decode cX10_write 1 = .ok (.invokestatic 135, 3) := by decide +kernel
theorem dX10_write_4 : decode cX10_write 4 = .ok (.ifCond .ne 6, 3) := by decide +kernel
theorem dX10_write_7 : decode cX10_write 7 = .ok (.bipush (-2), 2) := by decide +kernel
theorem dX10_write_9 : decode cX10_write 9 = .ok (.ireturn, 1) := by decide +kernel
theorem dX10_write_10 : decode cX10_write 10 = .ok (.aload_n 0, 1) := by decide +kernel
theorem dX10_write_11 : decode cX10_write 11 = .ok (.getfield 73, 3) := by decide +kernel
theorem dX10_write_14 : decode cX10_write 14 = .ok (.iload_n 1, 1) := by decide +kernel
theorem dX10_write_15 : decode cX10_write 15 = .ok (.invokevirtual 138, 3) := by decide +kernel
theorem dX10_write_18 : decode cX10_write 18 = .ok (.ifCond .eq 12, 3) := by decide +kernel
theorem dX10_write_21 : decode cX10_write 21 = .ok (.aload_n 0, 1) := by decide +kernel
theorem dX10_write_22 : decode cX10_write 22 = .ok (.getfield 73, 3) := by decide +kernel
theorem dX10_write_25 : decode cX10_write 25 = .ok (.iconst 1, 1) := by decide +kernel
theorem dX10_write_26 : decode cX10_write 26 = .ok (.invokevirtual 141, 3) := by decide +kernel
theorem dX10_write_29 : decode cX10_write 29 = .ok (.ireturn, 1) := by decide +kernel
theorem dX10_write_30 : decode cX10_write 30 = .ok (.aload_n 0, 1) := by decide +kernel
theorem dX10_write_31 : decode cX10_write 31 = .ok (.getfield 45, 3) := by decide +kernel
theorem dX10_write_34 : decode cX10_write 34 = .ok (.aload_n 0, 1) := by decide +kernel
theorem dX10_write_35 : decode cX10_write 35 = .ok (.getfield 18, 3) := by decide +kernel
theorem dX10_write_38 : decode cX10_write 38 = .ok (.aload_n 0, 1) := by decide +kernel
theorem dX10_write_39 : decode cX10_write 39 = .ok (.getfield 31, 3) := by decide +kernel
theorem dX10_write_42 : decode cX10_write 42 = .ok (.invokevirtual 181, 3) := by decide +kernel
theorem dX10_write_45 : decode cX10_write 45 = .ok (.aload_n 0, 1) := by decide +kernel
theorem dX10_write_46 : decode cX10_write 46 = .ok (.getfield 24, 3) := by decide +kernel
theorem dX10_write_49 : decode cX10_write 49 = .ok (.aload_n 0, 1) := by decide +kernel
theorem dX10_write_50 : decode cX10_write 50 = .ok (.getfield 38, 3) := by decide +kernel
theorem dX10_write_53 : decode cX10_write 53 = .ok (.invokevirtual 182, 3) := by decide +kernel
theorem dX10_write_56 : decode cX10_write 56 = .ok (.aload_n 0, 1) := by decide +kernel
theorem dX10_write_57 : decode cX10_write 57 = .ok (.getfield 73, 3) := by decide +kernel
theorem dX10_write_60 : decode cX10_write 60 = .ok (.iload_n 1, 1) := by decide +kernel
theorem dX10_write_61 : decode cX10_write 61 = .ok (.invokevirtual 144, 3) := by decide +kernel
theorem dX10_write_64 : decode cX10_write 64 = .ok (.aload_n 0, 1) := by decide +kernel
theorem dX10_write_65 : decode cX10_write 65 = .ok (.getfield 38, 3) := by decide +kernel
theorem dX10_write_68 : decode cX10_write 68 = .ok (.invokevirtual 121, 3) := by decide +kernel
theorem dX10_write_71 : decode cX10_write 71 = .ok (.invokestatic 146, 3) := by decide +kernel
theorem dX10_write_74 : decode cX10_write 74 = .ok (.istore_n 2, 1) := by decide +kernel
theorem dX10_write_75 : decode cX10_write 75 = .ok (.iconst 0, 1) := by decide +kernel
theorem dX10_write_76 : decode cX10_write 76 = .ok (.istore_n 3, 1) := by decide +kernel
theorem dX10_write_77 : decode cX10_write 77 = .ok (.iload_n 3, 1) := by decide +kernel
theorem dX10_write_78 : decode cX10_write 78 = .ok (.iload_n 2, 1) := by decide +kernel
theorem dX10_write_79 : decode cX10_write 79 = .ok (.if_icmp .ge 26, 3) := by decide +kernel
theorem dX10_write_82 : decode cX10_write 82 = .ok (.aload_n 0, 1) := by decide +kernel
theorem dX10_write_83 : decode cX10_write 83 = .ok (.getfield 73, 3) := by decide +kernel
theorem dX10_write_86 : decode cX10_write 86 = .ok (.iload_n 1, 1) := by decide +kernel
theorem dX10_write_87 : decode cX10_write 87 = .ok (.iload_n 3, 1) := by decide +kernel
theorem dX10_write_88 : decode cX10_write 88 = .ok (.aload_n 0, 1) := by decide +kernel
theorem dX10_write_89 : decode cX10_write 89 = .ok (.getfield 45, 3) := by decide +kernel
theorem dX10_write_92 : decode cX10_write 92 = .ok (.iload_n 3, 1) := by decide +kernel
theorem dX10_write_93 : decode cX10_write 93 = .ok (.invokevirtual 195, 3) := by decide +kernel
theorem dX10_write_96 : decode cX10_write 96 = .ok (.invokevirtual 254, 3) := by decide +kernel
theorem dX10_write_99 : decode cX10_write 99 = .ok (.iinc 3 1, 3) := by decide +kernel
theorem dX10_write_102 : decode cX10_write 102 = .ok (.goto (-25), 3) := by decide +kernel
theorem dX10_write_105 : decode cX10_write 105 = .ok (.iload_n 2, 1) := by decide +kernel
theorem dX10_write_106 : decode cX10_write 106 = .ok (.ireturn, 1) := by decide +kernel
theorem dX10_count_0 : decode cX10_count 0 = .ok (.iload_n 1, 1) := by decide +kernel
theorem dX10_count_1 : decode cX10_count 1 = .ok (.tableswitch 123 0 8 #[51, 59, 67, 75, 83, 91, 99, 107, 115], 51) := by decide +kernel
theorem dX10_count_52 : decode cX10_count 52 = .ok (.aload_n 0, 1) := by decide +kernel
theorem dX10_count_53 : decode cX10_count 53 = .ok (.getfield 24, 3) := by decide +kernel
theorem dX10_count_56 : decode cX10_count 56 = .ok (.invokevirtual 114, 3) := by decide +kernel
theorem dX10_count_59 : decode cX10_count 59 = .ok (.ireturn, 1) := by decide +kernel
theorem dX10_count_60 : decode cX10_count 60 = .ok (.aload_n 0, 1) := by decide +kernel
theorem dX10_count_61 : decode cX10_count 61 = .ok (.getfield 31, 3) := by decide +kernel
theorem dX10_count_64 : decode cX10_count 64 = .ok (.invokevirtual 181, 3) := by decide +kernel
theorem dX10_count_67 : decode cX10_count 67 = .ok (.ireturn, 1) := by decide +kernel
theorem dX10_count_68 : decode cX10_count 68 = .ok (.aload_n 0, 1) := by decide +kernel
theorem dX10_count_69 : decode cX10_count 69 = .ok (.getfield 14, 3) := by decide +kernel
theorem dX10_count_72 : decode cX10_count 72 = .ok (.invokevirtual 99, 3) := by decide +kernel
theorem dX10_count_75 : decode cX10_count 75 = .ok (.ireturn, 1) := by decide +kernel
theorem dX10_count_76 : decode cX10_count 76 = .ok (.aload_n 0, 1) := by decide +kernel
theorem dX10_count_77 : decode cX10_count 77 = .ok (.getfield 18, 3) := by decide +kernel
theorem dX10_count_80 : decode cX10_count 80 = .ok (.invokevirtual 99, 3) := by decide +kernel
theorem dX10_count_83 : decode cX10_count 83 = .ok (.ireturn, 1) := by decide +kernel
theorem dX10_count_84 : decode cX10_count 84 = .ok (.aload_n 0, 1) := by decide +kernel
theorem dX10_count_85 : decode cX10_count 85 = .ok (.getfield 38, 3) := by decide +kernel
theorem dX10_count_88 : decode cX10_count 88 = .ok (.invokevirtual 121, 3) := by decide +kernel
theorem dX10_count_91 : decode cX10_count 91 = .ok (.ireturn, 1) := by decide +kernel
theorem dX10_count_92 : decode cX10_count 92 = .ok (.aload_n 0, 1) := by decide +kernel
theorem dX10_count_93 : decode cX10_count 93 = .ok (.getfield 24, 3) := by decide +kernel
theorem dX10_count_96 : decode cX10_count 96 = .ok (.invokevirtual 178, 3) := by decide +kernel
theorem dX10_count_99 : decode cX10_count 99 = .ok (.ireturn, 1) := by decide +kernel
theorem dX10_count_100 : decode cX10_count 100 = .ok (.aload_n 0, 1) := by decide +kernel
theorem dX10_count_101 : decode cX10_count 101 = .ok (.getfield 59, 3) := by decide +kernel
theorem dX10_count_104 : decode cX10_count 104 = .ok (.invokevirtual 215, 3) := by decide +kernel
theorem dX10_count_107 : decode cX10_count 107 = .ok (.ireturn, 1) := by decide +kernel
theorem dX10_count_108 : decode cX10_count 108 = .ok (.aload_n 0, 1) := by decide +kernel
theorem dX10_count_109 : decode cX10_count 109 = .ok (.getfield 66, 3) := by decide +kernel
theorem dX10_count_112 : decode cX10_count 112 = .ok (.invokevirtual 234, 3) := by decide +kernel
theorem dX10_count_115 : decode cX10_count 115 = .ok (.ireturn, 1) := by decide +kernel
theorem dX10_count_116 : decode cX10_count 116 = .ok (.aload_n 0, 1) := by decide +kernel
theorem dX10_count_117 : decode cX10_count 117 = .ok (.getfield 73, 3) := by decide +kernel
theorem dX10_count_120 : decode cX10_count 120 = .ok (.invokevirtual 268, 3) := by decide +kernel
theorem dX10_count_123 : decode cX10_count 123 = .ok (.ireturn, 1) := by decide +kernel
theorem dX10_count_124 : decode cX10_count 124 = .ok (.bipush (-2), 2) := by decide +kernel
theorem dX10_count_126 : decode cX10_count 126 = .ok (.ireturn, 1) := by decide +kernel
theorem dX10_digest_0 : decode cX10_digest 0 = .ok (.ldc2_w 271, 3) := by decide +kernel
theorem dX10_digest_3 : decode cX10_digest 3 = .ok (.lstore_n 1, 1) := by decide +kernel
theorem dX10_digest_4 : decode cX10_digest 4 = .ok (.iconst 0, 1) := by decide +kernel
theorem dX10_digest_5 : decode cX10_digest 5 = .ok (.istore_n 3, 1) := by decide +kernel
theorem dX10_digest_6 : decode cX10_digest 6 = .ok (.iload_n 3, 1) := by decide +kernel
theorem dX10_digest_7 : decode cX10_digest 7 = .ok (.bipush 7, 2) := by decide +kernel
theorem dX10_digest_9 : decode cX10_digest 9 = .ok (.if_icmp .gt 20, 3) := by decide +kernel
theorem dX10_digest_12 : decode cX10_digest 12 = .ok (.lload_n 1, 1) := by decide +kernel
theorem dX10_digest_13 : decode cX10_digest 13 = .ok (.aload_n 0, 1) := by decide +kernel
theorem dX10_digest_14 : decode cX10_digest 14 = .ok (.iload_n 3, 1) := by decide +kernel
theorem dX10_digest_15 : decode cX10_digest 15 = .ok (.invokevirtual 273, 3) := by decide +kernel
theorem dX10_digest_18 : decode cX10_digest 18 = .ok (.i2l, 1) := by decide +kernel
theorem dX10_digest_19 : decode cX10_digest 19 = .ok (.invokestatic 276, 3) := by decide +kernel
theorem dX10_digest_22 : decode cX10_digest 22 = .ok (.lstore_n 1, 1) := by decide +kernel
theorem dX10_digest_23 : decode cX10_digest 23 = .ok (.iinc 3 1, 3) := by decide +kernel
theorem dX10_digest_26 : decode cX10_digest 26 = .ok (.goto (-20), 3) := by decide +kernel
theorem dX10_digest_29 : decode cX10_digest 29 = .ok (.lload_n 1, 1) := by decide +kernel
theorem dX10_digest_30 : decode cX10_digest 30 = .ok (.aload_n 0, 1) := by decide +kernel
theorem dX10_digest_31 : decode cX10_digest 31 = .ok (.iconst 0, 1) := by decide +kernel
theorem dX10_digest_32 : decode cX10_digest 32 = .ok (.invokevirtual 280, 3) := by decide +kernel
theorem dX10_digest_35 : decode cX10_digest 35 = .ok (.i2l, 1) := by decide +kernel
theorem dX10_digest_36 : decode cX10_digest 36 = .ok (.invokestatic 276, 3) := by decide +kernel
theorem dX10_digest_39 : decode cX10_digest 39 = .ok (.aload_n 0, 1) := by decide +kernel
theorem dX10_digest_40 : decode cX10_digest 40 = .ok (.iconst 1, 1) := by decide +kernel
theorem dX10_digest_41 : decode cX10_digest 41 = .ok (.invokevirtual 280, 3) := by decide +kernel
theorem dX10_digest_44 : decode cX10_digest 44 = .ok (.i2l, 1) := by decide +kernel
theorem dX10_digest_45 : decode cX10_digest 45 = .ok (.invokestatic 276, 3) := by decide +kernel
theorem dX10_digest_48 : decode cX10_digest 48 = .ok (.lstore_n 1, 1) := by decide +kernel
theorem dX10_digest_49 : decode cX10_digest 49 = .ok (.iconst 0, 1) := by decide +kernel
theorem dX10_digest_50 : decode cX10_digest 50 = .ok (.istore_n 3, 1) := by decide +kernel
theorem dX10_digest_51 : decode cX10_digest 51 = .ok (.iload_n 3, 1) := by decide +kernel
theorem dX10_digest_52 : decode cX10_digest 52 = .ok (.aload_n 0, 1) := by decide +kernel
theorem dX10_digest_53 : decode cX10_digest 53 = .ok (.getfield 24, 3) := by decide +kernel
theorem dX10_digest_56 : decode cX10_digest 56 = .ok (.invokevirtual 114, 3) := by decide +kernel
theorem dX10_digest_59 : decode cX10_digest 59 = .ok (.if_icmp .ge 37, 3) := by decide +kernel
theorem dX10_digest_62 : decode cX10_digest 62 = .ok (.iconst 0, 1) := by decide +kernel
theorem dX10_digest_63 : decode cX10_digest 63 = .ok (.istore 4, 2) := by decide +kernel
theorem dX10_digest_65 : decode cX10_digest 65 = .ok (.iload 4, 2) := by decide +kernel
theorem dX10_digest_67 : decode cX10_digest 67 = .ok (.iconst 3, 1) := by decide +kernel
theorem dX10_digest_68 : decode cX10_digest 68 = .ok (.if_icmp .gt 22, 3) := by decide +kernel
theorem dX10_digest_71 : decode cX10_digest 71 = .ok (.lload_n 1, 1) := by decide +kernel
theorem dX10_digest_72 : decode cX10_digest 72 = .ok (.aload_n 0, 1) := by decide +kernel
theorem dX10_digest_73 : decode cX10_digest 73 = .ok (.iload_n 3, 1) := by decide +kernel
theorem dX10_digest_74 : decode cX10_digest 74 = .ok (.iload 4, 2) := by decide +kernel
theorem dX10_digest_76 : decode cX10_digest 76 = .ok (.invokevirtual 283, 3) := by decide +kernel
theorem dX10_digest_79 : decode cX10_digest 79 = .ok (.i2l, 1) := by decide +kernel
theorem dX10_digest_80 : decode cX10_digest 80 = .ok (.invokestatic 276, 3) := by decide +kernel
theorem dX10_digest_83 : decode cX10_digest 83 = .ok (.lstore_n 1, 1) := by decide +kernel
theorem dX10_digest_84 : decode cX10_digest 84 = .ok (.iinc 4 1, 3) := by decide +kernel
theorem dX10_digest_87 : decode cX10_digest 87 = .ok (.goto (-22), 3) := by decide +kernel
theorem dX10_digest_90 : decode cX10_digest 90 = .ok (.iinc 3 1, 3) := by decide +kernel
theorem dX10_digest_93 : decode cX10_digest 93 = .ok (.goto (-42), 3) := by decide +kernel
theorem dX10_digest_96 : decode cX10_digest 96 = .ok (.aload_n 0, 1) := by decide +kernel
theorem dX10_digest_97 : decode cX10_digest 97 = .ok (.lload_n 1, 1) := by decide +kernel
theorem dX10_digest_98 : decode cX10_digest 98 = .ok (.invokevirtual 286, 3) := by decide +kernel
theorem dX10_digest_101 : decode cX10_digest 101 = .ok (.lstore_n 1, 1) := by decide +kernel
theorem dX10_digest_102 : decode cX10_digest 102 = .ok (.aload_n 0, 1) := by decide +kernel
theorem dX10_digest_103 : decode cX10_digest 103 = .ok (.lload_n 1, 1) := by decide +kernel
theorem dX10_digest_104 : decode cX10_digest 104 = .ok (.invokevirtual 290, 3) := by decide +kernel
theorem dX10_digest_107 : decode cX10_digest 107 = .ok (.lstore_n 1, 1) := by decide +kernel
theorem dX10_digest_108 : decode cX10_digest 108 = .ok (.lload_n 1, 1) := by decide +kernel
theorem dX10_digest_109 : decode cX10_digest 109 = .ok (.aload_n 0, 1) := by decide +kernel
theorem dX10_digest_110 : decode cX10_digest 110 = .ok (.iconst 0, 1) := by decide +kernel
theorem dX10_digest_111 : decode cX10_digest 111 = .ok (.invokevirtual 293, 3) := by decide +kernel
theorem dX10_digest_114 : decode cX10_digest 114 = .ok (.invokestatic 276, 3) := by decide +kernel
theorem dX10_digest_117 : decode cX10_digest 117 = .ok (.aload_n 0, 1) := by decide +kernel
theorem dX10_digest_118 : decode cX10_digest 118 = .ok (.iconst 1, 1) := by decide +kernel
theorem dX10_digest_119 : decode cX10_digest 119 = .ok (.invokevirtual 293, 3) := by decide +kernel
theorem dX10_digest_122 : decode cX10_digest 122 = .ok (.invokestatic 276, 3) := by decide +kernel
theorem dX10_digest_125 : decode cX10_digest 125 = .ok (.lstore_n 1, 1) := by decide +kernel
theorem dX10_digest_126 : decode cX10_digest 126 = .ok (.lload_n 1, 1) := by decide +kernel
theorem dX10_digest_127 : decode cX10_digest 127 = .ok (.aload_n 0, 1) := by decide +kernel
theorem dX10_digest_128 : decode cX10_digest 128 = .ok (.invokevirtual 296, 3) := by decide +kernel
theorem dX10_digest_131 : decode cX10_digest 131 = .ok (.i2l, 1) := by decide +kernel
theorem dX10_digest_132 : decode cX10_digest 132 = .ok (.invokestatic 276, 3) := by decide +kernel
theorem dX10_digest_135 : decode cX10_digest 135 = .ok (.lstore_n 1, 1) := by decide +kernel
theorem dX10_digest_136 : decode cX10_digest 136 = .ok (.lload_n 1, 1) := by decide +kernel
theorem dX10_digest_137 : decode cX10_digest 137 = .ok (.aload_n 0, 1) := by decide +kernel
theorem dX10_digest_138 : decode cX10_digest 138 = .ok (.aload_n 0, 1) := by decide +kernel
theorem dX10_digest_139 : decode cX10_digest 139 = .ok (.getfield 31, 3) := by decide +kernel
theorem dX10_digest_142 : decode cX10_digest 142 = .ok (.invokevirtual 181, 3) := by decide +kernel
theorem dX10_digest_145 : decode cX10_digest 145 = .ok (.iconst 0, 1) := by decide +kernel
theorem dX10_digest_146 : decode cX10_digest 146 = .ok (.invokevirtual 299, 3) := by decide +kernel
theorem dX10_digest_149 : decode cX10_digest 149 = .ok (.i2l, 1) := by decide +kernel
theorem dX10_digest_150 : decode cX10_digest 150 = .ok (.invokestatic 276, 3) := by decide +kernel
theorem dX10_digest_153 : decode cX10_digest 153 = .ok (.aload_n 0, 1) := by decide +kernel
theorem dX10_digest_154 : decode cX10_digest 154 = .ok (.aload_n 0, 1) := by decide +kernel
theorem dX10_digest_155 : decode cX10_digest 155 = .ok (.getfield 31, 3) := by decide +kernel
theorem dX10_digest_158 : decode cX10_digest 158 = .ok (.invokevirtual 181, 3) := by decide +kernel
theorem dX10_digest_161 : decode cX10_digest 161 = .ok (.iconst 1, 1) := by decide +kernel
theorem dX10_digest_162 : decode cX10_digest 162 = .ok (.invokevirtual 299, 3) := by decide +kernel
theorem dX10_digest_165 : decode cX10_digest 165 = .ok (.i2l, 1) := by decide +kernel
theorem dX10_digest_166 : decode cX10_digest 166 = .ok (.invokestatic 276, 3) := by decide +kernel
theorem dX10_digest_169 : decode cX10_digest 169 = .ok (.lstore_n 1, 1) := by decide +kernel
theorem dX10_digest_170 : decode cX10_digest 170 = .ok (.lload_n 1, 1) := by decide +kernel
theorem dX10_digest_171 : decode cX10_digest 171 = .ok (.aload_n 0, 1) := by decide +kernel
theorem dX10_digest_172 : decode cX10_digest 172 = .ok (.invokevirtual 302, 3) := by decide +kernel
theorem dX10_digest_175 : decode cX10_digest 175 = .ok (.i2l, 1) := by decide +kernel
theorem dX10_digest_176 : decode cX10_digest 176 = .ok (.invokestatic 276, 3) := by decide +kernel
theorem dX10_digest_179 : decode cX10_digest 179 = .ok (.lstore_n 1, 1) := by decide +kernel
theorem dX10_digest_180 : decode cX10_digest 180 = .ok (.lload_n 1, 1) := by decide +kernel
theorem dX10_digest_181 : decode cX10_digest 181 = .ok (.aload_n 0, 1) := by decide +kernel
theorem dX10_digest_182 : decode cX10_digest 182 = .ok (.iconst 4, 1) := by decide +kernel
theorem dX10_digest_183 : decode cX10_digest 183 = .ok (.bipush 60, 2) := by decide +kernel
theorem dX10_digest_185 : decode cX10_digest 185 = .ok (.iconst 0, 1) := by decide +kernel
theorem dX10_digest_186 : decode cX10_digest 186 = .ok (.invokevirtual 305, 3) := by decide +kernel
theorem dX10_digest_189 : decode cX10_digest 189 = .ok (.invokestatic 276, 3) := by decide +kernel
theorem dX10_digest_192 : decode cX10_digest 192 = .ok (.aload_n 0, 1) := by decide +kernel
theorem dX10_digest_193 : decode cX10_digest 193 = .ok (.iconst 4, 1) := by decide +kernel
theorem dX10_digest_194 : decode cX10_digest 194 = .ok (.bipush 60, 2) := by decide +kernel
theorem dX10_digest_196 : decode cX10_digest 196 = .ok (.iconst 1, 1) := by decide +kernel
theorem dX10_digest_197 : decode cX10_digest 197 = .ok (.invokevirtual 305, 3) := by decide +kernel
theorem dX10_digest_200 : decode cX10_digest 200 = .ok (.invokestatic 276, 3) := by decide +kernel
theorem dX10_digest_203 : decode cX10_digest 203 = .ok (.lstore_n 1, 1) := by decide +kernel
theorem dX10_digest_204 : decode cX10_digest 204 = .ok (.lload_n 1, 1) := by decide +kernel
theorem dX10_digest_205 : decode cX10_digest 205 = .ok (.aload_n 0, 1) := by decide +kernel
theorem dX10_digest_206 : decode cX10_digest 206 = .ok (.bipush 50, 2) := by decide +kernel
theorem dX10_digest_208 : decode cX10_digest 208 = .ok (.bipush 60, 2) := by decide +kernel
theorem dX10_digest_210 : decode cX10_digest 210 = .ok (.invokevirtual 309, 3) := by decide +kernel
theorem dX10_digest_213 : decode cX10_digest 213 = .ok (.i2l, 1) := by decide +kernel
theorem dX10_digest_214 : decode cX10_digest 214 = .ok (.invokestatic 276, 3) := by decide +kernel
theorem dX10_digest_217 : decode cX10_digest 217 = .ok (.lstore_n 1, 1) := by decide +kernel
theorem dX10_digest_218 : decode cX10_digest 218 = .ok (.lload_n 1, 1) := by decide +kernel
theorem dX10_digest_219 : decode cX10_digest 219 = .ok (.aload_n 0, 1) := by decide +kernel
theorem dX10_digest_220 : decode cX10_digest 220 = .ok (.iconst 0, 1) := by decide +kernel
theorem dX10_digest_221 : decode cX10_digest 221 = .ok (.invokevirtual 312, 3) := by decide +kernel
theorem dX10_digest_224 : decode cX10_digest 224 = .ok (.i2l, 1) := by decide +kernel
theorem dX10_digest_225 : decode cX10_digest 225 = .ok (.invokestatic 276, 3) := by decide +kernel
theorem dX10_digest_228 : decode cX10_digest 228 = .ok (.aload_n 0, 1) := by decide +kernel
theorem dX10_digest_229 : decode cX10_digest 229 = .ok (.iconst 1, 1) := by decide +kernel
theorem dX10_digest_230 : decode cX10_digest 230 = .ok (.invokevirtual 312, 3) := by decide +kernel
theorem dX10_digest_233 : decode cX10_digest 233 = .ok (.i2l, 1) := by decide +kernel
theorem dX10_digest_234 : decode cX10_digest 234 = .ok (.invokestatic 276, 3) := by decide +kernel
theorem dX10_digest_237 : decode cX10_digest 237 = .ok (.lstore_n 1, 1) := by decide +kernel
theorem dX10_digest_238 : decode cX10_digest 238 = .ok (.lload_n 1, 1) := by decide +kernel
theorem dX10_digest_239 : decode cX10_digest 239 = .ok (.aload_n 0, 1) := by decide +kernel
theorem dX10_digest_240 : decode cX10_digest 240 = .ok (.iconst 0, 1) := by decide +kernel
theorem dX10_digest_241 : decode cX10_digest 241 = .ok (.invokevirtual 315, 3) := by decide +kernel
theorem dX10_digest_244 : decode cX10_digest 244 = .ok (.invokestatic 276, 3) := by decide +kernel
theorem dX10_digest_247 : decode cX10_digest 247 = .ok (.aload_n 0, 1) := by decide +kernel
theorem dX10_digest_248 : decode cX10_digest 248 = .ok (.iconst 1, 1) := by decide +kernel
theorem dX10_digest_249 : decode cX10_digest 249 = .ok (.invokevirtual 315, 3) := by decide +kernel
theorem dX10_digest_252 : decode cX10_digest 252 = .ok (.invokestatic 276, 3) := by decide +kernel
theorem dX10_digest_255 : decode cX10_digest 255 = .ok (.lstore_n 1, 1) := by decide +kernel
theorem dX10_digest_256 : decode cX10_digest 256 = .ok (.lload_n 1, 1) := by decide +kernel
theorem dX10_digest_257 : decode cX10_digest 257 = .ok (.aload_n 0, 1) := by decide +kernel
theorem dX10_digest_258 : decode cX10_digest 258 = .ok (.invokevirtual 318, 3) := by decide +kernel
theorem dX10_digest_261 : decode cX10_digest 261 = .ok (.i2l, 1) := by decide +kernel
theorem dX10_digest_262 : decode cX10_digest 262 = .ok (.invokestatic 276, 3) := by decide +kernel
theorem dX10_digest_265 : decode cX10_digest 265 = .ok (.lreturn, 1) := by decide +kernel
theorem dX10_mixGoers_0 : decode cX10_mixGoers 0 = .ok (.lload_n 1, 1) := by decide +kernel
theorem dX10_mixGoers_1 : decode cX10_mixGoers 1 = .ok (.lstore_n 3, 1) := by decide +kernel
theorem dX10_mixGoers_2 : decode cX10_mixGoers 2 = .ok (.aload_n 0, 1) := by decide +kernel
theorem dX10_mixGoers_3 : decode cX10_mixGoers 3 = .ok (.getfield 45, 3) := by decide +kernel
theorem dX10_mixGoers_6 : decode cX10_mixGoers 6 = .ok (.aload_n 0, 1) := by decide +kernel
theorem dX10_mixGoers_7 : decode cX10_mixGoers 7 = .ok (.getfield 18, 3) := by decide +kernel
theorem dX10_mixGoers_10 : decode cX10_mixGoers 10 = .ok (.aload_n 0, 1) := by decide +kernel
theorem dX10_mixGoers_11 : decode cX10_mixGoers 11 = .ok (.getfield 31, 3) := by decide +kernel
theorem dX10_mixGoers_14 : decode cX10_mixGoers 14 = .ok (.invokevirtual 181, 3) := by decide +kernel
theorem dX10_mixGoers_17 : decode cX10_mixGoers 17 = .ok (.aload_n 0, 1) := by decide +kernel
theorem dX10_mixGoers_18 : decode cX10_mixGoers 18 = .ok (.getfield 24, 3) := by decide +kernel
theorem dX10_mixGoers_21 : decode cX10_mixGoers 21 = .ok (.aload_n 0, 1) := by decide +kernel
theorem dX10_mixGoers_22 : decode cX10_mixGoers 22 = .ok (.getfield 38, 3) := by decide +kernel
theorem dX10_mixGoers_25 : decode cX10_mixGoers 25 = .ok (.invokevirtual 182, 3) := by decide +kernel
theorem dX10_mixGoers_28 : decode cX10_mixGoers 28 = .ok (.iconst 0, 1) := by decide +kernel
theorem dX10_mixGoers_29 : decode cX10_mixGoers 29 = .ok (.istore 5, 2) := by decide +kernel
theorem dX10_mixGoers_31 : decode cX10_mixGoers 31 = .ok (.iload 5, 2) := by decide +kernel
theorem dX10_mixGoers_33 : decode cX10_mixGoers 33 = .ok (.aload_n 0, 1) := by decide +kernel
theorem dX10_mixGoers_34 : decode cX10_mixGoers 34 = .ok (.getfield 38, 3) := by decide +kernel
theorem dX10_mixGoers_37 : decode cX10_mixGoers 37 = .ok (.invokevirtual 121, 3) := by decide +kernel
theorem dX10_mixGoers_40 : decode cX10_mixGoers 40 = .ok (.if_icmp .ge 72, 3) := by decide +kernel
theorem dX10_mixGoers_43 : decode cX10_mixGoers 43 = .ok (.lload_n 3, 1) := by decide +kernel
theorem dX10_mixGoers_44 : decode cX10_mixGoers 44 = .ok (.aload_n 0, 1) := by decide +kernel
theorem dX10_mixGoers_45 : decode cX10_mixGoers 45 = .ok (.iload 5, 2) := by decide +kernel
theorem dX10_mixGoers_47 : decode cX10_mixGoers 47 = .ok (.iconst 0, 1) := by decide +kernel
theorem dX10_mixGoers_48 : decode cX10_mixGoers 48 = .ok (.invokevirtual 321, 3) := by decide +kernel
theorem dX10_mixGoers_51 : decode cX10_mixGoers 51 = .ok (.invokestatic 276, 3) := by decide +kernel
theorem dX10_mixGoers_54 : decode cX10_mixGoers 54 = .ok (.aload_n 0, 1) := by decide +kernel
theorem dX10_mixGoers_55 : decode cX10_mixGoers 55 = .ok (.iload 5, 2) := by decide +kernel
theorem dX10_mixGoers_57 : decode cX10_mixGoers 57 = .ok (.iconst 1, 1) := by decide +kernel
theorem dX10_mixGoers_58 : decode cX10_mixGoers 58 = .ok (.invokevirtual 321, 3) := by decide +kernel
theorem dX10_mixGoers_61 : decode cX10_mixGoers 61 = .ok (.invokestatic 276, 3) := by decide +kernel
theorem dX10_mixGoers_64 : decode cX10_mixGoers 64 = .ok (.lstore_n 3, 1) := by decide +kernel
theorem dX10_mixGoers_65 : decode cX10_mixGoers 65 = .ok (.lload_n 3, 1) := by decide +kernel
theorem dX10_mixGoers_66 : decode cX10_mixGoers 66 = .ok (.aload_n 0, 1) := by decide +kernel
theorem dX10_mixGoers_67 : decode cX10_mixGoers 67 = .ok (.getfield 45, 3) := by decide +kernel
theorem dX10_mixGoers_70 : decode cX10_mixGoers 70 = .ok (.iload 5, 2) := by decide +kernel
theorem dX10_mixGoers_72 : decode cX10_mixGoers 72 = .ok (.invokevirtual 195, 3) := by decide +kernel
theorem dX10_mixGoers_75 : decode cX10_mixGoers 75 = .ok (.i2l, 1) := by decide +kernel
theorem dX10_mixGoers_76 : decode cX10_mixGoers 76 = .ok (.invokestatic 276, 3) := by decide +kernel
theorem dX10_mixGoers_79 : decode cX10_mixGoers 79 = .ok (.lstore_n 3, 1) := by decide +kernel
theorem dX10_mixGoers_80 : decode cX10_mixGoers 80 = .ok (.lload_n 3, 1) := by decide +kernel
theorem dX10_mixGoers_81 : decode cX10_mixGoers 81 = .ok (.aload_n 0, 1) := by decide +kernel
theorem dX10_mixGoers_82 : decode cX10_mixGoers 82 = .ok (.iconst 3, 1) := by decide +kernel
theorem dX10_mixGoers_83 : decode cX10_mixGoers 83 = .ok (.iload 5, 2) := by decide +kernel
theorem dX10_mixGoers_85 : decode cX10_mixGoers 85 = .ok (.iconst 0, 1) := by decide +kernel
theorem dX10_mixGoers_86 : decode cX10_mixGoers 86 = .ok (.invokevirtual 325, 3) := by decide +kernel
theorem dX10_mixGoers_89 : decode cX10_mixGoers 89 = .ok (.i2l, 1) := by decide +kernel
theorem dX10_mixGoers_90 : decode cX10_mixGoers 90 = .ok (.invokestatic 276, 3) := by decide +kernel
theorem dX10_mixGoers_93 : decode cX10_mixGoers 93 = .ok (.aload_n 0, 1) := by decide +kernel
theorem dX10_mixGoers_94 : decode cX10_mixGoers 94 = .ok (.iconst 3, 1) := by decide +kernel
theorem dX10_mixGoers_95 : decode cX10_mixGoers 95 = .ok (.iload 5, 2) := by decide +kernel
theorem dX10_mixGoers_97 : decode cX10_mixGoers 97 = .ok (.iconst 1, 1) := by decide +kernel
theorem dX10_mixGoers_98 : decode cX10_mixGoers 98 = .ok (.invokevirtual 325, 3) := by decide +kernel
theorem dX10_mixGoers_101 : decode cX10_mixGoers 101 = .ok (.i2l, 1) := by decide +kernel
theorem dX10_mixGoers_102 : decode cX10_mixGoers 102 = .ok (.invokestatic 276, 3) := by decide +kernel
theorem dX10_mixGoers_105 : decode cX10_mixGoers 105 = .ok (.lstore_n 3, 1) := by decide +kernel
theorem dX10_mixGoers_106 : decode cX10_mixGoers 106 = .ok (.iinc 5 1, 3) := by decide +kernel
theorem dX10_mixGoers_109 : decode cX10_mixGoers 109 = .ok (.goto (-78), 3) := by decide +kernel
theorem dX10_mixGoers_112 : decode cX10_mixGoers 112 = .ok (.lload_n 3, 1) := by decide +kernel
theorem dX10_mixGoers_113 : decode cX10_mixGoers 113 = .ok (.lreturn, 1) := by decide +kernel
theorem dX10_mixFailures_0 : decode cX10_mixFailures 0 = .ok (.lload_n 1, 1) := by decide +kernel
theorem dX10_mixFailures_1 : decode cX10_mixFailures 1 = .ok (.lstore_n 3, 1) := by decide +kernel
theorem dX10_mixFailures_2 : decode cX10_mixFailures 2 = .ok (.iconst 0, 1) := by decide +kernel
theorem dX10_mixFailures_3 : decode cX10_mixFailures 3 = .ok (.istore 5, 2) := by decide +kernel
theorem dX10_mixFailures_5 : decode cX10_mixFailures 5 = .ok (.iload 5, 2) := by decide +kernel
theorem dX10_mixFailures_7 : decode cX10_mixFailures 7 = .ok (.iconst 3, 1) := by decide +kernel
theorem dX10_mixFailures_8 : decode cX10_mixFailures 8 = .ok (.if_icmp .gt 60, 3) := by decide +kernel
theorem dX10_mixFailures_11 : decode cX10_mixFailures 11 = .ok (.lload_n 3, 1) := by decide +kernel
theorem dX10_mixFailures_12 : decode cX10_mixFailures 12 = .ok (.aload_n 0, 1) := by decide +kernel
theorem dX10_mixFailures_13 : decode cX10_mixFailures 13 = .ok (.iload 5, 2) := by decide +kernel
theorem dX10_mixFailures_15 : decode cX10_mixFailures 15 = .ok (.iconst 0, 1) := by decide +kernel
theorem dX10_mixFailures_16 : decode cX10_mixFailures 16 = .ok (.invokevirtual 328, 3) := by decide +kernel
theorem dX10_mixFailures_19 : decode cX10_mixFailures 19 = .ok (.invokestatic 276, 3) := by decide +kernel
theorem dX10_mixFailures_22 : decode cX10_mixFailures 22 = .ok (.aload_n 0, 1) := by decide +kernel
theorem dX10_mixFailures_23 : decode cX10_mixFailures 23 = .ok (.iload 5, 2) := by decide +kernel
theorem dX10_mixFailures_25 : decode cX10_mixFailures 25 = .ok (.iconst 1, 1) := by decide +kernel
theorem dX10_mixFailures_26 : decode cX10_mixFailures 26 = .ok (.invokevirtual 328, 3) := by decide +kernel
theorem dX10_mixFailures_29 : decode cX10_mixFailures 29 = .ok (.invokestatic 276, 3) := by decide +kernel
theorem dX10_mixFailures_32 : decode cX10_mixFailures 32 = .ok (.lstore_n 3, 1) := by decide +kernel
theorem dX10_mixFailures_33 : decode cX10_mixFailures 33 = .ok (.iconst 0, 1) := by decide +kernel
theorem dX10_mixFailures_34 : decode cX10_mixFailures 34 = .ok (.istore 6, 2) := by decide +kernel
theorem dX10_mixFailures_36 : decode cX10_mixFailures 36 = .ok (.iload 6, 2) := by decide +kernel
theorem dX10_mixFailures_38 : decode cX10_mixFailures 38 = .ok (.iconst 2, 1) := by decide +kernel
theorem dX10_mixFailures_39 : decode cX10_mixFailures 39 = .ok (.if_icmp .gt 23, 3) := by decide +kernel
theorem dX10_mixFailures_42 : decode cX10_mixFailures 42 = .ok (.lload_n 3, 1) := by decide +kernel
theorem dX10_mixFailures_43 : decode cX10_mixFailures 43 = .ok (.aload_n 0, 1) := by decide +kernel
theorem dX10_mixFailures_44 : decode cX10_mixFailures 44 = .ok (.iconst 3, 1) := by decide +kernel
theorem dX10_mixFailures_45 : decode cX10_mixFailures 45 = .ok (.iload 5, 2) := by decide +kernel
theorem dX10_mixFailures_47 : decode cX10_mixFailures 47 = .ok (.iload 6, 2) := by decide +kernel
theorem dX10_mixFailures_49 : decode cX10_mixFailures 49 = .ok (.invokevirtual 331, 3) := by decide +kernel
theorem dX10_mixFailures_52 : decode cX10_mixFailures 52 = .ok (.invokestatic 276, 3) := by decide +kernel
theorem dX10_mixFailures_55 : decode cX10_mixFailures 55 = .ok (.lstore_n 3, 1) := by decide +kernel
theorem dX10_mixFailures_56 : decode cX10_mixFailures 56 = .ok (.iinc 6 1, 3) := by decide +kernel
theorem dX10_mixFailures_59 : decode cX10_mixFailures 59 = .ok (.goto (-23), 3) := by decide +kernel
theorem dX10_mixFailures_62 : decode cX10_mixFailures 62 = .ok (.iinc 5 1, 3) := by decide +kernel
theorem dX10_mixFailures_65 : decode cX10_mixFailures 65 = .ok (.goto (-60), 3) := by decide +kernel
theorem dX10_mixFailures_68 : decode cX10_mixFailures 68 = .ok (.lload_n 3, 1) := by decide +kernel
theorem dX10_mixFailures_69 : decode cX10_mixFailures 69 = .ok (.lreturn, 1) := by decide +kernel
theorem dX10_mix_0 : decode cX10_mix 0 = .ok (.ldc2_w 334, 3) := by decide +kernel
theorem dX10_mix_3 : decode cX10_mix 3 = .ok (.lload_n 0, 1) := by decide +kernel
theorem dX10_mix_4 : decode cX10_mix 4 = .ok (.lmul, 1) := by decide +kernel
theorem dX10_mix_5 : decode cX10_mix 5 = .ok (.lload_n 2, 1) := by decide +kernel
theorem dX10_mix_6 : decode cX10_mix 6 = .ok (.ladd, 1) := by decide +kernel
theorem dX10_mix_7 : decode cX10_mix 7 = .ok (.lreturn, 1) := by decide +kernel
theorem dX10_within_0 : decode cX10_within 0 = .ok (.iload_n 0, 1) := by decide +kernel
theorem dX10_within_1 : decode cX10_within 1 = .ok (.iload_n 1, 1) := by decide +kernel
theorem dX10_within_2 : decode cX10_within 2 = .ok (.if_icmp .lt 12, 3) := by decide +kernel
theorem dX10_within_5 : decode cX10_within 5 = .ok (.iload_n 0, 1) := by decide +kernel
theorem dX10_within_6 : decode cX10_within 6 = .ok (.iload_n 2, 1) := by decide +kernel
theorem dX10_within_7 : decode cX10_within 7 = .ok (.if_icmp .gt 7, 3) := by decide +kernel
theorem dX10_within_10 : decode cX10_within 10 = .ok (.iconst 1, 1) := by decide +kernel
theorem dX10_within_11 : decode cX10_within 11 = .ok (.goto 4, 3) := by decide +kernel
theorem dX10_within_14 : decode cX10_within 14 = .ok (.iconst 0, 1) := by decide +kernel
theorem dX10_within_15 : decode cX10_within 15 = .ok (.ireturn, 1) := by decide +kernel
theorem dX10_refusal_0 : decode cX10_refusal 0 = .ok (.ldc2_w 336, 3) := by decide +kernel
theorem dX10_refusal_3 : decode cX10_refusal 3 = .ok (.iload_n 0, 1) := by decide +kernel
theorem dX10_refusal_4 : decode cX10_refusal 4 = .ok (.i2l, 1) := by decide +kernel
theorem dX10_refusal_5 : decode cX10_refusal 5 = .ok (.lsub, 1) := by decide +kernel
theorem dX10_refusal_6 : decode cX10_refusal 6 = .ok (.lreturn, 1) := by decide +kernel
theorem dX10_isGoer_0 : decode cX10_isGoer 0 = .ok (.iload_n 1, 1) := by decide +kernel
theorem dX10_isGoer_1 : decode cX10_isGoer 1 = .ok (.iconst 0, 1) := by decide +kernel
theorem dX10_isGoer_2 : decode cX10_isGoer 2 = .ok (.aload_n 0, 1) := by decide +kernel
theorem dX10_isGoer_3 : decode cX10_isGoer 3 = .ok (.getfield 38, 3) := by decide +kernel
theorem dX10_isGoer_6 : decode cX10_isGoer 6 = .ok (.invokevirtual 121, 3) := by decide +kernel
theorem dX10_isGoer_9 : decode cX10_isGoer 9 = .ok (.iconst 1, 1) := by decide +kernel
theorem dX10_isGoer_10 : decode cX10_isGoer 10 = .ok (.isub, 1) := by decide +kernel
theorem dX10_isGoer_11 : decode cX10_isGoer 11 = .ok (.invokestatic 88, 3) := by decide +kernel
theorem dX10_isGoer_14 : decode cX10_isGoer 14 = .ok (.ireturn, 1) := by decide +kernel
theorem dX10_textOf_0 : decode cX10_textOf 0 = .ok (.iload_n 1, 1) := by decide +kernel
theorem dX10_textOf_1 : decode cX10_textOf 1 = .ok (.ifCond .ne 8, 3) := by decide +kernel
theorem dX10_textOf_4 : decode cX10_textOf 4 = .ok (.aload_n 0, 1) := by decide +kernel
theorem dX10_textOf_5 : decode cX10_textOf 5 = .ok (.getfield 14, 3) := by decide +kernel
theorem dX10_textOf_8 : decode cX10_textOf 8 = .ok (.areturn, 1) := by decide +kernel
theorem dX10_textOf_9 : decode cX10_textOf 9 = .ok (.iload_n 1, 1) := by decide +kernel
theorem dX10_textOf_10 : decode cX10_textOf 10 = .ok (.iconst 1, 1) := by decide +kernel
theorem dX10_textOf_11 : decode cX10_textOf 11 = .ok (.if_icmp .ne 10, 3) := by decide +kernel
theorem dX10_textOf_14 : decode cX10_textOf 14 = .ok (.aload_n 0, 1) := by decide +kernel
theorem dX10_textOf_15 : decode cX10_textOf 15 = .ok (.getfield 18, 3) := by decide +kernel
theorem dX10_textOf_18 : decode cX10_textOf 18 = .ok (.goto 4, 3) := by decide +kernel
theorem dX10_textOf_21 : decode cX10_textOf 21 = .ok (.aconst_null, 1) := by decide +kernel
theorem dX10_textOf_22 : decode cX10_textOf 22 = .ok (.areturn, 1) := by decide +kernel
theorem dX10_parseAgain_0 : decode cX10_parseAgain 0 = .ok (.iload_n 1, 1) := by decide +kernel
theorem dX10_parseAgain_1 : decode cX10_parseAgain 1 = .ok (.ifCond .ne 17, 3) := by decide +kernel
theorem dX10_parseAgain_4 : decode cX10_parseAgain 4 = .ok (.aload_n 0, 1) := by decide +kernel
theorem dX10_parseAgain_5 : decode cX10_parseAgain 5 = .ok (.getfield 24, 3) := by decide +kernel
theorem dX10_parseAgain_8 : decode cX10_parseAgain 8 = .ok (.aload_n 0, 1) := by decide +kernel
theorem dX10_parseAgain_9 : decode cX10_parseAgain 9 = .ok (.getfield 14, 3) := by decide +kernel
theorem dX10_parseAgain_12 : decode cX10_parseAgain 12 = .ok (.invokevirtual 338, 3) := by decide +kernel
theorem dX10_parseAgain_15 : decode cX10_parseAgain 15 = .ok (.goto 14, 3) := by decide +kernel
theorem dX10_parseAgain_18 : decode cX10_parseAgain 18 = .ok (.aload_n 0, 1) := by decide +kernel
theorem dX10_parseAgain_19 : decode cX10_parseAgain 19 = .ok (.getfield 31, 3) := by decide +kernel
theorem dX10_parseAgain_22 : decode cX10_parseAgain 22 = .ok (.aload_n 0, 1) := by decide +kernel
theorem dX10_parseAgain_23 : decode cX10_parseAgain 23 = .ok (.getfield 18, 3) := by decide +kernel
theorem dX10_parseAgain_26 : decode cX10_parseAgain 26 = .ok (.invokevirtual 342, 3) := by decide +kernel
theorem dX10_parseAgain_29 : decode cX10_parseAgain 29 = .ok (.return_, 1) := by decide +kernel
theorem dX10_helped_0 : decode cX10_helped 0 = .ok (.aload_n 0, 1) := by decide +kernel
theorem dX10_helped_1 : decode cX10_helped 1 = .ok (.getfield 80, 3) := by decide +kernel
theorem dX10_helped_4 : decode cX10_helped 4 = .ok (.iload_n 2, 1) := by decide +kernel
theorem dX10_helped_5 : decode cX10_helped 5 = .ok (.i2l, 1) := by decide +kernel
theorem dX10_helped_6 : decode cX10_helped 6 = .ok (.iload_n 1, 1) := by decide +kernel
theorem dX10_helped_7 : decode cX10_helped 7 = .ok (.i2l, 1) := by decide +kernel
theorem dX10_helped_8 : decode cX10_helped 8 = .ok (.lmul, 1) := by decide +kernel
theorem dX10_helped_9 : decode cX10_helped 9 = .ok (.iload_n 1, 1) := by decide +kernel
theorem dX10_helped_10 : decode cX10_helped 10 = .ok (.iconst 1, 1) := by decide +kernel
theorem dX10_helped_11 : decode cX10_helped 11 = .ok (.iadd, 1) := by decide +kernel
theorem dX10_helped_12 : decode cX10_helped 12 = .ok (.i2l, 1) := by decide +kernel
theorem dX10_helped_13 : decode cX10_helped 13 = .ok (.invokevirtual 227, 3) := by decide +kernel
theorem dX10_helped_16 : decode cX10_helped 16 = .ok (.return_, 1) := by decide +kernel
theorem dJ9_max_7cf53_0 : decode cJ9_max_7cf53 0 = .ok (.iload_n 0, 1) := by decide +kernel
theorem dJ9_max_7cf53_1 : decode cJ9_max_7cf53 1 = .ok (.iload_n 1, 1) := by decide +kernel
theorem dJ9_max_7cf53_2 : decode cJ9_max_7cf53 2 = .ok (.if_icmp .lt 7, 3) := by decide +kernel
theorem dJ9_max_7cf53_5 : decode cJ9_max_7cf53 5 = .ok (.iload_n 0, 1) := by decide +kernel
theorem dJ9_max_7cf53_6 : decode cJ9_max_7cf53 6 = .ok (.goto 4, 3) := by decide +kernel
theorem dJ9_max_7cf53_9 : decode cJ9_max_7cf53 9 = .ok (.iload_n 1, 1) := by decide +kernel
theorem dJ9_max_7cf53_10 : decode cJ9_max_7cf53 10 = .ok (.ireturn, 1) := by decide +kernel
theorem dJ9_min_7cf53_0 : decode cJ9_min_7cf53 0 = .ok (.iload_n 0, 1) := by decide +kernel
theorem dJ9_min_7cf53_1 : decode cJ9_min_7cf53 1 = .ok (.iload_n 1, 1) := by decide +kernel
theorem dJ9_min_7cf53_2 : decode cJ9_min_7cf53 2 = .ok (.if_icmp .gt 7, 3) := by decide +kernel
theorem dJ9_min_7cf53_5 : decode cJ9_min_7cf53 5 = .ok (.iload_n 0, 1) := by decide +kernel
theorem dJ9_min_7cf53_6 : decode cJ9_min_7cf53 6 = .ok (.goto 4, 3) := by decide +kernel
theorem dJ9_min_7cf53_9 : decode cJ9_min_7cf53 9 = .ok (.iload_n 1, 1) := by decide +kernel
theorem dJ9_min_7cf53_10 : decode cJ9_min_7cf53 10 = .ok (.ireturn, 1) := by decide +kernel
