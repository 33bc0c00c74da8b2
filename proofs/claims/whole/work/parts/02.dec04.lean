theorem dX10_on_38 : decode cX10_on 38 = .ok (.goto 5, 3) := by decide +kernel
theorem dX10_on_41 : decode cX10_on 41 = .ok (.bipush (-3), 2) := by decide +kernel
theorem dX10_on_43 : decode cX10_on 43 = .ok (.ireturn, 1) := by decide +kernel
theorem dX10_steps_0 : decode cX10_steps 0 = .ok (.iload_n 1, 1) := by decide +kernel
theorem dX10_steps_1 : decode cX10_steps 1 = .ok (.invokestatic 267, 3) := by decide +kernel
theorem dX10_steps_4 : decode cX10_steps 4 = .ok (.ifCond .ne 5, 3) := by decide +kernel
theorem dX10_steps_7 : decode cX10_steps 7 = .ok (.iconst (-1), 1) := by decide +kernel
theorem dX10_steps_8 : decode cX10_steps 8 = .ok (.ireturn, 1) := by decide +kernel
theorem dX10_steps_9 : decode cX10_steps 9 = .ok (.aload_n 0, 1) := by decide +kernel
theorem dX10_steps_10 : decode cX10_steps 10 = .ok (.iload_n 1, 1) := by decide +kernel
theorem dX10_steps_11 : decode cX10_steps 11 = .ok (.invokevirtual 258, 3) := by decide +kernel
theorem dX10_steps_14 : decode cX10_steps 14 = .ok (.ifCond .eq 10, 3) := by decide +kernel
theorem dX10_steps_17 : decode cX10_steps 17 = .ok (.aload_n 0, 1) := by decide +kernel
theorem dX10_steps_18 : decode cX10_steps 18 = .ok (.getfield 232, 3) := by decide +kernel
theorem dX10_steps_21 : decode cX10_steps 21 = .ok (.goto 5, 3) := by decide +kernel
theorem dX10_steps_24 : decode cX10_steps 24 = .ok (.bipush (-3), 2) := by decide +kernel
theorem dX10_steps_26 : decode cX10_steps 26 = .ok (.ireturn, 1) := by decide +kernel
theorem dX10_total_0 : decode cX10_total 0 = .ok (.iload_n 1, 1) := by decide +kernel
theorem dX10_total_1 : decode cX10_total 1 = .ok (.invokestatic 267, 3) := by decide +kernel
theorem dX10_total_4 : decode cX10_total 4 = .ok (.ifCond .eq 11, 3) := by decide +kernel
theorem dX10_total_7 : decode cX10_total 7 = .ok (.aload_n 0, 1) := by decide +kernel
theorem dX10_total_8 : decode cX10_total 8 = .ok (.iload_n 1, 1) := by decide +kernel
theorem dX10_total_9 : decode cX10_total 9 = .ok (.invokevirtual 270, 3) := by decide +kernel
theorem dX10_total_12 : decode cX10_total 12 = .ok (.goto 6, 3) := by decide +kernel
theorem dX10_total_15 : decode cX10_total 15 = .ok (.ldc2_w 122, 3) := by decide +kernel
theorem dX10_total_18 : decode cX10_total 18 = .ok (.lstore_n 2, 1) := by decide +kernel
theorem dX10_total_19 : decode cX10_total 19 = .ok (.lload_n 2, 1) := by decide +kernel
theorem dX10_total_20 : decode cX10_total 20 = .ok (.lconst 0, 1) := by decide +kernel
theorem dX10_total_21 : decode cX10_total 21 = .ok (.lcmp, 1) := by decide +kernel
theorem dX10_total_22 : decode cX10_total 22 = .ok (.ifCond .ge 9, 3) := by decide +kernel
theorem dX10_total_25 : decode cX10_total 25 = .ok (.ldc2_w 134, 3) := by decide +kernel
theorem dX10_total_28 : decode cX10_total 28 = .ok (.goto 4, 3) := by decide +kernel
theorem dX10_total_31 : decode cX10_total 31 = .ok (.lload_n 2, 1) := by decide +kernel
theorem dX10_total_32 : decode cX10_total 32 = .ok (.lreturn, 1) := by decide +kernel
theorem dX10_price_0 : decode cX10_price 0 = .ok (.iload_n 1, 1) := by decide +kernel
theorem dX10_price_1 : decode cX10_price 1 = .ok (.invokestatic 267, 3) := by decide +kernel
theorem dX10_price_4 : decode cX10_price 4 = .ok (.ifCond .eq 31, 3) := by decide +kernel
theorem dX10_price_7 : decode cX10_price 7 = .ok (.aload_n 0, 1) := by decide +kernel
theorem dX10_price_8 : decode cX10_price 8 = .ok (.iload_n 2, 1) := by decide +kernel
theorem dX10_price_9 : decode cX10_price 9 = .ok (.iload_n 3, 1) := by decide +kernel
theorem dX10_price_10 : decode cX10_price 10 = .ok (.invokevirtual 205, 3) := by decide +kernel
theorem dX10_price_13 : decode cX10_price 13 = .ok (.ifCond .eq 22, 3) := by decide +kernel
theorem dX10_price_16 : decode cX10_price 16 = .ok (.iload 4, 2) := by decide +kernel
theorem dX10_price_18 : decode cX10_price 18 = .ok (.i2l, 1) := by decide +kernel
theorem dX10_price_19 : decode cX10_price 19 = .ok (.lconst 0, 1) := by decide +kernel
theorem dX10_price_20 : decode cX10_price 20 = .ok (.lconst 1, 1) := by decide +kernel
theorem dX10_price_21 : decode cX10_price 21 = .ok (.invokestatic 89, 3) := by decide +kernel
theorem dX10_price_24 : decode cX10_price 24 = .ok (.ifCond .eq 11, 3) := by decide +kernel
theorem dX10_price_27 : decode cX10_price 27 = .ok (.aload_n 0, 1) := by decide +kernel
theorem dX10_price_28 : decode cX10_price 28 = .ok (.iload_n 1, 1) := by decide +kernel
theorem dX10_price_29 : decode cX10_price 29 = .ok (.invokevirtual 258, 3) := by decide +kernel
theorem dX10_price_32 : decode cX10_price 32 = .ok (.ifCond .ne 7, 3) := by decide +kernel
theorem dX10_price_35 : decode cX10_price 35 = .ok (.ldc2_w 134, 3) := by decide +kernel
theorem dX10_price_38 : decode cX10_price 38 = .ok (.lreturn, 1) := by decide +kernel
theorem dX10_price_39 : decode cX10_price 39 = .ok (.iload 4, 2) := by decide +kernel
theorem dX10_price_41 : decode cX10_price 41 = .ok (.ifCond .ne 13, 3) := by decide +kernel
theorem dX10_price_44 : decode cX10_price 44 = .ok (.aload_n 0, 1) := by decide +kernel
theorem dX10_price_45 : decode cX10_price 45 = .ok (.iload_n 1, 1) := by decide +kernel
theorem dX10_price_46 : decode cX10_price 46 = .ok (.iload_n 2, 1) := by decide +kernel
theorem dX10_price_47 : decode cX10_price 47 = .ok (.iload_n 3, 1) := by decide +kernel
theorem dX10_price_48 : decode cX10_price 48 = .ok (.invokevirtual 274, 3) := by decide +kernel
theorem dX10_price_51 : decode cX10_price 51 = .ok (.goto 10, 3) := by decide +kernel
theorem dX10_price_54 : decode cX10_price 54 = .ok (.aload_n 0, 1) := by decide +kernel
theorem dX10_price_55 : decode cX10_price 55 = .ok (.iload_n 1, 1) := by decide +kernel
theorem dX10_price_56 : decode cX10_price 56 = .ok (.iload_n 2, 1) := by decide +kernel
theorem dX10_price_57 : decode cX10_price 57 = .ok (.iload_n 3, 1) := by decide +kernel
theorem dX10_price_58 : decode cX10_price 58 = .ok (.invokevirtual 214, 3) := by decide +kernel
theorem dX10_price_61 : decode cX10_price 61 = .ok (.lreturn, 1) := by decide +kernel
theorem dX10_divisor_0 : decode cX10_divisor 0 = .ok (.lload_n 0, 1) := by decide +kernel
theorem dX10_divisor_1 : decode cX10_divisor 1 = .ok (.lstore 4, 2) := by decide +kernel
theorem dX10_divisor_3 : decode cX10_divisor 3 = .ok (.lload_n 2, 1) := by decide +kernel
theorem dX10_divisor_4 : decode cX10_divisor 4 = .ok (.lstore 6, 2) := by decide +kernel
theorem dX10_divisor_6 : decode cX10_divisor 6 = .ok (.lload 6, 2) := by decide +kernel
theorem dX10_divisor_8 : decode cX10_divisor 8 = .ok (.lconst 0, 1) := by decide +kernel
theorem dX10_divisor_9 : decode cX10_divisor 9 = .ok (.lcmp, 1) := by decide +kernel
theorem dX10_divisor_10 : decode cX10_divisor 10 = .ok (.ifCond .eq 21, 3) := by decide +kernel
theorem dX10_divisor_13 : decode cX10_divisor 13 = .ok (.lload 4, 2) := by decide +kernel
theorem dX10_divisor_15 : decode cX10_divisor 15 = .ok (.lload 6, 2) := by decide +kernel
theorem dX10_divisor_17 : decode cX10_divisor 17 = .ok (.lrem, 1) := by decide +kernel
theorem dX10_divisor_18 : decode cX10_divisor 18 = .ok (.lstore 8, 2) := by decide +kernel
theorem dX10_divisor_20 : decode cX10_divisor 20 = .ok (.lload 6, 2) := by decide +kernel
theorem dX10_divisor_22 : decode cX10_divisor 22 = .ok (.lstore 4, 2) := by decide +kernel
theorem dX10_divisor_24 : decode cX10_divisor 24 = .ok (.lload 8, 2) := by decide +kernel
theorem dX10_divisor_26 : decode cX10_divisor 26 = .ok (.lstore 6, 2) := by decide +kernel
theorem dX10_divisor_28 : decode cX10_divisor 28 = .ok (.goto (-22), 3) := by decide +kernel
theorem dX10_divisor_31 : decode cX10_divisor 31 = .ok (.lload 4, 2) := by decide +kernel
theorem dX10_divisor_33 : decode cX10_divisor 33 = .ok (.lreturn, 1) := by decide +kernel
theorem dX10_partOf_0 : decode cX10_partOf 0 = .ok (.lload_n 0, 1) := by decide +kernel
theorem dX10_partOf_1 : decode cX10_partOf 1 = .ok (.lload_n 2, 1) := by decide +kernel
theorem dX10_partOf_2 : decode cX10_partOf 2 = .ok (.invokestatic 277, 3) := by decide +kernel
theorem dX10_partOf_5 : decode cX10_partOf 5 = .ok (.lstore 5, 2) := by decide +kernel
theorem dX10_partOf_7 : decode cX10_partOf 7 = .ok (.iload 4, 2) := by decide +kernel
theorem dX10_partOf_9 : decode cX10_partOf 9 = .ok (.ifCond .ne 10, 3) := by decide +kernel
theorem dX10_partOf_12 : decode cX10_partOf 12 = .ok (.lload_n 0, 1) := by decide +kernel
theorem dX10_partOf_13 : decode cX10_partOf 13 = .ok (.lload 5, 2) := by decide +kernel
theorem dX10_partOf_15 : decode cX10_partOf 15 = .ok (.ldiv, 1) := by decide +kernel
theorem dX10_partOf_16 : decode cX10_partOf 16 = .ok (.goto 7, 3) := by decide +kernel
theorem dX10_partOf_19 : decode cX10_partOf 19 = .ok (.lload_n 2, 1) := by decide +kernel
theorem dX10_partOf_20 : decode cX10_partOf 20 = .ok (.lload 5, 2) := by decide +kernel
theorem dX10_partOf_22 : decode cX10_partOf 22 = .ok (.ldiv, 1) := by decide +kernel
theorem dX10_partOf_23 : decode cX10_partOf 23 = .ok (.lreturn, 1) := by decide +kernel
theorem dX10_mean_0 : decode cX10_mean 0 = .ok (.iload_n 1, 1) := by decide +kernel
theorem dX10_mean_1 : decode cX10_mean 1 = .ok (.invokestatic 267, 3) := by decide +kernel
theorem dX10_mean_4 : decode cX10_mean 4 = .ok (.ifCond .eq 39, 3) := by decide +kernel
theorem dX10_mean_7 : decode cX10_mean 7 = .ok (.iload_n 2, 1) := by decide +kernel
theorem dX10_mean_8 : decode cX10_mean 8 = .ok (.invokestatic 146, 3) := by decide +kernel
theorem dX10_mean_11 : decode cX10_mean 11 = .ok (.ifCond .eq 32, 3) := by decide +kernel
theorem dX10_mean_14 : decode cX10_mean 14 = .ok (.iload_n 3, 1) := by decide +kernel
theorem dX10_mean_15 : decode cX10_mean 15 = .ok (.i2l, 1) := by decide +kernel
theorem dX10_mean_16 : decode cX10_mean 16 = .ok (.lconst 0, 1) := by decide +kernel
theorem dX10_mean_17 : decode cX10_mean 17 = .ok (.lconst 1, 1) := by decide +kernel
theorem dX10_mean_18 : decode cX10_mean 18 = .ok (.invokestatic 89, 3) := by decide +kernel
theorem dX10_mean_21 : decode cX10_mean 21 = .ok (.ifCond .eq 22, 3) := by decide +kernel
theorem dX10_mean_24 : decode cX10_mean 24 = .ok (.aload_n 0, 1) := by decide +kernel
theorem dX10_mean_25 : decode cX10_mean 25 = .ok (.iload_n 2, 1) := by decide +kernel
theorem dX10_mean_26 : decode cX10_mean 26 = .ok (.iconst 1, 1) := by decide +kernel
theorem dX10_mean_27 : decode cX10_mean 27 = .ok (.invokevirtual 154, 3) := by decide +kernel
theorem dX10_mean_30 : decode cX10_mean 30 = .ok (.lconst 0, 1) := by decide +kernel
theorem dX10_mean_31 : decode cX10_mean 31 = .ok (.lcmp, 1) := by decide +kernel
theorem dX10_mean_32 : decode cX10_mean 32 = .ok (.ifCond .eq 11, 3) := by decide +kernel
theorem dX10_mean_35 : decode cX10_mean 35 = .ok (.aload_n 0, 1) := by decide +kernel
theorem dX10_mean_36 : decode cX10_mean 36 = .ok (.iload_n 1, 1) := by decide +kernel
theorem dX10_mean_37 : decode cX10_mean 37 = .ok (.invokevirtual 258, 3) := by decide +kernel
theorem dX10_mean_40 : decode cX10_mean 40 = .ok (.ifCond .ne 7, 3) := by decide +kernel
theorem dX10_mean_43 : decode cX10_mean 43 = .ok (.ldc2_w 134, 3) := by decide +kernel
theorem dX10_mean_46 : decode cX10_mean 46 = .ok (.lreturn, 1) := by decide +kernel
theorem dX10_mean_47 : decode cX10_mean 47 = .ok (.aload_n 0, 1) := by decide +kernel
theorem dX10_mean_48 : decode cX10_mean 48 = .ok (.invokevirtual 249, 3) := by decide +kernel
theorem dX10_mean_51 : decode cX10_mean 51 = .ok (.iconst 0, 1) := by decide +kernel
theorem dX10_mean_52 : decode cX10_mean 52 = .ok (.istore 4, 2) := by decide +kernel
theorem dX10_mean_54 : decode cX10_mean 54 = .ok (.iload 4, 2) := by decide +kernel
theorem dX10_mean_56 : decode cX10_mean 56 = .ok (.aload_n 0, 1) := by decide +kernel
theorem dX10_mean_57 : decode cX10_mean 57 = .ok (.getfield 28, 3) := by decide +kernel
theorem dX10_mean_60 : decode cX10_mean 60 = .ok (.iload_n 2, 1) := by decide +kernel
theorem dX10_mean_61 : decode cX10_mean 61 = .ok (.iaload, 1) := by decide +kernel
theorem dX10_mean_62 : decode cX10_mean 62 = .ok (.if_icmp .ge 51, 3) := by decide +kernel
theorem dX10_mean_65 : decode cX10_mean 65 = .ok (.aload_n 0, 1) := by decide +kernel
theorem dX10_mean_66 : decode cX10_mean 66 = .ok (.getfield 49, 3) := by decide +kernel
theorem dX10_mean_69 : decode cX10_mean 69 = .ok (.sipush 256, 3) := by decide +kernel
theorem dX10_mean_72 : decode cX10_mean 72 = .ok (.iload_n 2, 1) := by decide +kernel
theorem dX10_mean_73 : decode cX10_mean 73 = .ok (.imul, 1) := by decide +kernel
theorem dX10_mean_74 : decode cX10_mean 74 = .ok (.iload 4, 2) := by decide +kernel
theorem dX10_mean_76 : decode cX10_mean 76 = .ok (.iadd, 1) := by decide +kernel
theorem dX10_mean_77 : decode cX10_mean 77 = .ok (.iaload, 1) := by decide +kernel
theorem dX10_mean_78 : decode cX10_mean 78 = .ok (.ifCond .le 29, 3) := by decide +kernel
theorem dX10_mean_81 : decode cX10_mean 81 = .ok (.aload_n 0, 1) := by decide +kernel
theorem dX10_mean_82 : decode cX10_mean 82 = .ok (.aload_n 0, 1) := by decide +kernel
theorem dX10_mean_83 : decode cX10_mean 83 = .ok (.getfield 49, 3) := by decide +kernel
theorem dX10_mean_86 : decode cX10_mean 86 = .ok (.sipush 256, 3) := by decide +kernel
theorem dX10_mean_89 : decode cX10_mean 89 = .ok (.iload_n 2, 1) := by decide +kernel
theorem dX10_mean_90 : decode cX10_mean 90 = .ok (.imul, 1) := by decide +kernel
theorem dX10_mean_91 : decode cX10_mean 91 = .ok (.iload 4, 2) := by decide +kernel
theorem dX10_mean_93 : decode cX10_mean 93 = .ok (.iadd, 1) := by decide +kernel
theorem dX10_mean_94 : decode cX10_mean 94 = .ok (.iaload, 1) := by decide +kernel
theorem dX10_mean_95 : decode cX10_mean 95 = .ok (.i2l, 1) := by decide +kernel
theorem dX10_mean_96 : decode cX10_mean 96 = .ok (.aload_n 0, 1) := by decide +kernel
theorem dX10_mean_97 : decode cX10_mean 97 = .ok (.iload_n 1, 1) := by decide +kernel
theorem dX10_mean_98 : decode cX10_mean 98 = .ok (.iload_n 2, 1) := by decide +kernel
theorem dX10_mean_99 : decode cX10_mean 99 = .ok (.iload 4, 2) := by decide +kernel
theorem dX10_mean_101 : decode cX10_mean 101 = .ok (.invokevirtual 274, 3) := by decide +kernel
theorem dX10_mean_104 : decode cX10_mean 104 = .ok (.invokevirtual 252, 3) := by decide +kernel
theorem dX10_mean_107 : decode cX10_mean 107 = .ok (.iinc 4 1, 3) := by decide +kernel
theorem dX10_mean_110 : decode cX10_mean 110 = .ok (.goto (-56), 3) := by decide +kernel
theorem dX10_mean_113 : decode cX10_mean 113 = .ok (.aload_n 0, 1) := by decide +kernel
theorem dX10_mean_114 : decode cX10_mean 114 = .ok (.getfield 238, 3) := by decide +kernel
theorem dX10_mean_117 : decode cX10_mean 117 = .ok (.ifCond .eq 9, 3) := by decide +kernel
theorem dX10_mean_120 : decode cX10_mean 120 = .ok (.ldc2_w 134, 3) := by decide +kernel
theorem dX10_mean_123 : decode cX10_mean 123 = .ok (.goto 17, 3) := by decide +kernel
theorem dX10_mean_126 : decode cX10_mean 126 = .ok (.aload_n 0, 1) := by decide +kernel
theorem dX10_mean_127 : decode cX10_mean 127 = .ok (.getfield 241, 3) := by decide +kernel
theorem dX10_mean_130 : decode cX10_mean 130 = .ok (.aload_n 0, 1) := by decide +kernel
theorem dX10_mean_131 : decode cX10_mean 131 = .ok (.iload_n 2, 1) := by decide +kernel
theorem dX10_mean_132 : decode cX10_mean 132 = .ok (.iconst 1, 1) := by decide +kernel
theorem dX10_mean_133 : decode cX10_mean 133 = .ok (.invokevirtual 154, 3) := by decide +kernel
theorem dX10_mean_136 : decode cX10_mean 136 = .ok (.iload_n 3, 1) := by decide +kernel
theorem dX10_mean_137 : decode cX10_mean 137 = .ok (.invokestatic 281, 3) := by decide +kernel
theorem dX10_mean_140 : decode cX10_mean 140 = .ok (.lreturn, 1) := by decide +kernel
theorem dX10_shown_0 : decode cX10_shown 0 = .ok (.iload_n 1, 1) := by decide +kernel
theorem dX10_shown_1 : decode cX10_shown 1 = .ok (.invokestatic 267, 3) := by decide +kernel
theorem dX10_shown_4 : decode cX10_shown 4 = .ok (.ifCond .eq 10, 3) := by decide +kernel
theorem dX10_shown_7 : decode cX10_shown 7 = .ok (.iload_n 2, 1) := by decide +kernel
theorem dX10_shown_8 : decode cX10_shown 8 = .ok (.invokestatic 146, 3) := by decide +kernel
theorem dX10_shown_11 : decode cX10_shown 11 = .ok (.ifCond .ne 5, 3) := by decide +kernel
theorem dX10_shown_14 : decode cX10_shown 14 = .ok (.iconst (-1), 1) := by decide +kernel
theorem dX10_shown_15 : decode cX10_shown 15 = .ok (.ireturn, 1) := by decide +kernel
theorem dX10_shown_16 : decode cX10_shown 16 = .ok (.aload_n 0, 1) := by decide +kernel
theorem dX10_shown_17 : decode cX10_shown 17 = .ok (.iload_n 2, 1) := by decide +kernel
theorem dX10_shown_18 : decode cX10_shown 18 = .ok (.iconst 1, 1) := by decide +kernel
theorem dX10_shown_19 : decode cX10_shown 19 = .ok (.invokevirtual 154, 3) := by decide +kernel
theorem dX10_shown_22 : decode cX10_shown 22 = .ok (.lconst 0, 1) := by decide +kernel
theorem dX10_shown_23 : decode cX10_shown 23 = .ok (.lcmp, 1) := by decide +kernel
theorem dX10_shown_24 : decode cX10_shown 24 = .ok (.ifCond .eq 11, 3) := by decide +kernel
theorem dX10_shown_27 : decode cX10_shown 27 = .ok (.aload_n 0, 1) := by decide +kernel
theorem dX10_shown_28 : decode cX10_shown 28 = .ok (.iload_n 1, 1) := by decide +kernel
theorem dX10_shown_29 : decode cX10_shown 29 = .ok (.invokevirtual 258, 3) := by decide +kernel
theorem dX10_shown_32 : decode cX10_shown 32 = .ok (.ifCond .ne 6, 3) := by decide +kernel
theorem dX10_shown_35 : decode cX10_shown 35 = .ok (.bipush (-3), 2) := by decide +kernel
theorem dX10_shown_37 : decode cX10_shown 37 = .ok (.ireturn, 1) := by decide +kernel
theorem dX10_shown_38 : decode cX10_shown 38 = .ok (.fconst 0, 1) := by decide +kernel
theorem dX10_shown_39 : decode cX10_shown 39 = .ok (.fstore_n 3, 1) := by decide +kernel
theorem dX10_shown_40 : decode cX10_shown 40 = .ok (.aload_n 0, 1) := by decide +kernel
theorem dX10_shown_41 : decode cX10_shown 41 = .ok (.iload_n 2, 1) := by decide +kernel
theorem dX10_shown_42 : decode cX10_shown 42 = .ok (.iconst 1, 1) := by decide +kernel
theorem dX10_shown_43 : decode cX10_shown 43 = .ok (.invokevirtual 154, 3) := by decide +kernel
theorem dX10_shown_46 : decode cX10_shown 46 = .ok (.l2f, 1) := by decide +kernel
theorem dX10_shown_47 : decode cX10_shown 47 = .ok (.fstore 4, 2) := by decide +kernel
theorem dX10_shown_49 : decode cX10_shown 49 = .ok (.iconst 0, 1) := by decide +kernel
theorem dX10_shown_50 : decode cX10_shown 50 = .ok (.istore 5, 2) := by decide +kernel
theorem dX10_shown_52 : decode cX10_shown 52 = .ok (.iload 5, 2) := by decide +kernel
theorem dX10_shown_54 : decode cX10_shown 54 = .ok (.aload_n 0, 1) := by decide +kernel
theorem dX10_shown_55 : decode cX10_shown 55 = .ok (.getfield 28, 3) := by decide +kernel
theorem dX10_shown_58 : decode cX10_shown 58 = .ok (.iload_n 2, 1) := by decide +kernel
theorem dX10_shown_59 : decode cX10_shown 59 = .ok (.iaload, 1) := by decide +kernel
theorem dX10_shown_60 : decode cX10_shown 60 = .ok (.if_icmp .ge 48, 3) := by decide +kernel
theorem dX10_shown_63 : decode cX10_shown 63 = .ok (.aload_n 0, 1) := by decide +kernel
theorem dX10_shown_64 : decode cX10_shown 64 = .ok (.getfield 49, 3) := by decide +kernel
theorem dX10_shown_67 : decode cX10_shown 67 = .ok (.sipush 256, 3) := by decide +kernel
theorem dX10_shown_70 : decode cX10_shown 70 = .ok (.iload_n 2, 1) := by decide +kernel
theorem dX10_shown_71 : decode cX10_shown 71 = .ok (.imul, 1) := by decide +kernel
theorem dX10_shown_72 : decode cX10_shown 72 = .ok (.iload 5, 2) := by decide +kernel
theorem dX10_shown_74 : decode cX10_shown 74 = .ok (.iadd, 1) := by decide +kernel
theorem dX10_shown_75 : decode cX10_shown 75 = .ok (.iaload, 1) := by decide +kernel
theorem dX10_shown_76 : decode cX10_shown 76 = .ok (.istore 6, 2) := by decide +kernel
theorem dX10_shown_78 : decode cX10_shown 78 = .ok (.iload 6, 2) := by decide +kernel
theorem dX10_shown_80 : decode cX10_shown 80 = .ok (.ifCond .le 22, 3) := by decide +kernel
theorem dX10_shown_83 : decode cX10_shown 83 = .ok (.fload_n 3, 1) := by decide +kernel
theorem dX10_shown_84 : decode cX10_shown 84 = .ok (.aload_n 0, 1) := by decide +kernel
theorem dX10_shown_85 : decode cX10_shown 85 = .ok (.iload_n 1, 1) := by decide +kernel
theorem dX10_shown_86 : decode cX10_shown 86 = .ok (.iload_n 2, 1) := by decide +kernel
theorem dX10_shown_87 : decode cX10_shown 87 = .ok (.iload 5, 2) := by decide +kernel
theorem dX10_shown_89 : decode cX10_shown 89 = .ok (.invokevirtual 274, 3) := by decide +kernel
theorem dX10_shown_92 : decode cX10_shown 92 = .ok (.l2f, 1) := by decide +kernel
theorem dX10_shown_93 : decode cX10_shown 93 = .ok (.iload 6, 2) := by decide +kernel
theorem dX10_shown_95 : decode cX10_shown 95 = .ok (.i2f, 1) := by decide +kernel
theorem dX10_shown_96 : decode cX10_shown 96 = .ok (.fmul, 1) := by decide +kernel
theorem dX10_shown_97 : decode cX10_shown 97 = .ok (.fload 4, 2) := by decide +kernel
theorem dX10_shown_99 : decode cX10_shown 99 = .ok (.fdiv, 1) := by decide +kernel
theorem dX10_shown_100 : decode cX10_shown 100 = .ok (.fadd, 1) := by decide +kernel
theorem dX10_shown_101 : decode cX10_shown 101 = .ok (.fstore_n 3, 1) := by decide +kernel
theorem dX10_shown_102 : decode cX10_shown 102 = .ok (.iinc 5 1, 3) := by decide +kernel
theorem dX10_shown_105 : decode cX10_shown 105 = .ok (.goto (-53), 3) := by decide +kernel
theorem dX10_shown_108 : decode cX10_shown 108 = .ok (.fload_n 3, 1) := by decide +kernel
theorem dX10_shown_109 : decode cX10_shown 109 = .ok (.invokestatic 285, 3) := by decide +kernel
theorem dX10_shown_112 : decode cX10_shown 112 = .ok (.ireturn, 1) := by decide +kernel
theorem dX10_taken_0 : decode cX10_taken 0 = .ok (.iload_n 1, 1) := by decide +kernel
theorem dX10_taken_1 : decode cX10_taken 1 = .ok (.invokestatic 267, 3) := by decide +kernel
theorem dX10_taken_4 : decode cX10_taken 4 = .ok (.ifCond .eq 11, 3) := by decide +kernel
theorem dX10_taken_7 : decode cX10_taken 7 = .ok (.aload_n 0, 1) := by decide +kernel
theorem dX10_taken_8 : decode cX10_taken 8 = .ok (.iload_n 1, 1) := by decide +kernel
theorem dX10_taken_9 : decode cX10_taken 9 = .ok (.invokevirtual 258, 3) := by decide +kernel
theorem dX10_taken_12 : decode cX10_taken 12 = .ok (.ifCond .ne 7, 3) := by decide +kernel
theorem dX10_taken_15 : decode cX10_taken 15 = .ok (.ldc2_w 134, 3) := by decide +kernel
theorem dX10_taken_18 : decode cX10_taken 18 = .ok (.lreturn, 1) := by decide +kernel
theorem dX10_taken_19 : decode cX10_taken 19 = .ok (.aload_n 0, 1) := by decide +kernel
theorem dX10_taken_20 : decode cX10_taken 20 = .ok (.invokevirtual 249, 3) := by decide +kernel
theorem dX10_taken_23 : decode cX10_taken 23 = .ok (.iconst 0, 1) := by decide +kernel
theorem dX10_taken_24 : decode cX10_taken 24 = .ok (.istore_n 2, 1) := by decide +kernel
theorem dX10_taken_25 : decode cX10_taken 25 = .ok (.iload_n 2, 1) := by decide +kernel
theorem dX10_taken_26 : decode cX10_taken 26 = .ok (.aload_n 0, 1) := by decide +kernel
theorem dX10_taken_27 : decode cX10_taken 27 = .ok (.invokevirtual 85, 3) := by decide +kernel
theorem dX10_taken_30 : decode cX10_taken 30 = .ok (.if_icmp .ge 50, 3) := by decide +kernel
theorem dX10_taken_33 : decode cX10_taken 33 = .ok (.iload_n 1, 1) := by decide +kernel
theorem dX10_taken_34 : decode cX10_taken 34 = .ok (.ifCond .le 46, 3) := by decide +kernel
theorem dX10_taken_37 : decode cX10_taken 37 = .ok (.aload_n 0, 1) := by decide +kernel
theorem dX10_taken_38 : decode cX10_taken 38 = .ok (.aload_n 0, 1) := by decide +kernel
theorem dX10_taken_39 : decode cX10_taken 39 = .ok (.getfield 46, 3) := by decide +kernel
theorem dX10_taken_42 : decode cX10_taken 42 = .ok (.iload_n 2, 1) := by decide +kernel
theorem dX10_taken_43 : decode cX10_taken 43 = .ok (.iaload, 1) := by decide +kernel
theorem dX10_taken_44 : decode cX10_taken 44 = .ok (.i2l, 1) := by decide +kernel
theorem dX10_taken_45 : decode cX10_taken 45 = .ok (.iload_n 1, 1) := by decide +kernel
theorem dX10_taken_46 : decode cX10_taken 46 = .ok (.iconst 1, 1) := by decide +kernel
theorem dX10_taken_47 : decode cX10_taken 47 = .ok (.if_icmp .ne 13, 3) := by decide +kernel
theorem dX10_taken_50 : decode cX10_taken 50 = .ok (.aload_n 0, 1) := by decide +kernel
theorem dX10_taken_51 : decode cX10_taken 51 = .ok (.iload_n 2, 1) := by decide +kernel
theorem dX10_taken_52 : decode cX10_taken 52 = .ok (.bipush 7, 2) := by decide +kernel
theorem dX10_taken_54 : decode cX10_taken 54 = .ok (.invokevirtual 128, 3) := by decide +kernel
theorem dX10_taken_57 : decode cX10_taken 57 = .ok (.goto 14, 3) := by decide +kernel
theorem dX10_taken_60 : decode cX10_taken 60 = .ok (.aload_n 0, 1) := by decide +kernel
theorem dX10_taken_61 : decode cX10_taken 61 = .ok (.iload_n 2, 1) := by decide +kernel
theorem dX10_taken_62 : decode cX10_taken 62 = .ok (.aload_n 0, 1) := by decide +kernel
theorem dX10_taken_63 : decode cX10_taken 63 = .ok (.getfield 46, 3) := by decide +kernel
theorem dX10_taken_66 : decode cX10_taken 66 = .ok (.iload_n 2, 1) := by decide +kernel
theorem dX10_taken_67 : decode cX10_taken 67 = .ok (.iaload, 1) := by decide +kernel
theorem dX10_taken_68 : decode cX10_taken 68 = .ok (.invokevirtual 139, 3) := by decide +kernel
theorem dX10_taken_71 : decode cX10_taken 71 = .ok (.invokevirtual 252, 3) := by decide +kernel
theorem dX10_taken_74 : decode cX10_taken 74 = .ok (.iinc 2 1, 3) := by decide +kernel
theorem dX10_taken_77 : decode cX10_taken 77 = .ok (.goto (-52), 3) := by decide +kernel
theorem dX10_taken_80 : decode cX10_taken 80 = .ok (.aload_n 0, 1) := by decide +kernel
theorem dX10_taken_81 : decode cX10_taken 81 = .ok (.getfield 238, 3) := by decide +kernel
theorem dX10_taken_84 : decode cX10_taken 84 = .ok (.ifCond .eq 9, 3) := by decide +kernel
theorem dX10_taken_87 : decode cX10_taken 87 = .ok (.ldc2_w 134, 3) := by decide +kernel
theorem dX10_taken_90 : decode cX10_taken 90 = .ok (.goto 7, 3) := by decide +kernel
theorem dX10_taken_93 : decode cX10_taken 93 = .ok (.aload_n 0, 1) := by decide +kernel
theorem dX10_taken_94 : decode cX10_taken 94 = .ok (.getfield 241, 3) := by decide +kernel
theorem dX10_taken_97 : decode cX10_taken 97 = .ok (.lreturn, 1) := by decide +kernel
theorem dX10_busy_0 : decode cX10_busy 0 = .ok (.iload_n 1, 1) := by decide +kernel
theorem dX10_busy_1 : decode cX10_busy 1 = .ok (.invokestatic 267, 3) := by decide +kernel
theorem dX10_busy_4 : decode cX10_busy 4 = .ok (.ifCond .eq 11, 3) := by decide +kernel
theorem dX10_busy_7 : decode cX10_busy 7 = .ok (.aload_n 0, 1) := by decide +kernel
theorem dX10_busy_8 : decode cX10_busy 8 = .ok (.iload_n 2, 1) := by decide +kernel
theorem dX10_busy_9 : decode cX10_busy 9 = .ok (.invokevirtual 115, 3) := by decide +kernel
theorem dX10_busy_12 : decode cX10_busy 12 = .ok (.ifCond .ne 5, 3) := by decide +kernel
theorem dX10_busy_15 : decode cX10_busy 15 = .ok (.iconst (-1), 1) := by decide +kernel
theorem dX10_busy_16 : decode cX10_busy 16 = .ok (.ireturn, 1) := by decide +kernel
theorem dX10_busy_17 : decode cX10_busy 17 = .ok (.aload_n 0, 1) := by decide +kernel
theorem dX10_busy_18 : decode cX10_busy 18 = .ok (.iload_n 1, 1) := by decide +kernel
theorem dX10_busy_19 : decode cX10_busy 19 = .ok (.invokevirtual 258, 3) := by decide +kernel
theorem dX10_busy_22 : decode cX10_busy 22 = .ok (.ifCond .ne 6, 3) := by decide +kernel
theorem dX10_busy_25 : decode cX10_busy 25 = .ok (.bipush (-3), 2) := by decide +kernel
theorem dX10_busy_27 : decode cX10_busy 27 = .ok (.ireturn, 1) := by decide +kernel
theorem dX10_busy_28 : decode cX10_busy 28 = .ok (.iconst (-1), 1) := by decide +kernel
theorem dX10_busy_29 : decode cX10_busy 29 = .ok (.istore_n 3, 1) := by decide +kernel
theorem dX10_busy_30 : decode cX10_busy 30 = .ok (.iconst 0, 1) := by decide +kernel
theorem dX10_busy_31 : decode cX10_busy 31 = .ok (.istore 4, 2) := by decide +kernel
theorem dX10_busy_33 : decode cX10_busy 33 = .ok (.iload 4, 2) := by decide +kernel
theorem dX10_busy_35 : decode cX10_busy 35 = .ok (.aload_n 0, 1) := by decide +kernel
theorem dX10_busy_36 : decode cX10_busy 36 = .ok (.invokevirtual 85, 3) := by decide +kernel
theorem dX10_busy_39 : decode cX10_busy 39 = .ok (.if_icmp .ge 94, 3) := by decide +kernel
theorem dX10_busy_42 : decode cX10_busy 42 = .ok (.iconst 0, 1) := by decide +kernel
theorem dX10_busy_43 : decode cX10_busy 43 = .ok (.istore 5, 2) := by decide +kernel
theorem dX10_busy_45 : decode cX10_busy 45 = .ok (.iconst 0, 1) := by decide +kernel
theorem dX10_busy_46 : decode cX10_busy 46 = .ok (.istore 6, 2) := by decide +kernel
theorem dX10_busy_48 : decode cX10_busy 48 = .ok (.iload 6, 2) := by decide +kernel
theorem dX10_busy_50 : decode cX10_busy 50 = .ok (.aload_n 0, 1) := by decide +kernel
theorem dX10_busy_51 : decode cX10_busy 51 = .ok (.invokevirtual 85, 3) := by decide +kernel
theorem dX10_busy_54 : decode cX10_busy 54 = .ok (.if_icmp .ge 60, 3) := by decide +kernel
theorem dX10_busy_57 : decode cX10_busy 57 = .ok (.iload 5, 2) := by decide +kernel
theorem dX10_busy_59 : decode cX10_busy 59 = .ok (.aload_n 0, 1) := by decide +kernel
theorem dX10_busy_60 : decode cX10_busy 60 = .ok (.getfield 46, 3) := by decide +kernel
theorem dX10_busy_63 : decode cX10_busy 63 = .ok (.iload 6, 2) := by decide +kernel
theorem dX10_busy_65 : decode cX10_busy 65 = .ok (.iaload, 1) := by decide +kernel
theorem dX10_busy_66 : decode cX10_busy 66 = .ok (.aload_n 0, 1) := by decide +kernel
theorem dX10_busy_67 : decode cX10_busy 67 = .ok (.getfield 46, 3) := by decide +kernel
theorem dX10_busy_70 : decode cX10_busy 70 = .ok (.iload 4, 2) := by decide +kernel
theorem dX10_busy_72 : decode cX10_busy 72 = .ok (.iaload, 1) := by decide +kernel
theorem dX10_busy_73 : decode cX10_busy 73 = .ok (.if_icmp .gt 27, 3) := by decide +kernel
theorem dX10_busy_76 : decode cX10_busy 76 = .ok (.aload_n 0, 1) := by decide +kernel
theorem dX10_busy_77 : decode cX10_busy 77 = .ok (.getfield 46, 3) := by decide +kernel
theorem dX10_busy_80 : decode cX10_busy 80 = .ok (.iload 6, 2) := by decide +kernel
theorem dX10_busy_82 : decode cX10_busy 82 = .ok (.iaload, 1) := by decide +kernel
theorem dX10_busy_83 : decode cX10_busy 83 = .ok (.aload_n 0, 1) := by decide +kernel
theorem dX10_busy_84 : decode cX10_busy 84 = .ok (.getfield 46, 3) := by decide +kernel
theorem dX10_busy_87 : decode cX10_busy 87 = .ok (.iload 4, 2) := by decide +kernel
theorem dX10_busy_89 : decode cX10_busy 89 = .ok (.iaload, 1) := by decide +kernel
theorem dX10_busy_90 : decode cX10_busy 90 = .ok (.if_icmp .ne 14, 3) := by decide +kernel
theorem dX10_busy_93 : decode cX10_busy 93 = .ok (.iload 6, 2) := by decide +kernel
theorem dX10_busy_95 : decode cX10_busy 95 = .ok (.iload 4, 2) := by decide +kernel
theorem dX10_busy_97 : decode cX10_busy 97 = .ok (.if_icmp .ge 7, 3) := by decide +kernel
theorem dX10_busy_100 : decode cX10_busy 100 = .ok (.iconst 1, 1) := by decide +kernel
theorem dX10_busy_101 : decode cX10_busy 101 = .ok (.goto 4, 3) := by decide +kernel
theorem dX10_busy_104 : decode cX10_busy 104 = .ok (.iconst 0, 1) := by decide +kernel
theorem dX10_busy_105 : decode cX10_busy 105 = .ok (.iadd, 1) := by decide +kernel
theorem dX10_busy_106 : decode cX10_busy 106 = .ok (.istore 5, 2) := by decide +kernel
theorem dX10_busy_108 : decode cX10_busy 108 = .ok (.iinc 6 1, 3) := by decide +kernel
theorem dX10_busy_111 : decode cX10_busy 111 = .ok (.goto (-63), 3) := by decide +kernel
theorem dX10_busy_114 : decode cX10_busy 114 = .ok (.iload 5, 2) := by decide +kernel
theorem dX10_busy_116 : decode cX10_busy 116 = .ok (.iload_n 2, 1) := by decide +kernel
theorem dX10_busy_117 : decode cX10_busy 117 = .ok (.if_icmp .ne 8, 3) := by decide +kernel
theorem dX10_busy_120 : decode cX10_busy 120 = .ok (.iload 4, 2) := by decide +kernel
theorem dX10_busy_122 : decode cX10_busy 122 = .ok (.goto 4, 3) := by decide +kernel
theorem dX10_busy_125 : decode cX10_busy 125 = .ok (.iload_n 3, 1) := by decide +kernel
theorem dX10_busy_126 : decode cX10_busy 126 = .ok (.istore_n 3, 1) := by decide +kernel
theorem dX10_busy_127 : decode cX10_busy 127 = .ok (.iinc 4 1, 3) := by decide +kernel
theorem dX10_busy_130 : decode cX10_busy 130 = .ok (.goto (-97), 3) := by decide +kernel
theorem dX10_busy_133 : decode cX10_busy 133 = .ok (.iload_n 3, 1) := by decide +kernel
theorem dX10_busy_134 : decode cX10_busy 134 = .ok (.ireturn, 1) := by decide +kernel
theorem dX10_allBy_0 : decode cX10_allBy 0 = .ok (.iload_n 2, 1) := by decide +kernel
theorem dX10_allBy_1 : decode cX10_allBy 1 = .ok (.ifCond .ne 7, 3) := by decide +kernel
theorem dX10_allBy_4 : decode cX10_allBy 4 = .ok (.lconst 0, 1) := by decide +kernel
theorem dX10_allBy_5 : decode cX10_allBy 5 = .ok (.goto 12, 3) := by decide +kernel
theorem dX10_allBy_8 : decode cX10_allBy 8 = .ok (.iload_n 2, 1) := by decide +kernel
theorem dX10_allBy_9 : decode cX10_allBy 9 = .ok (.i2l, 1) := by decide +kernel
theorem dX10_allBy_10 : decode cX10_allBy 10 = .ok (.aload_n 0, 1) := by decide +kernel
theorem dX10_allBy_11 : decode cX10_allBy 11 = .ok (.iload_n 1, 1) := by decide +kernel
theorem dX10_allBy_12 : decode cX10_allBy 12 = .ok (.iload_n 2, 1) := by decide +kernel
theorem dX10_allBy_13 : decode cX10_allBy 13 = .ok (.invokevirtual 136, 3) := by decide +kernel
theorem dX10_allBy_16 : decode cX10_allBy 16 = .ok (.lmul, 1) := by decide +kernel
theorem dX10_allBy_17 : decode cX10_allBy 17 = .ok (.lreturn, 1) := by decide +kernel
theorem dX10_tries_0 : decode cX10_tries 0 = .ok (.aload_n 0, 1) := by decide +kernel
theorem dX10_tries_1 : decode cX10_tries 1 = .ok (.getfield 58, 3) := by decide +kernel
theorem dX10_tries_4 : decode cX10_tries 4 = .ok (.iload_n 1, 1) := by decide +kernel
theorem dX10_tries_5 : decode cX10_tries 5 = .ok (.laload, 1) := by decide +kernel
theorem dX10_tries_6 : decode cX10_tries 6 = .ok (.ldc2_w 212, 3) := by decide +kernel
theorem dX10_tries_9 : decode cX10_tries 9 = .ok (.lcmp, 1) := by decide +kernel
theorem dX10_tries_10 : decode cX10_tries 10 = .ok (.ifCond .ge 43, 3) := by decide +kernel
theorem dX10_tries_13 : decode cX10_tries 13 = .ok (.aload_n 0, 1) := by decide +kernel
theorem dX10_tries_14 : decode cX10_tries 14 = .ok (.getfield 58, 3) := by decide +kernel
theorem dX10_tries_17 : decode cX10_tries 17 = .ok (.iload_n 1, 1) := by decide +kernel
theorem dX10_tries_18 : decode cX10_tries 18 = .ok (.laload, 1) := by decide +kernel
theorem dX10_tries_19 : decode cX10_tries 19 = .ok (.lload_n 3, 1) := by decide +kernel
theorem dX10_tries_20 : decode cX10_tries 20 = .ok (.ladd, 1) := by decide +kernel
theorem dX10_tries_21 : decode cX10_tries 21 = .ok (.aload_n 0, 1) := by decide +kernel
theorem dX10_tries_22 : decode cX10_tries 22 = .ok (.getfield 58, 3) := by decide +kernel
theorem dX10_tries_25 : decode cX10_tries 25 = .ok (.iload_n 2, 1) := by decide +kernel
theorem dX10_tries_26 : decode cX10_tries 26 = .ok (.laload, 1) := by decide +kernel
theorem dX10_tries_27 : decode cX10_tries 27 = .ok (.lcmp, 1) := by decide +kernel
theorem dX10_tries_28 : decode cX10_tries 28 = .ok (.ifCond .ge 25, 3) := by decide +kernel
theorem dX10_tries_31 : decode cX10_tries 31 = .ok (.aload_n 0, 1) := by decide +kernel
theorem dX10_tries_32 : decode cX10_tries 32 = .ok (.getfield 58, 3) := by decide +kernel
theorem dX10_tries_35 : decode cX10_tries 35 = .ok (.iload_n 2, 1) := by decide +kernel
theorem dX10_tries_36 : decode cX10_tries 36 = .ok (.aload_n 0, 1) := by decide +kernel
theorem dX10_tries_37 : decode cX10_tries 37 = .ok (.getfield 58, 3) := by decide +kernel
theorem dX10_tries_40 : decode cX10_tries 40 = .ok (.iload_n 1, 1) := by decide +kernel
theorem dX10_tries_41 : decode cX10_tries 41 = .ok (.laload, 1) := by decide +kernel
theorem dX10_tries_42 : decode cX10_tries 42 = .ok (.lload_n 3, 1) := by decide +kernel
theorem dX10_tries_43 : decode cX10_tries 43 = .ok (.ladd, 1) := by decide +kernel
theorem dX10_tries_44 : decode cX10_tries 44 = .ok (.lastore, 1) := by decide +kernel
theorem dX10_tries_45 : decode cX10_tries 45 = .ok (.aload_n 0, 1) := by decide +kernel
theorem dX10_tries_46 : decode cX10_tries 46 = .ok (.getfield 61, 3) := by decide +kernel
theorem dX10_tries_49 : decode cX10_tries 49 = .ok (.iload_n 2, 1) := by decide +kernel
theorem dX10_tries_50 : decode cX10_tries 50 = .ok (.iload 5, 2) := by decide +kernel
theorem dX10_tries_52 : decode cX10_tries 52 = .ok (.iastore, 1) := by decide +kernel
theorem dX10_tries_53 : decode cX10_tries 53 = .ok (.return_, 1) := by decide +kernel
theorem dX10_layFar_0 : decode cX10_layFar 0 = .ok (.iconst 0, 1) := by decide +kernel
theorem dX10_layFar_1 : decode cX10_layFar 1 = .ok (.istore_n 1, 1) := by decide +kernel
theorem dX10_layFar_2 : decode cX10_layFar 2 = .ok (.iload_n 1, 1) := by decide +kernel
theorem dX10_layFar_3 : decode cX10_layFar 3 = .ok (.bipush 6, 2) := by decide +kernel
theorem dX10_layFar_5 : decode cX10_layFar 5 = .ok (.if_icmp .ge 26, 3) := by decide +kernel
theorem dX10_layFar_8 : decode cX10_layFar 8 = .ok (.aload_n 0, 1) := by decide +kernel
theorem dX10_layFar_9 : decode cX10_layFar 9 = .ok (.getfield 58, 3) := by decide +kernel
theorem dX10_layFar_12 : decode cX10_layFar 12 = .ok (.iload_n 1, 1) := by decide +kernel
theorem dX10_layFar_13 : decode cX10_layFar 13 = .ok (.iload_n 1, 1) := by decide +kernel
theorem dX10_layFar_14 : decode cX10_layFar 14 = .ok (.ifCond .ne 7, 3) := by decide +kernel
theorem dX10_layFar_17 : decode cX10_layFar 17 = .ok (.lconst 0, 1) := by decide +kernel
theorem dX10_layFar_18 : decode cX10_layFar 18 = .ok (.goto 6, 3) := by decide +kernel
theorem dX10_layFar_21 : decode cX10_layFar 21 = .ok (.ldc2_w 212, 3) := by decide +kernel
theorem dX10_layFar_24 : decode cX10_layFar 24 = .ok (.lastore, 1) := by decide +kernel
theorem dX10_layFar_25 : decode cX10_layFar 25 = .ok (.iinc 1 1, 3) := by decide +kernel
theorem dX10_layFar_28 : decode cX10_layFar 28 = .ok (.goto (-26), 3) := by decide +kernel
theorem dX10_layFar_31 : decode cX10_layFar 31 = .ok (.iconst 0, 1) := by decide +kernel
theorem dX10_layFar_32 : decode cX10_layFar 32 = .ok (.istore_n 1, 1) := by decide +kernel
theorem dX10_layFar_33 : decode cX10_layFar 33 = .ok (.iload_n 1, 1) := by decide +kernel
theorem dX10_layFar_34 : decode cX10_layFar 34 = .ok (.bipush 6, 2) := by decide +kernel
theorem dX10_layFar_36 : decode cX10_layFar 36 = .ok (.if_icmp .ge 119, 3) := by decide +kernel
theorem dX10_layFar_39 : decode cX10_layFar 39 = .ok (.iconst 0, 1) := by decide +kernel
theorem dX10_layFar_40 : decode cX10_layFar 40 = .ok (.istore_n 2, 1) := by decide +kernel
theorem dX10_layFar_41 : decode cX10_layFar 41 = .ok (.iload_n 2, 1) := by decide +kernel
theorem dX10_layFar_42 : decode cX10_layFar 42 = .ok (.aload_n 0, 1) := by decide +kernel
theorem dX10_layFar_43 : decode cX10_layFar 43 = .ok (.invokevirtual 85, 3) := by decide +kernel
theorem dX10_layFar_46 : decode cX10_layFar 46 = .ok (.if_icmp .ge 103, 3) := by decide +kernel
theorem dX10_layFar_49 : decode cX10_layFar 49 = .ok (.aload_n 0, 1) := by decide +kernel
theorem dX10_layFar_50 : decode cX10_layFar 50 = .ok (.iload_n 2, 1) := by decide +kernel
theorem dX10_layFar_51 : decode cX10_layFar 51 = .ok (.iconst 0, 1) := by decide +kernel
theorem dX10_layFar_52 : decode cX10_layFar 52 = .ok (.invokevirtual 128, 3) := by decide +kernel
theorem dX10_layFar_55 : decode cX10_layFar 55 = .ok (.l2i, 1) := by decide +kernel
theorem dX10_layFar_56 : decode cX10_layFar 56 = .ok (.istore_n 3, 1) := by decide +kernel
theorem dX10_layFar_57 : decode cX10_layFar 57 = .ok (.aload_n 0, 1) := by decide +kernel
theorem dX10_layFar_58 : decode cX10_layFar 58 = .ok (.iload_n 2, 1) := by decide +kernel
theorem dX10_layFar_59 : decode cX10_layFar 59 = .ok (.iconst 1, 1) := by decide +kernel
theorem dX10_layFar_60 : decode cX10_layFar 60 = .ok (.invokevirtual 128, 3) := by decide +kernel
theorem dX10_layFar_63 : decode cX10_layFar 63 = .ok (.l2i, 1) := by decide +kernel
theorem dX10_layFar_64 : decode cX10_layFar 64 = .ok (.istore 4, 2) := by decide +kernel
theorem dX10_layFar_66 : decode cX10_layFar 66 = .ok (.aload_n 0, 1) := by decide +kernel
theorem dX10_layFar_67 : decode cX10_layFar 67 = .ok (.iload_n 3, 1) := by decide +kernel
theorem dX10_layFar_68 : decode cX10_layFar 68 = .ok (.iload 4, 2) := by decide +kernel
theorem dX10_layFar_70 : decode cX10_layFar 70 = .ok (.aload_n 0, 1) := by decide +kernel
theorem dX10_layFar_71 : decode cX10_layFar 71 = .ok (.iload_n 2, 1) := by decide +kernel
theorem dX10_layFar_72 : decode cX10_layFar 72 = .ok (.aload_n 0, 1) := by decide +kernel
theorem dX10_layFar_73 : decode cX10_layFar 73 = .ok (.getfield 52, 3) := by decide +kernel
theorem dX10_layFar_76 : decode cX10_layFar 76 = .ok (.iload_n 2, 1) := by decide +kernel
theorem dX10_layFar_77 : decode cX10_layFar 77 = .ok (.iaload, 1) := by decide +kernel
theorem dX10_layFar_78 : decode cX10_layFar 78 = .ok (.iconst 1, 1) := by decide +kernel
theorem dX10_layFar_79 : decode cX10_layFar 79 = .ok (.iadd, 1) := by decide +kernel
theorem dX10_layFar_80 : decode cX10_layFar 80 = .ok (.invokevirtual 291, 3) := by decide +kernel
theorem dX10_layFar_83 : decode cX10_layFar 83 = .ok (.aload_n 0, 1) := by decide +kernel
theorem dX10_layFar_84 : decode cX10_layFar 84 = .ok (.iload_n 2, 1) := by decide +kernel
theorem dX10_layFar_85 : decode cX10_layFar 85 = .ok (.aload_n 0, 1) := by decide +kernel
theorem dX10_layFar_86 : decode cX10_layFar 86 = .ok (.getfield 52, 3) := by decide +kernel
theorem dX10_layFar_89 : decode cX10_layFar 89 = .ok (.iload_n 2, 1) := by decide +kernel
theorem dX10_layFar_90 : decode cX10_layFar 90 = .ok (.iaload, 1) := by decide +kernel
theorem dX10_layFar_91 : decode cX10_layFar 91 = .ok (.invokevirtual 291, 3) := by decide +kernel
theorem dX10_layFar_94 : decode cX10_layFar 94 = .ok (.lsub, 1) := by decide +kernel
theorem dX10_layFar_95 : decode cX10_layFar 95 = .ok (.iload_n 2, 1) := by decide +kernel
theorem dX10_layFar_96 : decode cX10_layFar 96 = .ok (.invokevirtual 294, 3) := by decide +kernel
theorem dX10_layFar_99 : decode cX10_layFar 99 = .ok (.aload_n 0, 1) := by decide +kernel
theorem dX10_layFar_100 : decode cX10_layFar 100 = .ok (.getfield 52, 3) := by decide +kernel
theorem dX10_layFar_103 : decode cX10_layFar 103 = .ok (.iload_n 2, 1) := by decide +kernel
theorem dX10_layFar_104 : decode cX10_layFar 104 = .ok (.iaload, 1) := by decide +kernel
theorem dX10_layFar_105 : decode cX10_layFar 105 = .ok (.ifCond .le 38, 3) := by decide +kernel
theorem dX10_layFar_108 : decode cX10_layFar 108 = .ok (.aload_n 0, 1) := by decide +kernel
theorem dX10_layFar_109 : decode cX10_layFar 109 = .ok (.iload 4, 2) := by decide +kernel
theorem dX10_layFar_111 : decode cX10_layFar 111 = .ok (.iload_n 3, 1) := by decide +kernel
theorem dX10_layFar_112 : decode cX10_layFar 112 = .ok (.aload_n 0, 1) := by decide +kernel
theorem dX10_layFar_113 : decode cX10_layFar 113 = .ok (.iload_n 2, 1) := by decide +kernel
theorem dX10_layFar_114 : decode cX10_layFar 114 = .ok (.aload_n 0, 1) := by decide +kernel
theorem dX10_layFar_115 : decode cX10_layFar 115 = .ok (.getfield 52, 3) := by decide +kernel
theorem dX10_layFar_118 : decode cX10_layFar 118 = .ok (.iload_n 2, 1) := by decide +kernel
theorem dX10_layFar_119 : decode cX10_layFar 119 = .ok (.iaload, 1) := by decide +kernel
theorem dX10_layFar_120 : decode cX10_layFar 120 = .ok (.iconst 1, 1) := by decide +kernel
theorem dX10_layFar_121 : decode cX10_layFar 121 = .ok (.isub, 1) := by decide +kernel
theorem dX10_layFar_122 : decode cX10_layFar 122 = .ok (.invokevirtual 291, 3) := by decide +kernel
theorem dX10_layFar_125 : decode cX10_layFar 125 = .ok (.aload_n 0, 1) := by decide +kernel
theorem dX10_layFar_126 : decode cX10_layFar 126 = .ok (.iload_n 2, 1) := by decide +kernel
theorem dX10_layFar_127 : decode cX10_layFar 127 = .ok (.aload_n 0, 1) := by decide +kernel
theorem dX10_layFar_128 : decode cX10_layFar 128 = .ok (.getfield 52, 3) := by decide +kernel
theorem dX10_layFar_131 : decode cX10_layFar 131 = .ok (.iload_n 2, 1) := by decide +kernel
theorem dX10_layFar_132 : decode cX10_layFar 132 = .ok (.iaload, 1) := by decide +kernel
theorem dX10_layFar_133 : decode cX10_layFar 133 = .ok (.invokevirtual 291, 3) := by decide +kernel
theorem dX10_layFar_136 : decode cX10_layFar 136 = .ok (.lsub, 1) := by decide +kernel
theorem dX10_layFar_137 : decode cX10_layFar 137 = .ok (.iconst (-1), 1) := by decide +kernel
theorem dX10_layFar_138 : decode cX10_layFar 138 = .ok (.iload_n 2, 1) := by decide +kernel
theorem dX10_layFar_139 : decode cX10_layFar 139 = .ok (.isub, 1) := by decide +kernel
theorem dX10_layFar_140 : decode cX10_layFar 140 = .ok (.invokevirtual 294, 3) := by decide +kernel
theorem dX10_layFar_143 : decode cX10_layFar 143 = .ok (.iinc 2 1, 3) := by decide +kernel
theorem dX10_layFar_146 : decode cX10_layFar 146 = .ok (.goto (-105), 3) := by decide +kernel
theorem dX10_layFar_149 : decode cX10_layFar 149 = .ok (.iinc 1 1, 3) := by decide +kernel
theorem dX10_layFar_152 : decode cX10_layFar 152 = .ok (.goto (-119), 3) := by decide +kernel
theorem dX10_layFar_155 : decode cX10_layFar 155 = .ok (.return_, 1) := by decide +kernel
theorem dX10_sends_0 : decode cX10_sends 0 = .ok (.iload_n 1, 1) := by decide +kernel
theorem dX10_sends_1 : decode cX10_sends 1 = .ok (.istore_n 2, 1) := by decide +kernel
theorem dX10_sends_2 : decode cX10_sends 2 = .ok (.iload_n 2, 1) := by decide +kernel
theorem dX10_sends_3 : decode cX10_sends 3 = .ok (.ifCond .eq 60, 3) := by decide +kernel
theorem dX10_sends_6 : decode cX10_sends 6 = .ok (.aload_n 0, 1) := by decide +kernel
theorem dX10_sends_7 : decode cX10_sends 7 = .ok (.getfield 61, 3) := by decide +kernel
theorem dX10_sends_10 : decode cX10_sends 10 = .ok (.iload_n 2, 1) := by decide +kernel
theorem dX10_sends_11 : decode cX10_sends 11 = .ok (.iaload, 1) := by decide +kernel
theorem dX10_sends_12 : decode cX10_sends 12 = .ok (.istore_n 3, 1) := by decide +kernel
theorem dX10_sends_13 : decode cX10_sends 13 = .ok (.iload_n 3, 1) := by decide +kernel
theorem dX10_sends_14 : decode cX10_sends 14 = .ok (.ifCond .lt 24, 3) := by decide +kernel
theorem dX10_sends_17 : decode cX10_sends 17 = .ok (.aload_n 0, 1) := by decide +kernel
theorem dX10_sends_18 : decode cX10_sends 18 = .ok (.getfield 52, 3) := by decide +kernel
theorem dX10_sends_21 : decode cX10_sends 21 = .ok (.iload_n 3, 1) := by decide +kernel
theorem dX10_sends_22 : decode cX10_sends 22 = .ok (.dup2, 1) := by decide +kernel
theorem dX10_sends_23 : decode cX10_sends 23 = .ok (.iaload, 1) := by decide +kernel
theorem dX10_sends_24 : decode cX10_sends 24 = .ok (.iconst 1, 1) := by decide +kernel
theorem dX10_sends_25 : decode cX10_sends 25 = .ok (.iadd, 1) := by decide +kernel
theorem dX10_sends_26 : decode cX10_sends 26 = .ok (.iastore, 1) := by decide +kernel
theorem dX10_sends_27 : decode cX10_sends 27 = .ok (.aload_n 0, 1) := by decide +kernel
theorem dX10_sends_28 : decode cX10_sends 28 = .ok (.iload_n 3, 1) := by decide +kernel
theorem dX10_sends_29 : decode cX10_sends 29 = .ok (.iconst 0, 1) := by decide +kernel
theorem dX10_sends_30 : decode cX10_sends 30 = .ok (.invokevirtual 128, 3) := by decide +kernel
theorem dX10_sends_33 : decode cX10_sends 33 = .ok (.l2i, 1) := by decide +kernel
theorem dX10_sends_34 : decode cX10_sends 34 = .ok (.istore_n 2, 1) := by decide +kernel
theorem dX10_sends_35 : decode cX10_sends 35 = .ok (.goto 25, 3) := by decide +kernel
theorem dX10_sends_38 : decode cX10_sends 38 = .ok (.aload_n 0, 1) := by decide +kernel
theorem dX10_sends_39 : decode cX10_sends 39 = .ok (.getfield 52, 3) := by decide +kernel
theorem dX10_sends_42 : decode cX10_sends 42 = .ok (.iconst (-1), 1) := by decide +kernel
theorem dX10_sends_43 : decode cX10_sends 43 = .ok (.iload_n 3, 1) := by decide +kernel
theorem dX10_sends_44 : decode cX10_sends 44 = .ok (.isub, 1) := by decide +kernel
theorem dX10_sends_45 : decode cX10_sends 45 = .ok (.dup2, 1) := by decide +kernel
theorem dX10_sends_46 : decode cX10_sends 46 = .ok (.iaload, 1) := by decide +kernel
theorem dX10_sends_47 : decode cX10_sends 47 = .ok (.iconst 1, 1) := by decide +kernel
theorem dX10_sends_48 : decode cX10_sends 48 = .ok (.isub, 1) := by decide +kernel
theorem dX10_sends_49 : decode cX10_sends 49 = .ok (.iastore, 1) := by decide +kernel
theorem dX10_sends_50 : decode cX10_sends 50 = .ok (.aload_n 0, 1) := by decide +kernel
theorem dX10_sends_51 : decode cX10_sends 51 = .ok (.iconst (-1), 1) := by decide +kernel
theorem dX10_sends_52 : decode cX10_sends 52 = .ok (.iload_n 3, 1) := by decide +kernel
theorem dX10_sends_53 : decode cX10_sends 53 = .ok (.isub, 1) := by decide +kernel
theorem dX10_sends_54 : decode cX10_sends 54 = .ok (.iconst 1, 1) := by decide +kernel
theorem dX10_sends_55 : decode cX10_sends 55 = .ok (.invokevirtual 128, 3) := by decide +kernel
theorem dX10_sends_58 : decode cX10_sends 58 = .ok (.l2i, 1) := by decide +kernel
theorem dX10_sends_59 : decode cX10_sends 59 = .ok (.istore_n 2, 1) := by decide +kernel
theorem dX10_sends_60 : decode cX10_sends 60 = .ok (.goto (-58), 3) := by decide +kernel
theorem dX10_sends_63 : decode cX10_sends 63 = .ok (.return_, 1) := by decide +kernel
theorem dX10_nearest_0 : decode cX10_nearest 0 = .ok (.iconst (-1), 1) := by decide +kernel
theorem dX10_nearest_1 : decode cX10_nearest 1 = .ok (.istore_n 1, 1) := by decide +kernel
theorem dX10_nearest_2 : decode cX10_nearest 2 = .ok (.iconst 1, 1) := by decide +kernel
theorem dX10_nearest_3 : decode cX10_nearest 3 = .ok (.istore_n 2, 1) := by decide +kernel
theorem dX10_nearest_4 : decode cX10_nearest 4 = .ok (.iload_n 2, 1) := by decide +kernel
theorem dX10_nearest_5 : decode cX10_nearest 5 = .ok (.bipush 6, 2) := by decide +kernel
theorem dX10_nearest_7 : decode cX10_nearest 7 = .ok (.if_icmp .ge 57, 3) := by decide +kernel
theorem dX10_nearest_10 : decode cX10_nearest 10 = .ok (.aload_n 0, 1) := by decide +kernel
theorem dX10_nearest_11 : decode cX10_nearest 11 = .ok (.getfield 55, 3) := by decide +kernel
theorem dX10_nearest_14 : decode cX10_nearest 14 = .ok (.iload_n 2, 1) := by decide +kernel
theorem dX10_nearest_15 : decode cX10_nearest 15 = .ok (.iaload, 1) := by decide +kernel
theorem dX10_nearest_16 : decode cX10_nearest 16 = .ok (.ifCond .le 40, 3) := by decide +kernel
theorem dX10_nearest_19 : decode cX10_nearest 19 = .ok (.aload_n 0, 1) := by decide +kernel
theorem dX10_nearest_20 : decode cX10_nearest 20 = .ok (.getfield 58, 3) := by decide +kernel
theorem dX10_nearest_23 : decode cX10_nearest 23 = .ok (.iload_n 2, 1) := by decide +kernel
theorem dX10_nearest_24 : decode cX10_nearest 24 = .ok (.laload, 1) := by decide +kernel
theorem dX10_nearest_25 : decode cX10_nearest 25 = .ok (.ldc2_w 212, 3) := by decide +kernel
theorem dX10_nearest_28 : decode cX10_nearest 28 = .ok (.lcmp, 1) := by decide +kernel
theorem dX10_nearest_29 : decode cX10_nearest 29 = .ok (.ifCond .ge 27, 3) := by decide +kernel
theorem dX10_nearest_32 : decode cX10_nearest 32 = .ok (.iload_n 1, 1) := by decide +kernel
theorem dX10_nearest_33 : decode cX10_nearest 33 = .ok (.ifCond .lt 19, 3) := by decide +kernel
theorem dX10_nearest_36 : decode cX10_nearest 36 = .ok (.aload_n 0, 1) := by decide +kernel
theorem dX10_nearest_37 : decode cX10_nearest 37 = .ok (.getfield 58, 3) := by decide +kernel
theorem dX10_nearest_40 : decode cX10_nearest 40 = .ok (.iload_n 2, 1) := by decide +kernel
theorem dX10_nearest_41 : decode cX10_nearest 41 = .ok (.laload, 1) := by decide +kernel
theorem dX10_nearest_42 : decode cX10_nearest 42 = .ok (.aload_n 0, 1) := by decide +kernel
theorem dX10_nearest_43 : decode cX10_nearest 43 = .ok (.getfield 58, 3) := by decide +kernel
theorem dX10_nearest_46 : decode cX10_nearest 46 = .ok (.iload_n 1, 1) := by decide +kernel
theorem dX10_nearest_47 : decode cX10_nearest 47 = .ok (.laload, 1) := by decide +kernel
theorem dX10_nearest_48 : decode cX10_nearest 48 = .ok (.lcmp, 1) := by decide +kernel
theorem dX10_nearest_49 : decode cX10_nearest 49 = .ok (.ifCond .ge 7, 3) := by decide +kernel
theorem dX10_nearest_52 : decode cX10_nearest 52 = .ok (.iload_n 2, 1) := by decide +kernel
theorem dX10_nearest_53 : decode cX10_nearest 53 = .ok (.goto 4, 3) := by decide +kernel
theorem dX10_nearest_56 : decode cX10_nearest 56 = .ok (.iload_n 1, 1) := by decide +kernel
theorem dX10_nearest_57 : decode cX10_nearest 57 = .ok (.istore_n 1, 1) := by decide +kernel
theorem dX10_nearest_58 : decode cX10_nearest 58 = .ok (.iinc 2 1, 3) := by decide +kernel
theorem dX10_nearest_61 : decode cX10_nearest 61 = .ok (.goto (-57), 3) := by decide +kernel
theorem dX10_nearest_64 : decode cX10_nearest 64 = .ok (.iload_n 1, 1) := by decide +kernel
theorem dX10_nearest_65 : decode cX10_nearest 65 = .ok (.ireturn, 1) := by decide +kernel
theorem dX10_bestOf_0 : decode cX10_bestOf 0 = .ok (.aload_n 0, 1) := by decide +kernel
theorem dX10_bestOf_1 : decode cX10_bestOf 1 = .ok (.invokevirtual 229, 3) := by decide +kernel
theorem dX10_bestOf_4 : decode cX10_bestOf 4 = .ok (.iconst 0, 1) := by decide +kernel
theorem dX10_bestOf_5 : decode cX10_bestOf 5 = .ok (.istore_n 1, 1) := by decide +kernel
theorem dX10_bestOf_6 : decode cX10_bestOf 6 = .ok (.iload_n 1, 1) := by decide +kernel
theorem dX10_bestOf_7 : decode cX10_bestOf 7 = .ok (.bipush 6, 2) := by decide +kernel
theorem dX10_bestOf_9 : decode cX10_bestOf 9 = .ok (.if_icmp .ge 16, 3) := by decide +kernel
theorem dX10_bestOf_12 : decode cX10_bestOf 12 = .ok (.aload_n 0, 1) := by decide +kernel
theorem dX10_bestOf_13 : decode cX10_bestOf 13 = .ok (.getfield 55, 3) := by decide +kernel
theorem dX10_bestOf_16 : decode cX10_bestOf 16 = .ok (.iload_n 1, 1) := by decide +kernel
theorem dX10_bestOf_17 : decode cX10_bestOf 17 = .ok (.iconst 0, 1) := by decide +kernel
theorem dX10_bestOf_18 : decode cX10_bestOf 18 = .ok (.iastore, 1) := by decide +kernel
theorem dX10_bestOf_19 : decode cX10_bestOf 19 = .ok (.iinc 1 1, 3) := by decide +kernel
theorem dX10_bestOf_22 : decode cX10_bestOf 22 = .ok (.goto (-16), 3) := by decide +kernel
theorem dX10_bestOf_25 : decode cX10_bestOf 25 = .ok (.iconst 0, 1) := by decide +kernel
theorem dX10_bestOf_26 : decode cX10_bestOf 26 = .ok (.istore_n 1, 1) := by decide +kernel
theorem dX10_bestOf_27 : decode cX10_bestOf 27 = .ok (.iconst 0, 1) := by decide +kernel
theorem dX10_bestOf_28 : decode cX10_bestOf 28 = .ok (.istore_n 2, 1) := by decide +kernel
theorem dX10_bestOf_29 : decode cX10_bestOf 29 = .ok (.iload_n 2, 1) := by decide +kernel
theorem dX10_bestOf_30 : decode cX10_bestOf 30 = .ok (.iconst 3, 1) := by decide +kernel
theorem dX10_bestOf_31 : decode cX10_bestOf 31 = .ok (.if_icmp .ge 65, 3) := by decide +kernel
theorem dX10_bestOf_34 : decode cX10_bestOf 34 = .ok (.aload_n 0, 1) := by decide +kernel
theorem dX10_bestOf_35 : decode cX10_bestOf 35 = .ok (.iload_n 2, 1) := by decide +kernel
theorem dX10_bestOf_36 : decode cX10_bestOf 36 = .ok (.iconst 1, 1) := by decide +kernel
theorem dX10_bestOf_37 : decode cX10_bestOf 37 = .ok (.invokevirtual 154, 3) := by decide +kernel
theorem dX10_bestOf_40 : decode cX10_bestOf 40 = .ok (.lconst 0, 1) := by decide +kernel
theorem dX10_bestOf_41 : decode cX10_bestOf 41 = .ok (.lcmp, 1) := by decide +kernel
theorem dX10_bestOf_42 : decode cX10_bestOf 42 = .ok (.ifCond .le 16, 3) := by decide +kernel
theorem dX10_bestOf_45 : decode cX10_bestOf 45 = .ok (.aload_n 0, 1) := by decide +kernel
theorem dX10_bestOf_46 : decode cX10_bestOf 46 = .ok (.getfield 28, 3) := by decide +kernel
theorem dX10_bestOf_49 : decode cX10_bestOf 49 = .ok (.iload_n 2, 1) := by decide +kernel
theorem dX10_bestOf_50 : decode cX10_bestOf 50 = .ok (.iaload, 1) := by decide +kernel
theorem dX10_bestOf_51 : decode cX10_bestOf 51 = .ok (.ifCond .ne 7, 3) := by decide +kernel
theorem dX10_bestOf_54 : decode cX10_bestOf 54 = .ok (.ldc2_w 265, 3) := by decide +kernel
theorem dX10_bestOf_57 : decode cX10_bestOf 57 = .ok (.lreturn, 1) := by decide +kernel
theorem dX10_bestOf_58 : decode cX10_bestOf 58 = .ok (.aload_n 0, 1) := by decide +kernel
theorem dX10_bestOf_59 : decode cX10_bestOf 59 = .ok (.getfield 55, 3) := by decide +kernel
theorem dX10_bestOf_62 : decode cX10_bestOf 62 = .ok (.aload_n 0, 1) := by decide +kernel
theorem dX10_bestOf_63 : decode cX10_bestOf 63 = .ok (.iload_n 2, 1) := by decide +kernel
theorem dX10_bestOf_64 : decode cX10_bestOf 64 = .ok (.iconst 0, 1) := by decide +kernel
theorem dX10_bestOf_65 : decode cX10_bestOf 65 = .ok (.invokevirtual 154, 3) := by decide +kernel
theorem dX10_bestOf_68 : decode cX10_bestOf 68 = .ok (.l2i, 1) := by decide +kernel
theorem dX10_bestOf_69 : decode cX10_bestOf 69 = .ok (.dup2, 1) := by decide +kernel
theorem dX10_bestOf_70 : decode cX10_bestOf 70 = .ok (.iaload, 1) := by decide +kernel
theorem dX10_bestOf_71 : decode cX10_bestOf 71 = .ok (.aload_n 0, 1) := by decide +kernel
theorem dX10_bestOf_72 : decode cX10_bestOf 72 = .ok (.iload_n 2, 1) := by decide +kernel
theorem dX10_bestOf_73 : decode cX10_bestOf 73 = .ok (.iconst 1, 1) := by decide +kernel
theorem dX10_bestOf_74 : decode cX10_bestOf 74 = .ok (.invokevirtual 154, 3) := by decide +kernel
theorem dX10_bestOf_77 : decode cX10_bestOf 77 = .ok (.l2i, 1) := by decide +kernel
theorem dX10_bestOf_78 : decode cX10_bestOf 78 = .ok (.iadd, 1) := by decide +kernel
theorem dX10_bestOf_79 : decode cX10_bestOf 79 = .ok (.iastore, 1) := by decide +kernel
theorem dX10_bestOf_80 : decode cX10_bestOf 80 = .ok (.iload_n 1, 1) := by decide +kernel
theorem dX10_bestOf_81 : decode cX10_bestOf 81 = .ok (.aload_n 0, 1) := by decide +kernel
theorem dX10_bestOf_82 : decode cX10_bestOf 82 = .ok (.iload_n 2, 1) := by decide +kernel
theorem dX10_bestOf_83 : decode cX10_bestOf 83 = .ok (.iconst 1, 1) := by decide +kernel
theorem dX10_bestOf_84 : decode cX10_bestOf 84 = .ok (.invokevirtual 154, 3) := by decide +kernel
theorem dX10_bestOf_87 : decode cX10_bestOf 87 = .ok (.l2i, 1) := by decide +kernel
theorem dX10_bestOf_88 : decode cX10_bestOf 88 = .ok (.iadd, 1) := by decide +kernel
theorem dX10_bestOf_89 : decode cX10_bestOf 89 = .ok (.istore_n 1, 1) := by decide +kernel
theorem dX10_bestOf_90 : decode cX10_bestOf 90 = .ok (.iinc 2 1, 3) := by decide +kernel
theorem dX10_bestOf_93 : decode cX10_bestOf 93 = .ok (.goto (-64), 3) := by decide +kernel
theorem dX10_bestOf_96 : decode cX10_bestOf 96 = .ok (.iconst 0, 1) := by decide +kernel
theorem dX10_bestOf_97 : decode cX10_bestOf 97 = .ok (.istore_n 2, 1) := by decide +kernel
theorem dX10_bestOf_98 : decode cX10_bestOf 98 = .ok (.iload_n 2, 1) := by decide +kernel
theorem dX10_bestOf_99 : decode cX10_bestOf 99 = .ok (.bipush 13, 2) := by decide +kernel
theorem dX10_bestOf_101 : decode cX10_bestOf 101 = .ok (.if_icmp .ge 16, 3) := by decide +kernel
theorem dX10_bestOf_104 : decode cX10_bestOf 104 = .ok (.aload_n 0, 1) := by decide +kernel
theorem dX10_bestOf_105 : decode cX10_bestOf 105 = .ok (.getfield 52, 3) := by decide +kernel
theorem dX10_bestOf_108 : decode cX10_bestOf 108 = .ok (.iload_n 2, 1) := by decide +kernel
theorem dX10_bestOf_109 : decode cX10_bestOf 109 = .ok (.iconst 0, 1) := by decide +kernel
theorem dX10_bestOf_110 : decode cX10_bestOf 110 = .ok (.iastore, 1) := by decide +kernel
theorem dX10_bestOf_111 : decode cX10_bestOf 111 = .ok (.iinc 2 1, 3) := by decide +kernel
theorem dX10_bestOf_114 : decode cX10_bestOf 114 = .ok (.goto (-16), 3) := by decide +kernel
theorem dX10_bestOf_117 : decode cX10_bestOf 117 = .ok (.aload_n 0, 1) := by decide +kernel
theorem dX10_bestOf_118 : decode cX10_bestOf 118 = .ok (.invokevirtual 249, 3) := by decide +kernel
theorem dX10_bestOf_121 : decode cX10_bestOf 121 = .ok (.iload_n 1, 1) := by decide +kernel
theorem dX10_bestOf_122 : decode cX10_bestOf 122 = .ok (.ifCond .le 43, 3) := by decide +kernel
theorem dX10_bestOf_125 : decode cX10_bestOf 125 = .ok (.aload_n 0, 1) := by decide +kernel
theorem dX10_bestOf_126 : decode cX10_bestOf 126 = .ok (.invokevirtual 298, 3) := by decide +kernel
theorem dX10_bestOf_129 : decode cX10_bestOf 129 = .ok (.aload_n 0, 1) := by decide +kernel
theorem dX10_bestOf_130 : decode cX10_bestOf 130 = .ok (.invokevirtual 301, 3) := by decide +kernel
theorem dX10_bestOf_133 : decode cX10_bestOf 133 = .ok (.istore_n 2, 1) := by decide +kernel
theorem dX10_bestOf_134 : decode cX10_bestOf 134 = .ok (.aload_n 0, 1) := by decide +kernel
theorem dX10_bestOf_135 : decode cX10_bestOf 135 = .ok (.aload_n 0, 1) := by decide +kernel
theorem dX10_bestOf_136 : decode cX10_bestOf 136 = .ok (.getfield 58, 3) := by decide +kernel
theorem dX10_bestOf_139 : decode cX10_bestOf 139 = .ok (.iload_n 2, 1) := by decide +kernel
theorem dX10_bestOf_140 : decode cX10_bestOf 140 = .ok (.laload, 1) := by decide +kernel
theorem dX10_bestOf_141 : decode cX10_bestOf 141 = .ok (.invokevirtual 245, 3) := by decide +kernel
theorem dX10_bestOf_144 : decode cX10_bestOf 144 = .ok (.aload_n 0, 1) := by decide +kernel
theorem dX10_bestOf_145 : decode cX10_bestOf 145 = .ok (.iload_n 2, 1) := by decide +kernel
theorem dX10_bestOf_146 : decode cX10_bestOf 146 = .ok (.invokevirtual 304, 3) := by decide +kernel
theorem dX10_bestOf_149 : decode cX10_bestOf 149 = .ok (.aload_n 0, 1) := by decide +kernel
theorem dX10_bestOf_150 : decode cX10_bestOf 150 = .ok (.getfield 55, 3) := by decide +kernel
theorem dX10_bestOf_153 : decode cX10_bestOf 153 = .ok (.iload_n 2, 1) := by decide +kernel
theorem dX10_bestOf_154 : decode cX10_bestOf 154 = .ok (.dup2, 1) := by decide +kernel
theorem dX10_bestOf_155 : decode cX10_bestOf 155 = .ok (.iaload, 1) := by decide +kernel
theorem dX10_bestOf_156 : decode cX10_bestOf 156 = .ok (.iconst 1, 1) := by decide +kernel
theorem dX10_bestOf_157 : decode cX10_bestOf 157 = .ok (.isub, 1) := by decide +kernel
theorem dX10_bestOf_158 : decode cX10_bestOf 158 = .ok (.iastore, 1) := by decide +kernel
theorem dX10_bestOf_159 : decode cX10_bestOf 159 = .ok (.iinc 1 (-1), 3) := by decide +kernel
theorem dX10_bestOf_162 : decode cX10_bestOf 162 = .ok (.goto (-41), 3) := by decide +kernel
theorem dX10_bestOf_165 : decode cX10_bestOf 165 = .ok (.aload_n 0, 1) := by decide +kernel
theorem dX10_bestOf_166 : decode cX10_bestOf 166 = .ok (.getfield 238, 3) := by decide +kernel
theorem dX10_bestOf_169 : decode cX10_bestOf 169 = .ok (.ifCond .eq 9, 3) := by decide +kernel
theorem dX10_bestOf_172 : decode cX10_bestOf 172 = .ok (.ldc2_w 256, 3) := by decide +kernel
theorem dX10_bestOf_175 : decode cX10_bestOf 175 = .ok (.goto 7, 3) := by decide +kernel
theorem dX10_bestOf_178 : decode cX10_bestOf 178 = .ok (.aload_n 0, 1) := by decide +kernel
theorem dX10_bestOf_179 : decode cX10_bestOf 179 = .ok (.getfield 241, 3) := by decide +kernel
theorem dX10_bestOf_182 : decode cX10_bestOf 182 = .ok (.lreturn, 1) := by decide +kernel
theorem dX10_best_0 : decode cX10_best 0 = .ok (.aload_n 0, 1) := by decide +kernel
theorem dX10_best_1 : decode cX10_best 1 = .ok (.invokevirtual 307, 3) := by decide +kernel
theorem dX10_best_4 : decode cX10_best 4 = .ok (.lstore_n 1, 1) := by decide +kernel
theorem dX10_best_5 : decode cX10_best 5 = .ok (.lload_n 1, 1) := by decide +kernel
theorem dX10_best_6 : decode cX10_best 6 = .ok (.lconst 0, 1) := by decide +kernel
theorem dX10_best_7 : decode cX10_best 7 = .ok (.lcmp, 1) := by decide +kernel
theorem dX10_best_8 : decode cX10_best 8 = .ok (.ifCond .ge 9, 3) := by decide +kernel
theorem dX10_best_11 : decode cX10_best 11 = .ok (.ldc2_w 134, 3) := by decide +kernel
theorem dX10_best_14 : decode cX10_best 14 = .ok (.goto 4, 3) := by decide +kernel
theorem dX10_best_17 : decode cX10_best 17 = .ok (.lload_n 1, 1) := by decide +kernel
theorem dX10_best_18 : decode cX10_best 18 = .ok (.lreturn, 1) := by decide +kernel
theorem dX10_worse_0 : decode cX10_worse 0 = .ok (.iload_n 1, 1) := by decide +kernel
theorem dX10_worse_1 : decode cX10_worse 1 = .ok (.invokestatic 267, 3) := by decide +kernel
theorem dX10_worse_4 : decode cX10_worse 4 = .ok (.ifCond .eq 13, 3) := by decide +kernel
theorem dX10_worse_7 : decode cX10_worse 7 = .ok (.iload_n 2, 1) := by decide +kernel
theorem dX10_worse_8 : decode cX10_worse 8 = .ok (.i2l, 1) := by decide +kernel
theorem dX10_worse_9 : decode cX10_worse 9 = .ok (.lconst 0, 1) := by decide +kernel
theorem dX10_worse_10 : decode cX10_worse 10 = .ok (.lconst 1, 1) := by decide +kernel
theorem dX10_worse_11 : decode cX10_worse 11 = .ok (.invokestatic 89, 3) := by decide +kernel
theorem dX10_worse_14 : decode cX10_worse 14 = .ok (.ifCond .ne 7, 3) := by decide +kernel
theorem dX10_worse_17 : decode cX10_worse 17 = .ok (.ldc2_w 134, 3) := by decide +kernel
theorem dX10_worse_20 : decode cX10_worse 20 = .ok (.lreturn, 1) := by decide +kernel
theorem dX10_worse_21 : decode cX10_worse 21 = .ok (.aload_n 0, 1) := by decide +kernel
theorem dX10_worse_22 : decode cX10_worse 22 = .ok (.iload_n 1, 1) := by decide +kernel
theorem dX10_worse_23 : decode cX10_worse 23 = .ok (.invokevirtual 270, 3) := by decide +kernel
theorem dX10_worse_26 : decode cX10_worse 26 = .ok (.lstore_n 3, 1) := by decide +kernel
theorem dX10_worse_27 : decode cX10_worse 27 = .ok (.aload_n 0, 1) := by decide +kernel
theorem dX10_worse_28 : decode cX10_worse 28 = .ok (.invokevirtual 307, 3) := by decide +kernel
theorem dX10_worse_31 : decode cX10_worse 31 = .ok (.lstore 5, 2) := by decide +kernel
theorem dX10_worse_33 : decode cX10_worse 33 = .ok (.lload_n 3, 1) := by decide +kernel
theorem dX10_worse_34 : decode cX10_worse 34 = .ok (.lconst 0, 1) := by decide +kernel
theorem dX10_worse_35 : decode cX10_worse 35 = .ok (.lcmp, 1) := by decide +kernel
theorem dX10_worse_36 : decode cX10_worse 36 = .ok (.ifCond .lt 23, 3) := by decide +kernel
theorem dX10_worse_39 : decode cX10_worse 39 = .ok (.lload 5, 2) := by decide +kernel
theorem dX10_worse_41 : decode cX10_worse 41 = .ok (.lconst 0, 1) := by decide +kernel
theorem dX10_worse_42 : decode cX10_worse 42 = .ok (.lcmp, 1) := by decide +kernel
theorem dX10_worse_43 : decode cX10_worse 43 = .ok (.ifCond .lt 16, 3) := by decide +kernel
theorem dX10_worse_46 : decode cX10_worse 46 = .ok (.lload 5, 2) := by decide +kernel
theorem dX10_worse_48 : decode cX10_worse 48 = .ok (.lconst 0, 1) := by decide +kernel
theorem dX10_worse_49 : decode cX10_worse 49 = .ok (.lcmp, 1) := by decide +kernel
theorem dX10_worse_50 : decode cX10_worse 50 = .ok (.ifCond .ne 13, 3) := by decide +kernel
theorem dX10_worse_53 : decode cX10_worse 53 = .ok (.lload_n 3, 1) := by decide +kernel
theorem dX10_worse_54 : decode cX10_worse 54 = .ok (.lconst 0, 1) := by decide +kernel
theorem dX10_worse_55 : decode cX10_worse 55 = .ok (.lcmp, 1) := by decide +kernel
theorem dX10_worse_56 : decode cX10_worse 56 = .ok (.ifCond .le 7, 3) := by decide +kernel
theorem dX10_worse_59 : decode cX10_worse 59 = .ok (.ldc2_w 134, 3) := by decide +kernel
theorem dX10_worse_62 : decode cX10_worse 62 = .ok (.lreturn, 1) := by decide +kernel
theorem dX10_worse_63 : decode cX10_worse 63 = .ok (.lload 5, 2) := by decide +kernel
theorem dX10_worse_65 : decode cX10_worse 65 = .ok (.lconst 0, 1) := by decide +kernel
theorem dX10_worse_66 : decode cX10_worse 66 = .ok (.lcmp, 1) := by decide +kernel
theorem dX10_worse_67 : decode cX10_worse 67 = .ok (.ifCond .ne 8, 3) := by decide +kernel
theorem dX10_worse_70 : decode cX10_worse 70 = .ok (.iload_n 2, 1) := by decide +kernel
theorem dX10_worse_71 : decode cX10_worse 71 = .ok (.i2l, 1) := by decide +kernel
theorem dX10_worse_72 : decode cX10_worse 72 = .ok (.goto 13, 3) := by decide +kernel
theorem dX10_worse_75 : decode cX10_worse 75 = .ok (.lload_n 3, 1) := by decide +kernel
theorem dX10_worse_76 : decode cX10_worse 76 = .ok (.lload 5, 2) := by decide +kernel
theorem dX10_worse_78 : decode cX10_worse 78 = .ok (.lsub, 1) := by decide +kernel
theorem dX10_worse_79 : decode cX10_worse 79 = .ok (.lload 5, 2) := by decide +kernel
theorem dX10_worse_81 : decode cX10_worse 81 = .ok (.iload_n 2, 1) := by decide +kernel
theorem dX10_worse_82 : decode cX10_worse 82 = .ok (.invokestatic 281, 3) := by decide +kernel
theorem dX10_worse_85 : decode cX10_worse 85 = .ok (.lreturn, 1) := by decide +kernel
theorem dX10_totalWithout_0 : decode cX10_totalWithout 0 = .ok (.aload_n 0, 1) := by decide +kernel
theorem dX10_totalWithout_1 : decode cX10_totalWithout 1 = .ok (.getfield 9, 3) := by decide +kernel
theorem dX10_totalWithout_4 : decode cX10_totalWithout 4 = .ok (.aload_n 0, 1) := by decide +kernel
theorem dX10_totalWithout_5 : decode cX10_totalWithout 5 = .ok (.getfield 18, 3) := by decide +kernel
theorem dX10_totalWithout_8 : decode cX10_totalWithout 8 = .ok (.invokestatic 310, 3) := by decide +kernel
theorem dX10_totalWithout_11 : decode cX10_totalWithout 11 = .ok (.aload_n 0, 1) := by decide +kernel
theorem dX10_totalWithout_12 : decode cX10_totalWithout 12 = .ok (.iload_n 2, 1) := by decide +kernel
theorem dX10_totalWithout_13 : decode cX10_totalWithout 13 = .ok (.invokevirtual 118, 3) := by decide +kernel
theorem dX10_totalWithout_16 : decode cX10_totalWithout 16 = .ok (.aload_n 0, 1) := by decide +kernel
theorem dX10_totalWithout_17 : decode cX10_totalWithout 17 = .ok (.iload_n 1, 1) := by decide +kernel
theorem dX10_totalWithout_18 : decode cX10_totalWithout 18 = .ok (.invokevirtual 270, 3) := by decide +kernel
theorem dX10_totalWithout_21 : decode cX10_totalWithout 21 = .ok (.lstore_n 3, 1) := by decide +kernel
theorem dX10_totalWithout_22 : decode cX10_totalWithout 22 = .ok (.aload_n 0, 1) := by decide +kernel
theorem dX10_totalWithout_23 : decode cX10_totalWithout 23 = .ok (.getfield 18, 3) := by decide +kernel
theorem dX10_totalWithout_26 : decode cX10_totalWithout 26 = .ok (.aload_n 0, 1) := by decide +kernel
theorem dX10_totalWithout_27 : decode cX10_totalWithout 27 = .ok (.getfield 9, 3) := by decide +kernel
theorem dX10_totalWithout_30 : decode cX10_totalWithout 30 = .ok (.invokestatic 310, 3) := by decide +kernel
theorem dX10_totalWithout_33 : decode cX10_totalWithout 33 = .ok (.lload_n 3, 1) := by decide +kernel
theorem dX10_totalWithout_34 : decode cX10_totalWithout 34 = .ok (.lreturn, 1) := by decide +kernel
theorem dX10_without_0 : decode cX10_without 0 = .ok (.iload_n 1, 1) := by decide +kernel
theorem dX10_without_1 : decode cX10_without 1 = .ok (.invokestatic 267, 3) := by decide +kernel
theorem dX10_without_4 : decode cX10_without 4 = .ok (.ifCond .eq 11, 3) := by decide +kernel
theorem dX10_without_7 : decode cX10_without 7 = .ok (.aload_n 0, 1) := by decide +kernel
theorem dX10_without_8 : decode cX10_without 8 = .ok (.iload_n 2, 1) := by decide +kernel
theorem dX10_without_9 : decode cX10_without 9 = .ok (.invokevirtual 115, 3) := by decide +kernel
theorem dX10_without_12 : decode cX10_without 12 = .ok (.ifCond .ne 7, 3) := by decide +kernel
theorem dX10_without_15 : decode cX10_without 15 = .ok (.ldc2_w 134, 3) := by decide +kernel
theorem dX10_without_18 : decode cX10_without 18 = .ok (.lreturn, 1) := by decide +kernel
theorem dX10_without_19 : decode cX10_without 19 = .ok (.aload_n 0, 1) := by decide +kernel
theorem dX10_without_20 : decode cX10_without 20 = .ok (.iload_n 1, 1) := by decide +kernel
theorem dX10_without_21 : decode cX10_without 21 = .ok (.invokevirtual 270, 3) := by decide +kernel
theorem dX10_without_24 : decode cX10_without 24 = .ok (.lstore_n 3, 1) := by decide +kernel
theorem dX10_without_25 : decode cX10_without 25 = .ok (.aload_n 0, 1) := by decide +kernel
theorem dX10_without_26 : decode cX10_without 26 = .ok (.iload_n 1, 1) := by decide +kernel
theorem dX10_without_27 : decode cX10_without 27 = .ok (.iload_n 2, 1) := by decide +kernel
theorem dX10_without_28 : decode cX10_without 28 = .ok (.invokevirtual 314, 3) := by decide +kernel
theorem dX10_without_31 : decode cX10_without 31 = .ok (.lstore 5, 2) := by decide +kernel
theorem dX10_without_33 : decode cX10_without 33 = .ok (.lload_n 3, 1) := by decide +kernel
theorem dX10_without_34 : decode cX10_without 34 = .ok (.lconst 0, 1) := by decide +kernel
theorem dX10_without_35 : decode cX10_without 35 = .ok (.lcmp, 1) := by decide +kernel
theorem dX10_without_36 : decode cX10_without 36 = .ok (.ifCond .lt 10, 3) := by decide +kernel
theorem dX10_without_39 : decode cX10_without 39 = .ok (.lload 5, 2) := by decide +kernel
theorem dX10_without_41 : decode cX10_without 41 = .ok (.lconst 0, 1) := by decide +kernel
theorem dX10_without_42 : decode cX10_without 42 = .ok (.lcmp, 1) := by decide +kernel
theorem dX10_without_43 : decode cX10_without 43 = .ok (.ifCond .ge 9, 3) := by decide +kernel
theorem dX10_without_46 : decode cX10_without 46 = .ok (.ldc2_w 134, 3) := by decide +kernel
theorem dX10_without_49 : decode cX10_without 49 = .ok (.goto 7, 3) := by decide +kernel
theorem dX10_without_52 : decode cX10_without 52 = .ok (.lload 5, 2) := by decide +kernel
theorem dX10_without_54 : decode cX10_without 54 = .ok (.lload_n 3, 1) := by decide +kernel
theorem dX10_without_55 : decode cX10_without 55 = .ok (.lsub, 1) := by decide +kernel
theorem dX10_without_56 : decode cX10_without 56 = .ok (.lreturn, 1) := by decide +kernel
theorem dX10_paradoxOf_0 : decode cX10_paradoxOf 0 = .ok (.aload_n 0, 1) := by decide +kernel
theorem dX10_paradoxOf_1 : decode cX10_paradoxOf 1 = .ok (.iload_n 1, 1) := by decide +kernel
theorem dX10_paradoxOf_2 : decode cX10_paradoxOf 2 = .ok (.invokevirtual 270, 3) := by decide +kernel
theorem dX10_paradoxOf_5 : decode cX10_paradoxOf 5 = .ok (.lstore_n 3, 1) := by decide +kernel
theorem dX10_paradoxOf_6 : decode cX10_paradoxOf 6 = .ok (.aload_n 0, 1) := by decide +kernel
theorem dX10_paradoxOf_7 : decode cX10_paradoxOf 7 = .ok (.iload_n 1, 1) := by decide +kernel
theorem dX10_paradoxOf_8 : decode cX10_paradoxOf 8 = .ok (.iload_n 2, 1) := by decide +kernel
theorem dX10_paradoxOf_9 : decode cX10_paradoxOf 9 = .ok (.invokevirtual 314, 3) := by decide +kernel
theorem dX10_paradoxOf_12 : decode cX10_paradoxOf 12 = .ok (.lstore 5, 2) := by decide +kernel
theorem dX10_paradoxOf_14 : decode cX10_paradoxOf 14 = .ok (.lload_n 3, 1) := by decide +kernel
theorem dX10_paradoxOf_15 : decode cX10_paradoxOf 15 = .ok (.ldc2_w 265, 3) := by decide +kernel
theorem dX10_paradoxOf_18 : decode cX10_paradoxOf 18 = .ok (.lcmp, 1) := by decide +kernel
theorem dX10_paradoxOf_19 : decode cX10_paradoxOf 19 = .ok (.ifCond .eq 12, 3) := by decide +kernel
theorem dX10_paradoxOf_22 : decode cX10_paradoxOf 22 = .ok (.lload 5, 2) := by decide +kernel
theorem dX10_paradoxOf_24 : decode cX10_paradoxOf 24 = .ok (.ldc2_w 265, 3) := by decide +kernel
theorem dX10_paradoxOf_27 : decode cX10_paradoxOf 27 = .ok (.lcmp, 1) := by decide +kernel
theorem dX10_paradoxOf_28 : decode cX10_paradoxOf 28 = .ok (.ifCond .ne 6, 3) := by decide +kernel
theorem dX10_paradoxOf_31 : decode cX10_paradoxOf 31 = .ok (.bipush (-3), 2) := by decide +kernel
theorem dX10_paradoxOf_33 : decode cX10_paradoxOf 33 = .ok (.ireturn, 1) := by decide +kernel
theorem dX10_paradoxOf_34 : decode cX10_paradoxOf 34 = .ok (.lload_n 3, 1) := by decide +kernel
theorem dX10_paradoxOf_35 : decode cX10_paradoxOf 35 = .ok (.lconst 0, 1) := by decide +kernel
theorem dX10_paradoxOf_36 : decode cX10_paradoxOf 36 = .ok (.lcmp, 1) := by decide +kernel
theorem dX10_paradoxOf_37 : decode cX10_paradoxOf 37 = .ok (.ifCond .lt 10, 3) := by decide +kernel
theorem dX10_paradoxOf_40 : decode cX10_paradoxOf 40 = .ok (.lload 5, 2) := by decide +kernel
theorem dX10_paradoxOf_42 : decode cX10_paradoxOf 42 = .ok (.lconst 0, 1) := by decide +kernel
theorem dX10_paradoxOf_43 : decode cX10_paradoxOf 43 = .ok (.lcmp, 1) := by decide +kernel
theorem dX10_paradoxOf_44 : decode cX10_paradoxOf 44 = .ok (.ifCond .ge 8, 3) := by decide +kernel
theorem dX10_paradoxOf_47 : decode cX10_paradoxOf 47 = .ok (.bipush (-6), 2) := by decide +kernel
theorem dX10_paradoxOf_49 : decode cX10_paradoxOf 49 = .ok (.goto 15, 3) := by decide +kernel
theorem dX10_paradoxOf_52 : decode cX10_paradoxOf 52 = .ok (.lload 5, 2) := by decide +kernel
theorem dX10_paradoxOf_54 : decode cX10_paradoxOf 54 = .ok (.lload_n 3, 1) := by decide +kernel
theorem dX10_paradoxOf_55 : decode cX10_paradoxOf 55 = .ok (.lcmp, 1) := by decide +kernel
theorem dX10_paradoxOf_56 : decode cX10_paradoxOf 56 = .ok (.ifCond .ge 7, 3) := by decide +kernel
theorem dX10_paradoxOf_59 : decode cX10_paradoxOf 59 = .ok (.iconst 1, 1) := by decide +kernel
theorem dX10_paradoxOf_60 : decode cX10_paradoxOf 60 = .ok (.goto 4, 3) := by decide +kernel
theorem dX10_paradoxOf_63 : decode cX10_paradoxOf 63 = .ok (.iconst 0, 1) := by decide +kernel
theorem dX10_paradoxOf_64 : decode cX10_paradoxOf 64 = .ok (.ireturn, 1) := by decide +kernel
theorem dX10_paradox_0 : decode cX10_paradox 0 = .ok (.iload_n 1, 1) := by decide +kernel
theorem dX10_paradox_1 : decode cX10_paradox 1 = .ok (.invokestatic 267, 3) := by decide +kernel
theorem dX10_paradox_4 : decode cX10_paradox 4 = .ok (.ifCond .eq 20, 3) := by decide +kernel
theorem dX10_paradox_7 : decode cX10_paradox 7 = .ok (.aload_n 0, 1) := by decide +kernel
theorem dX10_paradox_8 : decode cX10_paradox 8 = .ok (.iload_n 2, 1) := by decide +kernel
theorem dX10_paradox_9 : decode cX10_paradox 9 = .ok (.invokevirtual 115, 3) := by decide +kernel
theorem dX10_paradox_12 : decode cX10_paradox 12 = .ok (.ifCond .eq 12, 3) := by decide +kernel
theorem dX10_paradox_15 : decode cX10_paradox 15 = .ok (.aload_n 0, 1) := by decide +kernel
theorem dX10_paradox_16 : decode cX10_paradox 16 = .ok (.iload_n 1, 1) := by decide +kernel
theorem dX10_paradox_17 : decode cX10_paradox 17 = .ok (.iload_n 2, 1) := by decide +kernel
theorem dX10_paradox_18 : decode cX10_paradox 18 = .ok (.invokevirtual 317, 3) := by decide +kernel
theorem dX10_paradox_21 : decode cX10_paradox 21 = .ok (.goto 4, 3) := by decide +kernel
theorem dX10_paradox_24 : decode cX10_paradox 24 = .ok (.iconst (-1), 1) := by decide +kernel
theorem dX10_paradox_25 : decode cX10_paradox 25 = .ok (.ireturn, 1) := by decide +kernel
theorem dX10_paradoxes_0 : decode cX10_paradoxes 0 = .ok (.iload_n 1, 1) := by decide +kernel
theorem dX10_paradoxes_1 : decode cX10_paradoxes 1 = .ok (.invokestatic 267, 3) := by decide +kernel
theorem dX10_paradoxes_4 : decode cX10_paradoxes 4 = .ok (.ifCond .ne 5, 3) := by decide +kernel
theorem dX10_paradoxes_7 : decode cX10_paradoxes 7 = .ok (.iconst (-1), 1) := by decide +kernel
theorem dX10_paradoxes_8 : decode cX10_paradoxes 8 = .ok (.ireturn, 1) := by decide +kernel
theorem dX10_paradoxes_9 : decode cX10_paradoxes 9 = .ok (.aload_n 0, 1) := by decide +kernel
theorem dX10_paradoxes_10 : decode cX10_paradoxes 10 = .ok (.iload_n 1, 1) := by decide +kernel
theorem dX10_paradoxes_11 : decode cX10_paradoxes 11 = .ok (.invokevirtual 258, 3) := by decide +kernel
theorem dX10_paradoxes_14 : decode cX10_paradoxes 14 = .ok (.ifCond .ne 6, 3) := by decide +kernel
theorem dX10_paradoxes_17 : decode cX10_paradoxes 17 = .ok (.bipush (-3), 2) := by decide +kernel
theorem dX10_paradoxes_19 : decode cX10_paradoxes 19 = .ok (.ireturn, 1) := by decide +kernel
theorem dX10_paradoxes_20 : decode cX10_paradoxes 20 = .ok (.iconst 0, 1) := by decide +kernel
theorem dX10_paradoxes_21 : decode cX10_paradoxes 21 = .ok (.istore_n 2, 1) := by decide +kernel
theorem dX10_paradoxes_22 : decode cX10_paradoxes 22 = .ok (.iconst 0, 1) := by decide +kernel
theorem dX10_paradoxes_23 : decode cX10_paradoxes 23 = .ok (.istore_n 3, 1) := by decide +kernel
theorem dX10_paradoxes_24 : decode cX10_paradoxes 24 = .ok (.iload_n 3, 1) := by decide +kernel
theorem dX10_paradoxes_25 : decode cX10_paradoxes 25 = .ok (.aload_n 0, 1) := by decide +kernel
theorem dX10_paradoxes_26 : decode cX10_paradoxes 26 = .ok (.invokevirtual 85, 3) := by decide +kernel
theorem dX10_paradoxes_29 : decode cX10_paradoxes 29 = .ok (.if_icmp .ge 29, 3) := by decide +kernel
theorem dX10_paradoxes_32 : decode cX10_paradoxes 32 = .ok (.iload_n 2, 1) := by decide +kernel
theorem dX10_paradoxes_33 : decode cX10_paradoxes 33 = .ok (.aload_n 0, 1) := by decide +kernel
theorem dX10_paradoxes_34 : decode cX10_paradoxes 34 = .ok (.iload_n 1, 1) := by decide +kernel
theorem dX10_paradoxes_35 : decode cX10_paradoxes 35 = .ok (.iload_n 3, 1) := by decide +kernel
theorem dX10_paradoxes_36 : decode cX10_paradoxes 36 = .ok (.invokevirtual 317, 3) := by decide +kernel
theorem dX10_paradoxes_39 : decode cX10_paradoxes 39 = .ok (.iconst 1, 1) := by decide +kernel
theorem dX10_paradoxes_40 : decode cX10_paradoxes 40 = .ok (.if_icmp .ne 9, 3) := by decide +kernel
theorem dX10_paradoxes_43 : decode cX10_paradoxes 43 = .ok (.iconst 1, 1) := by decide +kernel
theorem dX10_paradoxes_44 : decode cX10_paradoxes 44 = .ok (.iload_n 3, 1) := by decide +kernel
theorem dX10_paradoxes_45 : decode cX10_paradoxes 45 = .ok (.ishl, 1) := by decide +kernel
theorem dX10_paradoxes_46 : decode cX10_paradoxes 46 = .ok (.goto 4, 3) := by decide +kernel
theorem dX10_paradoxes_49 : decode cX10_paradoxes 49 = .ok (.iconst 0, 1) := by decide +kernel
theorem dX10_paradoxes_50 : decode cX10_paradoxes 50 = .ok (.ior, 1) := by decide +kernel
theorem dX10_paradoxes_51 : decode cX10_paradoxes 51 = .ok (.istore_n 2, 1) := by decide +kernel
theorem dX10_paradoxes_52 : decode cX10_paradoxes 52 = .ok (.iinc 3 1, 3) := by decide +kernel
theorem dX10_paradoxes_55 : decode cX10_paradoxes 55 = .ok (.goto (-31), 3) := by decide +kernel
theorem dX10_paradoxes_58 : decode cX10_paradoxes 58 = .ok (.iload_n 2, 1) := by decide +kernel
theorem dX10_paradoxes_59 : decode cX10_paradoxes 59 = .ok (.ireturn, 1) := by decide +kernel
theorem dX10_adding_0 : decode cX10_adding 0 = .ok (.iload_n 1, 1) := by decide +kernel
theorem dX10_adding_1 : decode cX10_adding 1 = .ok (.invokestatic 267, 3) := by decide +kernel
theorem dX10_adding_4 : decode cX10_adding 4 = .ok (.ifCond .eq 36, 3) := by decide +kernel
theorem dX10_adding_7 : decode cX10_adding 7 = .ok (.aload_n 0, 1) := by decide +kernel
theorem dX10_adding_8 : decode cX10_adding 8 = .ok (.iload_n 2, 1) := by decide +kernel
theorem dX10_adding_9 : decode cX10_adding 9 = .ok (.iload_n 3, 1) := by decide +kernel
theorem dX10_adding_10 : decode cX10_adding 10 = .ok (.invokevirtual 99, 3) := by decide +kernel
theorem dX10_adding_13 : decode cX10_adding 13 = .ok (.ifCond .eq 27, 3) := by decide +kernel
theorem dX10_adding_16 : decode cX10_adding 16 = .ok (.lload 4, 2) := by decide +kernel
theorem dX10_adding_18 : decode cX10_adding 18 = .ok (.lconst 0, 1) := by decide +kernel
theorem dX10_adding_19 : decode cX10_adding 19 = .ok (.ldc2_w 103, 3) := by decide +kernel
theorem dX10_adding_22 : decode cX10_adding 22 = .ok (.invokestatic 89, 3) := by decide +kernel
theorem dX10_adding_25 : decode cX10_adding 25 = .ok (.ifCond .eq 15, 3) := by decide +kernel
theorem dX10_adding_28 : decode cX10_adding 28 = .ok (.lload 6, 2) := by decide +kernel
theorem dX10_adding_30 : decode cX10_adding 30 = .ok (.lconst 0, 1) := by decide +kernel
theorem dX10_adding_31 : decode cX10_adding 31 = .ok (.ldc2_w 105, 3) := by decide +kernel
theorem dX10_adding_34 : decode cX10_adding 34 = .ok (.invokestatic 89, 3) := by decide +kernel
theorem dX10_adding_37 : decode cX10_adding 37 = .ok (.ifCond .ne 7, 3) := by decide +kernel
theorem dX10_adding_40 : decode cX10_adding 40 = .ok (.ldc2_w 134, 3) := by decide +kernel
theorem dX10_adding_43 : decode cX10_adding 43 = .ok (.lreturn, 1) := by decide +kernel
theorem dX10_adding_44 : decode cX10_adding 44 = .ok (.aload_n 0, 1) := by decide +kernel
theorem dX10_adding_45 : decode cX10_adding 45 = .ok (.iload_n 1, 1) := by decide +kernel
theorem dX10_adding_46 : decode cX10_adding 46 = .ok (.invokevirtual 270, 3) := by decide +kernel
theorem dX10_adding_49 : decode cX10_adding 49 = .ok (.lstore 8, 2) := by decide +kernel
theorem dX10_adding_51 : decode cX10_adding 51 = .ok (.aload_n 0, 1) := by decide +kernel
theorem dX10_adding_52 : decode cX10_adding 52 = .ok (.getfield 9, 3) := by decide +kernel
theorem dX10_adding_55 : decode cX10_adding 55 = .ok (.aload_n 0, 1) := by decide +kernel
theorem dX10_adding_56 : decode cX10_adding 56 = .ok (.getfield 18, 3) := by decide +kernel
theorem dX10_adding_59 : decode cX10_adding 59 = .ok (.invokestatic 310, 3) := by decide +kernel
theorem dX10_adding_62 : decode cX10_adding 62 = .ok (.aload_n 0, 1) := by decide +kernel
theorem dX10_adding_63 : decode cX10_adding 63 = .ok (.iload_n 2, 1) := by decide +kernel
theorem dX10_adding_64 : decode cX10_adding 64 = .ok (.iload_n 3, 1) := by decide +kernel
theorem dX10_adding_65 : decode cX10_adding 65 = .ok (.iconst 1, 1) := by decide +kernel
theorem dX10_adding_66 : decode cX10_adding 66 = .ok (.lload 4, 2) := by decide +kernel
theorem dX10_adding_68 : decode cX10_adding 68 = .ok (.lload 6, 2) := by decide +kernel
theorem dX10_adding_70 : decode cX10_adding 70 = .ok (.lconst 0, 1) := by decide +kernel
theorem dX10_adding_71 : decode cX10_adding 71 = .ok (.iconst 0, 1) := by decide +kernel
theorem dX10_adding_72 : decode cX10_adding 72 = .ok (.invokevirtual 111, 3) := by decide +kernel
theorem dX10_adding_75 : decode cX10_adding 75 = .ok (.aload_n 0, 1) := by decide +kernel
theorem dX10_adding_76 : decode cX10_adding 76 = .ok (.iload_n 1, 1) := by decide +kernel
theorem dX10_adding_77 : decode cX10_adding 77 = .ok (.invokevirtual 270, 3) := by decide +kernel
theorem dX10_adding_80 : decode cX10_adding 80 = .ok (.lstore 10, 2) := by decide +kernel
theorem dX10_adding_82 : decode cX10_adding 82 = .ok (.aload_n 0, 1) := by decide +kernel
theorem dX10_adding_83 : decode cX10_adding 83 = .ok (.getfield 18, 3) := by decide +kernel
theorem dX10_adding_86 : decode cX10_adding 86 = .ok (.aload_n 0, 1) := by decide +kernel
theorem dX10_adding_87 : decode cX10_adding 87 = .ok (.getfield 9, 3) := by decide +kernel
theorem dX10_adding_90 : decode cX10_adding 90 = .ok (.invokestatic 310, 3) := by decide +kernel
theorem dX10_adding_93 : decode cX10_adding 93 = .ok (.lload 8, 2) := by decide +kernel
theorem dX10_adding_95 : decode cX10_adding 95 = .ok (.lconst 0, 1) := by decide +kernel
theorem dX10_adding_96 : decode cX10_adding 96 = .ok (.lcmp, 1) := by decide +kernel
theorem dX10_adding_97 : decode cX10_adding 97 = .ok (.ifCond .lt 10, 3) := by decide +kernel
theorem dX10_adding_100 : decode cX10_adding 100 = .ok (.lload 10, 2) := by decide +kernel
theorem dX10_adding_102 : decode cX10_adding 102 = .ok (.lconst 0, 1) := by decide +kernel
theorem dX10_adding_103 : decode cX10_adding 103 = .ok (.lcmp, 1) := by decide +kernel
theorem dX10_adding_104 : decode cX10_adding 104 = .ok (.ifCond .ge 9, 3) := by decide +kernel
theorem dX10_adding_107 : decode cX10_adding 107 = .ok (.ldc2_w 134, 3) := by decide +kernel
theorem dX10_adding_110 : decode cX10_adding 110 = .ok (.goto 8, 3) := by decide +kernel
theorem dX10_adding_113 : decode cX10_adding 113 = .ok (.lload 10, 2) := by decide +kernel
theorem dX10_adding_115 : decode cX10_adding 115 = .ok (.lload 8, 2) := by decide +kernel
theorem dX10_adding_117 : decode cX10_adding 117 = .ok (.lsub, 1) := by decide +kernel
theorem dX10_adding_118 : decode cX10_adding 118 = .ok (.lreturn, 1) := by decide +kernel
theorem dX10_becomes_0 : decode cX10_becomes 0 = .ok (.aload_n 0, 1) := by decide +kernel
theorem dX10_becomes_1 : decode cX10_becomes 1 = .ok (.iload_n 1, 1) := by decide +kernel
theorem dX10_becomes_2 : decode cX10_becomes 2 = .ok (.bipush 7, 2) := by decide +kernel
theorem dX10_becomes_4 : decode cX10_becomes 4 = .ok (.invokevirtual 128, 3) := by decide +kernel
theorem dX10_becomes_7 : decode cX10_becomes 7 = .ok (.lload_n 2, 1) := by decide +kernel
theorem dX10_becomes_8 : decode cX10_becomes 8 = .ok (.lcmp, 1) := by decide +kernel
theorem dX10_becomes_9 : decode cX10_becomes 9 = .ok (.ifCond .ne 7, 3) := by decide +kernel
theorem dX10_becomes_12 : decode cX10_becomes 12 = .ok (.iconst 0, 1) := by decide +kernel
theorem dX10_becomes_13 : decode cX10_becomes 13 = .ok (.goto 4, 3) := by decide +kernel
theorem dX10_becomes_16 : decode cX10_becomes 16 = .ok (.iconst 1, 1) := by decide +kernel
theorem dX10_becomes_17 : decode cX10_becomes 17 = .ok (.istore 4, 2) := by decide +kernel
theorem dX10_becomes_19 : decode cX10_becomes 19 = .ok (.aload_n 0, 1) := by decide +kernel
theorem dX10_becomes_20 : decode cX10_becomes 20 = .ok (.getfield 9, 3) := by decide +kernel
theorem dX10_becomes_23 : decode cX10_becomes 23 = .ok (.iconst 2, 1) := by decide +kernel
theorem dX10_becomes_24 : decode cX10_becomes 24 = .ok (.bipush 8, 2) := by decide +kernel
theorem dX10_becomes_26 : decode cX10_becomes 26 = .ok (.iload_n 1, 1) := by decide +kernel
theorem dX10_becomes_27 : decode cX10_becomes 27 = .ok (.imul, 1) := by decide +kernel
theorem dX10_becomes_28 : decode cX10_becomes 28 = .ok (.iadd, 1) := by decide +kernel
theorem dX10_becomes_29 : decode cX10_becomes 29 = .ok (.bipush 7, 2) := by decide +kernel
theorem dX10_becomes_31 : decode cX10_becomes 31 = .ok (.iadd, 1) := by decide +kernel
theorem dX10_becomes_32 : decode cX10_becomes 32 = .ok (.lload_n 2, 1) := by decide +kernel
theorem dX10_becomes_33 : decode cX10_becomes 33 = .ok (.lastore, 1) := by decide +kernel
theorem dX10_becomes_34 : decode cX10_becomes 34 = .ok (.iload 4, 2) := by decide +kernel
theorem dX10_becomes_36 : decode cX10_becomes 36 = .ok (.ireturn, 1) := by decide +kernel
theorem dX10_fix_0 : decode cX10_fix 0 = .ok (.aload_n 0, 1) := by decide +kernel
theorem dX10_fix_1 : decode cX10_fix 1 = .ok (.iconst 2, 1) := by decide +kernel
theorem dX10_fix_2 : decode cX10_fix 2 = .ok (.invokevirtual 258, 3) := by decide +kernel
theorem dX10_fix_5 : decode cX10_fix 5 = .ok (.ifCond .ne 6, 3) := by decide +kernel
theorem dX10_fix_8 : decode cX10_fix 8 = .ok (.bipush (-3), 2) := by decide +kernel
theorem dX10_fix_10 : decode cX10_fix 10 = .ok (.ireturn, 1) := by decide +kernel
theorem dX10_fix_11 : decode cX10_fix 11 = .ok (.iconst 0, 1) := by decide +kernel
theorem dX10_fix_12 : decode cX10_fix 12 = .ok (.istore_n 1, 1) := by decide +kernel
theorem dX10_fix_13 : decode cX10_fix 13 = .ok (.iconst 0, 1) := by decide +kernel
theorem dX10_fix_14 : decode cX10_fix 14 = .ok (.istore_n 2, 1) := by decide +kernel
theorem dX10_fix_15 : decode cX10_fix 15 = .ok (.iload_n 2, 1) := by decide +kernel
theorem dX10_fix_16 : decode cX10_fix 16 = .ok (.aload_n 0, 1) := by decide +kernel
theorem dX10_fix_17 : decode cX10_fix 17 = .ok (.invokevirtual 85, 3) := by decide +kernel
theorem dX10_fix_20 : decode cX10_fix 20 = .ok (.if_icmp .ge 44, 3) := by decide +kernel
theorem dX10_fix_23 : decode cX10_fix 23 = .ok (.aload_n 0, 1) := by decide +kernel
theorem dX10_fix_24 : decode cX10_fix 24 = .ok (.iload_n 2, 1) := by decide +kernel
theorem dX10_fix_25 : decode cX10_fix 25 = .ok (.aload_n 0, 1) := by decide +kernel
theorem dX10_fix_26 : decode cX10_fix 26 = .ok (.getfield 46, 3) := by decide +kernel
theorem dX10_fix_29 : decode cX10_fix 29 = .ok (.iload_n 2, 1) := by decide +kernel
theorem dX10_fix_30 : decode cX10_fix 30 = .ok (.iaload, 1) := by decide +kernel
theorem dX10_fix_31 : decode cX10_fix 31 = .ok (.invokevirtual 139, 3) := by decide +kernel
theorem dX10_fix_34 : decode cX10_fix 34 = .ok (.lstore_n 3, 1) := by decide +kernel
theorem dX10_fix_35 : decode cX10_fix 35 = .ok (.iload_n 1, 1) := by decide +kernel
theorem dX10_fix_36 : decode cX10_fix 36 = .ok (.aload_n 0, 1) := by decide +kernel
theorem dX10_fix_37 : decode cX10_fix 37 = .ok (.iload_n 2, 1) := by decide +kernel
theorem dX10_fix_38 : decode cX10_fix 38 = .ok (.lload_n 3, 1) := by decide +kernel
theorem dX10_fix_39 : decode cX10_fix 39 = .ok (.ldc2_w 124, 3) := by decide +kernel
theorem dX10_fix_42 : decode cX10_fix 42 = .ok (.lcmp, 1) := by decide +kernel
theorem dX10_fix_43 : decode cX10_fix 43 = .ok (.ifCond .le 9, 3) := by decide +kernel
theorem dX10_fix_46 : decode cX10_fix 46 = .ok (.ldc2_w 124, 3) := by decide +kernel
theorem dX10_fix_49 : decode cX10_fix 49 = .ok (.goto 4, 3) := by decide +kernel
theorem dX10_fix_52 : decode cX10_fix 52 = .ok (.lload_n 3, 1) := by decide +kernel
theorem dX10_fix_53 : decode cX10_fix 53 = .ok (.invokevirtual 320, 3) := by decide +kernel
theorem dX10_fix_56 : decode cX10_fix 56 = .ok (.iadd, 1) := by decide +kernel
theorem dX10_fix_57 : decode cX10_fix 57 = .ok (.istore_n 1, 1) := by decide +kernel
theorem dX10_fix_58 : decode cX10_fix 58 = .ok (.iinc 2 1, 3) := by decide +kernel
theorem dX10_fix_61 : decode cX10_fix 61 = .ok (.goto (-46), 3) := by decide +kernel
theorem dX10_fix_64 : decode cX10_fix 64 = .ok (.iload_n 1, 1) := by decide +kernel
theorem dX10_fix_65 : decode cX10_fix 65 = .ok (.ireturn, 1) := by decide +kernel
theorem dX10_free_0 : decode cX10_free 0 = .ok (.iconst 0, 1) := by decide +kernel
theorem dX10_free_1 : decode cX10_free 1 = .ok (.istore_n 1, 1) := by decide +kernel
theorem dX10_free_2 : decode cX10_free 2 = .ok (.iconst 0, 1) := by decide +kernel
theorem dX10_free_3 : decode cX10_free 3 = .ok (.istore_n 2, 1) := by decide +kernel
theorem dX10_free_4 : decode cX10_free 4 = .ok (.iload_n 2, 1) := by decide +kernel
theorem dX10_free_5 : decode cX10_free 5 = .ok (.aload_n 0, 1) := by decide +kernel
theorem dX10_free_6 : decode cX10_free 6 = .ok (.invokevirtual 85, 3) := by decide +kernel
theorem dX10_free_9 : decode cX10_free 9 = .ok (.if_icmp .ge 18, 3) := by decide +kernel
theorem dX10_free_12 : decode cX10_free 12 = .ok (.iload_n 1, 1) := by decide +kernel
theorem dX10_free_13 : decode cX10_free 13 = .ok (.aload_n 0, 1) := by decide +kernel
theorem dX10_free_14 : decode cX10_free 14 = .ok (.iload_n 2, 1) := by decide +kernel
theorem dX10_free_15 : decode cX10_free 15 = .ok (.lconst 0, 1) := by decide +kernel
theorem dX10_free_16 : decode cX10_free 16 = .ok (.invokevirtual 320, 3) := by decide +kernel
theorem dX10_free_19 : decode cX10_free 19 = .ok (.iadd, 1) := by decide +kernel
theorem dX10_free_20 : decode cX10_free 20 = .ok (.istore_n 1, 1) := by decide +kernel
theorem dX10_free_21 : decode cX10_free 21 = .ok (.iinc 2 1, 3) := by decide +kernel
theorem dX10_free_24 : decode cX10_free 24 = .ok (.goto (-20), 3) := by decide +kernel
theorem dX10_free_27 : decode cX10_free 27 = .ok (.iload_n 1, 1) := by decide +kernel
theorem dX10_free_28 : decode cX10_free 28 = .ok (.ireturn, 1) := by decide +kernel
theorem dX10_isList_0 : decode cX10_isList 0 = .ok (.iload_n 0, 1) := by decide +kernel
theorem dX10_isList_1 : decode cX10_isList 1 = .ok (.i2l, 1) := by decide +kernel
theorem dX10_isList_2 : decode cX10_isList 2 = .ok (.lconst 0, 1) := by decide +kernel
theorem dX10_isList_3 : decode cX10_isList 3 = .ok (.ldc2_w 149, 3) := by decide +kernel
theorem dX10_isList_6 : decode cX10_isList 6 = .ok (.invokestatic 89, 3) := by decide +kernel
theorem dX10_isList_9 : decode cX10_isList 9 = .ok (.ireturn, 1) := by decide +kernel
theorem dX10_list_0 : decode cX10_list 0 = .ok (.iload_n 1, 1) := by decide +kernel
theorem dX10_list_1 : decode cX10_list 1 = .ok (.invokestatic 324, 3) := by decide +kernel
theorem dX10_list_4 : decode cX10_list 4 = .ok (.ifCond .ne 5, 3) := by decide +kernel
theorem dX10_list_7 : decode cX10_list 7 = .ok (.iconst (-1), 1) := by decide +kernel
theorem dX10_list_8 : decode cX10_list 8 = .ok (.ireturn, 1) := by decide +kernel
theorem dX10_list_9 : decode cX10_list 9 = .ok (.iload_n 2, 1) := by decide +kernel
theorem dX10_list_10 : decode cX10_list 10 = .ok (.bipush 24, 2) := by decide +kernel
theorem dX10_list_12 : decode cX10_list 12 = .ok (.if_icmp .gt 7, 3) := by decide +kernel
theorem dX10_list_15 : decode cX10_list 15 = .ok (.iload_n 2, 1) := by decide +kernel
theorem dX10_list_16 : decode cX10_list 16 = .ok (.ifCond .ge 15, 3) := by decide +kernel
theorem dX10_list_19 : decode cX10_list 19 = .ok (.iload_n 2, 1) := by decide +kernel
theorem dX10_list_20 : decode cX10_list 20 = .ok (.ifCond .ge 8, 3) := by decide +kernel
theorem dX10_list_23 : decode cX10_list 23 = .ok (.bipush (-14), 2) := by decide +kernel
theorem dX10_list_25 : decode cX10_list 25 = .ok (.goto 5, 3) := by decide +kernel
theorem dX10_list_28 : decode cX10_list 28 = .ok (.bipush (-2), 2) := by decide +kernel
theorem dX10_list_30 : decode cX10_list 30 = .ok (.ireturn, 1) := by decide +kernel
theorem dX10_list_31 : decode cX10_list 31 = .ok (.aload_n 0, 1) := by decide +kernel
theorem dX10_list_32 : decode cX10_list 32 = .ok (.getfield 64, 3) := by decide +kernel
theorem dX10_list_35 : decode cX10_list 35 = .ok (.iload_n 1, 1) := by decide +kernel
theorem dX10_list_36 : decode cX10_list 36 = .ok (.iload_n 2, 1) := by decide +kernel
theorem dX10_list_37 : decode cX10_list 37 = .ok (.iastore, 1) := by decide +kernel
theorem dX10_list_38 : decode cX10_list 38 = .ok (.iconst 0, 1) := by decide +kernel
theorem dX10_list_39 : decode cX10_list 39 = .ok (.istore_n 3, 1) := by decide +kernel
theorem dX10_list_40 : decode cX10_list 40 = .ok (.iload_n 3, 1) := by decide +kernel
theorem dX10_list_41 : decode cX10_list 41 = .ok (.bipush 24, 2) := by decide +kernel
theorem dX10_list_43 : decode cX10_list 43 = .ok (.if_icmp .ge 21, 3) := by decide +kernel
theorem dX10_list_46 : decode cX10_list 46 = .ok (.aload_n 0, 1) := by decide +kernel
theorem dX10_list_47 : decode cX10_list 47 = .ok (.getfield 67, 3) := by decide +kernel
theorem dX10_list_50 : decode cX10_list 50 = .ok (.bipush 24, 2) := by decide +kernel
theorem dX10_list_52 : decode cX10_list 52 = .ok (.iload_n 1, 1) := by decide +kernel
theorem dX10_list_53 : decode cX10_list 53 = .ok (.imul, 1) := by decide +kernel
theorem dX10_list_54 : decode cX10_list 54 = .ok (.iload_n 3, 1) := by decide +kernel
theorem dX10_list_55 : decode cX10_list 55 = .ok (.iadd, 1) := by decide +kernel
theorem dX10_list_56 : decode cX10_list 56 = .ok (.lconst 0, 1) := by decide +kernel
theorem dX10_list_57 : decode cX10_list 57 = .ok (.lastore, 1) := by decide +kernel
theorem dX10_list_58 : decode cX10_list 58 = .ok (.iinc 3 1, 3) := by decide +kernel
theorem dX10_list_61 : decode cX10_list 61 = .ok (.goto (-21), 3) := by decide +kernel
theorem dX10_list_64 : decode cX10_list 64 = .ok (.iconst 1, 1) := by decide +kernel
theorem dX10_list_65 : decode cX10_list 65 = .ok (.ireturn, 1) := by decide +kernel
theorem dX10_set_0 : decode cX10_set 0 = .ok (.iload_n 1, 1) := by decide +kernel
theorem dX10_set_1 : decode cX10_set 1 = .ok (.invokestatic 324, 3) := by decide +kernel
theorem dX10_set_4 : decode cX10_set 4 = .ok (.ifCond .ne 5, 3) := by decide +kernel
theorem dX10_set_7 : decode cX10_set 7 = .ok (.iconst (-1), 1) := by decide +kernel
theorem dX10_set_8 : decode cX10_set 8 = .ok (.ireturn, 1) := by decide +kernel
theorem dX10_set_9 : decode cX10_set 9 = .ok (.aload_n 0, 1) := by decide +kernel
theorem dX10_set_10 : decode cX10_set 10 = .ok (.getfield 64, 3) := by decide +kernel
theorem dX10_set_13 : decode cX10_set 13 = .ok (.iload_n 1, 1) := by decide +kernel
theorem dX10_set_14 : decode cX10_set 14 = .ok (.iaload, 1) := by decide +kernel
theorem dX10_set_15 : decode cX10_set 15 = .ok (.ifCond .ge 6, 3) := by decide +kernel
theorem dX10_set_18 : decode cX10_set 18 = .ok (.bipush (-11), 2) := by decide +kernel
theorem dX10_set_20 : decode cX10_set 20 = .ok (.ireturn, 1) := by decide +kernel
theorem dX10_set_21 : decode cX10_set 21 = .ok (.iload_n 2, 1) := by decide +kernel
theorem dX10_set_22 : decode cX10_set 22 = .ok (.i2l, 1) := by decide +kernel
theorem dX10_set_23 : decode cX10_set 23 = .ok (.lconst 0, 1) := by decide +kernel
theorem dX10_set_24 : decode cX10_set 24 = .ok (.aload_n 0, 1) := by decide +kernel
theorem dX10_set_25 : decode cX10_set 25 = .ok (.getfield 64, 3) := by decide +kernel
theorem dX10_set_28 : decode cX10_set 28 = .ok (.iload_n 1, 1) := by decide +kernel
theorem dX10_set_29 : decode cX10_set 29 = .ok (.iaload, 1) := by decide +kernel
theorem dX10_set_30 : decode cX10_set 30 = .ok (.iconst 1, 1) := by decide +kernel
theorem dX10_set_31 : decode cX10_set 31 = .ok (.isub, 1) := by decide +kernel
theorem dX10_set_32 : decode cX10_set 32 = .ok (.i2l, 1) := by decide +kernel
theorem dX10_set_33 : decode cX10_set 33 = .ok (.invokestatic 89, 3) := by decide +kernel
theorem dX10_set_36 : decode cX10_set 36 = .ok (.ifCond .ne 6, 3) := by decide +kernel
theorem dX10_set_39 : decode cX10_set 39 = .ok (.bipush (-13), 2) := by decide +kernel
theorem dX10_set_41 : decode cX10_set 41 = .ok (.ireturn, 1) := by decide +kernel
theorem dX10_set_42 : decode cX10_set 42 = .ok (.aload_n 0, 1) := by decide +kernel
theorem dX10_set_43 : decode cX10_set 43 = .ok (.getfield 67, 3) := by decide +kernel
theorem dX10_set_46 : decode cX10_set 46 = .ok (.bipush 24, 2) := by decide +kernel
theorem dX10_set_48 : decode cX10_set 48 = .ok (.iload_n 1, 1) := by decide +kernel
theorem dX10_set_49 : decode cX10_set 49 = .ok (.imul, 1) := by decide +kernel
theorem dX10_set_50 : decode cX10_set 50 = .ok (.iload_n 2, 1) := by decide +kernel
theorem dX10_set_51 : decode cX10_set 51 = .ok (.iadd, 1) := by decide +kernel
theorem dX10_set_52 : decode cX10_set 52 = .ok (.lload_n 3, 1) := by decide +kernel
theorem dX10_set_53 : decode cX10_set 53 = .ok (.lastore, 1) := by decide +kernel
theorem dX10_set_54 : decode cX10_set 54 = .ok (.iconst 1, 1) := by decide +kernel
theorem dX10_set_55 : decode cX10_set 55 = .ok (.ireturn, 1) := by decide +kernel
theorem dX10_get_0 : decode cX10_get 0 = .ok (.iload_n 1, 1) := by decide +kernel
theorem dX10_get_1 : decode cX10_get 1 = .ok (.invokestatic 324, 3) := by decide +kernel
theorem dX10_get_4 : decode cX10_get 4 = .ok (.ifCond .eq 35, 3) := by decide +kernel
theorem dX10_get_7 : decode cX10_get 7 = .ok (.iload_n 2, 1) := by decide +kernel
theorem dX10_get_8 : decode cX10_get 8 = .ok (.i2l, 1) := by decide +kernel
theorem dX10_get_9 : decode cX10_get 9 = .ok (.lconst 0, 1) := by decide +kernel
theorem dX10_get_10 : decode cX10_get 10 = .ok (.aload_n 0, 1) := by decide +kernel
theorem dX10_get_11 : decode cX10_get 11 = .ok (.getfield 64, 3) := by decide +kernel
theorem dX10_get_14 : decode cX10_get 14 = .ok (.iload_n 1, 1) := by decide +kernel
theorem dX10_get_15 : decode cX10_get 15 = .ok (.iaload, 1) := by decide +kernel
theorem dX10_get_16 : decode cX10_get 16 = .ok (.iconst 1, 1) := by decide +kernel
theorem dX10_get_17 : decode cX10_get 17 = .ok (.isub, 1) := by decide +kernel
theorem dX10_get_18 : decode cX10_get 18 = .ok (.i2l, 1) := by decide +kernel
theorem dX10_get_19 : decode cX10_get 19 = .ok (.invokestatic 89, 3) := by decide +kernel
theorem dX10_get_22 : decode cX10_get 22 = .ok (.ifCond .eq 17, 3) := by decide +kernel
theorem dX10_get_25 : decode cX10_get 25 = .ok (.aload_n 0, 1) := by decide +kernel
theorem dX10_get_26 : decode cX10_get 26 = .ok (.getfield 67, 3) := by decide +kernel
theorem dX10_get_29 : decode cX10_get 29 = .ok (.bipush 24, 2) := by decide +kernel
theorem dX10_get_31 : decode cX10_get 31 = .ok (.iload_n 1, 1) := by decide +kernel
theorem dX10_get_32 : decode cX10_get 32 = .ok (.imul, 1) := by decide +kernel
theorem dX10_get_33 : decode cX10_get 33 = .ok (.iload_n 2, 1) := by decide +kernel
theorem dX10_get_34 : decode cX10_get 34 = .ok (.iadd, 1) := by decide +kernel
theorem dX10_get_35 : decode cX10_get 35 = .ok (.laload, 1) := by decide +kernel
theorem dX10_get_36 : decode cX10_get 36 = .ok (.goto 6, 3) := by decide +kernel
theorem dX10_get_39 : decode cX10_get 39 = .ok (.ldc2_w 134, 3) := by decide +kernel
theorem dX10_get_42 : decode cX10_get 42 = .ok (.lreturn, 1) := by decide +kernel
theorem dX10_lay_0 : decode cX10_lay 0 = .ok (.iload_n 1, 1) := by decide +kernel
theorem dX10_lay_1 : decode cX10_lay 1 = .ok (.invokestatic 324, 3) := by decide +kernel
theorem dX10_lay_4 : decode cX10_lay 4 = .ok (.ifCond .eq 10, 3) := by decide +kernel
theorem dX10_lay_7 : decode cX10_lay 7 = .ok (.iload_n 3, 1) := by decide +kernel
theorem dX10_lay_8 : decode cX10_lay 8 = .ok (.invokestatic 267, 3) := by decide +kernel
theorem dX10_lay_11 : decode cX10_lay 11 = .ok (.ifCond .ne 5, 3) := by decide +kernel
theorem dX10_lay_14 : decode cX10_lay 14 = .ok (.iconst (-1), 1) := by decide +kernel
theorem dX10_lay_15 : decode cX10_lay 15 = .ok (.ireturn, 1) := by decide +kernel
theorem dX10_lay_16 : decode cX10_lay 16 = .ok (.aload_n 0, 1) := by decide +kernel
theorem dX10_lay_17 : decode cX10_lay 17 = .ok (.getfield 64, 3) := by decide +kernel
theorem dX10_lay_20 : decode cX10_lay 20 = .ok (.iload_n 1, 1) := by decide +kernel
theorem dX10_lay_21 : decode cX10_lay 21 = .ok (.iaload, 1) := by decide +kernel
theorem dX10_lay_22 : decode cX10_lay 22 = .ok (.ifCond .ge 6, 3) := by decide +kernel
theorem dX10_lay_25 : decode cX10_lay 25 = .ok (.bipush (-11), 2) := by decide +kernel
theorem dX10_lay_27 : decode cX10_lay 27 = .ok (.ireturn, 1) := by decide +kernel
theorem dX10_lay_28 : decode cX10_lay 28 = .ok (.aload_n 0, 1) := by decide +kernel
theorem dX10_lay_29 : decode cX10_lay 29 = .ok (.iload_n 3, 1) := by decide +kernel
theorem dX10_lay_30 : decode cX10_lay 30 = .ok (.invokevirtual 258, 3) := by decide +kernel
theorem dX10_lay_33 : decode cX10_lay 33 = .ok (.ifCond .ne 6, 3) := by decide +kernel
theorem dX10_lay_36 : decode cX10_lay 36 = .ok (.bipush (-3), 2) := by decide +kernel
theorem dX10_lay_38 : decode cX10_lay 38 = .ok (.ireturn, 1) := by decide +kernel
theorem dX10_lay_39 : decode cX10_lay 39 = .ok (.iconst 0, 1) := by decide +kernel
theorem dX10_lay_40 : decode cX10_lay 40 = .ok (.istore 4, 2) := by decide +kernel
theorem dX10_lay_42 : decode cX10_lay 42 = .ok (.iconst 0, 1) := by decide +kernel
theorem dX10_lay_43 : decode cX10_lay 43 = .ok (.istore 5, 2) := by decide +kernel
theorem dX10_lay_45 : decode cX10_lay 45 = .ok (.iload 5, 2) := by decide +kernel
theorem dX10_lay_47 : decode cX10_lay 47 = .ok (.aload_n 0, 1) := by decide +kernel
theorem dX10_lay_48 : decode cX10_lay 48 = .ok (.invokevirtual 85, 3) := by decide +kernel
theorem dX10_lay_51 : decode cX10_lay 51 = .ok (.if_icmp .ge 55, 3) := by decide +kernel
theorem dX10_lay_54 : decode cX10_lay 54 = .ok (.iload_n 2, 1) := by decide +kernel
theorem dX10_lay_55 : decode cX10_lay 55 = .ok (.ifCond .lt 45, 3) := by decide +kernel
theorem dX10_lay_58 : decode cX10_lay 58 = .ok (.iload_n 2, 1) := by decide +kernel
theorem dX10_lay_59 : decode cX10_lay 59 = .ok (.i2l, 1) := by decide +kernel
theorem dX10_lay_60 : decode cX10_lay 60 = .ok (.iload 5, 2) := by decide +kernel
theorem dX10_lay_62 : decode cX10_lay 62 = .ok (.i2l, 1) := by decide +kernel
theorem dX10_lay_63 : decode cX10_lay 63 = .ok (.ladd, 1) := by decide +kernel
theorem dX10_lay_64 : decode cX10_lay 64 = .ok (.aload_n 0, 1) := by decide +kernel
theorem dX10_lay_65 : decode cX10_lay 65 = .ok (.getfield 64, 3) := by decide +kernel
theorem dX10_lay_68 : decode cX10_lay 68 = .ok (.iload_n 1, 1) := by decide +kernel
theorem dX10_lay_69 : decode cX10_lay 69 = .ok (.iaload, 1) := by decide +kernel
theorem dX10_lay_70 : decode cX10_lay 70 = .ok (.i2l, 1) := by decide +kernel
theorem dX10_lay_71 : decode cX10_lay 71 = .ok (.lcmp, 1) := by decide +kernel
theorem dX10_lay_72 : decode cX10_lay 72 = .ok (.ifCond .ge 28, 3) := by decide +kernel
theorem dX10_lay_75 : decode cX10_lay 75 = .ok (.aload_n 0, 1) := by decide +kernel
theorem dX10_lay_76 : decode cX10_lay 76 = .ok (.getfield 67, 3) := by decide +kernel
theorem dX10_lay_79 : decode cX10_lay 79 = .ok (.bipush 24, 2) := by decide +kernel
theorem dX10_lay_81 : decode cX10_lay 81 = .ok (.iload_n 1, 1) := by decide +kernel
theorem dX10_lay_82 : decode cX10_lay 82 = .ok (.imul, 1) := by decide +kernel
theorem dX10_lay_83 : decode cX10_lay 83 = .ok (.iload_n 2, 1) := by decide +kernel
theorem dX10_lay_84 : decode cX10_lay 84 = .ok (.iadd, 1) := by decide +kernel
theorem dX10_lay_85 : decode cX10_lay 85 = .ok (.iload 5, 2) := by decide +kernel
theorem dX10_lay_87 : decode cX10_lay 87 = .ok (.iadd, 1) := by decide +kernel
theorem dX10_lay_88 : decode cX10_lay 88 = .ok (.aload_n 0, 1) := by decide +kernel
theorem dX10_lay_89 : decode cX10_lay 89 = .ok (.getfield 46, 3) := by decide +kernel
theorem dX10_lay_92 : decode cX10_lay 92 = .ok (.iload 5, 2) := by decide +kernel
theorem dX10_lay_94 : decode cX10_lay 94 = .ok (.iaload, 1) := by decide +kernel
theorem dX10_lay_95 : decode cX10_lay 95 = .ok (.i2l, 1) := by decide +kernel
theorem dX10_lay_96 : decode cX10_lay 96 = .ok (.lastore, 1) := by decide +kernel
theorem dX10_lay_97 : decode cX10_lay 97 = .ok (.iinc 4 1, 3) := by decide +kernel
theorem dX10_lay_100 : decode cX10_lay 100 = .ok (.iinc 5 1, 3) := by decide +kernel
theorem dX10_lay_103 : decode cX10_lay 103 = .ok (.goto (-58), 3) := by decide +kernel
theorem dX10_lay_106 : decode cX10_lay 106 = .ok (.iload 4, 2) := by decide +kernel
theorem dX10_lay_108 : decode cX10_lay 108 = .ok (.aload_n 0, 1) := by decide +kernel
theorem dX10_lay_109 : decode cX10_lay 109 = .ok (.invokevirtual 85, 3) := by decide +kernel
theorem dX10_lay_112 : decode cX10_lay 112 = .ok (.if_icmp .ne 8, 3) := by decide +kernel
theorem dX10_lay_115 : decode cX10_lay 115 = .ok (.iload 4, 2) := by decide +kernel
theorem dX10_lay_117 : decode cX10_lay 117 = .ok (.goto 5, 3) := by decide +kernel
theorem dX10_lay_120 : decode cX10_lay 120 = .ok (.bipush (-13), 2) := by decide +kernel
theorem dX10_lay_122 : decode cX10_lay 122 = .ok (.ireturn, 1) := by decide +kernel
theorem dX10_areDue_0 : decode cX10_areDue 0 = .ok (.lconst 0, 1) := by decide +kernel
theorem dX10_areDue_1 : decode cX10_areDue 1 = .ok (.lstore_n 3, 1) := by decide +kernel
theorem dX10_areDue_2 : decode cX10_areDue 2 = .ok (.lconst 0, 1) := by decide +kernel
theorem dX10_areDue_3 : decode cX10_areDue 3 = .ok (.lstore 5, 2) := by decide +kernel
theorem dX10_areDue_5 : decode cX10_areDue 5 = .ok (.iconst 0, 1) := by decide +kernel
theorem dX10_areDue_6 : decode cX10_areDue 6 = .ok (.istore 7, 2) := by decide +kernel
theorem dX10_areDue_8 : decode cX10_areDue 8 = .ok (.iload 7, 2) := by decide +kernel
theorem dX10_areDue_10 : decode cX10_areDue 10 = .ok (.aload_n 0, 1) := by decide +kernel
theorem dX10_areDue_11 : decode cX10_areDue 11 = .ok (.invokevirtual 85, 3) := by decide +kernel
theorem dX10_areDue_14 : decode cX10_areDue 14 = .ok (.if_icmp .ge 84, 3) := by decide +kernel
theorem dX10_areDue_17 : decode cX10_areDue 17 = .ok (.aload_n 0, 1) := by decide +kernel
theorem dX10_areDue_18 : decode cX10_areDue 18 = .ok (.getfield 67, 3) := by decide +kernel
theorem dX10_areDue_21 : decode cX10_areDue 21 = .ok (.iload_n 2, 1) := by decide +kernel
theorem dX10_areDue_22 : decode cX10_areDue 22 = .ok (.iload 7, 2) := by decide +kernel
theorem dX10_areDue_24 : decode cX10_areDue 24 = .ok (.iadd, 1) := by decide +kernel
theorem dX10_areDue_25 : decode cX10_areDue 25 = .ok (.laload, 1) := by decide +kernel
theorem dX10_areDue_26 : decode cX10_areDue 26 = .ok (.lstore 8, 2) := by decide +kernel
theorem dX10_areDue_28 : decode cX10_areDue 28 = .ok (.aload_n 0, 1) := by decide +kernel
theorem dX10_areDue_29 : decode cX10_areDue 29 = .ok (.iload 7, 2) := by decide +kernel
theorem dX10_areDue_31 : decode cX10_areDue 31 = .ok (.iconst 1, 1) := by decide +kernel
theorem dX10_areDue_32 : decode cX10_areDue 32 = .ok (.invokevirtual 128, 3) := by decide +kernel
theorem dX10_areDue_35 : decode cX10_areDue 35 = .ok (.iload_n 1, 1) := by decide +kernel
theorem dX10_areDue_36 : decode cX10_areDue 36 = .ok (.i2l, 1) := by decide +kernel
theorem dX10_areDue_37 : decode cX10_areDue 37 = .ok (.lcmp, 1) := by decide +kernel
theorem dX10_areDue_38 : decode cX10_areDue 38 = .ok (.ifCond .ne 7, 3) := by decide +kernel
theorem dX10_areDue_41 : decode cX10_areDue 41 = .ok (.lconst 1, 1) := by decide +kernel
theorem dX10_areDue_42 : decode cX10_areDue 42 = .ok (.goto 23, 3) := by decide +kernel
theorem dX10_areDue_45 : decode cX10_areDue 45 = .ok (.aload_n 0, 1) := by decide +kernel
theorem dX10_areDue_46 : decode cX10_areDue 46 = .ok (.iload 7, 2) := by decide +kernel
theorem dX10_areDue_48 : decode cX10_areDue 48 = .ok (.iconst 0, 1) := by decide +kernel
theorem dX10_areDue_49 : decode cX10_areDue 49 = .ok (.invokevirtual 128, 3) := by decide +kernel
theorem dX10_areDue_52 : decode cX10_areDue 52 = .ok (.iload_n 1, 1) := by decide +kernel
theorem dX10_areDue_53 : decode cX10_areDue 53 = .ok (.i2l, 1) := by decide +kernel
theorem dX10_areDue_54 : decode cX10_areDue 54 = .ok (.lcmp, 1) := by decide +kernel
theorem dX10_areDue_55 : decode cX10_areDue 55 = .ok (.ifCond .ne 9, 3) := by decide +kernel
theorem dX10_areDue_58 : decode cX10_areDue 58 = .ok (.ldc2_w 122, 3) := by decide +kernel
theorem dX10_areDue_61 : decode cX10_areDue 61 = .ok (.goto 4, 3) := by decide +kernel
theorem dX10_areDue_64 : decode cX10_areDue 64 = .ok (.lconst 0, 1) := by decide +kernel
theorem dX10_areDue_65 : decode cX10_areDue 65 = .ok (.lstore 10, 2) := by decide +kernel
theorem dX10_areDue_67 : decode cX10_areDue 67 = .ok (.lload_n 3, 1) := by decide +kernel
theorem dX10_areDue_68 : decode cX10_areDue 68 = .ok (.lload 10, 2) := by decide +kernel
theorem dX10_areDue_70 : decode cX10_areDue 70 = .ok (.lload 8, 2) := by decide +kernel
theorem dX10_areDue_72 : decode cX10_areDue 72 = .ok (.bipush 32, 2) := by decide +kernel
theorem dX10_areDue_74 : decode cX10_areDue 74 = .ok (.lshr, 1) := by decide +kernel
theorem dX10_areDue_75 : decode cX10_areDue 75 = .ok (.lmul, 1) := by decide +kernel
theorem dX10_areDue_76 : decode cX10_areDue 76 = .ok (.ladd, 1) := by decide +kernel
theorem dX10_areDue_77 : decode cX10_areDue 77 = .ok (.lstore_n 3, 1) := by decide +kernel
theorem dX10_areDue_78 : decode cX10_areDue 78 = .ok (.lload 5, 2) := by decide +kernel
theorem dX10_areDue_80 : decode cX10_areDue 80 = .ok (.lload 10, 2) := by decide +kernel
theorem dX10_areDue_82 : decode cX10_areDue 82 = .ok (.lload 8, 2) := by decide +kernel
theorem dX10_areDue_84 : decode cX10_areDue 84 = .ok (.ldc2_w 327, 3) := by decide +kernel
theorem dX10_areDue_87 : decode cX10_areDue 87 = .ok (.land, 1) := by decide +kernel
theorem dX10_areDue_88 : decode cX10_areDue 88 = .ok (.lmul, 1) := by decide +kernel
theorem dX10_areDue_89 : decode cX10_areDue 89 = .ok (.ladd, 1) := by decide +kernel
theorem dX10_areDue_90 : decode cX10_areDue 90 = .ok (.lstore 5, 2) := by decide +kernel
theorem dX10_areDue_92 : decode cX10_areDue 92 = .ok (.iinc 7 1, 3) := by decide +kernel
theorem dX10_areDue_95 : decode cX10_areDue 95 = .ok (.goto (-87), 3) := by decide +kernel
theorem dX10_areDue_98 : decode cX10_areDue 98 = .ok (.iconst 0, 1) := by decide +kernel
theorem dX10_areDue_99 : decode cX10_areDue 99 = .ok (.istore 7, 2) := by decide +kernel
theorem dX10_areDue_101 : decode cX10_areDue 101 = .ok (.iload 7, 2) := by decide +kernel
theorem dX10_areDue_103 : decode cX10_areDue 103 = .ok (.iconst 3, 1) := by decide +kernel
theorem dX10_areDue_104 : decode cX10_areDue 104 = .ok (.if_icmp .ge 38, 3) := by decide +kernel
theorem dX10_areDue_107 : decode cX10_areDue 107 = .ok (.lload 5, 2) := by decide +kernel
theorem dX10_areDue_109 : decode cX10_areDue 109 = .ok (.aload_n 0, 1) := by decide +kernel
theorem dX10_areDue_110 : decode cX10_areDue 110 = .ok (.iload 7, 2) := by decide +kernel
theorem dX10_areDue_112 : decode cX10_areDue 112 = .ok (.iconst 0, 1) := by decide +kernel
theorem dX10_areDue_113 : decode cX10_areDue 113 = .ok (.invokevirtual 154, 3) := by decide +kernel
theorem dX10_areDue_116 : decode cX10_areDue 116 = .ok (.iload_n 1, 1) := by decide +kernel
theorem dX10_areDue_117 : decode cX10_areDue 117 = .ok (.i2l, 1) := by decide +kernel
theorem dX10_areDue_118 : decode cX10_areDue 118 = .ok (.lcmp, 1) := by decide +kernel
theorem dX10_areDue_119 : decode cX10_areDue 119 = .ok (.ifCond .ne 13, 3) := by decide +kernel
theorem dX10_areDue_122 : decode cX10_areDue 122 = .ok (.aload_n 0, 1) := by decide +kernel
theorem dX10_areDue_123 : decode cX10_areDue 123 = .ok (.iload 7, 2) := by decide +kernel
theorem dX10_areDue_125 : decode cX10_areDue 125 = .ok (.iconst 1, 1) := by decide +kernel
theorem dX10_areDue_126 : decode cX10_areDue 126 = .ok (.invokevirtual 154, 3) := by decide +kernel
theorem dX10_areDue_129 : decode cX10_areDue 129 = .ok (.goto 4, 3) := by decide +kernel
theorem dX10_areDue_132 : decode cX10_areDue 132 = .ok (.lconst 0, 1) := by decide +kernel
theorem dX10_areDue_133 : decode cX10_areDue 133 = .ok (.lsub, 1) := by decide +kernel
theorem dX10_areDue_134 : decode cX10_areDue 134 = .ok (.lstore 5, 2) := by decide +kernel
theorem dX10_areDue_136 : decode cX10_areDue 136 = .ok (.iinc 7 1, 3) := by decide +kernel
theorem dX10_areDue_139 : decode cX10_areDue 139 = .ok (.goto (-38), 3) := by decide +kernel
theorem dX10_areDue_142 : decode cX10_areDue 142 = .ok (.lload 5, 2) := by decide +kernel
theorem dX10_areDue_144 : decode cX10_areDue 144 = .ok (.ldc2_w 329, 3) := by decide +kernel
theorem dX10_areDue_147 : decode cX10_areDue 147 = .ok (.lrem, 1) := by decide +kernel
theorem dX10_areDue_148 : decode cX10_areDue 148 = .ok (.lconst 0, 1) := by decide +kernel
theorem dX10_areDue_149 : decode cX10_areDue 149 = .ok (.lcmp, 1) := by decide +kernel
theorem dX10_areDue_150 : decode cX10_areDue 150 = .ok (.ifCond .ne 19, 3) := by decide +kernel
theorem dX10_areDue_153 : decode cX10_areDue 153 = .ok (.lload_n 3, 1) := by decide +kernel
theorem dX10_areDue_154 : decode cX10_areDue 154 = .ok (.lload 5, 2) := by decide +kernel
theorem dX10_areDue_156 : decode cX10_areDue 156 = .ok (.ldc2_w 329, 3) := by decide +kernel
theorem dX10_areDue_159 : decode cX10_areDue 159 = .ok (.ldiv, 1) := by decide +kernel
theorem dX10_areDue_160 : decode cX10_areDue 160 = .ok (.lneg, 1) := by decide +kernel
theorem dX10_areDue_161 : decode cX10_areDue 161 = .ok (.lcmp, 1) := by decide +kernel
theorem dX10_areDue_162 : decode cX10_areDue 162 = .ok (.ifCond .ne 7, 3) := by decide +kernel
theorem dX10_areDue_165 : decode cX10_areDue 165 = .ok (.iconst 1, 1) := by decide +kernel
theorem dX10_areDue_166 : decode cX10_areDue 166 = .ok (.goto 4, 3) := by decide +kernel
theorem dX10_areDue_169 : decode cX10_areDue 169 = .ok (.iconst 0, 1) := by decide +kernel
theorem dX10_areDue_170 : decode cX10_areDue 170 = .ok (.ireturn, 1) := by decide +kernel
theorem dX10_doConserve_0 : decode cX10_doConserve 0 = .ok (.iconst 0, 1) := by decide +kernel
theorem dX10_doConserve_1 : decode cX10_doConserve 1 = .ok (.istore_n 2, 1) := by decide +kernel
theorem dX10_doConserve_2 : decode cX10_doConserve 2 = .ok (.iload_n 2, 1) := by decide +kernel
theorem dX10_doConserve_3 : decode cX10_doConserve 3 = .ok (.aload_n 0, 1) := by decide +kernel
theorem dX10_doConserve_4 : decode cX10_doConserve 4 = .ok (.invokevirtual 85, 3) := by decide +kernel
theorem dX10_doConserve_7 : decode cX10_doConserve 7 = .ok (.if_icmp .ge 24, 3) := by decide +kernel
theorem dX10_doConserve_10 : decode cX10_doConserve 10 = .ok (.aload_n 0, 1) := by decide +kernel
theorem dX10_doConserve_11 : decode cX10_doConserve 11 = .ok (.getfield 67, 3) := by decide +kernel
theorem dX10_doConserve_14 : decode cX10_doConserve 14 = .ok (.iload_n 1, 1) := by decide +kernel
theorem dX10_doConserve_15 : decode cX10_doConserve 15 = .ok (.iload_n 2, 1) := by decide +kernel
theorem dX10_doConserve_16 : decode cX10_doConserve 16 = .ok (.iadd, 1) := by decide +kernel
theorem dX10_doConserve_17 : decode cX10_doConserve 17 = .ok (.laload, 1) := by decide +kernel
theorem dX10_doConserve_18 : decode cX10_doConserve 18 = .ok (.lconst 0, 1) := by decide +kernel
theorem dX10_doConserve_19 : decode cX10_doConserve 19 = .ok (.lcmp, 1) := by decide +kernel
theorem dX10_doConserve_20 : decode cX10_doConserve 20 = .ok (.ifCond .ge 5, 3) := by decide +kernel
theorem dX10_doConserve_23 : decode cX10_doConserve 23 = .ok (.iconst 0, 1) := by decide +kernel
theorem dX10_doConserve_24 : decode cX10_doConserve 24 = .ok (.ireturn, 1) := by decide +kernel
theorem dX10_doConserve_25 : decode cX10_doConserve 25 = .ok (.iinc 2 1, 3) := by decide +kernel
theorem dX10_doConserve_28 : decode cX10_doConserve 28 = .ok (.goto (-26), 3) := by decide +kernel
theorem dX10_doConserve_31 : decode cX10_doConserve 31 = .ok (.iconst 1, 1) := by decide +kernel
theorem dX10_doConserve_32 : decode cX10_doConserve 32 = .ok (.istore_n 2, 1) := by decide +kernel
theorem dX10_doConserve_33 : decode cX10_doConserve 33 = .ok (.iload_n 2, 1) := by decide +kernel
theorem dX10_doConserve_34 : decode cX10_doConserve 34 = .ok (.i2l, 1) := by decide +kernel
theorem dX10_doConserve_35 : decode cX10_doConserve 35 = .ok (.aload_n 0, 1) := by decide +kernel
theorem dX10_doConserve_36 : decode cX10_doConserve 36 = .ok (.getfield 9, 3) := by decide +kernel
theorem dX10_doConserve_39 : decode cX10_doConserve 39 = .ok (.iconst 0, 1) := by decide +kernel
theorem dX10_doConserve_40 : decode cX10_doConserve 40 = .ok (.laload, 1) := by decide +kernel
theorem dX10_doConserve_41 : decode cX10_doConserve 41 = .ok (.lcmp, 1) := by decide +kernel
theorem dX10_doConserve_42 : decode cX10_doConserve 42 = .ok (.ifCond .ge 20, 3) := by decide +kernel
theorem dX10_doConserve_45 : decode cX10_doConserve 45 = .ok (.aload_n 0, 1) := by decide +kernel
theorem dX10_doConserve_46 : decode cX10_doConserve 46 = .ok (.iload_n 2, 1) := by decide +kernel
theorem dX10_doConserve_47 : decode cX10_doConserve 47 = .ok (.iload_n 1, 1) := by decide +kernel
theorem dX10_doConserve_48 : decode cX10_doConserve 48 = .ok (.invokevirtual 331, 3) := by decide +kernel
theorem dX10_doConserve_51 : decode cX10_doConserve 51 = .ok (.ifCond .ne 5, 3) := by decide +kernel
theorem dX10_doConserve_54 : decode cX10_doConserve 54 = .ok (.iconst 0, 1) := by decide +kernel
theorem dX10_doConserve_55 : decode cX10_doConserve 55 = .ok (.ireturn, 1) := by decide +kernel
theorem dX10_doConserve_56 : decode cX10_doConserve 56 = .ok (.iinc 2 1, 3) := by decide +kernel
theorem dX10_doConserve_59 : decode cX10_doConserve 59 = .ok (.goto (-26), 3) := by decide +kernel
theorem dX10_doConserve_62 : decode cX10_doConserve 62 = .ok (.iconst 1, 1) := by decide +kernel
theorem dX10_doConserve_63 : decode cX10_doConserve 63 = .ok (.ireturn, 1) := by decide +kernel
theorem dX10_judge_0 : decode cX10_judge 0 = .ok (.iload_n 1, 1) := by decide +kernel
theorem dX10_judge_1 : decode cX10_judge 1 = .ok (.invokestatic 324, 3) := by decide +kernel
theorem dX10_judge_4 : decode cX10_judge 4 = .ok (.ifCond .ne 5, 3) := by decide +kernel
theorem dX10_judge_7 : decode cX10_judge 7 = .ok (.iconst (-1), 1) := by decide +kernel
theorem dX10_judge_8 : decode cX10_judge 8 = .ok (.ireturn, 1) := by decide +kernel
theorem dX10_judge_9 : decode cX10_judge 9 = .ok (.aload_n 0, 1) := by decide +kernel
theorem dX10_judge_10 : decode cX10_judge 10 = .ok (.getfield 64, 3) := by decide +kernel
theorem dX10_judge_13 : decode cX10_judge 13 = .ok (.iload_n 1, 1) := by decide +kernel
theorem dX10_judge_14 : decode cX10_judge 14 = .ok (.iaload, 1) := by decide +kernel
theorem dX10_judge_15 : decode cX10_judge 15 = .ok (.ifCond .ge 6, 3) := by decide +kernel
theorem dX10_judge_18 : decode cX10_judge 18 = .ok (.bipush (-11), 2) := by decide +kernel
theorem dX10_judge_20 : decode cX10_judge 20 = .ok (.ireturn, 1) := by decide +kernel
theorem dX10_judge_21 : decode cX10_judge 21 = .ok (.iload_n 2, 1) := by decide +kernel
theorem dX10_judge_22 : decode cX10_judge 22 = .ok (.ifCond .lt 22, 3) := by decide +kernel
theorem dX10_judge_25 : decode cX10_judge 25 = .ok (.iload_n 2, 1) := by decide +kernel
theorem dX10_judge_26 : decode cX10_judge 26 = .ok (.i2l, 1) := by decide +kernel
theorem dX10_judge_27 : decode cX10_judge 27 = .ok (.aload_n 0, 1) := by decide +kernel
theorem dX10_judge_28 : decode cX10_judge 28 = .ok (.invokevirtual 85, 3) := by decide +kernel
theorem dX10_judge_31 : decode cX10_judge 31 = .ok (.i2l, 1) := by decide +kernel
theorem dX10_judge_32 : decode cX10_judge 32 = .ok (.ladd, 1) := by decide +kernel
theorem dX10_judge_33 : decode cX10_judge 33 = .ok (.aload_n 0, 1) := by decide +kernel
theorem dX10_judge_34 : decode cX10_judge 34 = .ok (.getfield 64, 3) := by decide +kernel
theorem dX10_judge_37 : decode cX10_judge 37 = .ok (.iload_n 1, 1) := by decide +kernel
theorem dX10_judge_38 : decode cX10_judge 38 = .ok (.iaload, 1) := by decide +kernel
theorem dX10_judge_39 : decode cX10_judge 39 = .ok (.i2l, 1) := by decide +kernel
theorem dX10_judge_40 : decode cX10_judge 40 = .ok (.lcmp, 1) := by decide +kernel
theorem dX10_judge_41 : decode cX10_judge 41 = .ok (.ifCond .le 6, 3) := by decide +kernel
theorem dX10_judge_44 : decode cX10_judge 44 = .ok (.bipush (-13), 2) := by decide +kernel
theorem dX10_judge_46 : decode cX10_judge 46 = .ok (.ireturn, 1) := by decide +kernel
theorem dX10_judge_47 : decode cX10_judge 47 = .ok (.bipush 24, 2) := by decide +kernel
theorem dX10_judge_49 : decode cX10_judge 49 = .ok (.iload_n 1, 1) := by decide +kernel
theorem dX10_judge_50 : decode cX10_judge 50 = .ok (.imul, 1) := by decide +kernel
theorem dX10_judge_51 : decode cX10_judge 51 = .ok (.iload_n 2, 1) := by decide +kernel
theorem dX10_judge_52 : decode cX10_judge 52 = .ok (.iadd, 1) := by decide +kernel
theorem dX10_judge_53 : decode cX10_judge 53 = .ok (.istore_n 3, 1) := by decide +kernel
theorem dX10_judge_54 : decode cX10_judge 54 = .ok (.aload_n 0, 1) := by decide +kernel
theorem dX10_judge_55 : decode cX10_judge 55 = .ok (.iload_n 3, 1) := by decide +kernel
theorem dX10_judge_56 : decode cX10_judge 56 = .ok (.invokevirtual 334, 3) := by decide +kernel
theorem dX10_judge_59 : decode cX10_judge 59 = .ok (.ifCond .ne 5, 3) := by decide +kernel
theorem dX10_judge_62 : decode cX10_judge 62 = .ok (.iconst 0, 1) := by decide +kernel
theorem dX10_judge_63 : decode cX10_judge 63 = .ok (.ireturn, 1) := by decide +kernel
theorem dX10_judge_64 : decode cX10_judge 64 = .ok (.iconst 0, 1) := by decide +kernel
theorem dX10_judge_65 : decode cX10_judge 65 = .ok (.istore 4, 2) := by decide +kernel
theorem dX10_judge_67 : decode cX10_judge 67 = .ok (.iload 4, 2) := by decide +kernel
theorem dX10_judge_69 : decode cX10_judge 69 = .ok (.aload_n 0, 1) := by decide +kernel
theorem dX10_judge_70 : decode cX10_judge 70 = .ok (.invokevirtual 85, 3) := by decide +kernel
theorem dX10_judge_73 : decode cX10_judge 73 = .ok (.if_icmp .ge 45, 3) := by decide +kernel
theorem dX10_judge_76 : decode cX10_judge 76 = .ok (.aload_n 0, 1) := by decide +kernel
theorem dX10_judge_77 : decode cX10_judge 77 = .ok (.getfield 67, 3) := by decide +kernel
theorem dX10_judge_80 : decode cX10_judge 80 = .ok (.iload_n 3, 1) := by decide +kernel
theorem dX10_judge_81 : decode cX10_judge 81 = .ok (.iload 4, 2) := by decide +kernel
theorem dX10_judge_83 : decode cX10_judge 83 = .ok (.iadd, 1) := by decide +kernel
theorem dX10_judge_84 : decode cX10_judge 84 = .ok (.laload, 1) := by decide +kernel
theorem dX10_judge_85 : decode cX10_judge 85 = .ok (.ldc2_w 107, 3) := by decide +kernel
theorem dX10_judge_88 : decode cX10_judge 88 = .ok (.lcmp, 1) := by decide +kernel
theorem dX10_judge_89 : decode cX10_judge 89 = .ok (.ifCond .le 6, 3) := by decide +kernel
theorem dX10_judge_92 : decode cX10_judge 92 = .ok (.bipush (-6), 2) := by decide +kernel
theorem dX10_judge_94 : decode cX10_judge 94 = .ok (.ireturn, 1) := by decide +kernel
theorem dX10_judge_95 : decode cX10_judge 95 = .ok (.aload_n 0, 1) := by decide +kernel
theorem dX10_judge_96 : decode cX10_judge 96 = .ok (.getfield 46, 3) := by decide +kernel
theorem dX10_judge_99 : decode cX10_judge 99 = .ok (.iload 4, 2) := by decide +kernel
theorem dX10_judge_101 : decode cX10_judge 101 = .ok (.aload_n 0, 1) := by decide +kernel
theorem dX10_judge_102 : decode cX10_judge 102 = .ok (.getfield 67, 3) := by decide +kernel
theorem dX10_judge_105 : decode cX10_judge 105 = .ok (.iload_n 3, 1) := by decide +kernel
theorem dX10_judge_106 : decode cX10_judge 106 = .ok (.iload 4, 2) := by decide +kernel
theorem dX10_judge_108 : decode cX10_judge 108 = .ok (.iadd, 1) := by decide +kernel
theorem dX10_judge_109 : decode cX10_judge 109 = .ok (.laload, 1) := by decide +kernel
theorem dX10_judge_110 : decode cX10_judge 110 = .ok (.l2i, 1) := by decide +kernel
theorem dX10_judge_111 : decode cX10_judge 111 = .ok (.iastore, 1) := by decide +kernel
theorem dX10_judge_112 : decode cX10_judge 112 = .ok (.iinc 4 1, 3) := by decide +kernel
theorem dX10_judge_115 : decode cX10_judge 115 = .ok (.goto (-48), 3) := by decide +kernel
theorem dX10_judge_118 : decode cX10_judge 118 = .ok (.aload_n 0, 1) := by decide +kernel
theorem dX10_judge_119 : decode cX10_judge 119 = .ok (.invokevirtual 261, 3) := by decide +kernel
theorem dX10_judge_122 : decode cX10_judge 122 = .ok (.lstore 4, 2) := by decide +kernel
theorem dX10_judge_124 : decode cX10_judge 124 = .ok (.aload_n 0, 1) := by decide +kernel
theorem dX10_judge_125 : decode cX10_judge 125 = .ok (.invokevirtual 307, 3) := by decide +kernel
theorem dX10_judge_128 : decode cX10_judge 128 = .ok (.lstore 6, 2) := by decide +kernel
theorem dX10_judge_130 : decode cX10_judge 130 = .ok (.lload 4, 2) := by decide +kernel
theorem dX10_judge_132 : decode cX10_judge 132 = .ok (.lconst 0, 1) := by decide +kernel
theorem dX10_judge_133 : decode cX10_judge 133 = .ok (.lcmp, 1) := by decide +kernel
theorem dX10_judge_134 : decode cX10_judge 134 = .ok (.ifCond .lt 12, 3) := by decide +kernel
theorem dX10_judge_137 : decode cX10_judge 137 = .ok (.lload 6, 2) := by decide +kernel
theorem dX10_judge_139 : decode cX10_judge 139 = .ok (.ldc2_w 256, 3) := by decide +kernel
theorem dX10_judge_142 : decode cX10_judge 142 = .ok (.lcmp, 1) := by decide +kernel
theorem dX10_judge_143 : decode cX10_judge 143 = .ok (.ifCond .ne 6, 3) := by decide +kernel
theorem dX10_judge_146 : decode cX10_judge 146 = .ok (.bipush (-6), 2) := by decide +kernel
theorem dX10_judge_148 : decode cX10_judge 148 = .ok (.ireturn, 1) := by decide +kernel
theorem dX10_judge_149 : decode cX10_judge 149 = .ok (.lload 6, 2) := by decide +kernel
theorem dX10_judge_151 : decode cX10_judge 151 = .ok (.lload 4, 2) := by decide +kernel
theorem dX10_judge_153 : decode cX10_judge 153 = .ok (.lcmp, 1) := by decide +kernel
theorem dX10_judge_154 : decode cX10_judge 154 = .ok (.ifCond .ne 7, 3) := by decide +kernel
theorem dX10_judge_157 : decode cX10_judge 157 = .ok (.iconst 2, 1) := by decide +kernel
theorem dX10_judge_158 : decode cX10_judge 158 = .ok (.goto 4, 3) := by decide +kernel
theorem dX10_judge_161 : decode cX10_judge 161 = .ok (.iconst 1, 1) := by decide +kernel
theorem dX10_judge_162 : decode cX10_judge 162 = .ok (.ireturn, 1) := by decide +kernel
theorem dX10_isTray_0 : decode cX10_isTray 0 = .ok (.iload_n 0, 1) := by decide +kernel
theorem dX10_isTray_1 : decode cX10_isTray 1 = .ok (.i2l, 1) := by decide +kernel
theorem dX10_isTray_2 : decode cX10_isTray 2 = .ok (.lconst 0, 1) := by decide +kernel
theorem dX10_isTray_3 : decode cX10_isTray 3 = .ok (.ldc2_w 83, 3) := by decide +kernel
theorem dX10_isTray_6 : decode cX10_isTray 6 = .ok (.invokestatic 89, 3) := by decide +kernel
theorem dX10_isTray_9 : decode cX10_isTray 9 = .ok (.ireturn, 1) := by decide +kernel
theorem dX10_tray_0 : decode cX10_tray 0 = .ok (.iload_n 1, 1) := by decide +kernel
theorem dX10_tray_1 : decode cX10_tray 1 = .ok (.invokestatic 337, 3) := by decide +kernel
theorem dX10_tray_4 : decode cX10_tray 4 = .ok (.ifCond .eq 15, 3) := by decide +kernel
theorem dX10_tray_7 : decode cX10_tray 7 = .ok (.iload_n 2, 1) := by decide +kernel
theorem dX10_tray_8 : decode cX10_tray 8 = .ok (.i2l, 1) := by decide +kernel
theorem dX10_tray_9 : decode cX10_tray 9 = .ok (.lconst 0, 1) := by decide +kernel
theorem dX10_tray_10 : decode cX10_tray 10 = .ok (.ldc2_w 83, 3) := by decide +kernel
theorem dX10_tray_13 : decode cX10_tray 13 = .ok (.invokestatic 89, 3) := by decide +kernel
theorem dX10_tray_16 : decode cX10_tray 16 = .ok (.ifCond .ne 5, 3) := by decide +kernel
theorem dX10_tray_19 : decode cX10_tray 19 = .ok (.iconst (-1), 1) := by decide +kernel
theorem dX10_tray_20 : decode cX10_tray 20 = .ok (.ireturn, 1) := by decide +kernel
theorem dX10_tray_21 : decode cX10_tray 21 = .ok (.iload_n 3, 1) := by decide +kernel
theorem dX10_tray_22 : decode cX10_tray 22 = .ok (.bipush 20, 2) := by decide +kernel
theorem dX10_tray_24 : decode cX10_tray 24 = .ok (.if_icmp .gt 7, 3) := by decide +kernel
theorem dX10_tray_27 : decode cX10_tray 27 = .ok (.iload_n 3, 1) := by decide +kernel
theorem dX10_tray_28 : decode cX10_tray 28 = .ok (.ifCond .ge 15, 3) := by decide +kernel
theorem dX10_tray_31 : decode cX10_tray 31 = .ok (.iload_n 3, 1) := by decide +kernel
theorem dX10_tray_32 : decode cX10_tray 32 = .ok (.ifCond .ge 8, 3) := by decide +kernel
theorem dX10_tray_35 : decode cX10_tray 35 = .ok (.bipush (-14), 2) := by decide +kernel
theorem dX10_tray_37 : decode cX10_tray 37 = .ok (.goto 5, 3) := by decide +kernel
theorem dX10_tray_40 : decode cX10_tray 40 = .ok (.bipush (-2), 2) := by decide +kernel
theorem dX10_tray_42 : decode cX10_tray 42 = .ok (.ireturn, 1) := by decide +kernel
theorem dX10_tray_43 : decode cX10_tray 43 = .ok (.aload_n 0, 1) := by decide +kernel
theorem dX10_tray_44 : decode cX10_tray 44 = .ok (.getfield 70, 3) := by decide +kernel
theorem dX10_tray_47 : decode cX10_tray 47 = .ok (.iload_n 1, 1) := by decide +kernel
theorem dX10_tray_48 : decode cX10_tray 48 = .ok (.iload_n 2, 1) := by decide +kernel
theorem dX10_tray_49 : decode cX10_tray 49 = .ok (.iastore, 1) := by decide +kernel
theorem dX10_tray_50 : decode cX10_tray 50 = .ok (.aload_n 0, 1) := by decide +kernel
theorem dX10_tray_51 : decode cX10_tray 51 = .ok (.getfield 73, 3) := by decide +kernel
theorem dX10_tray_54 : decode cX10_tray 54 = .ok (.iload_n 1, 1) := by decide +kernel
theorem dX10_tray_55 : decode cX10_tray 55 = .ok (.iload_n 3, 1) := by decide +kernel
theorem dX10_tray_56 : decode cX10_tray 56 = .ok (.iastore, 1) := by decide +kernel
theorem dX10_tray_57 : decode cX10_tray 57 = .ok (.iconst 0, 1) := by decide +kernel
theorem dX10_tray_58 : decode cX10_tray 58 = .ok (.istore 4, 2) := by decide +kernel
theorem dX10_tray_60 : decode cX10_tray 60 = .ok (.iload 4, 2) := by decide +kernel
theorem dX10_tray_62 : decode cX10_tray 62 = .ok (.bipush 20, 2) := by decide +kernel
theorem dX10_tray_64 : decode cX10_tray 64 = .ok (.if_icmp .ge 22, 3) := by decide +kernel
theorem dX10_tray_67 : decode cX10_tray 67 = .ok (.aload_n 0, 1) := by decide +kernel
theorem dX10_tray_68 : decode cX10_tray 68 = .ok (.getfield 76, 3) := by decide +kernel
