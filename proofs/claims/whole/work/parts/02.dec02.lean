theorem dX9_fix_39 : decode cX9_fix 39 = .ok (.iload 4, 2) := by decide +kernel
theorem dX9_fix_41 : decode cX9_fix 41 = .ok (.ifCond .le 26, 3) := by decide +kernel
theorem dX9_fix_44 : decode cX9_fix 44 = .ok (.ldc2_w 144, 3) := by decide +kernel
theorem dX9_fix_47 : decode cX9_fix 47 = .ok (.aload_n 0, 1) := by decide +kernel
theorem dX9_fix_48 : decode cX9_fix 48 = .ok (.getfield 14, 3) := by decide +kernel
theorem dX9_fix_51 : decode cX9_fix 51 = .ok (.getfield 154, 3) := by decide +kernel
theorem dX9_fix_54 : decode cX9_fix 54 = .ok (.iload_n 3, 1) := by decide +kernel
theorem dX9_fix_55 : decode cX9_fix 55 = .ok (.aaload, 1) := by decide +kernel
theorem dX9_fix_56 : decode cX9_fix 56 = .ok (.iload 4, 2) := by decide +kernel
theorem dX9_fix_58 : decode cX9_fix 58 = .ok (.invokevirtual 190, 3) := by decide +kernel
theorem dX9_fix_61 : decode cX9_fix 61 = .ok (.invokestatic 310, 3) := by decide +kernel
theorem dX9_fix_64 : decode cX9_fix 64 = .ok (.goto 4, 3) := by decide +kernel
theorem dX9_fix_67 : decode cX9_fix 67 = .ok (.lconst 0, 1) := by decide +kernel
theorem dX9_fix_68 : decode cX9_fix 68 = .ok (.lstore 5, 2) := by decide +kernel
theorem dX9_fix_70 : decode cX9_fix 70 = .ok (.aload_n 0, 1) := by decide +kernel
theorem dX9_fix_71 : decode cX9_fix 71 = .ok (.getfield 14, 3) := by decide +kernel
theorem dX9_fix_74 : decode cX9_fix 74 = .ok (.getfield 148, 3) := by decide +kernel
theorem dX9_fix_77 : decode cX9_fix 77 = .ok (.iload_n 3, 1) := by decide +kernel
theorem dX9_fix_78 : decode cX9_fix 78 = .ok (.laload, 1) := by decide +kernel
theorem dX9_fix_79 : decode cX9_fix 79 = .ok (.lload 5, 2) := by decide +kernel
theorem dX9_fix_81 : decode cX9_fix 81 = .ok (.lcmp, 1) := by decide +kernel
theorem dX9_fix_82 : decode cX9_fix 82 = .ok (.ifCond .eq 17, 3) := by decide +kernel
theorem dX9_fix_85 : decode cX9_fix 85 = .ok (.aload_n 0, 1) := by decide +kernel
theorem dX9_fix_86 : decode cX9_fix 86 = .ok (.getfield 14, 3) := by decide +kernel
theorem dX9_fix_89 : decode cX9_fix 89 = .ok (.getfield 148, 3) := by decide +kernel
theorem dX9_fix_92 : decode cX9_fix 92 = .ok (.iload_n 3, 1) := by decide +kernel
theorem dX9_fix_93 : decode cX9_fix 93 = .ok (.lload 5, 2) := by decide +kernel
theorem dX9_fix_95 : decode cX9_fix 95 = .ok (.lastore, 1) := by decide +kernel
theorem dX9_fix_96 : decode cX9_fix 96 = .ok (.iinc 2 1, 3) := by decide +kernel
theorem dX9_fix_99 : decode cX9_fix 99 = .ok (.iinc 3 1, 3) := by decide +kernel
theorem dX9_fix_102 : decode cX9_fix 102 = .ok (.goto (-82), 3) := by decide +kernel
theorem dX9_fix_105 : decode cX9_fix 105 = .ok (.aload_n 0, 1) := by decide +kernel
theorem dX9_fix_106 : decode cX9_fix 106 = .ok (.invokevirtual 105, 3) := by decide +kernel
theorem dX9_fix_109 : decode cX9_fix 109 = .ok (.iload_n 2, 1) := by decide +kernel
theorem dX9_fix_110 : decode cX9_fix 110 = .ok (.ireturn, 1) := by decide +kernel
theorem dX9_free_0 : decode cX9_free 0 = .ok (.iconst 0, 1) := by decide +kernel
theorem dX9_free_1 : decode cX9_free 1 = .ok (.istore_n 1, 1) := by decide +kernel
theorem dX9_free_2 : decode cX9_free 2 = .ok (.iconst 0, 1) := by decide +kernel
theorem dX9_free_3 : decode cX9_free 3 = .ok (.istore_n 2, 1) := by decide +kernel
theorem dX9_free_4 : decode cX9_free 4 = .ok (.iload_n 2, 1) := by decide +kernel
theorem dX9_free_5 : decode cX9_free 5 = .ok (.aload_n 0, 1) := by decide +kernel
theorem dX9_free_6 : decode cX9_free 6 = .ok (.getfield 14, 3) := by decide +kernel
theorem dX9_free_9 : decode cX9_free 9 = .ok (.getfield 102, 3) := by decide +kernel
theorem dX9_free_12 : decode cX9_free 12 = .ok (.if_icmp .ge 36, 3) := by decide +kernel
theorem dX9_free_15 : decode cX9_free 15 = .ok (.aload_n 0, 1) := by decide +kernel
theorem dX9_free_16 : decode cX9_free 16 = .ok (.getfield 14, 3) := by decide +kernel
theorem dX9_free_19 : decode cX9_free 19 = .ok (.getfield 148, 3) := by decide +kernel
theorem dX9_free_22 : decode cX9_free 22 = .ok (.iload_n 2, 1) := by decide +kernel
theorem dX9_free_23 : decode cX9_free 23 = .ok (.laload, 1) := by decide +kernel
theorem dX9_free_24 : decode cX9_free 24 = .ok (.lconst 0, 1) := by decide +kernel
theorem dX9_free_25 : decode cX9_free 25 = .ok (.lcmp, 1) := by decide +kernel
theorem dX9_free_26 : decode cX9_free 26 = .ok (.ifCond .eq 16, 3) := by decide +kernel
theorem dX9_free_29 : decode cX9_free 29 = .ok (.aload_n 0, 1) := by decide +kernel
theorem dX9_free_30 : decode cX9_free 30 = .ok (.getfield 14, 3) := by decide +kernel
theorem dX9_free_33 : decode cX9_free 33 = .ok (.getfield 148, 3) := by decide +kernel
theorem dX9_free_36 : decode cX9_free 36 = .ok (.iload_n 2, 1) := by decide +kernel
theorem dX9_free_37 : decode cX9_free 37 = .ok (.lconst 0, 1) := by decide +kernel
theorem dX9_free_38 : decode cX9_free 38 = .ok (.lastore, 1) := by decide +kernel
theorem dX9_free_39 : decode cX9_free 39 = .ok (.iinc 1 1, 3) := by decide +kernel
theorem dX9_free_42 : decode cX9_free 42 = .ok (.iinc 2 1, 3) := by decide +kernel
theorem dX9_free_45 : decode cX9_free 45 = .ok (.goto (-41), 3) := by decide +kernel
theorem dX9_free_48 : decode cX9_free 48 = .ok (.aload_n 0, 1) := by decide +kernel
theorem dX9_free_49 : decode cX9_free 49 = .ok (.invokevirtual 105, 3) := by decide +kernel
theorem dX9_free_52 : decode cX9_free 52 = .ok (.iload_n 1, 1) := by decide +kernel
theorem dX9_free_53 : decode cX9_free 53 = .ok (.ireturn, 1) := by decide +kernel
theorem dX9_lay_0 : decode cX9_lay 0 = .ok (.iload_n 1, 1) := by decide +kernel
theorem dX9_lay_1 : decode cX9_lay 1 = .ok (.iconst 4, 1) := by decide +kernel
theorem dX9_lay_2 : decode cX9_lay 2 = .ok (.invokestatic 183, 3) := by decide +kernel
theorem dX9_lay_5 : decode cX9_lay 5 = .ok (.ifCond .eq 11, 3) := by decide +kernel
theorem dX9_lay_8 : decode cX9_lay 8 = .ok (.iload_n 3, 1) := by decide +kernel
theorem dX9_lay_9 : decode cX9_lay 9 = .ok (.iconst 3, 1) := by decide +kernel
theorem dX9_lay_10 : decode cX9_lay 10 = .ok (.invokestatic 183, 3) := by decide +kernel
theorem dX9_lay_13 : decode cX9_lay 13 = .ok (.ifCond .ne 5, 3) := by decide +kernel
theorem dX9_lay_16 : decode cX9_lay 16 = .ok (.iconst (-1), 1) := by decide +kernel
theorem dX9_lay_17 : decode cX9_lay 17 = .ok (.ireturn, 1) := by decide +kernel
theorem dX9_lay_18 : decode cX9_lay 18 = .ok (.aload_n 0, 1) := by decide +kernel
theorem dX9_lay_19 : decode cX9_lay 19 = .ok (.getfield 81, 3) := by decide +kernel
theorem dX9_lay_22 : decode cX9_lay 22 = .ok (.iload_n 1, 1) := by decide +kernel
theorem dX9_lay_23 : decode cX9_lay 23 = .ok (.aaload, 1) := by decide +kernel
theorem dX9_lay_24 : decode cX9_lay 24 = .ok (.astore 4, 2) := by decide +kernel
theorem dX9_lay_26 : decode cX9_lay 26 = .ok (.aload 4, 2) := by decide +kernel
theorem dX9_lay_28 : decode cX9_lay 28 = .ok (.invokevirtual 316, 3) := by decide +kernel
theorem dX9_lay_31 : decode cX9_lay 31 = .ok (.ifCond .eq 6, 3) := by decide +kernel
theorem dX9_lay_34 : decode cX9_lay 34 = .ok (.bipush (-11), 2) := by decide +kernel
theorem dX9_lay_36 : decode cX9_lay 36 = .ok (.ireturn, 1) := by decide +kernel
theorem dX9_lay_37 : decode cX9_lay 37 = .ok (.aload_n 0, 1) := by decide +kernel
theorem dX9_lay_38 : decode cX9_lay 38 = .ok (.iload_n 3, 1) := by decide +kernel
theorem dX9_lay_39 : decode cX9_lay 39 = .ok (.invokevirtual 235, 3) := by decide +kernel
theorem dX9_lay_42 : decode cX9_lay 42 = .ok (.astore 5, 2) := by decide +kernel
theorem dX9_lay_44 : decode cX9_lay 44 = .ok (.aload 5, 2) := by decide +kernel
theorem dX9_lay_46 : decode cX9_lay 46 = .ok (.getfield 239, 3) := by decide +kernel
theorem dX9_lay_49 : decode cX9_lay 49 = .ok (.ifCond .ne 6, 3) := by decide +kernel
theorem dX9_lay_52 : decode cX9_lay 52 = .ok (.bipush (-3), 2) := by decide +kernel
theorem dX9_lay_54 : decode cX9_lay 54 = .ok (.ireturn, 1) := by decide +kernel
theorem dX9_lay_55 : decode cX9_lay 55 = .ok (.iconst 0, 1) := by decide +kernel
theorem dX9_lay_56 : decode cX9_lay 56 = .ok (.istore 6, 2) := by decide +kernel
theorem dX9_lay_58 : decode cX9_lay 58 = .ok (.iload 6, 2) := by decide +kernel
theorem dX9_lay_60 : decode cX9_lay 60 = .ok (.aload_n 0, 1) := by decide +kernel
theorem dX9_lay_61 : decode cX9_lay 61 = .ok (.getfield 14, 3) := by decide +kernel
theorem dX9_lay_64 : decode cX9_lay 64 = .ok (.getfield 102, 3) := by decide +kernel
theorem dX9_lay_67 : decode cX9_lay 67 = .ok (.if_icmp .ge 47, 3) := by decide +kernel
theorem dX9_lay_70 : decode cX9_lay 70 = .ok (.iload_n 2, 1) := by decide +kernel
theorem dX9_lay_71 : decode cX9_lay 71 = .ok (.ifCond .lt 15, 3) := by decide +kernel
theorem dX9_lay_74 : decode cX9_lay 74 = .ok (.iload_n 2, 1) := by decide +kernel
theorem dX9_lay_75 : decode cX9_lay 75 = .ok (.aload 4, 2) := by decide +kernel
theorem dX9_lay_77 : decode cX9_lay 77 = .ok (.getfield 320, 3) := by decide +kernel
theorem dX9_lay_80 : decode cX9_lay 80 = .ok (.iload 6, 2) := by decide +kernel
theorem dX9_lay_82 : decode cX9_lay 82 = .ok (.isub, 1) := by decide +kernel
theorem dX9_lay_83 : decode cX9_lay 83 = .ok (.if_icmp .lt 6, 3) := by decide +kernel
theorem dX9_lay_86 : decode cX9_lay 86 = .ok (.bipush (-13), 2) := by decide +kernel
theorem dX9_lay_88 : decode cX9_lay 88 = .ok (.ireturn, 1) := by decide +kernel
theorem dX9_lay_89 : decode cX9_lay 89 = .ok (.aload 4, 2) := by decide +kernel
theorem dX9_lay_91 : decode cX9_lay 91 = .ok (.getfield 321, 3) := by decide +kernel
theorem dX9_lay_94 : decode cX9_lay 94 = .ok (.iload_n 2, 1) := by decide +kernel
theorem dX9_lay_95 : decode cX9_lay 95 = .ok (.iload 6, 2) := by decide +kernel
theorem dX9_lay_97 : decode cX9_lay 97 = .ok (.iadd, 1) := by decide +kernel
theorem dX9_lay_98 : decode cX9_lay 98 = .ok (.aload 5, 2) := by decide +kernel
theorem dX9_lay_100 : decode cX9_lay 100 = .ok (.getfield 246, 3) := by decide +kernel
theorem dX9_lay_103 : decode cX9_lay 103 = .ok (.iload 6, 2) := by decide +kernel
theorem dX9_lay_105 : decode cX9_lay 105 = .ok (.iaload, 1) := by decide +kernel
theorem dX9_lay_106 : decode cX9_lay 106 = .ok (.i2l, 1) := by decide +kernel
theorem dX9_lay_107 : decode cX9_lay 107 = .ok (.lastore, 1) := by decide +kernel
theorem dX9_lay_108 : decode cX9_lay 108 = .ok (.iinc 6 1, 3) := by decide +kernel
theorem dX9_lay_111 : decode cX9_lay 111 = .ok (.goto (-53), 3) := by decide +kernel
theorem dX9_lay_114 : decode cX9_lay 114 = .ok (.aload_n 0, 1) := by decide +kernel
theorem dX9_lay_115 : decode cX9_lay 115 = .ok (.getfield 14, 3) := by decide +kernel
theorem dX9_lay_118 : decode cX9_lay 118 = .ok (.getfield 102, 3) := by decide +kernel
theorem dX9_lay_121 : decode cX9_lay 121 = .ok (.ireturn, 1) := by decide +kernel
theorem dX9_judge_0 : decode cX9_judge 0 = .ok (.iload_n 1, 1) := by decide +kernel
theorem dX9_judge_1 : decode cX9_judge 1 = .ok (.iconst 4, 1) := by decide +kernel
theorem dX9_judge_2 : decode cX9_judge 2 = .ok (.invokestatic 183, 3) := by decide +kernel
theorem dX9_judge_5 : decode cX9_judge 5 = .ok (.ifCond .ne 5, 3) := by decide +kernel
theorem dX9_judge_8 : decode cX9_judge 8 = .ok (.iconst (-1), 1) := by decide +kernel
theorem dX9_judge_9 : decode cX9_judge 9 = .ok (.ireturn, 1) := by decide +kernel
theorem dX9_judge_10 : decode cX9_judge 10 = .ok (.aload_n 0, 1) := by decide +kernel
theorem dX9_judge_11 : decode cX9_judge 11 = .ok (.getfield 81, 3) := by decide +kernel
theorem dX9_judge_14 : decode cX9_judge 14 = .ok (.iload_n 1, 1) := by decide +kernel
theorem dX9_judge_15 : decode cX9_judge 15 = .ok (.aaload, 1) := by decide +kernel
theorem dX9_judge_16 : decode cX9_judge 16 = .ok (.astore_n 3, 1) := by decide +kernel
theorem dX9_judge_17 : decode cX9_judge 17 = .ok (.aload_n 3, 1) := by decide +kernel
theorem dX9_judge_18 : decode cX9_judge 18 = .ok (.invokevirtual 316, 3) := by decide +kernel
theorem dX9_judge_21 : decode cX9_judge 21 = .ok (.ifCond .eq 6, 3) := by decide +kernel
theorem dX9_judge_24 : decode cX9_judge 24 = .ok (.bipush (-11), 2) := by decide +kernel
theorem dX9_judge_26 : decode cX9_judge 26 = .ok (.ireturn, 1) := by decide +kernel
theorem dX9_judge_27 : decode cX9_judge 27 = .ok (.iload_n 2, 1) := by decide +kernel
theorem dX9_judge_28 : decode cX9_judge 28 = .ok (.ifCond .lt 19, 3) := by decide +kernel
theorem dX9_judge_31 : decode cX9_judge 31 = .ok (.iload_n 2, 1) := by decide +kernel
theorem dX9_judge_32 : decode cX9_judge 32 = .ok (.aload_n 3, 1) := by decide +kernel
theorem dX9_judge_33 : decode cX9_judge 33 = .ok (.getfield 320, 3) := by decide +kernel
theorem dX9_judge_36 : decode cX9_judge 36 = .ok (.aload_n 0, 1) := by decide +kernel
theorem dX9_judge_37 : decode cX9_judge 37 = .ok (.getfield 14, 3) := by decide +kernel
theorem dX9_judge_40 : decode cX9_judge 40 = .ok (.getfield 102, 3) := by decide +kernel
theorem dX9_judge_43 : decode cX9_judge 43 = .ok (.isub, 1) := by decide +kernel
theorem dX9_judge_44 : decode cX9_judge 44 = .ok (.if_icmp .le 6, 3) := by decide +kernel
theorem dX9_judge_47 : decode cX9_judge 47 = .ok (.bipush (-13), 2) := by decide +kernel
theorem dX9_judge_49 : decode cX9_judge 49 = .ok (.ireturn, 1) := by decide +kernel
theorem dX9_judge_50 : decode cX9_judge 50 = .ok (.aload_n 0, 1) := by decide +kernel
theorem dX9_judge_51 : decode cX9_judge 51 = .ok (.aload_n 3, 1) := by decide +kernel
theorem dX9_judge_52 : decode cX9_judge 52 = .ok (.getfield 321, 3) := by decide +kernel
theorem dX9_judge_55 : decode cX9_judge 55 = .ok (.iload_n 2, 1) := by decide +kernel
theorem dX9_judge_56 : decode cX9_judge 56 = .ok (.invokevirtual 324, 3) := by decide +kernel
theorem dX9_judge_59 : decode cX9_judge 59 = .ok (.ifCond .ne 5, 3) := by decide +kernel
theorem dX9_judge_62 : decode cX9_judge 62 = .ok (.iconst 0, 1) := by decide +kernel
theorem dX9_judge_63 : decode cX9_judge 63 = .ok (.ireturn, 1) := by decide +kernel
theorem dX9_judge_64 : decode cX9_judge 64 = .ok (.aload_n 0, 1) := by decide +kernel
theorem dX9_judge_65 : decode cX9_judge 65 = .ok (.aload_n 3, 1) := by decide +kernel
theorem dX9_judge_66 : decode cX9_judge 66 = .ok (.getfield 321, 3) := by decide +kernel
theorem dX9_judge_69 : decode cX9_judge 69 = .ok (.iload_n 2, 1) := by decide +kernel
theorem dX9_judge_70 : decode cX9_judge 70 = .ok (.invokevirtual 328, 3) := by decide +kernel
theorem dX9_judge_73 : decode cX9_judge 73 = .ok (.ifCond .ne 6, 3) := by decide +kernel
theorem dX9_judge_76 : decode cX9_judge 76 = .ok (.bipush (-6), 2) := by decide +kernel
theorem dX9_judge_78 : decode cX9_judge 78 = .ok (.ireturn, 1) := by decide +kernel
theorem dX9_judge_79 : decode cX9_judge 79 = .ok (.aload_n 0, 1) := by decide +kernel
theorem dX9_judge_80 : decode cX9_judge 80 = .ok (.getfield 14, 3) := by decide +kernel
theorem dX9_judge_83 : decode cX9_judge 83 = .ok (.aload_n 0, 1) := by decide +kernel
theorem dX9_judge_84 : decode cX9_judge 84 = .ok (.getfield 85, 3) := by decide +kernel
theorem dX9_judge_87 : decode cX9_judge 87 = .ok (.aload_n 0, 1) := by decide +kernel
theorem dX9_judge_88 : decode cX9_judge 88 = .ok (.getfield 92, 3) := by decide +kernel
theorem dX9_judge_91 : decode cX9_judge 91 = .ok (.invokevirtual 331, 3) := by decide +kernel
theorem dX9_judge_94 : decode cX9_judge 94 = .ok (.aload_n 0, 1) := by decide +kernel
theorem dX9_judge_95 : decode cX9_judge 95 = .ok (.getfield 92, 3) := by decide +kernel
theorem dX9_judge_98 : decode cX9_judge 98 = .ok (.getfield 243, 3) := by decide +kernel
theorem dX9_judge_101 : decode cX9_judge 101 = .ok (.ifCond .eq 6, 3) := by decide +kernel
theorem dX9_judge_104 : decode cX9_judge 104 = .ok (.bipush (-6), 2) := by decide +kernel
theorem dX9_judge_106 : decode cX9_judge 106 = .ok (.ireturn, 1) := by decide +kernel
theorem dX9_judge_107 : decode cX9_judge 107 = .ok (.aload_n 0, 1) := by decide +kernel
theorem dX9_judge_108 : decode cX9_judge 108 = .ok (.getfield 14, 3) := by decide +kernel
theorem dX9_judge_111 : decode cX9_judge 111 = .ok (.aload_n 0, 1) := by decide +kernel
theorem dX9_judge_112 : decode cX9_judge 112 = .ok (.invokevirtual 217, 3) := by decide +kernel
theorem dX9_judge_115 : decode cX9_judge 115 = .ok (.invokestatic 335, 3) := by decide +kernel
theorem dX9_judge_118 : decode cX9_judge 118 = .ok (.ifCond .ne 5, 3) := by decide +kernel
theorem dX9_judge_121 : decode cX9_judge 121 = .ok (.iconst 1, 1) := by decide +kernel
theorem dX9_judge_122 : decode cX9_judge 122 = .ok (.ireturn, 1) := by decide +kernel
theorem dX9_judge_123 : decode cX9_judge 123 = .ok (.aload_n 0, 1) := by decide +kernel
theorem dX9_judge_124 : decode cX9_judge 124 = .ok (.invokevirtual 287, 3) := by decide +kernel
theorem dX9_judge_127 : decode cX9_judge 127 = .ok (.lstore 4, 2) := by decide +kernel
theorem dX9_judge_129 : decode cX9_judge 129 = .ok (.lload 4, 2) := by decide +kernel
theorem dX9_judge_131 : decode cX9_judge 131 = .ok (.ldc2_w 152, 3) := by decide +kernel
theorem dX9_judge_134 : decode cX9_judge 134 = .ok (.lcmp, 1) := by decide +kernel
theorem dX9_judge_135 : decode cX9_judge 135 = .ok (.ifCond .ne 6, 3) := by decide +kernel
theorem dX9_judge_138 : decode cX9_judge 138 = .ok (.bipush (-6), 2) := by decide +kernel
theorem dX9_judge_140 : decode cX9_judge 140 = .ok (.ireturn, 1) := by decide +kernel
theorem dX9_judge_141 : decode cX9_judge 141 = .ok (.aload_n 0, 1) := by decide +kernel
theorem dX9_judge_142 : decode cX9_judge 142 = .ok (.getfield 92, 3) := by decide +kernel
theorem dX9_judge_145 : decode cX9_judge 145 = .ok (.getfield 273, 3) := by decide +kernel
theorem dX9_judge_148 : decode cX9_judge 148 = .ok (.lload 4, 2) := by decide +kernel
theorem dX9_judge_150 : decode cX9_judge 150 = .ok (.lcmp, 1) := by decide +kernel
theorem dX9_judge_151 : decode cX9_judge 151 = .ok (.ifCond .ne 7, 3) := by decide +kernel
theorem dX9_judge_154 : decode cX9_judge 154 = .ok (.iconst 2, 1) := by decide +kernel
theorem dX9_judge_155 : decode cX9_judge 155 = .ok (.goto 4, 3) := by decide +kernel
theorem dX9_judge_158 : decode cX9_judge 158 = .ok (.iconst 1, 1) := by decide +kernel
theorem dX9_judge_159 : decode cX9_judge 159 = .ok (.ireturn, 1) := by decide +kernel
theorem dX9_tray_0 : decode cX9_tray 0 = .ok (.iload_n 1, 1) := by decide +kernel
theorem dX9_tray_1 : decode cX9_tray 1 = .ok (.iconst 3, 1) := by decide +kernel
theorem dX9_tray_2 : decode cX9_tray 2 = .ok (.invokestatic 183, 3) := by decide +kernel
theorem dX9_tray_5 : decode cX9_tray 5 = .ok (.ifCond .eq 10, 3) := by decide +kernel
theorem dX9_tray_8 : decode cX9_tray 8 = .ok (.iload_n 2, 1) := by decide +kernel
theorem dX9_tray_9 : decode cX9_tray 9 = .ok (.invokestatic 112, 3) := by decide +kernel
theorem dX9_tray_12 : decode cX9_tray 12 = .ok (.ifCond .ne 5, 3) := by decide +kernel
theorem dX9_tray_15 : decode cX9_tray 15 = .ok (.iconst (-1), 1) := by decide +kernel
theorem dX9_tray_16 : decode cX9_tray 16 = .ok (.ireturn, 1) := by decide +kernel
theorem dX9_tray_17 : decode cX9_tray 17 = .ok (.iload_n 3, 1) := by decide +kernel
theorem dX9_tray_18 : decode cX9_tray 18 = .ok (.bipush 20, 2) := by decide +kernel
theorem dX9_tray_20 : decode cX9_tray 20 = .ok (.if_icmp .le 6, 3) := by decide +kernel
theorem dX9_tray_23 : decode cX9_tray 23 = .ok (.bipush (-2), 2) := by decide +kernel
theorem dX9_tray_25 : decode cX9_tray 25 = .ok (.ireturn, 1) := by decide +kernel
theorem dX9_tray_26 : decode cX9_tray 26 = .ok (.iload_n 3, 1) := by decide +kernel
theorem dX9_tray_27 : decode cX9_tray 27 = .ok (.ifCond .ge 6, 3) := by decide +kernel
theorem dX9_tray_30 : decode cX9_tray 30 = .ok (.bipush (-14), 2) := by decide +kernel
theorem dX9_tray_32 : decode cX9_tray 32 = .ok (.ireturn, 1) := by decide +kernel
theorem dX9_tray_33 : decode cX9_tray 33 = .ok (.aload_n 0, 1) := by decide +kernel
theorem dX9_tray_34 : decode cX9_tray 34 = .ok (.getfield 75, 3) := by decide +kernel
theorem dX9_tray_37 : decode cX9_tray 37 = .ok (.iload_n 1, 1) := by decide +kernel
theorem dX9_tray_38 : decode cX9_tray 38 = .ok (.aaload, 1) := by decide +kernel
theorem dX9_tray_39 : decode cX9_tray 39 = .ok (.iload_n 2, 1) := by decide +kernel
theorem dX9_tray_40 : decode cX9_tray 40 = .ok (.iload_n 3, 1) := by decide +kernel
theorem dX9_tray_41 : decode cX9_tray 41 = .ok (.invokevirtual 339, 3) := by decide +kernel
theorem dX9_tray_44 : decode cX9_tray 44 = .ok (.iconst 1, 1) := by decide +kernel
theorem dX9_tray_45 : decode cX9_tray 45 = .ok (.ireturn, 1) := by decide +kernel
theorem dX9_lays_0 : decode cX9_lays 0 = .ok (.iload_n 1, 1) := by decide +kernel
theorem dX9_lays_1 : decode cX9_lays 1 = .ok (.iconst 3, 1) := by decide +kernel
theorem dX9_lays_2 : decode cX9_lays 2 = .ok (.invokestatic 183, 3) := by decide +kernel
theorem dX9_lays_5 : decode cX9_lays 5 = .ok (.ifCond .eq 19, 3) := by decide +kernel
theorem dX9_lays_8 : decode cX9_lays 8 = .ok (.iload_n 3, 1) := by decide +kernel
theorem dX9_lays_9 : decode cX9_lays 9 = .ok (.iconst (-1), 1) := by decide +kernel
theorem dX9_lays_10 : decode cX9_lays 10 = .ok (.if_icmp .eq 16, 3) := by decide +kernel
theorem dX9_lays_13 : decode cX9_lays 13 = .ok (.aload_n 0, 1) := by decide +kernel
theorem dX9_lays_14 : decode cX9_lays 14 = .ok (.getfield 14, 3) := by decide +kernel
theorem dX9_lays_17 : decode cX9_lays 17 = .ok (.iload_n 3, 1) := by decide +kernel
theorem dX9_lays_18 : decode cX9_lays 18 = .ok (.invokevirtual 135, 3) := by decide +kernel
theorem dX9_lays_21 : decode cX9_lays 21 = .ok (.ifCond .ne 5, 3) := by decide +kernel
theorem dX9_lays_24 : decode cX9_lays 24 = .ok (.iconst (-1), 1) := by decide +kernel
theorem dX9_lays_25 : decode cX9_lays 25 = .ok (.ireturn, 1) := by decide +kernel
theorem dX9_lays_26 : decode cX9_lays 26 = .ok (.aload_n 0, 1) := by decide +kernel
theorem dX9_lays_27 : decode cX9_lays 27 = .ok (.getfield 75, 3) := by decide +kernel
theorem dX9_lays_30 : decode cX9_lays 30 = .ok (.iload_n 1, 1) := by decide +kernel
theorem dX9_lays_31 : decode cX9_lays 31 = .ok (.aaload, 1) := by decide +kernel
theorem dX9_lays_32 : decode cX9_lays 32 = .ok (.astore 4, 2) := by decide +kernel
theorem dX9_lays_34 : decode cX9_lays 34 = .ok (.aload 4, 2) := by decide +kernel
theorem dX9_lays_36 : decode cX9_lays 36 = .ok (.invokevirtual 343, 3) := by decide +kernel
theorem dX9_lays_39 : decode cX9_lays 39 = .ok (.ifCond .eq 6, 3) := by decide +kernel
theorem dX9_lays_42 : decode cX9_lays 42 = .ok (.bipush (-11), 2) := by decide +kernel
theorem dX9_lays_44 : decode cX9_lays 44 = .ok (.ireturn, 1) := by decide +kernel
theorem dX9_lays_45 : decode cX9_lays 45 = .ok (.iload_n 2, 1) := by decide +kernel
theorem dX9_lays_46 : decode cX9_lays 46 = .ok (.aload 4, 2) := by decide +kernel
theorem dX9_lays_48 : decode cX9_lays 48 = .ok (.getfield 344, 3) := by decide +kernel
theorem dX9_lays_51 : decode cX9_lays 51 = .ok (.invokestatic 183, 3) := by decide +kernel
theorem dX9_lays_54 : decode cX9_lays 54 = .ok (.ifCond .ne 6, 3) := by decide +kernel
theorem dX9_lays_57 : decode cX9_lays 57 = .ok (.bipush (-13), 2) := by decide +kernel
theorem dX9_lays_59 : decode cX9_lays 59 = .ok (.ireturn, 1) := by decide +kernel
theorem dX9_lays_60 : decode cX9_lays 60 = .ok (.aload_n 0, 1) := by decide +kernel
theorem dX9_lays_61 : decode cX9_lays 61 = .ok (.getfield 14, 3) := by decide +kernel
theorem dX9_lays_64 : decode cX9_lays 64 = .ok (.iload_n 3, 1) := by decide +kernel
theorem dX9_lays_65 : decode cX9_lays 65 = .ok (.invokevirtual 135, 3) := by decide +kernel
theorem dX9_lays_68 : decode cX9_lays 68 = .ok (.ifCond .eq 15, 3) := by decide +kernel
theorem dX9_lays_71 : decode cX9_lays 71 = .ok (.aload_n 0, 1) := by decide +kernel
theorem dX9_lays_72 : decode cX9_lays 72 = .ok (.getfield 14, 3) := by decide +kernel
theorem dX9_lays_75 : decode cX9_lays 75 = .ok (.getfield 154, 3) := by decide +kernel
theorem dX9_lays_78 : decode cX9_lays 78 = .ok (.iload_n 3, 1) := by decide +kernel
theorem dX9_lays_79 : decode cX9_lays 79 = .ok (.aaload, 1) := by decide +kernel
theorem dX9_lays_80 : decode cX9_lays 80 = .ok (.goto 4, 3) := by decide +kernel
theorem dX9_lays_83 : decode cX9_lays 83 = .ok (.aconst_null, 1) := by decide +kernel
theorem dX9_lays_84 : decode cX9_lays 84 = .ok (.astore 5, 2) := by decide +kernel
theorem dX9_lays_86 : decode cX9_lays 86 = .ok (.aload 5, 2) := by decide +kernel
theorem dX9_lays_88 : decode cX9_lays 88 = .ok (.ifnull 19, 3) := by decide +kernel
theorem dX9_lays_91 : decode cX9_lays 91 = .ok (.aload 5, 2) := by decide +kernel
theorem dX9_lays_93 : decode cX9_lays 93 = .ok (.getfield 164, 3) := by decide +kernel
theorem dX9_lays_96 : decode cX9_lays 96 = .ok (.aload 4, 2) := by decide +kernel
theorem dX9_lays_98 : decode cX9_lays 98 = .ok (.getfield 345, 3) := by decide +kernel
theorem dX9_lays_101 : decode cX9_lays 101 = .ok (.if_icmp .ge 6, 3) := by decide +kernel
theorem dX9_lays_104 : decode cX9_lays 104 = .ok (.bipush (-16), 2) := by decide +kernel
theorem dX9_lays_106 : decode cX9_lays 106 = .ok (.ireturn, 1) := by decide +kernel
theorem dX9_lays_107 : decode cX9_lays 107 = .ok (.aload 4, 2) := by decide +kernel
theorem dX9_lays_109 : decode cX9_lays 109 = .ok (.getfield 346, 3) := by decide +kernel
theorem dX9_lays_112 : decode cX9_lays 112 = .ok (.iload_n 2, 1) := by decide +kernel
theorem dX9_lays_113 : decode cX9_lays 113 = .ok (.aload 5, 2) := by decide +kernel
theorem dX9_lays_115 : decode cX9_lays 115 = .ok (.aastore, 1) := by decide +kernel
theorem dX9_lays_116 : decode cX9_lays 116 = .ok (.iconst 1, 1) := by decide +kernel
theorem dX9_lays_117 : decode cX9_lays 117 = .ok (.ireturn, 1) := by decide +kernel
theorem dX9_laid_0 : decode cX9_laid 0 = .ok (.iload_n 1, 1) := by decide +kernel
theorem dX9_laid_1 : decode cX9_laid 1 = .ok (.iconst 3, 1) := by decide +kernel
theorem dX9_laid_2 : decode cX9_laid 2 = .ok (.invokestatic 183, 3) := by decide +kernel
theorem dX9_laid_5 : decode cX9_laid 5 = .ok (.ifCond .eq 26, 3) := by decide +kernel
theorem dX9_laid_8 : decode cX9_laid 8 = .ok (.iload_n 3, 1) := by decide +kernel
theorem dX9_laid_9 : decode cX9_laid 9 = .ok (.invokestatic 180, 3) := by decide +kernel
theorem dX9_laid_12 : decode cX9_laid 12 = .ok (.ifCond .eq 19, 3) := by decide +kernel
theorem dX9_laid_15 : decode cX9_laid 15 = .ok (.iload_n 2, 1) := by decide +kernel
theorem dX9_laid_16 : decode cX9_laid 16 = .ok (.aload_n 0, 1) := by decide +kernel
theorem dX9_laid_17 : decode cX9_laid 17 = .ok (.getfield 75, 3) := by decide +kernel
theorem dX9_laid_20 : decode cX9_laid 20 = .ok (.iload_n 1, 1) := by decide +kernel
theorem dX9_laid_21 : decode cX9_laid 21 = .ok (.aaload, 1) := by decide +kernel
theorem dX9_laid_22 : decode cX9_laid 22 = .ok (.getfield 344, 3) := by decide +kernel
theorem dX9_laid_25 : decode cX9_laid 25 = .ok (.invokestatic 183, 3) := by decide +kernel
theorem dX9_laid_28 : decode cX9_laid 28 = .ok (.ifCond .ne 7, 3) := by decide +kernel
theorem dX9_laid_31 : decode cX9_laid 31 = .ok (.ldc2_w 152, 3) := by decide +kernel
theorem dX9_laid_34 : decode cX9_laid 34 = .ok (.lreturn, 1) := by decide +kernel
theorem dX9_laid_35 : decode cX9_laid 35 = .ok (.aload_n 0, 1) := by decide +kernel
theorem dX9_laid_36 : decode cX9_laid 36 = .ok (.getfield 75, 3) := by decide +kernel
theorem dX9_laid_39 : decode cX9_laid 39 = .ok (.iload_n 1, 1) := by decide +kernel
theorem dX9_laid_40 : decode cX9_laid 40 = .ok (.aaload, 1) := by decide +kernel
theorem dX9_laid_41 : decode cX9_laid 41 = .ok (.getfield 346, 3) := by decide +kernel
theorem dX9_laid_44 : decode cX9_laid 44 = .ok (.iload_n 2, 1) := by decide +kernel
theorem dX9_laid_45 : decode cX9_laid 45 = .ok (.aaload, 1) := by decide +kernel
theorem dX9_laid_46 : decode cX9_laid 46 = .ok (.astore 4, 2) := by decide +kernel
theorem dX9_laid_48 : decode cX9_laid 48 = .ok (.aload 4, 2) := by decide +kernel
theorem dX9_laid_50 : decode cX9_laid 50 = .ok (.ifnonnull 9, 3) := by decide +kernel
theorem dX9_laid_53 : decode cX9_laid 53 = .ok (.ldc2_w 152, 3) := by decide +kernel
theorem dX9_laid_56 : decode cX9_laid 56 = .ok (.goto 9, 3) := by decide +kernel
theorem dX9_laid_59 : decode cX9_laid 59 = .ok (.aload 4, 2) := by decide +kernel
theorem dX9_laid_61 : decode cX9_laid 61 = .ok (.iload_n 3, 1) := by decide +kernel
theorem dX9_laid_62 : decode cX9_laid 62 = .ok (.invokevirtual 186, 3) := by decide +kernel
theorem dX9_laid_65 : decode cX9_laid 65 = .ok (.lreturn, 1) := by decide +kernel
theorem dX9_like_0 : decode cX9_like 0 = .ok (.iload_n 1, 1) := by decide +kernel
theorem dX9_like_1 : decode cX9_like 1 = .ok (.iconst 3, 1) := by decide +kernel
theorem dX9_like_2 : decode cX9_like 2 = .ok (.invokestatic 183, 3) := by decide +kernel
theorem dX9_like_5 : decode cX9_like 5 = .ok (.ifCond .eq 11, 3) := by decide +kernel
theorem dX9_like_8 : decode cX9_like 8 = .ok (.iload_n 2, 1) := by decide +kernel
theorem dX9_like_9 : decode cX9_like 9 = .ok (.iconst 3, 1) := by decide +kernel
theorem dX9_like_10 : decode cX9_like 10 = .ok (.invokestatic 183, 3) := by decide +kernel
theorem dX9_like_13 : decode cX9_like 13 = .ok (.ifCond .ne 5, 3) := by decide +kernel
theorem dX9_like_16 : decode cX9_like 16 = .ok (.iconst (-1), 1) := by decide +kernel
theorem dX9_like_17 : decode cX9_like 17 = .ok (.ireturn, 1) := by decide +kernel
theorem dX9_like_18 : decode cX9_like 18 = .ok (.aload_n 0, 1) := by decide +kernel
theorem dX9_like_19 : decode cX9_like 19 = .ok (.getfield 75, 3) := by decide +kernel
theorem dX9_like_22 : decode cX9_like 22 = .ok (.iload_n 2, 1) := by decide +kernel
theorem dX9_like_23 : decode cX9_like 23 = .ok (.aaload, 1) := by decide +kernel
theorem dX9_like_24 : decode cX9_like 24 = .ok (.invokevirtual 343, 3) := by decide +kernel
theorem dX9_like_27 : decode cX9_like 27 = .ok (.ifCond .eq 6, 3) := by decide +kernel
theorem dX9_like_30 : decode cX9_like 30 = .ok (.bipush (-11), 2) := by decide +kernel
theorem dX9_like_32 : decode cX9_like 32 = .ok (.ireturn, 1) := by decide +kernel
theorem dX9_like_33 : decode cX9_like 33 = .ok (.aload_n 0, 1) := by decide +kernel
theorem dX9_like_34 : decode cX9_like 34 = .ok (.getfield 75, 3) := by decide +kernel
theorem dX9_like_37 : decode cX9_like 37 = .ok (.iload_n 1, 1) := by decide +kernel
theorem dX9_like_38 : decode cX9_like 38 = .ok (.aaload, 1) := by decide +kernel
theorem dX9_like_39 : decode cX9_like 39 = .ok (.aload_n 0, 1) := by decide +kernel
theorem dX9_like_40 : decode cX9_like 40 = .ok (.getfield 75, 3) := by decide +kernel
theorem dX9_like_43 : decode cX9_like 43 = .ok (.iload_n 2, 1) := by decide +kernel
theorem dX9_like_44 : decode cX9_like 44 = .ok (.aaload, 1) := by decide +kernel
theorem dX9_like_45 : decode cX9_like 45 = .ok (.invokevirtual 349, 3) := by decide +kernel
theorem dX9_like_48 : decode cX9_like 48 = .ok (.aload_n 0, 1) := by decide +kernel
theorem dX9_like_49 : decode cX9_like 49 = .ok (.getfield 75, 3) := by decide +kernel
theorem dX9_like_52 : decode cX9_like 52 = .ok (.iload_n 1, 1) := by decide +kernel
theorem dX9_like_53 : decode cX9_like 53 = .ok (.aaload, 1) := by decide +kernel
theorem dX9_like_54 : decode cX9_like 54 = .ok (.getfield 344, 3) := by decide +kernel
theorem dX9_like_57 : decode cX9_like 57 = .ok (.ireturn, 1) := by decide +kernel
theorem dX9_told_0 : decode cX9_told 0 = .ok (.iload_n 1, 1) := by decide +kernel
theorem dX9_told_1 : decode cX9_told 1 = .ok (.tableswitch 79 0 4 #[35, 44, 53, 62, 71], 35) := by decide +kernel
theorem dX9_told_36 : decode cX9_told 36 = .ok (.aload_n 0, 1) := by decide +kernel
theorem dX9_told_37 : decode cX9_told 37 = .ok (.getfield 14, 3) := by decide +kernel
theorem dX9_told_40 : decode cX9_told 40 = .ok (.getfield 98, 3) := by decide +kernel
theorem dX9_told_43 : decode cX9_told 43 = .ok (.i2l, 1) := by decide +kernel
theorem dX9_told_44 : decode cX9_told 44 = .ok (.lreturn, 1) := by decide +kernel
theorem dX9_told_45 : decode cX9_told 45 = .ok (.aload_n 0, 1) := by decide +kernel
theorem dX9_told_46 : decode cX9_told 46 = .ok (.getfield 14, 3) := by decide +kernel
theorem dX9_told_49 : decode cX9_told 49 = .ok (.getfield 102, 3) := by decide +kernel
theorem dX9_told_52 : decode cX9_told 52 = .ok (.i2l, 1) := by decide +kernel
theorem dX9_told_53 : decode cX9_told 53 = .ok (.lreturn, 1) := by decide +kernel
theorem dX9_told_54 : decode cX9_told 54 = .ok (.aload_n 0, 1) := by decide +kernel
theorem dX9_told_55 : decode cX9_told 55 = .ok (.getfield 14, 3) := by decide +kernel
theorem dX9_told_58 : decode cX9_told 58 = .ok (.invokevirtual 352, 3) := by decide +kernel
theorem dX9_told_61 : decode cX9_told 61 = .ok (.i2l, 1) := by decide +kernel
theorem dX9_told_62 : decode cX9_told 62 = .ok (.lreturn, 1) := by decide +kernel
theorem dX9_told_63 : decode cX9_told 63 = .ok (.aload_n 0, 1) := by decide +kernel
theorem dX9_told_64 : decode cX9_told 64 = .ok (.getfield 69, 3) := by decide +kernel
theorem dX9_told_67 : decode cX9_told 67 = .ok (.getfield 206, 3) := by decide +kernel
theorem dX9_told_70 : decode cX9_told 70 = .ok (.i2l, 1) := by decide +kernel
theorem dX9_told_71 : decode cX9_told 71 = .ok (.lreturn, 1) := by decide +kernel
theorem dX9_told_72 : decode cX9_told 72 = .ok (.aload_n 0, 1) := by decide +kernel
theorem dX9_told_73 : decode cX9_told 73 = .ok (.getfield 14, 3) := by decide +kernel
theorem dX9_told_76 : decode cX9_told 76 = .ok (.invokevirtual 356, 3) := by decide +kernel
theorem dX9_told_79 : decode cX9_told 79 = .ok (.lreturn, 1) := by decide +kernel
theorem dX9_told_80 : decode cX9_told 80 = .ok (.ldc2_w 152, 3) := by decide +kernel
theorem dX9_told_83 : decode cX9_told 83 = .ok (.lreturn, 1) := by decide +kernel
theorem dX9_list_0 : decode cX9_list 0 = .ok (.iload_n 1, 1) := by decide +kernel
theorem dX9_list_1 : decode cX9_list 1 = .ok (.iconst 4, 1) := by decide +kernel
theorem dX9_list_2 : decode cX9_list 2 = .ok (.invokestatic 183, 3) := by decide +kernel
theorem dX9_list_5 : decode cX9_list 5 = .ok (.ifCond .ne 5, 3) := by decide +kernel
theorem dX9_list_8 : decode cX9_list 8 = .ok (.iconst (-1), 1) := by decide +kernel
theorem dX9_list_9 : decode cX9_list 9 = .ok (.ireturn, 1) := by decide +kernel
theorem dX9_list_10 : decode cX9_list 10 = .ok (.iload_n 2, 1) := by decide +kernel
theorem dX9_list_11 : decode cX9_list 11 = .ok (.bipush 24, 2) := by decide +kernel
theorem dX9_list_13 : decode cX9_list 13 = .ok (.if_icmp .le 6, 3) := by decide +kernel
theorem dX9_list_16 : decode cX9_list 16 = .ok (.bipush (-2), 2) := by decide +kernel
theorem dX9_list_18 : decode cX9_list 18 = .ok (.ireturn, 1) := by decide +kernel
theorem dX9_list_19 : decode cX9_list 19 = .ok (.iload_n 2, 1) := by decide +kernel
theorem dX9_list_20 : decode cX9_list 20 = .ok (.ifCond .ge 6, 3) := by decide +kernel
theorem dX9_list_23 : decode cX9_list 23 = .ok (.bipush (-14), 2) := by decide +kernel
theorem dX9_list_25 : decode cX9_list 25 = .ok (.ireturn, 1) := by decide +kernel
theorem dX9_list_26 : decode cX9_list 26 = .ok (.aload_n 0, 1) := by decide +kernel
theorem dX9_list_27 : decode cX9_list 27 = .ok (.getfield 81, 3) := by decide +kernel
theorem dX9_list_30 : decode cX9_list 30 = .ok (.iload_n 1, 1) := by decide +kernel
theorem dX9_list_31 : decode cX9_list 31 = .ok (.aaload, 1) := by decide +kernel
theorem dX9_list_32 : decode cX9_list 32 = .ok (.iload_n 2, 1) := by decide +kernel
theorem dX9_list_33 : decode cX9_list 33 = .ok (.invokevirtual 359, 3) := by decide +kernel
theorem dX9_list_36 : decode cX9_list 36 = .ok (.iconst 1, 1) := by decide +kernel
theorem dX9_list_37 : decode cX9_list 37 = .ok (.ireturn, 1) := by decide +kernel
theorem dX9_set_0 : decode cX9_set 0 = .ok (.iload_n 1, 1) := by decide +kernel
theorem dX9_set_1 : decode cX9_set 1 = .ok (.iconst 4, 1) := by decide +kernel
theorem dX9_set_2 : decode cX9_set 2 = .ok (.invokestatic 183, 3) := by decide +kernel
theorem dX9_set_5 : decode cX9_set 5 = .ok (.ifCond .ne 5, 3) := by decide +kernel
theorem dX9_set_8 : decode cX9_set 8 = .ok (.iconst (-1), 1) := by decide +kernel
theorem dX9_set_9 : decode cX9_set 9 = .ok (.ireturn, 1) := by decide +kernel
theorem dX9_set_10 : decode cX9_set 10 = .ok (.aload_n 0, 1) := by decide +kernel
theorem dX9_set_11 : decode cX9_set 11 = .ok (.getfield 81, 3) := by decide +kernel
theorem dX9_set_14 : decode cX9_set 14 = .ok (.iload_n 1, 1) := by decide +kernel
theorem dX9_set_15 : decode cX9_set 15 = .ok (.aaload, 1) := by decide +kernel
theorem dX9_set_16 : decode cX9_set 16 = .ok (.invokevirtual 316, 3) := by decide +kernel
theorem dX9_set_19 : decode cX9_set 19 = .ok (.ifCond .eq 6, 3) := by decide +kernel
theorem dX9_set_22 : decode cX9_set 22 = .ok (.bipush (-11), 2) := by decide +kernel
theorem dX9_set_24 : decode cX9_set 24 = .ok (.ireturn, 1) := by decide +kernel
theorem dX9_set_25 : decode cX9_set 25 = .ok (.iload_n 2, 1) := by decide +kernel
theorem dX9_set_26 : decode cX9_set 26 = .ok (.aload_n 0, 1) := by decide +kernel
theorem dX9_set_27 : decode cX9_set 27 = .ok (.getfield 81, 3) := by decide +kernel
theorem dX9_set_30 : decode cX9_set 30 = .ok (.iload_n 1, 1) := by decide +kernel
theorem dX9_set_31 : decode cX9_set 31 = .ok (.aaload, 1) := by decide +kernel
theorem dX9_set_32 : decode cX9_set 32 = .ok (.getfield 320, 3) := by decide +kernel
theorem dX9_set_35 : decode cX9_set 35 = .ok (.invokestatic 183, 3) := by decide +kernel
theorem dX9_set_38 : decode cX9_set 38 = .ok (.ifCond .ne 6, 3) := by decide +kernel
theorem dX9_set_41 : decode cX9_set 41 = .ok (.bipush (-13), 2) := by decide +kernel
theorem dX9_set_43 : decode cX9_set 43 = .ok (.ireturn, 1) := by decide +kernel
theorem dX9_set_44 : decode cX9_set 44 = .ok (.aload_n 0, 1) := by decide +kernel
theorem dX9_set_45 : decode cX9_set 45 = .ok (.getfield 81, 3) := by decide +kernel
theorem dX9_set_48 : decode cX9_set 48 = .ok (.iload_n 1, 1) := by decide +kernel
theorem dX9_set_49 : decode cX9_set 49 = .ok (.aaload, 1) := by decide +kernel
theorem dX9_set_50 : decode cX9_set 50 = .ok (.getfield 321, 3) := by decide +kernel
theorem dX9_set_53 : decode cX9_set 53 = .ok (.iload_n 2, 1) := by decide +kernel
theorem dX9_set_54 : decode cX9_set 54 = .ok (.lload_n 3, 1) := by decide +kernel
theorem dX9_set_55 : decode cX9_set 55 = .ok (.lastore, 1) := by decide +kernel
theorem dX9_set_56 : decode cX9_set 56 = .ok (.iconst 1, 1) := by decide +kernel
theorem dX9_set_57 : decode cX9_set 57 = .ok (.ireturn, 1) := by decide +kernel
theorem dX9_get_0 : decode cX9_get 0 = .ok (.iload_n 1, 1) := by decide +kernel
theorem dX9_get_1 : decode cX9_get 1 = .ok (.iconst 4, 1) := by decide +kernel
theorem dX9_get_2 : decode cX9_get 2 = .ok (.invokestatic 183, 3) := by decide +kernel
theorem dX9_get_5 : decode cX9_get 5 = .ok (.ifCond .eq 19, 3) := by decide +kernel
theorem dX9_get_8 : decode cX9_get 8 = .ok (.iload_n 2, 1) := by decide +kernel
theorem dX9_get_9 : decode cX9_get 9 = .ok (.aload_n 0, 1) := by decide +kernel
theorem dX9_get_10 : decode cX9_get 10 = .ok (.getfield 81, 3) := by decide +kernel
theorem dX9_get_13 : decode cX9_get 13 = .ok (.iload_n 1, 1) := by decide +kernel
theorem dX9_get_14 : decode cX9_get 14 = .ok (.aaload, 1) := by decide +kernel
theorem dX9_get_15 : decode cX9_get 15 = .ok (.getfield 320, 3) := by decide +kernel
theorem dX9_get_18 : decode cX9_get 18 = .ok (.invokestatic 183, 3) := by decide +kernel
theorem dX9_get_21 : decode cX9_get 21 = .ok (.ifCond .ne 7, 3) := by decide +kernel
theorem dX9_get_24 : decode cX9_get 24 = .ok (.ldc2_w 152, 3) := by decide +kernel
theorem dX9_get_27 : decode cX9_get 27 = .ok (.lreturn, 1) := by decide +kernel
theorem dX9_get_28 : decode cX9_get 28 = .ok (.aload_n 0, 1) := by decide +kernel
theorem dX9_get_29 : decode cX9_get 29 = .ok (.getfield 81, 3) := by decide +kernel
theorem dX9_get_32 : decode cX9_get 32 = .ok (.iload_n 1, 1) := by decide +kernel
theorem dX9_get_33 : decode cX9_get 33 = .ok (.aaload, 1) := by decide +kernel
theorem dX9_get_34 : decode cX9_get 34 = .ok (.getfield 321, 3) := by decide +kernel
theorem dX9_get_37 : decode cX9_get 37 = .ok (.iload_n 2, 1) := by decide +kernel
theorem dX9_get_38 : decode cX9_get 38 = .ok (.laload, 1) := by decide +kernel
theorem dX9_get_39 : decode cX9_get 39 = .ok (.lreturn, 1) := by decide +kernel
theorem dX9_image_0 : decode cX9_image 0 = .ok (.aload_n 0, 1) := by decide +kernel
theorem dX9_image_1 : decode cX9_image 1 = .ok (.getfield 18, 3) := by decide +kernel
theorem dX9_image_4 : decode cX9_image 4 = .ok (.aload_n 0, 1) := by decide +kernel
theorem dX9_image_5 : decode cX9_image 5 = .ok (.getfield 14, 3) := by decide +kernel
theorem dX9_image_8 : decode cX9_image 8 = .ok (.invokevirtual 209, 3) := by decide +kernel
theorem dX9_image_11 : decode cX9_image 11 = .ok (.aload_n 0, 1) := by decide +kernel
theorem dX9_image_12 : decode cX9_image 12 = .ok (.iconst 1, 1) := by decide +kernel
theorem dX9_image_13 : decode cX9_image 13 = .ok (.putfield 21, 3) := by decide +kernel
theorem dX9_image_16 : decode cX9_image 16 = .ok (.aload_n 0, 1) := by decide +kernel
theorem dX9_image_17 : decode cX9_image 17 = .ok (.getfield 18, 3) := by decide +kernel
theorem dX9_image_20 : decode cX9_image 20 = .ok (.getfield 102, 3) := by decide +kernel
theorem dX9_image_23 : decode cX9_image 23 = .ok (.ireturn, 1) := by decide +kernel
theorem dX9_undo_0 : decode cX9_undo 0 = .ok (.aload_n 0, 1) := by decide +kernel
theorem dX9_undo_1 : decode cX9_undo 1 = .ok (.getfield 21, 3) := by decide +kernel
theorem dX9_undo_4 : decode cX9_undo 4 = .ok (.ifCond .ne 6, 3) := by decide +kernel
theorem dX9_undo_7 : decode cX9_undo 7 = .ok (.bipush (-3), 2) := by decide +kernel
theorem dX9_undo_9 : decode cX9_undo 9 = .ok (.ireturn, 1) := by decide +kernel
theorem dX9_undo_10 : decode cX9_undo 10 = .ok (.aload_n 0, 1) := by decide +kernel
theorem dX9_undo_11 : decode cX9_undo 11 = .ok (.getfield 14, 3) := by decide +kernel
theorem dX9_undo_14 : decode cX9_undo 14 = .ok (.aload_n 0, 1) := by decide +kernel
theorem dX9_undo_15 : decode cX9_undo 15 = .ok (.getfield 18, 3) := by decide +kernel
theorem dX9_undo_18 : decode cX9_undo 18 = .ok (.invokevirtual 209, 3) := by decide +kernel
theorem dX9_undo_21 : decode cX9_undo 21 = .ok (.aload_n 0, 1) := by decide +kernel
theorem dX9_undo_22 : decode cX9_undo 22 = .ok (.invokevirtual 105, 3) := by decide +kernel
theorem dX9_undo_25 : decode cX9_undo 25 = .ok (.aload_n 0, 1) := by decide +kernel
theorem dX9_undo_26 : decode cX9_undo 26 = .ok (.getfield 14, 3) := by decide +kernel
theorem dX9_undo_29 : decode cX9_undo 29 = .ok (.getfield 102, 3) := by decide +kernel
theorem dX9_undo_32 : decode cX9_undo 32 = .ok (.ireturn, 1) := by decide +kernel
theorem dX9_changed_0 : decode cX9_changed 0 = .ok (.aload_n 0, 1) := by decide +kernel
theorem dX9_changed_1 : decode cX9_changed 1 = .ok (.iconst 0, 1) := by decide +kernel
theorem dX9_changed_2 : decode cX9_changed 2 = .ok (.putfield 32, 3) := by decide +kernel
theorem dX9_changed_5 : decode cX9_changed 5 = .ok (.aload_n 0, 1) := by decide +kernel
theorem dX9_changed_6 : decode cX9_changed 6 = .ok (.iconst 0, 1) := by decide +kernel
theorem dX9_changed_7 : decode cX9_changed 7 = .ok (.putfield 52, 3) := by decide +kernel
theorem dX9_changed_10 : decode cX9_changed 10 = .ok (.iconst 0, 1) := by decide +kernel
theorem dX9_changed_11 : decode cX9_changed 11 = .ok (.istore_n 1, 1) := by decide +kernel
theorem dX9_changed_12 : decode cX9_changed 12 = .ok (.iload_n 1, 1) := by decide +kernel
theorem dX9_changed_13 : decode cX9_changed 13 = .ok (.iconst 3, 1) := by decide +kernel
theorem dX9_changed_14 : decode cX9_changed 14 = .ok (.if_icmp .ge 16, 3) := by decide +kernel
theorem dX9_changed_17 : decode cX9_changed 17 = .ok (.aload_n 0, 1) := by decide +kernel
theorem dX9_changed_18 : decode cX9_changed 18 = .ok (.getfield 41, 3) := by decide +kernel
theorem dX9_changed_21 : decode cX9_changed 21 = .ok (.iload_n 1, 1) := by decide +kernel
theorem dX9_changed_22 : decode cX9_changed 22 = .ok (.iconst 0, 1) := by decide +kernel
theorem dX9_changed_23 : decode cX9_changed 23 = .ok (.bastore, 1) := by decide +kernel
theorem dX9_changed_24 : decode cX9_changed 24 = .ok (.iinc 1 1, 3) := by decide +kernel
theorem dX9_changed_27 : decode cX9_changed 27 = .ok (.goto (-15), 3) := by decide +kernel
theorem dX9_changed_30 : decode cX9_changed 30 = .ok (.return_, 1) := by decide +kernel
theorem dX9_freshPaths_0 : decode cX9_freshPaths 0 = .ok (.aload_n 0, 1) := by decide +kernel
theorem dX9_freshPaths_1 : decode cX9_freshPaths 1 = .ok (.getfield 32, 3) := by decide +kernel
theorem dX9_freshPaths_4 : decode cX9_freshPaths 4 = .ok (.ifCond .ne 20, 3) := by decide +kernel
theorem dX9_freshPaths_7 : decode cX9_freshPaths 7 = .ok (.aload_n 0, 1) := by decide +kernel
theorem dX9_freshPaths_8 : decode cX9_freshPaths 8 = .ok (.getfield 28, 3) := by decide +kernel
theorem dX9_freshPaths_11 : decode cX9_freshPaths 11 = .ok (.aload_n 0, 1) := by decide +kernel
theorem dX9_freshPaths_12 : decode cX9_freshPaths 12 = .ok (.getfield 14, 3) := by decide +kernel
theorem dX9_freshPaths_15 : decode cX9_freshPaths 15 = .ok (.iconst (-1), 1) := by decide +kernel
theorem dX9_freshPaths_16 : decode cX9_freshPaths 16 = .ok (.invokevirtual 302, 3) := by decide +kernel
theorem dX9_freshPaths_19 : decode cX9_freshPaths 19 = .ok (.aload_n 0, 1) := by decide +kernel
theorem dX9_freshPaths_20 : decode cX9_freshPaths 20 = .ok (.iconst 1, 1) := by decide +kernel
theorem dX9_freshPaths_21 : decode cX9_freshPaths 21 = .ok (.putfield 32, 3) := by decide +kernel
theorem dX9_freshPaths_24 : decode cX9_freshPaths 24 = .ok (.aload_n 0, 1) := by decide +kernel
theorem dX9_freshPaths_25 : decode cX9_freshPaths 25 = .ok (.getfield 28, 3) := by decide +kernel
theorem dX9_freshPaths_28 : decode cX9_freshPaths 28 = .ok (.areturn, 1) := by decide +kernel
theorem dX9_steadyOf_0 : decode cX9_steadyOf 0 = .ok (.aload_n 0, 1) := by decide +kernel
theorem dX9_steadyOf_1 : decode cX9_steadyOf 1 = .ok (.getfield 41, 3) := by decide +kernel
theorem dX9_steadyOf_4 : decode cX9_steadyOf 4 = .ok (.iload_n 1, 1) := by decide +kernel
theorem dX9_steadyOf_5 : decode cX9_steadyOf 5 = .ok (.baload, 1) := by decide +kernel
theorem dX9_steadyOf_6 : decode cX9_steadyOf 6 = .ok (.ifCond .ne 28, 3) := by decide +kernel
theorem dX9_steadyOf_9 : decode cX9_steadyOf 9 = .ok (.aload_n 0, 1) := by decide +kernel
theorem dX9_steadyOf_10 : decode cX9_steadyOf 10 = .ok (.getfield 37, 3) := by decide +kernel
theorem dX9_steadyOf_13 : decode cX9_steadyOf 13 = .ok (.iload_n 1, 1) := by decide +kernel
theorem dX9_steadyOf_14 : decode cX9_steadyOf 14 = .ok (.aaload, 1) := by decide +kernel
theorem dX9_steadyOf_15 : decode cX9_steadyOf 15 = .ok (.aload_n 0, 1) := by decide +kernel
theorem dX9_steadyOf_16 : decode cX9_steadyOf 16 = .ok (.getfield 14, 3) := by decide +kernel
theorem dX9_steadyOf_19 : decode cX9_steadyOf 19 = .ok (.aload_n 0, 1) := by decide +kernel
theorem dX9_steadyOf_20 : decode cX9_steadyOf 20 = .ok (.invokevirtual 217, 3) := by decide +kernel
theorem dX9_steadyOf_23 : decode cX9_steadyOf 23 = .ok (.iload_n 1, 1) := by decide +kernel
theorem dX9_steadyOf_24 : decode cX9_steadyOf 24 = .ok (.invokevirtual 306, 3) := by decide +kernel
theorem dX9_steadyOf_27 : decode cX9_steadyOf 27 = .ok (.aload_n 0, 1) := by decide +kernel
theorem dX9_steadyOf_28 : decode cX9_steadyOf 28 = .ok (.getfield 41, 3) := by decide +kernel
theorem dX9_steadyOf_31 : decode cX9_steadyOf 31 = .ok (.iload_n 1, 1) := by decide +kernel
theorem dX9_steadyOf_32 : decode cX9_steadyOf 32 = .ok (.iconst 1, 1) := by decide +kernel
theorem dX9_steadyOf_33 : decode cX9_steadyOf 33 = .ok (.bastore, 1) := by decide +kernel
theorem dX9_steadyOf_34 : decode cX9_steadyOf 34 = .ok (.aload_n 0, 1) := by decide +kernel
theorem dX9_steadyOf_35 : decode cX9_steadyOf 35 = .ok (.getfield 37, 3) := by decide +kernel
theorem dX9_steadyOf_38 : decode cX9_steadyOf 38 = .ok (.iload_n 1, 1) := by decide +kernel
theorem dX9_steadyOf_39 : decode cX9_steadyOf 39 = .ok (.aaload, 1) := by decide +kernel
theorem dX9_steadyOf_40 : decode cX9_steadyOf 40 = .ok (.areturn, 1) := by decide +kernel
theorem dX9_bestOrNo_0 : decode cX9_bestOrNo 0 = .ok (.aload_n 0, 1) := by decide +kernel
theorem dX9_bestOrNo_1 : decode cX9_bestOrNo 1 = .ok (.getfield 14, 3) := by decide +kernel
theorem dX9_bestOrNo_4 : decode cX9_bestOrNo 4 = .ok (.aload_n 0, 1) := by decide +kernel
theorem dX9_bestOrNo_5 : decode cX9_bestOrNo 5 = .ok (.invokevirtual 217, 3) := by decide +kernel
theorem dX9_bestOrNo_8 : decode cX9_bestOrNo 8 = .ok (.invokestatic 335, 3) := by decide +kernel
theorem dX9_bestOrNo_11 : decode cX9_bestOrNo 11 = .ok (.ifCond .ne 7, 3) := by decide +kernel
theorem dX9_bestOrNo_14 : decode cX9_bestOrNo 14 = .ok (.ldc2_w 152, 3) := by decide +kernel
theorem dX9_bestOrNo_17 : decode cX9_bestOrNo 17 = .ok (.lreturn, 1) := by decide +kernel
theorem dX9_bestOrNo_18 : decode cX9_bestOrNo 18 = .ok (.aload_n 0, 1) := by decide +kernel
theorem dX9_bestOrNo_19 : decode cX9_bestOrNo 19 = .ok (.getfield 52, 3) := by decide +kernel
theorem dX9_bestOrNo_22 : decode cX9_bestOrNo 22 = .ok (.ifCond .ne 19, 3) := by decide +kernel
theorem dX9_bestOrNo_25 : decode cX9_bestOrNo 25 = .ok (.aload_n 0, 1) := by decide +kernel
theorem dX9_bestOrNo_26 : decode cX9_bestOrNo 26 = .ok (.getfield 48, 3) := by decide +kernel
theorem dX9_bestOrNo_29 : decode cX9_bestOrNo 29 = .ok (.aload_n 0, 1) := by decide +kernel
theorem dX9_bestOrNo_30 : decode cX9_bestOrNo 30 = .ok (.getfield 14, 3) := by decide +kernel
theorem dX9_bestOrNo_33 : decode cX9_bestOrNo 33 = .ok (.invokevirtual 361, 3) := by decide +kernel
theorem dX9_bestOrNo_36 : decode cX9_bestOrNo 36 = .ok (.aload_n 0, 1) := by decide +kernel
theorem dX9_bestOrNo_37 : decode cX9_bestOrNo 37 = .ok (.iconst 1, 1) := by decide +kernel
theorem dX9_bestOrNo_38 : decode cX9_bestOrNo 38 = .ok (.putfield 52, 3) := by decide +kernel
theorem dX9_bestOrNo_41 : decode cX9_bestOrNo 41 = .ok (.aload_n 0, 1) := by decide +kernel
theorem dX9_bestOrNo_42 : decode cX9_bestOrNo 42 = .ok (.getfield 48, 3) := by decide +kernel
theorem dX9_bestOrNo_45 : decode cX9_bestOrNo 45 = .ok (.getfield 364, 3) := by decide +kernel
theorem dX9_bestOrNo_48 : decode cX9_bestOrNo 48 = .ok (.getfield 243, 3) := by decide +kernel
theorem dX9_bestOrNo_51 : decode cX9_bestOrNo 51 = .ok (.ifCond .eq 9, 3) := by decide +kernel
theorem dX9_bestOrNo_54 : decode cX9_bestOrNo 54 = .ok (.ldc2_w 152, 3) := by decide +kernel
theorem dX9_bestOrNo_57 : decode cX9_bestOrNo 57 = .ok (.goto 13, 3) := by decide +kernel
theorem dX9_bestOrNo_60 : decode cX9_bestOrNo 60 = .ok (.aload_n 0, 1) := by decide +kernel
theorem dX9_bestOrNo_61 : decode cX9_bestOrNo 61 = .ok (.getfield 48, 3) := by decide +kernel
theorem dX9_bestOrNo_64 : decode cX9_bestOrNo 64 = .ok (.getfield 364, 3) := by decide +kernel
theorem dX9_bestOrNo_67 : decode cX9_bestOrNo 67 = .ok (.getfield 273, 3) := by decide +kernel
theorem dX9_bestOrNo_70 : decode cX9_bestOrNo 70 = .ok (.lreturn, 1) := by decide +kernel
theorem dX9_rowOf_0 : decode cX9_rowOf 0 = .ok (.iload_n 1, 1) := by decide +kernel
theorem dX9_rowOf_1 : decode cX9_rowOf 1 = .ok (.iconst 3, 1) := by decide +kernel
theorem dX9_rowOf_2 : decode cX9_rowOf 2 = .ok (.invokestatic 183, 3) := by decide +kernel
theorem dX9_rowOf_5 : decode cX9_rowOf 5 = .ok (.ifCond .eq 25, 3) := by decide +kernel
theorem dX9_rowOf_8 : decode cX9_rowOf 8 = .ok (.aload_n 0, 1) := by decide +kernel
theorem dX9_rowOf_9 : decode cX9_rowOf 9 = .ok (.invokevirtual 217, 3) := by decide +kernel
theorem dX9_rowOf_12 : decode cX9_rowOf 12 = .ok (.aload_n 0, 1) := by decide +kernel
theorem dX9_rowOf_13 : decode cX9_rowOf 13 = .ok (.getfield 14, 3) := by decide +kernel
theorem dX9_rowOf_16 : decode cX9_rowOf 16 = .ok (.getfield 199, 3) := by decide +kernel
theorem dX9_rowOf_19 : decode cX9_rowOf 19 = .ok (.iload_n 1, 1) := by decide +kernel
theorem dX9_rowOf_20 : decode cX9_rowOf 20 = .ok (.aaload, 1) := by decide +kernel
theorem dX9_rowOf_21 : decode cX9_rowOf 21 = .ok (.iconst 0, 1) := by decide +kernel
theorem dX9_rowOf_22 : decode cX9_rowOf 22 = .ok (.iaload, 1) := by decide +kernel
theorem dX9_rowOf_23 : decode cX9_rowOf 23 = .ok (.iload_n 2, 1) := by decide +kernel
theorem dX9_rowOf_24 : decode cX9_rowOf 24 = .ok (.invokevirtual 365, 3) := by decide +kernel
theorem dX9_rowOf_27 : decode cX9_rowOf 27 = .ok (.goto 4, 3) := by decide +kernel
theorem dX9_rowOf_30 : decode cX9_rowOf 30 = .ok (.iconst (-1), 1) := by decide +kernel
theorem dX9_rowOf_31 : decode cX9_rowOf 31 = .ok (.ireturn, 1) := by decide +kernel
theorem dX9_fare_0 : decode cX9_fare 0 = .ok (.aload_n 0, 1) := by decide +kernel
theorem dX9_fare_1 : decode cX9_fare 1 = .ok (.getfield 37, 3) := by decide +kernel
theorem dX9_fare_4 : decode cX9_fare 4 = .ok (.iload_n 1, 1) := by decide +kernel
theorem dX9_fare_5 : decode cX9_fare 5 = .ok (.aaload, 1) := by decide +kernel
theorem dX9_fare_6 : decode cX9_fare 6 = .ok (.getfield 246, 3) := by decide +kernel
theorem dX9_fare_9 : decode cX9_fare 9 = .ok (.astore 5, 2) := by decide +kernel
theorem dX9_fare_11 : decode cX9_fare 11 = .ok (.lconst 0, 1) := by decide +kernel
theorem dX9_fare_12 : decode cX9_fare 12 = .ok (.lstore 6, 2) := by decide +kernel
theorem dX9_fare_14 : decode cX9_fare 14 = .ok (.iconst 0, 1) := by decide +kernel
theorem dX9_fare_15 : decode cX9_fare 15 = .ok (.istore 8, 2) := by decide +kernel
theorem dX9_fare_17 : decode cX9_fare 17 = .ok (.iload 8, 2) := by decide +kernel
theorem dX9_fare_19 : decode cX9_fare 19 = .ok (.aload_n 0, 1) := by decide +kernel
theorem dX9_fare_20 : decode cX9_fare 20 = .ok (.getfield 14, 3) := by decide +kernel
theorem dX9_fare_23 : decode cX9_fare 23 = .ok (.getfield 102, 3) := by decide +kernel
theorem dX9_fare_26 : decode cX9_fare 26 = .ok (.if_icmp .ge 50, 3) := by decide +kernel
theorem dX9_fare_29 : decode cX9_fare 29 = .ok (.aload_n 0, 1) := by decide +kernel
theorem dX9_fare_30 : decode cX9_fare 30 = .ok (.getfield 28, 3) := by decide +kernel
theorem dX9_fare_33 : decode cX9_fare 33 = .ok (.iload_n 3, 1) := by decide +kernel
theorem dX9_fare_34 : decode cX9_fare 34 = .ok (.iload 8, 2) := by decide +kernel
theorem dX9_fare_36 : decode cX9_fare 36 = .ok (.invokevirtual 368, 3) := by decide +kernel
theorem dX9_fare_39 : decode cX9_fare 39 = .ok (.ifCond .eq 31, 3) := by decide +kernel
theorem dX9_fare_42 : decode cX9_fare 42 = .ok (.lload 6, 2) := by decide +kernel
theorem dX9_fare_44 : decode cX9_fare 44 = .ok (.aload_n 0, 1) := by decide +kernel
theorem dX9_fare_45 : decode cX9_fare 45 = .ok (.getfield 14, 3) := by decide +kernel
theorem dX9_fare_48 : decode cX9_fare 48 = .ok (.iload_n 1, 1) := by decide +kernel
theorem dX9_fare_49 : decode cX9_fare 49 = .ok (.iload_n 2, 1) := by decide +kernel
theorem dX9_fare_50 : decode cX9_fare 50 = .ok (.iload 8, 2) := by decide +kernel
theorem dX9_fare_52 : decode cX9_fare 52 = .ok (.iconst 1, 1) := by decide +kernel
theorem dX9_fare_53 : decode cX9_fare 53 = .ok (.aload 5, 2) := by decide +kernel
theorem dX9_fare_55 : decode cX9_fare 55 = .ok (.iload 8, 2) := by decide +kernel
theorem dX9_fare_57 : decode cX9_fare 57 = .ok (.iaload, 1) := by decide +kernel
theorem dX9_fare_58 : decode cX9_fare 58 = .ok (.iload 4, 2) := by decide +kernel
theorem dX9_fare_60 : decode cX9_fare 60 = .ok (.iadd, 1) := by decide +kernel
theorem dX9_fare_61 : decode cX9_fare 61 = .ok (.invokestatic 371, 3) := by decide +kernel
theorem dX9_fare_64 : decode cX9_fare 64 = .ok (.invokevirtual 374, 3) := by decide +kernel
theorem dX9_fare_67 : decode cX9_fare 67 = .ok (.ladd, 1) := by decide +kernel
theorem dX9_fare_68 : decode cX9_fare 68 = .ok (.lstore 6, 2) := by decide +kernel
theorem dX9_fare_70 : decode cX9_fare 70 = .ok (.iinc 8 1, 3) := by decide +kernel
theorem dX9_fare_73 : decode cX9_fare 73 = .ok (.goto (-56), 3) := by decide +kernel
theorem dX9_fare_76 : decode cX9_fare 76 = .ok (.lload 6, 2) := by decide +kernel
theorem dX9_fare_78 : decode cX9_fare 78 = .ok (.lreturn, 1) := by decide +kernel
theorem dX9_steadyWithout_0 : decode cX9_steadyWithout 0 = .ok (.aload_n 0, 1) := by decide +kernel
theorem dX9_steadyWithout_1 : decode cX9_steadyWithout 1 = .ok (.getfield 58, 3) := by decide +kernel
theorem dX9_steadyWithout_4 : decode cX9_steadyWithout 4 = .ok (.aload_n 0, 1) := by decide +kernel
theorem dX9_steadyWithout_5 : decode cX9_steadyWithout 5 = .ok (.getfield 14, 3) := by decide +kernel
theorem dX9_steadyWithout_8 : decode cX9_steadyWithout 8 = .ok (.iload_n 2, 1) := by decide +kernel
theorem dX9_steadyWithout_9 : decode cX9_steadyWithout 9 = .ok (.invokevirtual 302, 3) := by decide +kernel
theorem dX9_steadyWithout_12 : decode cX9_steadyWithout 12 = .ok (.aload_n 0, 1) := by decide +kernel
theorem dX9_steadyWithout_13 : decode cX9_steadyWithout 13 = .ok (.getfield 62, 3) := by decide +kernel
theorem dX9_steadyWithout_16 : decode cX9_steadyWithout 16 = .ok (.aload_n 0, 1) := by decide +kernel
theorem dX9_steadyWithout_17 : decode cX9_steadyWithout 17 = .ok (.getfield 14, 3) := by decide +kernel
theorem dX9_steadyWithout_20 : decode cX9_steadyWithout 20 = .ok (.aload_n 0, 1) := by decide +kernel
theorem dX9_steadyWithout_21 : decode cX9_steadyWithout 21 = .ok (.getfield 58, 3) := by decide +kernel
theorem dX9_steadyWithout_24 : decode cX9_steadyWithout 24 = .ok (.iload_n 1, 1) := by decide +kernel
theorem dX9_steadyWithout_25 : decode cX9_steadyWithout 25 = .ok (.invokevirtual 306, 3) := by decide +kernel
theorem dX9_steadyWithout_28 : decode cX9_steadyWithout 28 = .ok (.aload_n 0, 1) := by decide +kernel
theorem dX9_steadyWithout_29 : decode cX9_steadyWithout 29 = .ok (.getfield 62, 3) := by decide +kernel
theorem dX9_steadyWithout_32 : decode cX9_steadyWithout 32 = .ok (.areturn, 1) := by decide +kernel
theorem dX9_verdict_0 : decode cX9_verdict 0 = .ok (.aload_n 0, 1) := by decide +kernel
theorem dX9_verdict_1 : decode cX9_verdict 1 = .ok (.getfield 239, 3) := by decide +kernel
theorem dX9_verdict_4 : decode cX9_verdict 4 = .ok (.ifCond .eq 10, 3) := by decide +kernel
theorem dX9_verdict_7 : decode cX9_verdict 7 = .ok (.aload_n 1, 1) := by decide +kernel
theorem dX9_verdict_8 : decode cX9_verdict 8 = .ok (.getfield 239, 3) := by decide +kernel
theorem dX9_verdict_11 : decode cX9_verdict 11 = .ok (.ifCond .ne 6, 3) := by decide +kernel
theorem dX9_verdict_14 : decode cX9_verdict 14 = .ok (.bipush (-3), 2) := by decide +kernel
theorem dX9_verdict_16 : decode cX9_verdict 16 = .ok (.ireturn, 1) := by decide +kernel
theorem dX9_verdict_17 : decode cX9_verdict 17 = .ok (.aload_n 0, 1) := by decide +kernel
theorem dX9_verdict_18 : decode cX9_verdict 18 = .ok (.getfield 242, 3) := by decide +kernel
theorem dX9_verdict_21 : decode cX9_verdict 21 = .ok (.getfield 243, 3) := by decide +kernel
theorem dX9_verdict_24 : decode cX9_verdict 24 = .ok (.ifCond .ne 13, 3) := by decide +kernel
theorem dX9_verdict_27 : decode cX9_verdict 27 = .ok (.aload_n 1, 1) := by decide +kernel
theorem dX9_verdict_28 : decode cX9_verdict 28 = .ok (.getfield 242, 3) := by decide +kernel
theorem dX9_verdict_31 : decode cX9_verdict 31 = .ok (.getfield 243, 3) := by decide +kernel
theorem dX9_verdict_34 : decode cX9_verdict 34 = .ok (.ifCond .eq 6, 3) := by decide +kernel
theorem dX9_verdict_37 : decode cX9_verdict 37 = .ok (.bipush (-6), 2) := by decide +kernel
theorem dX9_verdict_39 : decode cX9_verdict 39 = .ok (.ireturn, 1) := by decide +kernel
theorem dX9_verdict_40 : decode cX9_verdict 40 = .ok (.aload_n 1, 1) := by decide +kernel
theorem dX9_verdict_41 : decode cX9_verdict 41 = .ok (.getfield 242, 3) := by decide +kernel
theorem dX9_verdict_44 : decode cX9_verdict 44 = .ok (.getfield 273, 3) := by decide +kernel
theorem dX9_verdict_47 : decode cX9_verdict 47 = .ok (.aload_n 0, 1) := by decide +kernel
theorem dX9_verdict_48 : decode cX9_verdict 48 = .ok (.getfield 242, 3) := by decide +kernel
theorem dX9_verdict_51 : decode cX9_verdict 51 = .ok (.getfield 273, 3) := by decide +kernel
theorem dX9_verdict_54 : decode cX9_verdict 54 = .ok (.lcmp, 1) := by decide +kernel
theorem dX9_verdict_55 : decode cX9_verdict 55 = .ok (.ifCond .ge 7, 3) := by decide +kernel
theorem dX9_verdict_58 : decode cX9_verdict 58 = .ok (.iconst 1, 1) := by decide +kernel
theorem dX9_verdict_59 : decode cX9_verdict 59 = .ok (.goto 4, 3) := by decide +kernel
theorem dX9_verdict_62 : decode cX9_verdict 62 = .ok (.iconst 0, 1) := by decide +kernel
theorem dX9_verdict_63 : decode cX9_verdict 63 = .ok (.ireturn, 1) := by decide +kernel
theorem dX9_difference_0 : decode cX9_difference 0 = .ok (.aload_n 0, 1) := by decide +kernel
theorem dX9_difference_1 : decode cX9_difference 1 = .ok (.invokevirtual 255, 3) := by decide +kernel
theorem dX9_difference_4 : decode cX9_difference 4 = .ok (.lstore_n 2, 1) := by decide +kernel
theorem dX9_difference_5 : decode cX9_difference 5 = .ok (.aload_n 1, 1) := by decide +kernel
theorem dX9_difference_6 : decode cX9_difference 6 = .ok (.invokevirtual 255, 3) := by decide +kernel
theorem dX9_difference_9 : decode cX9_difference 9 = .ok (.lstore 4, 2) := by decide +kernel
theorem dX9_difference_11 : decode cX9_difference 11 = .ok (.lload_n 2, 1) := by decide +kernel
theorem dX9_difference_12 : decode cX9_difference 12 = .ok (.ldc2_w 152, 3) := by decide +kernel
theorem dX9_difference_15 : decode cX9_difference 15 = .ok (.lcmp, 1) := by decide +kernel
theorem dX9_difference_16 : decode cX9_difference 16 = .ok (.ifCond .eq 12, 3) := by decide +kernel
theorem dX9_difference_19 : decode cX9_difference 19 = .ok (.lload 4, 2) := by decide +kernel
theorem dX9_difference_21 : decode cX9_difference 21 = .ok (.ldc2_w 152, 3) := by decide +kernel
theorem dX9_difference_24 : decode cX9_difference 24 = .ok (.lcmp, 1) := by decide +kernel
theorem dX9_difference_25 : decode cX9_difference 25 = .ok (.ifCond .ne 9, 3) := by decide +kernel
theorem dX9_difference_28 : decode cX9_difference 28 = .ok (.ldc2_w 152, 3) := by decide +kernel
theorem dX9_difference_31 : decode cX9_difference 31 = .ok (.goto 7, 3) := by decide +kernel
theorem dX9_difference_34 : decode cX9_difference 34 = .ok (.lload 4, 2) := by decide +kernel
theorem dX9_difference_36 : decode cX9_difference 36 = .ok (.lload_n 2, 1) := by decide +kernel
theorem dX9_difference_37 : decode cX9_difference 37 = .ok (.lsub, 1) := by decide +kernel
theorem dX9_difference_38 : decode cX9_difference 38 = .ok (.lreturn, 1) := by decide +kernel
theorem dX9_conserves_0 : decode cX9_conserves 0 = .ok (.iconst 0, 1) := by decide +kernel
theorem dX9_conserves_1 : decode cX9_conserves 1 = .ok (.istore_n 3, 1) := by decide +kernel
theorem dX9_conserves_2 : decode cX9_conserves 2 = .ok (.iload_n 3, 1) := by decide +kernel
theorem dX9_conserves_3 : decode cX9_conserves 3 = .ok (.aload_n 0, 1) := by decide +kernel
theorem dX9_conserves_4 : decode cX9_conserves 4 = .ok (.getfield 14, 3) := by decide +kernel
theorem dX9_conserves_7 : decode cX9_conserves 7 = .ok (.getfield 102, 3) := by decide +kernel
theorem dX9_conserves_10 : decode cX9_conserves 10 = .ok (.if_icmp .ge 21, 3) := by decide +kernel
theorem dX9_conserves_13 : decode cX9_conserves 13 = .ok (.aload_n 1, 1) := by decide +kernel
theorem dX9_conserves_14 : decode cX9_conserves 14 = .ok (.iload_n 2, 1) := by decide +kernel
theorem dX9_conserves_15 : decode cX9_conserves 15 = .ok (.iload_n 3, 1) := by decide +kernel
theorem dX9_conserves_16 : decode cX9_conserves 16 = .ok (.iadd, 1) := by decide +kernel
theorem dX9_conserves_17 : decode cX9_conserves 17 = .ok (.laload, 1) := by decide +kernel
theorem dX9_conserves_18 : decode cX9_conserves 18 = .ok (.lconst 0, 1) := by decide +kernel
theorem dX9_conserves_19 : decode cX9_conserves 19 = .ok (.lcmp, 1) := by decide +kernel
theorem dX9_conserves_20 : decode cX9_conserves 20 = .ok (.ifCond .ge 5, 3) := by decide +kernel
theorem dX9_conserves_23 : decode cX9_conserves 23 = .ok (.iconst 0, 1) := by decide +kernel
theorem dX9_conserves_24 : decode cX9_conserves 24 = .ok (.ireturn, 1) := by decide +kernel
theorem dX9_conserves_25 : decode cX9_conserves 25 = .ok (.iinc 3 1, 3) := by decide +kernel
theorem dX9_conserves_28 : decode cX9_conserves 28 = .ok (.goto (-26), 3) := by decide +kernel
theorem dX9_conserves_31 : decode cX9_conserves 31 = .ok (.iconst 1, 1) := by decide +kernel
theorem dX9_conserves_32 : decode cX9_conserves 32 = .ok (.istore_n 3, 1) := by decide +kernel
theorem dX9_conserves_33 : decode cX9_conserves 33 = .ok (.iload_n 3, 1) := by decide +kernel
theorem dX9_conserves_34 : decode cX9_conserves 34 = .ok (.aload_n 0, 1) := by decide +kernel
theorem dX9_conserves_35 : decode cX9_conserves 35 = .ok (.getfield 14, 3) := by decide +kernel
theorem dX9_conserves_38 : decode cX9_conserves 38 = .ok (.getfield 98, 3) := by decide +kernel
theorem dX9_conserves_41 : decode cX9_conserves 41 = .ok (.if_icmp .ge 21, 3) := by decide +kernel
theorem dX9_conserves_44 : decode cX9_conserves 44 = .ok (.aload_n 0, 1) := by decide +kernel
theorem dX9_conserves_45 : decode cX9_conserves 45 = .ok (.aload_n 1, 1) := by decide +kernel
theorem dX9_conserves_46 : decode cX9_conserves 46 = .ok (.iload_n 2, 1) := by decide +kernel
theorem dX9_conserves_47 : decode cX9_conserves 47 = .ok (.iload_n 3, 1) := by decide +kernel
theorem dX9_conserves_48 : decode cX9_conserves 48 = .ok (.invokevirtual 377, 3) := by decide +kernel
theorem dX9_conserves_51 : decode cX9_conserves 51 = .ok (.ifCond .ne 5, 3) := by decide +kernel
theorem dX9_conserves_54 : decode cX9_conserves 54 = .ok (.iconst 0, 1) := by decide +kernel
theorem dX9_conserves_55 : decode cX9_conserves 55 = .ok (.ireturn, 1) := by decide +kernel
theorem dX9_conserves_56 : decode cX9_conserves 56 = .ok (.iinc 3 1, 3) := by decide +kernel
theorem dX9_conserves_59 : decode cX9_conserves 59 = .ok (.goto (-26), 3) := by decide +kernel
theorem dX9_conserves_62 : decode cX9_conserves 62 = .ok (.iconst 1, 1) := by decide +kernel
theorem dX9_conserves_63 : decode cX9_conserves 63 = .ok (.ireturn, 1) := by decide +kernel
theorem dX9_isBalanced_0 : decode cX9_isBalanced 0 = .ok (.lconst 0, 1) := by decide +kernel
theorem dX9_isBalanced_1 : decode cX9_isBalanced 1 = .ok (.lstore 4, 2) := by decide +kernel
theorem dX9_isBalanced_3 : decode cX9_isBalanced 3 = .ok (.lconst 0, 1) := by decide +kernel
theorem dX9_isBalanced_4 : decode cX9_isBalanced 4 = .ok (.lstore 6, 2) := by decide +kernel
theorem dX9_isBalanced_6 : decode cX9_isBalanced 6 = .ok (.iconst 0, 1) := by decide +kernel
theorem dX9_isBalanced_7 : decode cX9_isBalanced 7 = .ok (.istore 8, 2) := by decide +kernel
theorem dX9_isBalanced_9 : decode cX9_isBalanced 9 = .ok (.iload 8, 2) := by decide +kernel
theorem dX9_isBalanced_11 : decode cX9_isBalanced 11 = .ok (.aload_n 0, 1) := by decide +kernel
theorem dX9_isBalanced_12 : decode cX9_isBalanced 12 = .ok (.getfield 14, 3) := by decide +kernel
theorem dX9_isBalanced_15 : decode cX9_isBalanced 15 = .ok (.getfield 102, 3) := by decide +kernel
theorem dX9_isBalanced_18 : decode cX9_isBalanced 18 = .ok (.if_icmp .ge 91, 3) := by decide +kernel
theorem dX9_isBalanced_21 : decode cX9_isBalanced 21 = .ok (.aload_n 0, 1) := by decide +kernel
theorem dX9_isBalanced_22 : decode cX9_isBalanced 22 = .ok (.getfield 14, 3) := by decide +kernel
theorem dX9_isBalanced_25 : decode cX9_isBalanced 25 = .ok (.getfield 154, 3) := by decide +kernel
theorem dX9_isBalanced_28 : decode cX9_isBalanced 28 = .ok (.iload 8, 2) := by decide +kernel
theorem dX9_isBalanced_30 : decode cX9_isBalanced 30 = .ok (.aaload, 1) := by decide +kernel
theorem dX9_isBalanced_31 : decode cX9_isBalanced 31 = .ok (.getfield 161, 3) := by decide +kernel
theorem dX9_isBalanced_34 : decode cX9_isBalanced 34 = .ok (.iload_n 3, 1) := by decide +kernel
theorem dX9_isBalanced_35 : decode cX9_isBalanced 35 = .ok (.if_icmp .ne 7, 3) := by decide +kernel
theorem dX9_isBalanced_38 : decode cX9_isBalanced 38 = .ok (.iconst 1, 1) := by decide +kernel
theorem dX9_isBalanced_39 : decode cX9_isBalanced 39 = .ok (.goto 25, 3) := by decide +kernel
theorem dX9_isBalanced_42 : decode cX9_isBalanced 42 = .ok (.aload_n 0, 1) := by decide +kernel
theorem dX9_isBalanced_43 : decode cX9_isBalanced 43 = .ok (.getfield 14, 3) := by decide +kernel
theorem dX9_isBalanced_46 : decode cX9_isBalanced 46 = .ok (.getfield 154, 3) := by decide +kernel
theorem dX9_isBalanced_49 : decode cX9_isBalanced 49 = .ok (.iload 8, 2) := by decide +kernel
theorem dX9_isBalanced_51 : decode cX9_isBalanced 51 = .ok (.aaload, 1) := by decide +kernel
theorem dX9_isBalanced_52 : decode cX9_isBalanced 52 = .ok (.getfield 158, 3) := by decide +kernel
theorem dX9_isBalanced_55 : decode cX9_isBalanced 55 = .ok (.iload_n 3, 1) := by decide +kernel
theorem dX9_isBalanced_56 : decode cX9_isBalanced 56 = .ok (.if_icmp .ne 7, 3) := by decide +kernel
theorem dX9_isBalanced_59 : decode cX9_isBalanced 59 = .ok (.iconst (-1), 1) := by decide +kernel
theorem dX9_isBalanced_60 : decode cX9_isBalanced 60 = .ok (.goto 4, 3) := by decide +kernel
theorem dX9_isBalanced_63 : decode cX9_isBalanced 63 = .ok (.iconst 0, 1) := by decide +kernel
theorem dX9_isBalanced_64 : decode cX9_isBalanced 64 = .ok (.istore 9, 2) := by decide +kernel
theorem dX9_isBalanced_66 : decode cX9_isBalanced 66 = .ok (.lload 4, 2) := by decide +kernel
theorem dX9_isBalanced_68 : decode cX9_isBalanced 68 = .ok (.iload 9, 2) := by decide +kernel
theorem dX9_isBalanced_70 : decode cX9_isBalanced 70 = .ok (.i2l, 1) := by decide +kernel
theorem dX9_isBalanced_71 : decode cX9_isBalanced 71 = .ok (.aload_n 1, 1) := by decide +kernel
theorem dX9_isBalanced_72 : decode cX9_isBalanced 72 = .ok (.iload_n 2, 1) := by decide +kernel
theorem dX9_isBalanced_73 : decode cX9_isBalanced 73 = .ok (.iload 8, 2) := by decide +kernel
theorem dX9_isBalanced_75 : decode cX9_isBalanced 75 = .ok (.iadd, 1) := by decide +kernel
theorem dX9_isBalanced_76 : decode cX9_isBalanced 76 = .ok (.laload, 1) := by decide +kernel
theorem dX9_isBalanced_77 : decode cX9_isBalanced 77 = .ok (.bipush 32, 2) := by decide +kernel
theorem dX9_isBalanced_79 : decode cX9_isBalanced 79 = .ok (.lushr, 1) := by decide +kernel
theorem dX9_isBalanced_80 : decode cX9_isBalanced 80 = .ok (.lmul, 1) := by decide +kernel
theorem dX9_isBalanced_81 : decode cX9_isBalanced 81 = .ok (.ladd, 1) := by decide +kernel
theorem dX9_isBalanced_82 : decode cX9_isBalanced 82 = .ok (.lstore 4, 2) := by decide +kernel
theorem dX9_isBalanced_84 : decode cX9_isBalanced 84 = .ok (.lload 6, 2) := by decide +kernel
theorem dX9_isBalanced_86 : decode cX9_isBalanced 86 = .ok (.iload 9, 2) := by decide +kernel
theorem dX9_isBalanced_88 : decode cX9_isBalanced 88 = .ok (.i2l, 1) := by decide +kernel
theorem dX9_isBalanced_89 : decode cX9_isBalanced 89 = .ok (.aload_n 1, 1) := by decide +kernel
theorem dX9_isBalanced_90 : decode cX9_isBalanced 90 = .ok (.iload_n 2, 1) := by decide +kernel
theorem dX9_isBalanced_91 : decode cX9_isBalanced 91 = .ok (.iload 8, 2) := by decide +kernel
theorem dX9_isBalanced_93 : decode cX9_isBalanced 93 = .ok (.iadd, 1) := by decide +kernel
theorem dX9_isBalanced_94 : decode cX9_isBalanced 94 = .ok (.laload, 1) := by decide +kernel
theorem dX9_isBalanced_95 : decode cX9_isBalanced 95 = .ok (.ldc2_w 381, 3) := by decide +kernel
theorem dX9_isBalanced_98 : decode cX9_isBalanced 98 = .ok (.land, 1) := by decide +kernel
theorem dX9_isBalanced_99 : decode cX9_isBalanced 99 = .ok (.lmul, 1) := by decide +kernel
theorem dX9_isBalanced_100 : decode cX9_isBalanced 100 = .ok (.ladd, 1) := by decide +kernel
theorem dX9_isBalanced_101 : decode cX9_isBalanced 101 = .ok (.lstore 6, 2) := by decide +kernel
theorem dX9_isBalanced_103 : decode cX9_isBalanced 103 = .ok (.iinc 8 1, 3) := by decide +kernel
theorem dX9_isBalanced_106 : decode cX9_isBalanced 106 = .ok (.goto (-97), 3) := by decide +kernel
theorem dX9_isBalanced_109 : decode cX9_isBalanced 109 = .ok (.lload 4, 2) := by decide +kernel
theorem dX9_isBalanced_111 : decode cX9_isBalanced 111 = .ok (.lload 6, 2) := by decide +kernel
theorem dX9_isBalanced_113 : decode cX9_isBalanced 113 = .ok (.bipush 32, 2) := by decide +kernel
theorem dX9_isBalanced_115 : decode cX9_isBalanced 115 = .ok (.lshr, 1) := by decide +kernel
theorem dX9_isBalanced_116 : decode cX9_isBalanced 116 = .ok (.ladd, 1) := by decide +kernel
theorem dX9_isBalanced_117 : decode cX9_isBalanced 117 = .ok (.lstore 4, 2) := by decide +kernel
theorem dX9_isBalanced_119 : decode cX9_isBalanced 119 = .ok (.lload 4, 2) := by decide +kernel
theorem dX9_isBalanced_121 : decode cX9_isBalanced 121 = .ok (.lconst 0, 1) := by decide +kernel
theorem dX9_isBalanced_122 : decode cX9_isBalanced 122 = .ok (.lcmp, 1) := by decide +kernel
theorem dX9_isBalanced_123 : decode cX9_isBalanced 123 = .ok (.ifCond .ne 26, 3) := by decide +kernel
theorem dX9_isBalanced_126 : decode cX9_isBalanced 126 = .ok (.lload 6, 2) := by decide +kernel
theorem dX9_isBalanced_128 : decode cX9_isBalanced 128 = .ok (.ldc2_w 381, 3) := by decide +kernel
theorem dX9_isBalanced_131 : decode cX9_isBalanced 131 = .ok (.land, 1) := by decide +kernel
theorem dX9_isBalanced_132 : decode cX9_isBalanced 132 = .ok (.aload_n 0, 1) := by decide +kernel
theorem dX9_isBalanced_133 : decode cX9_isBalanced 133 = .ok (.getfield 14, 3) := by decide +kernel
theorem dX9_isBalanced_136 : decode cX9_isBalanced 136 = .ok (.iload_n 3, 1) := by decide +kernel
theorem dX9_isBalanced_137 : decode cX9_isBalanced 137 = .ok (.invokevirtual 383, 3) := by decide +kernel
theorem dX9_isBalanced_140 : decode cX9_isBalanced 140 = .ok (.i2l, 1) := by decide +kernel
theorem dX9_isBalanced_141 : decode cX9_isBalanced 141 = .ok (.lcmp, 1) := by decide +kernel
theorem dX9_isBalanced_142 : decode cX9_isBalanced 142 = .ok (.ifCond .ne 7, 3) := by decide +kernel
theorem dX9_isBalanced_145 : decode cX9_isBalanced 145 = .ok (.iconst 1, 1) := by decide +kernel
theorem dX9_isBalanced_146 : decode cX9_isBalanced 146 = .ok (.goto 4, 3) := by decide +kernel
theorem dX9_isBalanced_149 : decode cX9_isBalanced 149 = .ok (.iconst 0, 1) := by decide +kernel
theorem dX9_isBalanced_150 : decode cX9_isBalanced 150 = .ok (.ireturn, 1) := by decide +kernel
theorem dX9_takeTold_0 : decode cX9_takeTold 0 = .ok (.iconst 0, 1) := by decide +kernel
theorem dX9_takeTold_1 : decode cX9_takeTold 1 = .ok (.istore_n 3, 1) := by decide +kernel
theorem dX9_takeTold_2 : decode cX9_takeTold 2 = .ok (.iload_n 3, 1) := by decide +kernel
theorem dX9_takeTold_3 : decode cX9_takeTold 3 = .ok (.aload_n 0, 1) := by decide +kernel
theorem dX9_takeTold_4 : decode cX9_takeTold 4 = .ok (.getfield 14, 3) := by decide +kernel
theorem dX9_takeTold_7 : decode cX9_takeTold 7 = .ok (.getfield 102, 3) := by decide +kernel
theorem dX9_takeTold_10 : decode cX9_takeTold 10 = .ok (.if_icmp .ge 35, 3) := by decide +kernel
theorem dX9_takeTold_13 : decode cX9_takeTold 13 = .ok (.aload_n 1, 1) := by decide +kernel
theorem dX9_takeTold_14 : decode cX9_takeTold 14 = .ok (.iload_n 2, 1) := by decide +kernel
theorem dX9_takeTold_15 : decode cX9_takeTold 15 = .ok (.iload_n 3, 1) := by decide +kernel
theorem dX9_takeTold_16 : decode cX9_takeTold 16 = .ok (.iadd, 1) := by decide +kernel
theorem dX9_takeTold_17 : decode cX9_takeTold 17 = .ok (.laload, 1) := by decide +kernel
theorem dX9_takeTold_18 : decode cX9_takeTold 18 = .ok (.ldc2_w 124, 3) := by decide +kernel
theorem dX9_takeTold_21 : decode cX9_takeTold 21 = .ok (.lcmp, 1) := by decide +kernel
theorem dX9_takeTold_22 : decode cX9_takeTold 22 = .ok (.ifCond .le 5, 3) := by decide +kernel
theorem dX9_takeTold_25 : decode cX9_takeTold 25 = .ok (.iconst 0, 1) := by decide +kernel
theorem dX9_takeTold_26 : decode cX9_takeTold 26 = .ok (.ireturn, 1) := by decide +kernel
theorem dX9_takeTold_27 : decode cX9_takeTold 27 = .ok (.aload_n 0, 1) := by decide +kernel
theorem dX9_takeTold_28 : decode cX9_takeTold 28 = .ok (.getfield 85, 3) := by decide +kernel
theorem dX9_takeTold_31 : decode cX9_takeTold 31 = .ok (.iload_n 3, 1) := by decide +kernel
theorem dX9_takeTold_32 : decode cX9_takeTold 32 = .ok (.aload_n 1, 1) := by decide +kernel
theorem dX9_takeTold_33 : decode cX9_takeTold 33 = .ok (.iload_n 2, 1) := by decide +kernel
theorem dX9_takeTold_34 : decode cX9_takeTold 34 = .ok (.iload_n 3, 1) := by decide +kernel
theorem dX9_takeTold_35 : decode cX9_takeTold 35 = .ok (.iadd, 1) := by decide +kernel
theorem dX9_takeTold_36 : decode cX9_takeTold 36 = .ok (.laload, 1) := by decide +kernel
theorem dX9_takeTold_37 : decode cX9_takeTold 37 = .ok (.l2i, 1) := by decide +kernel
theorem dX9_takeTold_38 : decode cX9_takeTold 38 = .ok (.iastore, 1) := by decide +kernel
theorem dX9_takeTold_39 : decode cX9_takeTold 39 = .ok (.iinc 3 1, 3) := by decide +kernel
theorem dX9_takeTold_42 : decode cX9_takeTold 42 = .ok (.goto (-40), 3) := by decide +kernel
theorem dX9_takeTold_45 : decode cX9_takeTold 45 = .ok (.iconst 1, 1) := by decide +kernel
theorem dX9_takeTold_46 : decode cX9_takeTold 46 = .ok (.ireturn, 1) := by decide +kernel
theorem dX9_isOneOf_0 : decode cX9_isOneOf 0 = .ok (.iload_n 0, 1) := by decide +kernel
theorem dX9_isOneOf_1 : decode cX9_isOneOf 1 = .ok (.ifCond .lt 12, 3) := by decide +kernel
theorem dX9_isOneOf_4 : decode cX9_isOneOf 4 = .ok (.iload_n 0, 1) := by decide +kernel
theorem dX9_isOneOf_5 : decode cX9_isOneOf 5 = .ok (.iload_n 1, 1) := by decide +kernel
theorem dX9_isOneOf_6 : decode cX9_isOneOf 6 = .ok (.if_icmp .ge 7, 3) := by decide +kernel
theorem dX9_isOneOf_9 : decode cX9_isOneOf 9 = .ok (.iconst 1, 1) := by decide +kernel
theorem dX9_isOneOf_10 : decode cX9_isOneOf 10 = .ok (.goto 4, 3) := by decide +kernel
theorem dX9_isOneOf_13 : decode cX9_isOneOf 13 = .ok (.iconst 0, 1) := by decide +kernel
theorem dX9_isOneOf_14 : decode cX9_isOneOf 14 = .ok (.ireturn, 1) := by decide +kernel
theorem dX9_isKind_0 : decode cX9_isKind 0 = .ok (.iload_n 0, 1) := by decide +kernel
theorem dX9_isKind_1 : decode cX9_isKind 1 = .ok (.iconst 3, 1) := by decide +kernel
theorem dX9_isKind_2 : decode cX9_isKind 2 = .ok (.invokestatic 183, 3) := by decide +kernel
theorem dX9_isKind_5 : decode cX9_isKind 5 = .ok (.ireturn, 1) := by decide +kernel
theorem dX9_isLoad_0 : decode cX9_isLoad 0 = .ok (.iload_n 0, 1) := by decide +kernel
theorem dX9_isLoad_1 : decode cX9_isLoad 1 = .ok (.iconst 1, 1) := by decide +kernel
theorem dX9_isLoad_2 : decode cX9_isLoad 2 = .ok (.if_icmp .lt 13, 3) := by decide +kernel
theorem dX9_isLoad_5 : decode cX9_isLoad 5 = .ok (.iload_n 0, 1) := by decide +kernel
theorem dX9_isLoad_6 : decode cX9_isLoad 6 = .ok (.bipush 36, 2) := by decide +kernel
theorem dX9_isLoad_8 : decode cX9_isLoad 8 = .ok (.if_icmp .gt 7, 3) := by decide +kernel
theorem dX9_isLoad_11 : decode cX9_isLoad 11 = .ok (.iconst 1, 1) := by decide +kernel
theorem dX9_isLoad_12 : decode cX9_isLoad 12 = .ok (.goto 4, 3) := by decide +kernel
theorem dX9_isLoad_15 : decode cX9_isLoad 15 = .ok (.iconst 0, 1) := by decide +kernel
theorem dX9_isLoad_16 : decode cX9_isLoad 16 = .ok (.ireturn, 1) := by decide +kernel
theorem dX9_isWithin_0 : decode cX9_isWithin 0 = .ok (.lload_n 0, 1) := by decide +kernel
theorem dX9_isWithin_1 : decode cX9_isWithin 1 = .ok (.lconst 0, 1) := by decide +kernel
theorem dX9_isWithin_2 : decode cX9_isWithin 2 = .ok (.lcmp, 1) := by decide +kernel
theorem dX9_isWithin_3 : decode cX9_isWithin 3 = .ok (.ifCond .lt 13, 3) := by decide +kernel
theorem dX9_isWithin_6 : decode cX9_isWithin 6 = .ok (.lload_n 0, 1) := by decide +kernel
theorem dX9_isWithin_7 : decode cX9_isWithin 7 = .ok (.lload_n 2, 1) := by decide +kernel
theorem dX9_isWithin_8 : decode cX9_isWithin 8 = .ok (.lcmp, 1) := by decide +kernel
theorem dX9_isWithin_9 : decode cX9_isWithin 9 = .ok (.ifCond .gt 7, 3) := by decide +kernel
theorem dX9_isWithin_12 : decode cX9_isWithin 12 = .ok (.iconst 1, 1) := by decide +kernel
theorem dX9_isWithin_13 : decode cX9_isWithin 13 = .ok (.goto 4, 3) := by decide +kernel
theorem dX9_isWithin_16 : decode cX9_isWithin 16 = .ok (.iconst 0, 1) := by decide +kernel
theorem dX9_isWithin_17 : decode cX9_isWithin 17 = .ok (.ireturn, 1) := by decide +kernel
theorem dX9_fractionPart_0 : decode cX9_fractionPart 0 = .ok (.lload_n 0, 1) := by decide +kernel
theorem dX9_fractionPart_1 : decode cX9_fractionPart 1 = .ok (.lstore 5, 2) := by decide +kernel
theorem dX9_fractionPart_3 : decode cX9_fractionPart 3 = .ok (.lload_n 2, 1) := by decide +kernel
theorem dX9_fractionPart_4 : decode cX9_fractionPart 4 = .ok (.lstore 7, 2) := by decide +kernel
theorem dX9_fractionPart_6 : decode cX9_fractionPart 6 = .ok (.iconst 0, 1) := by decide +kernel
theorem dX9_fractionPart_7 : decode cX9_fractionPart 7 = .ok (.istore 9, 2) := by decide +kernel
theorem dX9_fractionPart_9 : decode cX9_fractionPart 9 = .ok (.iload 9, 2) := by decide +kernel
theorem dX9_fractionPart_11 : decode cX9_fractionPart 11 = .ok (.sipush 128, 3) := by decide +kernel
theorem dX9_fractionPart_14 : decode cX9_fractionPart 14 = .ok (.if_icmp .ge 31, 3) := by decide +kernel
theorem dX9_fractionPart_17 : decode cX9_fractionPart 17 = .ok (.lload 7, 2) := by decide +kernel
theorem dX9_fractionPart_19 : decode cX9_fractionPart 19 = .ok (.lconst 0, 1) := by decide +kernel
theorem dX9_fractionPart_20 : decode cX9_fractionPart 20 = .ok (.lcmp, 1) := by decide +kernel
theorem dX9_fractionPart_21 : decode cX9_fractionPart 21 = .ok (.ifCond .eq 24, 3) := by decide +kernel
theorem dX9_fractionPart_24 : decode cX9_fractionPart 24 = .ok (.lload 5, 2) := by decide +kernel
theorem dX9_fractionPart_26 : decode cX9_fractionPart 26 = .ok (.lload 7, 2) := by decide +kernel
theorem dX9_fractionPart_28 : decode cX9_fractionPart 28 = .ok (.lrem, 1) := by decide +kernel
theorem dX9_fractionPart_29 : decode cX9_fractionPart 29 = .ok (.lstore 10, 2) := by decide +kernel
theorem dX9_fractionPart_31 : decode cX9_fractionPart 31 = .ok (.lload 7, 2) := by decide +kernel
theorem dX9_fractionPart_33 : decode cX9_fractionPart 33 = .ok (.lstore 5, 2) := by decide +kernel
theorem dX9_fractionPart_35 : decode cX9_fractionPart 35 = .ok (.lload 10, 2) := by decide +kernel
theorem dX9_fractionPart_37 : decode cX9_fractionPart 37 = .ok (.lstore 7, 2) := by decide +kernel
theorem dX9_fractionPart_39 : decode cX9_fractionPart 39 = .ok (.iinc 9 1, 3) := by decide +kernel
theorem dX9_fractionPart_42 : decode cX9_fractionPart 42 = .ok (.goto (-33), 3) := by decide +kernel
theorem dX9_fractionPart_45 : decode cX9_fractionPart 45 = .ok (.lload 5, 2) := by decide +kernel
theorem dX9_fractionPart_47 : decode cX9_fractionPart 47 = .ok (.lconst 0, 1) := by decide +kernel
theorem dX9_fractionPart_48 : decode cX9_fractionPart 48 = .ok (.lcmp, 1) := by decide +kernel
theorem dX9_fractionPart_49 : decode cX9_fractionPart 49 = .ok (.ifCond .ne 7, 3) := by decide +kernel
theorem dX9_fractionPart_52 : decode cX9_fractionPart 52 = .ok (.iload 4, 2) := by decide +kernel
theorem dX9_fractionPart_54 : decode cX9_fractionPart 54 = .ok (.i2l, 1) := by decide +kernel
theorem dX9_fractionPart_55 : decode cX9_fractionPart 55 = .ok (.lreturn, 1) := by decide +kernel
theorem dX9_fractionPart_56 : decode cX9_fractionPart 56 = .ok (.iload 4, 2) := by decide +kernel
theorem dX9_fractionPart_58 : decode cX9_fractionPart 58 = .ok (.ifCond .ne 10, 3) := by decide +kernel
theorem dX9_fractionPart_61 : decode cX9_fractionPart 61 = .ok (.lload_n 0, 1) := by decide +kernel
theorem dX9_fractionPart_62 : decode cX9_fractionPart 62 = .ok (.lload 5, 2) := by decide +kernel
theorem dX9_fractionPart_64 : decode cX9_fractionPart 64 = .ok (.ldiv, 1) := by decide +kernel
theorem dX9_fractionPart_65 : decode cX9_fractionPart 65 = .ok (.goto 7, 3) := by decide +kernel
theorem dX9_fractionPart_68 : decode cX9_fractionPart 68 = .ok (.lload_n 2, 1) := by decide +kernel
theorem dX9_fractionPart_69 : decode cX9_fractionPart 69 = .ok (.lload 5, 2) := by decide +kernel
theorem dX9_fractionPart_71 : decode cX9_fractionPart 71 = .ok (.ldiv, 1) := by decide +kernel
theorem dX9_fractionPart_72 : decode cX9_fractionPart 72 = .ok (.lreturn, 1) := by decide +kernel
theorem dX9_bitsOf_0 : decode cX9_bitsOf 0 = .ok (.fload_n 0, 1) := by decide +kernel
theorem dX9_bitsOf_1 : decode cX9_bitsOf 1 = .ok (.fconst 0, 1) := by decide +kernel
theorem dX9_bitsOf_2 : decode cX9_bitsOf 2 = .ok (.fcmp .g, 1) := by decide +kernel
theorem dX9_bitsOf_3 : decode cX9_bitsOf 3 = .ok (.ifCond .gt 5, 3) := by decide +kernel
theorem dX9_bitsOf_6 : decode cX9_bitsOf 6 = .ok (.iconst 0, 1) := by decide +kernel
theorem dX9_bitsOf_7 : decode cX9_bitsOf 7 = .ok (.ireturn, 1) := by decide +kernel
theorem dX9_bitsOf_8 : decode cX9_bitsOf 8 = .ok (.fload_n 0, 1) := by decide +kernel
theorem dX9_bitsOf_9 : decode cX9_bitsOf 9 = .ok (.fstore_n 1, 1) := by decide +kernel
theorem dX9_bitsOf_10 : decode cX9_bitsOf 10 = .ok (.bipush 127, 2) := by decide +kernel
theorem dX9_bitsOf_12 : decode cX9_bitsOf 12 = .ok (.istore_n 2, 1) := by decide +kernel
theorem dX9_bitsOf_13 : decode cX9_bitsOf 13 = .ok (.iconst 0, 1) := by decide +kernel
theorem dX9_bitsOf_14 : decode cX9_bitsOf 14 = .ok (.istore_n 3, 1) := by decide +kernel
theorem dX9_bitsOf_15 : decode cX9_bitsOf 15 = .ok (.iload_n 3, 1) := by decide +kernel
theorem dX9_bitsOf_16 : decode cX9_bitsOf 16 = .ok (.sipush 128, 3) := by decide +kernel
theorem dX9_bitsOf_19 : decode cX9_bitsOf 19 = .ok (.if_icmp .ge 22, 3) := by decide +kernel
theorem dX9_bitsOf_22 : decode cX9_bitsOf 22 = .ok (.fload_n 1, 1) := by decide +kernel
theorem dX9_bitsOf_23 : decode cX9_bitsOf 23 = .ok (.fconst 2, 1) := by decide +kernel
theorem dX9_bitsOf_24 : decode cX9_bitsOf 24 = .ok (.fcmp .l, 1) := by decide +kernel
theorem dX9_bitsOf_25 : decode cX9_bitsOf 25 = .ok (.ifCond .lt 16, 3) := by decide +kernel
theorem dX9_bitsOf_28 : decode cX9_bitsOf 28 = .ok (.fload_n 1, 1) := by decide +kernel
theorem dX9_bitsOf_29 : decode cX9_bitsOf 29 = .ok (.fconst 2, 1) := by decide +kernel
theorem dX9_bitsOf_30 : decode cX9_bitsOf 30 = .ok (.fdiv, 1) := by decide +kernel
theorem dX9_bitsOf_31 : decode cX9_bitsOf 31 = .ok (.fstore_n 1, 1) := by decide +kernel
theorem dX9_bitsOf_32 : decode cX9_bitsOf 32 = .ok (.iinc 2 1, 3) := by decide +kernel
theorem dX9_bitsOf_35 : decode cX9_bitsOf 35 = .ok (.iinc 3 1, 3) := by decide +kernel
theorem dX9_bitsOf_38 : decode cX9_bitsOf 38 = .ok (.goto (-23), 3) := by decide +kernel
theorem dX9_bitsOf_41 : decode cX9_bitsOf 41 = .ok (.iconst 0, 1) := by decide +kernel
theorem dX9_bitsOf_42 : decode cX9_bitsOf 42 = .ok (.istore_n 3, 1) := by decide +kernel
theorem dX9_bitsOf_43 : decode cX9_bitsOf 43 = .ok (.iload_n 3, 1) := by decide +kernel
theorem dX9_bitsOf_44 : decode cX9_bitsOf 44 = .ok (.bipush 126, 2) := by decide +kernel
theorem dX9_bitsOf_46 : decode cX9_bitsOf 46 = .ok (.if_icmp .ge 22, 3) := by decide +kernel
theorem dX9_bitsOf_49 : decode cX9_bitsOf 49 = .ok (.fload_n 1, 1) := by decide +kernel
theorem dX9_bitsOf_50 : decode cX9_bitsOf 50 = .ok (.fconst 1, 1) := by decide +kernel
theorem dX9_bitsOf_51 : decode cX9_bitsOf 51 = .ok (.fcmp .g, 1) := by decide +kernel
theorem dX9_bitsOf_52 : decode cX9_bitsOf 52 = .ok (.ifCond .ge 16, 3) := by decide +kernel
theorem dX9_bitsOf_55 : decode cX9_bitsOf 55 = .ok (.fload_n 1, 1) := by decide +kernel
theorem dX9_bitsOf_56 : decode cX9_bitsOf 56 = .ok (.fconst 2, 1) := by decide +kernel
theorem dX9_bitsOf_57 : decode cX9_bitsOf 57 = .ok (.fmul, 1) := by decide +kernel
theorem dX9_bitsOf_58 : decode cX9_bitsOf 58 = .ok (.fstore_n 1, 1) := by decide +kernel
theorem dX9_bitsOf_59 : decode cX9_bitsOf 59 = .ok (.iinc 2 (-1), 3) := by decide +kernel
theorem dX9_bitsOf_62 : decode cX9_bitsOf 62 = .ok (.iinc 3 1, 3) := by decide +kernel
theorem dX9_bitsOf_65 : decode cX9_bitsOf 65 = .ok (.goto (-22), 3) := by decide +kernel
theorem dX9_bitsOf_68 : decode cX9_bitsOf 68 = .ok (.iload_n 2, 1) := by decide +kernel
theorem dX9_bitsOf_69 : decode cX9_bitsOf 69 = .ok (.bipush 23, 2) := by decide +kernel
theorem dX9_bitsOf_71 : decode cX9_bitsOf 71 = .ok (.ishl, 1) := by decide +kernel
theorem dX9_bitsOf_72 : decode cX9_bitsOf 72 = .ok (.fload_n 1, 1) := by decide +kernel
theorem dX9_bitsOf_73 : decode cX9_bitsOf 73 = .ok (.fconst 1, 1) := by decide +kernel
theorem dX9_bitsOf_74 : decode cX9_bitsOf 74 = .ok (.fsub, 1) := by decide +kernel
theorem dX9_bitsOf_75 : decode cX9_bitsOf 75 = .ok (.ldc_w 386, 3) := by decide +kernel
theorem dX9_bitsOf_78 : decode cX9_bitsOf 78 = .ok (.fmul, 1) := by decide +kernel
theorem dX9_bitsOf_79 : decode cX9_bitsOf 79 = .ok (.f2i, 1) := by decide +kernel
theorem dX9_bitsOf_80 : decode cX9_bitsOf 80 = .ok (.ior, 1) := by decide +kernel
theorem dX9_bitsOf_81 : decode cX9_bitsOf 81 = .ok (.ireturn, 1) := by decide +kernel
theorem dX10_init_0 : decode cX10_init 0 = .ok (.aload_n 0, 1) := by decide +kernel
theorem dX10_init_1 : decode cX10_init 1 = .ok (.invokespecial 3, 3) := by decide +kernel
theorem dX10_init_4 : decode cX10_init 4 = .ok (.aload_n 0, 1) := by decide +kernel
theorem dX10_init_5 : decode cX10_init 5 = .ok (.bipush 118, 2) := by decide +kernel
theorem dX10_init_7 : decode cX10_init 7 = .ok (.newarray .long, 2) := by decide +kernel
theorem dX10_init_9 : decode cX10_init 9 = .ok (.putfield 9, 3) := by decide +kernel
theorem dX10_init_12 : decode cX10_init 12 = .ok (.aload_n 0, 1) := by decide +kernel
theorem dX10_init_13 : decode cX10_init 13 = .ok (.bipush 118, 2) := by decide +kernel
theorem dX10_init_15 : decode cX10_init 15 = .ok (.newarray .long, 2) := by decide +kernel
theorem dX10_init_17 : decode cX10_init 17 = .ok (.putfield 15, 3) := by decide +kernel
theorem dX10_init_20 : decode cX10_init 20 = .ok (.aload_n 0, 1) := by decide +kernel
theorem dX10_init_21 : decode cX10_init 21 = .ok (.bipush 118, 2) := by decide +kernel
theorem dX10_init_23 : decode cX10_init 23 = .ok (.newarray .long, 2) := by decide +kernel
theorem dX10_init_25 : decode cX10_init 25 = .ok (.putfield 18, 3) := by decide +kernel
theorem dX10_init_28 : decode cX10_init 28 = .ok (.aload_n 0, 1) := by decide +kernel
theorem dX10_init_29 : decode cX10_init 29 = .ok (.bipush 100, 2) := by decide +kernel
theorem dX10_init_31 : decode cX10_init 31 = .ok (.newarray .int, 2) := by decide +kernel
theorem dX10_init_33 : decode cX10_init 33 = .ok (.putfield 21, 3) := by decide +kernel
theorem dX10_init_36 : decode cX10_init 36 = .ok (.aload_n 0, 1) := by decide +kernel
theorem dX10_init_37 : decode cX10_init 37 = .ok (.bipush 91, 2) := by decide +kernel
theorem dX10_init_39 : decode cX10_init 39 = .ok (.newarray .int, 2) := by decide +kernel
theorem dX10_init_41 : decode cX10_init 41 = .ok (.putfield 25, 3) := by decide +kernel
theorem dX10_init_44 : decode cX10_init 44 = .ok (.aload_n 0, 1) := by decide +kernel
theorem dX10_init_45 : decode cX10_init 45 = .ok (.iconst 3, 1) := by decide +kernel
theorem dX10_init_46 : decode cX10_init 46 = .ok (.newarray .int, 2) := by decide +kernel
theorem dX10_init_48 : decode cX10_init 48 = .ok (.putfield 28, 3) := by decide +kernel
theorem dX10_init_51 : decode cX10_init 51 = .ok (.aload_n 0, 1) := by decide +kernel
theorem dX10_init_52 : decode cX10_init 52 = .ok (.sipush 768, 3) := by decide +kernel
theorem dX10_init_55 : decode cX10_init 55 = .ok (.newarray .int, 2) := by decide +kernel
theorem dX10_init_57 : decode cX10_init 57 = .ok (.putfield 31, 3) := by decide +kernel
theorem dX10_init_60 : decode cX10_init 60 = .ok (.aload_n 0, 1) := by decide +kernel
theorem dX10_init_61 : decode cX10_init 61 = .ok (.sipush 3840, 3) := by decide +kernel
theorem dX10_init_64 : decode cX10_init 64 = .ok (.newarray .int, 2) := by decide +kernel
theorem dX10_init_66 : decode cX10_init 66 = .ok (.putfield 34, 3) := by decide +kernel
theorem dX10_init_69 : decode cX10_init 69 = .ok (.aload_n 0, 1) := by decide +kernel
theorem dX10_init_70 : decode cX10_init 70 = .ok (.sipush 2560, 3) := by decide +kernel
theorem dX10_init_73 : decode cX10_init 73 = .ok (.newarray .int, 2) := by decide +kernel
theorem dX10_init_75 : decode cX10_init 75 = .ok (.putfield 37, 3) := by decide +kernel
theorem dX10_init_78 : decode cX10_init 78 = .ok (.aload_n 0, 1) := by decide +kernel
theorem dX10_init_79 : decode cX10_init 79 = .ok (.sipush 512, 3) := by decide +kernel
theorem dX10_init_82 : decode cX10_init 82 = .ok (.newarray .int, 2) := by decide +kernel
theorem dX10_init_84 : decode cX10_init 84 = .ok (.putfield 40, 3) := by decide +kernel
theorem dX10_init_87 : decode cX10_init 87 = .ok (.aload_n 0, 1) := by decide +kernel
theorem dX10_init_88 : decode cX10_init 88 = .ok (.sipush 512, 3) := by decide +kernel
theorem dX10_init_91 : decode cX10_init 91 = .ok (.newarray .int, 2) := by decide +kernel
theorem dX10_init_93 : decode cX10_init 93 = .ok (.putfield 43, 3) := by decide +kernel
theorem dX10_init_96 : decode cX10_init 96 = .ok (.aload_n 0, 1) := by decide +kernel
theorem dX10_init_97 : decode cX10_init 97 = .ok (.bipush 13, 2) := by decide +kernel
theorem dX10_init_99 : decode cX10_init 99 = .ok (.newarray .int, 2) := by decide +kernel
theorem dX10_init_101 : decode cX10_init 101 = .ok (.putfield 46, 3) := by decide +kernel
theorem dX10_init_104 : decode cX10_init 104 = .ok (.aload_n 0, 1) := by decide +kernel
theorem dX10_init_105 : decode cX10_init 105 = .ok (.sipush 768, 3) := by decide +kernel
theorem dX10_init_108 : decode cX10_init 108 = .ok (.newarray .int, 2) := by decide +kernel
theorem dX10_init_110 : decode cX10_init 110 = .ok (.putfield 49, 3) := by decide +kernel
theorem dX10_init_113 : decode cX10_init 113 = .ok (.aload_n 0, 1) := by decide +kernel
theorem dX10_init_114 : decode cX10_init 114 = .ok (.bipush 13, 2) := by decide +kernel
theorem dX10_init_116 : decode cX10_init 116 = .ok (.newarray .int, 2) := by decide +kernel
theorem dX10_init_118 : decode cX10_init 118 = .ok (.putfield 52, 3) := by decide +kernel
theorem dX10_init_121 : decode cX10_init 121 = .ok (.aload_n 0, 1) := by decide +kernel
theorem dX10_init_122 : decode cX10_init 122 = .ok (.bipush 6, 2) := by decide +kernel
theorem dX10_init_124 : decode cX10_init 124 = .ok (.newarray .int, 2) := by decide +kernel
theorem dX10_init_126 : decode cX10_init 126 = .ok (.putfield 55, 3) := by decide +kernel
theorem dX10_init_129 : decode cX10_init 129 = .ok (.aload_n 0, 1) := by decide +kernel
theorem dX10_init_130 : decode cX10_init 130 = .ok (.bipush 6, 2) := by decide +kernel
theorem dX10_init_132 : decode cX10_init 132 = .ok (.newarray .long, 2) := by decide +kernel
theorem dX10_init_134 : decode cX10_init 134 = .ok (.putfield 58, 3) := by decide +kernel
theorem dX10_init_137 : decode cX10_init 137 = .ok (.aload_n 0, 1) := by decide +kernel
theorem dX10_init_138 : decode cX10_init 138 = .ok (.bipush 6, 2) := by decide +kernel
theorem dX10_init_140 : decode cX10_init 140 = .ok (.newarray .int, 2) := by decide +kernel
theorem dX10_init_142 : decode cX10_init 142 = .ok (.putfield 61, 3) := by decide +kernel
theorem dX10_init_145 : decode cX10_init 145 = .ok (.aload_n 0, 1) := by decide +kernel
theorem dX10_init_146 : decode cX10_init 146 = .ok (.iconst 4, 1) := by decide +kernel
theorem dX10_init_147 : decode cX10_init 147 = .ok (.newarray .int, 2) := by decide +kernel
theorem dX10_init_149 : decode cX10_init 149 = .ok (.dup, 1) := by decide +kernel
theorem dX10_init_150 : decode cX10_init 150 = .ok (.iconst 0, 1) := by decide +kernel
theorem dX10_init_151 : decode cX10_init 151 = .ok (.iconst (-1), 1) := by decide +kernel
theorem dX10_init_152 : decode cX10_init 152 = .ok (.iastore, 1) := by decide +kernel
theorem dX10_init_153 : decode cX10_init 153 = .ok (.dup, 1) := by decide +kernel
theorem dX10_init_154 : decode cX10_init 154 = .ok (.iconst 1, 1) := by decide +kernel
theorem dX10_init_155 : decode cX10_init 155 = .ok (.iconst (-1), 1) := by decide +kernel
theorem dX10_init_156 : decode cX10_init 156 = .ok (.iastore, 1) := by decide +kernel
theorem dX10_init_157 : decode cX10_init 157 = .ok (.dup, 1) := by decide +kernel
theorem dX10_init_158 : decode cX10_init 158 = .ok (.iconst 2, 1) := by decide +kernel
theorem dX10_init_159 : decode cX10_init 159 = .ok (.iconst (-1), 1) := by decide +kernel
theorem dX10_init_160 : decode cX10_init 160 = .ok (.iastore, 1) := by decide +kernel
theorem dX10_init_161 : decode cX10_init 161 = .ok (.dup, 1) := by decide +kernel
theorem dX10_init_162 : decode cX10_init 162 = .ok (.iconst 3, 1) := by decide +kernel
theorem dX10_init_163 : decode cX10_init 163 = .ok (.iconst (-1), 1) := by decide +kernel
theorem dX10_init_164 : decode cX10_init 164 = .ok (.iastore, 1) := by decide +kernel
theorem dX10_init_165 : decode cX10_init 165 = .ok (.putfield 64, 3) := by decide +kernel
theorem dX10_init_168 : decode cX10_init 168 = .ok (.aload_n 0, 1) := by decide +kernel
theorem dX10_init_169 : decode cX10_init 169 = .ok (.bipush 96, 2) := by decide +kernel
theorem dX10_init_171 : decode cX10_init 171 = .ok (.newarray .long, 2) := by decide +kernel
theorem dX10_init_173 : decode cX10_init 173 = .ok (.putfield 67, 3) := by decide +kernel
theorem dX10_init_176 : decode cX10_init 176 = .ok (.aload_n 0, 1) := by decide +kernel
theorem dX10_init_177 : decode cX10_init 177 = .ok (.iconst 3, 1) := by decide +kernel
theorem dX10_init_178 : decode cX10_init 178 = .ok (.newarray .int, 2) := by decide +kernel
theorem dX10_init_180 : decode cX10_init 180 = .ok (.dup, 1) := by decide +kernel
theorem dX10_init_181 : decode cX10_init 181 = .ok (.iconst 0, 1) := by decide +kernel
theorem dX10_init_182 : decode cX10_init 182 = .ok (.iconst (-1), 1) := by decide +kernel
theorem dX10_init_183 : decode cX10_init 183 = .ok (.iastore, 1) := by decide +kernel
theorem dX10_init_184 : decode cX10_init 184 = .ok (.dup, 1) := by decide +kernel
theorem dX10_init_185 : decode cX10_init 185 = .ok (.iconst 1, 1) := by decide +kernel
theorem dX10_init_186 : decode cX10_init 186 = .ok (.iconst (-1), 1) := by decide +kernel
theorem dX10_init_187 : decode cX10_init 187 = .ok (.iastore, 1) := by decide +kernel
theorem dX10_init_188 : decode cX10_init 188 = .ok (.dup, 1) := by decide +kernel
theorem dX10_init_189 : decode cX10_init 189 = .ok (.iconst 2, 1) := by decide +kernel
theorem dX10_init_190 : decode cX10_init 190 = .ok (.iconst (-1), 1) := by decide +kernel
theorem dX10_init_191 : decode cX10_init 191 = .ok (.iastore, 1) := by decide +kernel
theorem dX10_init_192 : decode cX10_init 192 = .ok (.putfield 70, 3) := by decide +kernel
theorem dX10_init_195 : decode cX10_init 195 = .ok (.aload_n 0, 1) := by decide +kernel
theorem dX10_init_196 : decode cX10_init 196 = .ok (.iconst 3, 1) := by decide +kernel
theorem dX10_init_197 : decode cX10_init 197 = .ok (.newarray .int, 2) := by decide +kernel
theorem dX10_init_199 : decode cX10_init 199 = .ok (.putfield 73, 3) := by decide +kernel
theorem dX10_init_202 : decode cX10_init 202 = .ok (.aload_n 0, 1) := by decide +kernel
theorem dX10_init_203 : decode cX10_init 203 = .ok (.bipush 60, 2) := by decide +kernel
theorem dX10_init_205 : decode cX10_init 205 = .ok (.newarray .boolean, 2) := by decide +kernel
theorem dX10_init_207 : decode cX10_init 207 = .ok (.putfield 76, 3) := by decide +kernel
theorem dX10_init_210 : decode cX10_init 210 = .ok (.aload_n 0, 1) := by decide +kernel
theorem dX10_init_211 : decode cX10_init 211 = .ok (.sipush 300, 3) := by decide +kernel
theorem dX10_init_214 : decode cX10_init 214 = .ok (.newarray .long, 2) := by decide +kernel
theorem dX10_init_216 : decode cX10_init 216 = .ok (.putfield 80, 3) := by decide +kernel
theorem dX10_init_219 : decode cX10_init 219 = .ok (.aload_n 0, 1) := by decide +kernel
theorem dX10_init_220 : decode cX10_init 220 = .ok (.getfield 9, 3) := by decide +kernel
theorem dX10_init_223 : decode cX10_init 223 = .ok (.iconst 0, 1) := by decide +kernel
theorem dX10_init_224 : decode cX10_init 224 = .ok (.ldc2_w 83, 3) := by decide +kernel
theorem dX10_init_227 : decode cX10_init 227 = .ok (.lastore, 1) := by decide +kernel
theorem dX10_init_228 : decode cX10_init 228 = .ok (.iconst 0, 1) := by decide +kernel
theorem dX10_init_229 : decode cX10_init 229 = .ok (.istore_n 1, 1) := by decide +kernel
theorem dX10_init_230 : decode cX10_init 230 = .ok (.iload_n 1, 1) := by decide +kernel
theorem dX10_init_231 : decode cX10_init 231 = .ok (.iconst 3, 1) := by decide +kernel
theorem dX10_init_232 : decode cX10_init 232 = .ok (.if_icmp .ge 49, 3) := by decide +kernel
theorem dX10_init_235 : decode cX10_init 235 = .ok (.aload_n 0, 1) := by decide +kernel
theorem dX10_init_236 : decode cX10_init 236 = .ok (.getfield 9, 3) := by decide +kernel
theorem dX10_init_239 : decode cX10_init 239 = .ok (.bipush 106, 2) := by decide +kernel
theorem dX10_init_241 : decode cX10_init 241 = .ok (.iconst 4, 1) := by decide +kernel
theorem dX10_init_242 : decode cX10_init 242 = .ok (.iload_n 1, 1) := by decide +kernel
theorem dX10_init_243 : decode cX10_init 243 = .ok (.imul, 1) := by decide +kernel
theorem dX10_init_244 : decode cX10_init 244 = .ok (.iadd, 1) := by decide +kernel
theorem dX10_init_245 : decode cX10_init 245 = .ok (.lconst 1, 1) := by decide +kernel
theorem dX10_init_246 : decode cX10_init 246 = .ok (.lastore, 1) := by decide +kernel
theorem dX10_init_247 : decode cX10_init 247 = .ok (.aload_n 0, 1) := by decide +kernel
theorem dX10_init_248 : decode cX10_init 248 = .ok (.getfield 9, 3) := by decide +kernel
theorem dX10_init_251 : decode cX10_init 251 = .ok (.bipush 106, 2) := by decide +kernel
theorem dX10_init_253 : decode cX10_init 253 = .ok (.iconst 4, 1) := by decide +kernel
theorem dX10_init_254 : decode cX10_init 254 = .ok (.iload_n 1, 1) := by decide +kernel
theorem dX10_init_255 : decode cX10_init 255 = .ok (.imul, 1) := by decide +kernel
theorem dX10_init_256 : decode cX10_init 256 = .ok (.iadd, 1) := by decide +kernel
theorem dX10_init_257 : decode cX10_init 257 = .ok (.iconst 2, 1) := by decide +kernel
theorem dX10_init_258 : decode cX10_init 258 = .ok (.iadd, 1) := by decide +kernel
theorem dX10_init_259 : decode cX10_init 259 = .ok (.lconst 1, 1) := by decide +kernel
theorem dX10_init_260 : decode cX10_init 260 = .ok (.lastore, 1) := by decide +kernel
theorem dX10_init_261 : decode cX10_init 261 = .ok (.aload_n 0, 1) := by decide +kernel
theorem dX10_init_262 : decode cX10_init 262 = .ok (.getfield 9, 3) := by decide +kernel
theorem dX10_init_265 : decode cX10_init 265 = .ok (.bipush 106, 2) := by decide +kernel
theorem dX10_init_267 : decode cX10_init 267 = .ok (.iconst 4, 1) := by decide +kernel
theorem dX10_init_268 : decode cX10_init 268 = .ok (.iload_n 1, 1) := by decide +kernel
theorem dX10_init_269 : decode cX10_init 269 = .ok (.imul, 1) := by decide +kernel
theorem dX10_init_270 : decode cX10_init 270 = .ok (.iadd, 1) := by decide +kernel
theorem dX10_init_271 : decode cX10_init 271 = .ok (.iconst 3, 1) := by decide +kernel
theorem dX10_init_272 : decode cX10_init 272 = .ok (.iadd, 1) := by decide +kernel
theorem dX10_init_273 : decode cX10_init 273 = .ok (.lconst 1, 1) := by decide +kernel
theorem dX10_init_274 : decode cX10_init 274 = .ok (.lastore, 1) := by decide +kernel
theorem dX10_init_275 : decode cX10_init 275 = .ok (.iinc 1 1, 3) := by decide +kernel
theorem dX10_init_278 : decode cX10_init 278 = .ok (.goto (-48), 3) := by decide +kernel
theorem dX10_init_281 : decode cX10_init 281 = .ok (.return_, 1) := by decide +kernel
theorem dX10_in_0 : decode cX10_in 0 = .ok (.lload_n 0, 1) := by decide +kernel
theorem dX10_in_1 : decode cX10_in 1 = .ok (.lload_n 2, 1) := by decide +kernel
theorem dX10_in_2 : decode cX10_in 2 = .ok (.lcmp, 1) := by decide +kernel
theorem dX10_in_3 : decode cX10_in 3 = .ok (.ifCond .lt 14, 3) := by decide +kernel
theorem dX10_in_6 : decode cX10_in 6 = .ok (.lload_n 0, 1) := by decide +kernel
theorem dX10_in_7 : decode cX10_in 7 = .ok (.lload 4, 2) := by decide +kernel
theorem dX10_in_9 : decode cX10_in 9 = .ok (.lcmp, 1) := by decide +kernel
theorem dX10_in_10 : decode cX10_in 10 = .ok (.ifCond .gt 7, 3) := by decide +kernel
theorem dX10_in_13 : decode cX10_in 13 = .ok (.iconst 1, 1) := by decide +kernel
theorem dX10_in_14 : decode cX10_in 14 = .ok (.goto 4, 3) := by decide +kernel
theorem dX10_in_17 : decode cX10_in 17 = .ok (.iconst 0, 1) := by decide +kernel
theorem dX10_in_18 : decode cX10_in 18 = .ok (.ireturn, 1) := by decide +kernel
theorem dX10_copies_0 : decode cX10_copies 0 = .ok (.iconst 0, 1) := by decide +kernel
theorem dX10_copies_1 : decode cX10_copies 1 = .ok (.istore_n 2, 1) := by decide +kernel
theorem dX10_copies_2 : decode cX10_copies 2 = .ok (.iload_n 2, 1) := by decide +kernel
theorem dX10_copies_3 : decode cX10_copies 3 = .ok (.bipush 118, 2) := by decide +kernel
theorem dX10_copies_5 : decode cX10_copies 5 = .ok (.if_icmp .ge 15, 3) := by decide +kernel
theorem dX10_copies_8 : decode cX10_copies 8 = .ok (.aload_n 1, 1) := by decide +kernel
theorem dX10_copies_9 : decode cX10_copies 9 = .ok (.iload_n 2, 1) := by decide +kernel
theorem dX10_copies_10 : decode cX10_copies 10 = .ok (.aload_n 0, 1) := by decide +kernel
theorem dX10_copies_11 : decode cX10_copies 11 = .ok (.iload_n 2, 1) := by decide +kernel
theorem dX10_copies_12 : decode cX10_copies 12 = .ok (.laload, 1) := by decide +kernel
theorem dX10_copies_13 : decode cX10_copies 13 = .ok (.lastore, 1) := by decide +kernel
theorem dX10_copies_14 : decode cX10_copies 14 = .ok (.iinc 2 1, 3) := by decide +kernel
theorem dX10_copies_17 : decode cX10_copies 17 = .ok (.goto (-15), 3) := by decide +kernel
theorem dX10_copies_20 : decode cX10_copies 20 = .ok (.return_, 1) := by decide +kernel
theorem dX10_roadMany_0 : decode cX10_roadMany 0 = .ok (.aload_n 0, 1) := by decide +kernel
theorem dX10_roadMany_1 : decode cX10_roadMany 1 = .ok (.getfield 9, 3) := by decide +kernel
theorem dX10_roadMany_4 : decode cX10_roadMany 4 = .ok (.iconst 1, 1) := by decide +kernel
theorem dX10_roadMany_5 : decode cX10_roadMany 5 = .ok (.laload, 1) := by decide +kernel
theorem dX10_roadMany_6 : decode cX10_roadMany 6 = .ok (.l2i, 1) := by decide +kernel
theorem dX10_roadMany_7 : decode cX10_roadMany 7 = .ok (.ireturn, 1) := by decide +kernel
theorem dX10_isRoad_0 : decode cX10_isRoad 0 = .ok (.iload_n 1, 1) := by decide +kernel
theorem dX10_isRoad_1 : decode cX10_isRoad 1 = .ok (.i2l, 1) := by decide +kernel
theorem dX10_isRoad_2 : decode cX10_isRoad 2 = .ok (.lconst 0, 1) := by decide +kernel
theorem dX10_isRoad_3 : decode cX10_isRoad 3 = .ok (.aload_n 0, 1) := by decide +kernel
theorem dX10_isRoad_4 : decode cX10_isRoad 4 = .ok (.invokevirtual 85, 3) := by decide +kernel
theorem dX10_isRoad_7 : decode cX10_isRoad 7 = .ok (.iconst 1, 1) := by decide +kernel
theorem dX10_isRoad_8 : decode cX10_isRoad 8 = .ok (.isub, 1) := by decide +kernel
theorem dX10_isRoad_9 : decode cX10_isRoad 9 = .ok (.i2l, 1) := by decide +kernel
theorem dX10_isRoad_10 : decode cX10_isRoad 10 = .ok (.invokestatic 89, 3) := by decide +kernel
theorem dX10_isRoad_13 : decode cX10_isRoad 13 = .ok (.ireturn, 1) := by decide +kernel
theorem dX10_isTown_0 : decode cX10_isTown 0 = .ok (.iload_n 1, 1) := by decide +kernel
theorem dX10_isTown_1 : decode cX10_isTown 1 = .ok (.i2l, 1) := by decide +kernel
theorem dX10_isTown_2 : decode cX10_isTown 2 = .ok (.lconst 0, 1) := by decide +kernel
theorem dX10_isTown_3 : decode cX10_isTown 3 = .ok (.aload_n 0, 1) := by decide +kernel
theorem dX10_isTown_4 : decode cX10_isTown 4 = .ok (.getfield 9, 3) := by decide +kernel
theorem dX10_isTown_7 : decode cX10_isTown 7 = .ok (.iconst 0, 1) := by decide +kernel
theorem dX10_isTown_8 : decode cX10_isTown 8 = .ok (.laload, 1) := by decide +kernel
theorem dX10_isTown_9 : decode cX10_isTown 9 = .ok (.lconst 1, 1) := by decide +kernel
theorem dX10_isTown_10 : decode cX10_isTown 10 = .ok (.lsub, 1) := by decide +kernel
theorem dX10_isTown_11 : decode cX10_isTown 11 = .ok (.invokestatic 89, 3) := by decide +kernel
theorem dX10_isTown_14 : decode cX10_isTown 14 = .ok (.ireturn, 1) := by decide +kernel
theorem dX10_isMode_0 : decode cX10_isMode 0 = .ok (.iload_n 0, 1) := by decide +kernel
theorem dX10_isMode_1 : decode cX10_isMode 1 = .ok (.i2l, 1) := by decide +kernel
theorem dX10_isMode_2 : decode cX10_isMode 2 = .ok (.lconst 0, 1) := by decide +kernel
theorem dX10_isMode_3 : decode cX10_isMode 3 = .ok (.ldc2_w 83, 3) := by decide +kernel
theorem dX10_isMode_6 : decode cX10_isMode 6 = .ok (.invokestatic 89, 3) := by decide +kernel
theorem dX10_isMode_9 : decode cX10_isMode 9 = .ok (.ireturn, 1) := by decide +kernel
theorem dX10_isClass_0 : decode cX10_isClass 0 = .ok (.iload_n 0, 1) := by decide +kernel
theorem dX10_isClass_1 : decode cX10_isClass 1 = .ok (.i2l, 1) := by decide +kernel
theorem dX10_isClass_2 : decode cX10_isClass 2 = .ok (.lconst 0, 1) := by decide +kernel
theorem dX10_isClass_3 : decode cX10_isClass 3 = .ok (.ldc2_w 83, 3) := by decide +kernel
theorem dX10_isClass_6 : decode cX10_isClass 6 = .ok (.invokestatic 89, 3) := by decide +kernel
theorem dX10_isClass_9 : decode cX10_isClass 9 = .ok (.ireturn, 1) := by decide +kernel
theorem dX10_ofRoad_0 : decode cX10_ofRoad 0 = .ok (.aload_n 0, 1) := by decide +kernel
theorem dX10_ofRoad_1 : decode cX10_ofRoad 1 = .ok (.getfield 9, 3) := by decide +kernel
theorem dX10_ofRoad_4 : decode cX10_ofRoad 4 = .ok (.iconst 2, 1) := by decide +kernel
theorem dX10_ofRoad_5 : decode cX10_ofRoad 5 = .ok (.bipush 8, 2) := by decide +kernel
theorem dX10_ofRoad_7 : decode cX10_ofRoad 7 = .ok (.iload_n 1, 1) := by decide +kernel
theorem dX10_ofRoad_8 : decode cX10_ofRoad 8 = .ok (.imul, 1) := by decide +kernel
theorem dX10_ofRoad_9 : decode cX10_ofRoad 9 = .ok (.iadd, 1) := by decide +kernel
theorem dX10_ofRoad_10 : decode cX10_ofRoad 10 = .ok (.iload_n 2, 1) := by decide +kernel
theorem dX10_ofRoad_11 : decode cX10_ofRoad 11 = .ok (.iadd, 1) := by decide +kernel
theorem dX10_ofRoad_12 : decode cX10_ofRoad 12 = .ok (.laload, 1) := by decide +kernel
theorem dX10_ofRoad_13 : decode cX10_ofRoad 13 = .ok (.lreturn, 1) := by decide +kernel
theorem dX10_ofClass_0 : decode cX10_ofClass 0 = .ok (.aload_n 0, 1) := by decide +kernel
theorem dX10_ofClass_1 : decode cX10_ofClass 1 = .ok (.getfield 9, 3) := by decide +kernel
theorem dX10_ofClass_4 : decode cX10_ofClass 4 = .ok (.bipush 106, 2) := by decide +kernel
theorem dX10_ofClass_6 : decode cX10_ofClass 6 = .ok (.iconst 4, 1) := by decide +kernel
theorem dX10_ofClass_7 : decode cX10_ofClass 7 = .ok (.iload_n 1, 1) := by decide +kernel
theorem dX10_ofClass_8 : decode cX10_ofClass 8 = .ok (.imul, 1) := by decide +kernel
theorem dX10_ofClass_9 : decode cX10_ofClass 9 = .ok (.iadd, 1) := by decide +kernel
theorem dX10_ofClass_10 : decode cX10_ofClass 10 = .ok (.iload_n 2, 1) := by decide +kernel
theorem dX10_ofClass_11 : decode cX10_ofClass 11 = .ok (.iadd, 1) := by decide +kernel
theorem dX10_ofClass_12 : decode cX10_ofClass 12 = .ok (.laload, 1) := by decide +kernel
theorem dX10_ofClass_13 : decode cX10_ofClass 13 = .ok (.lreturn, 1) := by decide +kernel
theorem dX10_towns_0 : decode cX10_towns 0 = .ok (.iload_n 1, 1) := by decide +kernel
theorem dX10_towns_1 : decode cX10_towns 1 = .ok (.i2l, 1) := by decide +kernel
theorem dX10_towns_2 : decode cX10_towns 2 = .ok (.ldc2_w 83, 3) := by decide +kernel
theorem dX10_towns_5 : decode cX10_towns 5 = .ok (.ldc2_w 93, 3) := by decide +kernel
theorem dX10_towns_8 : decode cX10_towns 8 = .ok (.invokestatic 89, 3) := by decide +kernel
theorem dX10_towns_11 : decode cX10_towns 11 = .ok (.ifCond .ne 6, 3) := by decide +kernel
theorem dX10_towns_14 : decode cX10_towns 14 = .ok (.bipush (-2), 2) := by decide +kernel
theorem dX10_towns_16 : decode cX10_towns 16 = .ok (.ireturn, 1) := by decide +kernel
theorem dX10_towns_17 : decode cX10_towns 17 = .ok (.aload_n 0, 1) := by decide +kernel
theorem dX10_towns_18 : decode cX10_towns 18 = .ok (.getfield 9, 3) := by decide +kernel
theorem dX10_towns_21 : decode cX10_towns 21 = .ok (.iconst 0, 1) := by decide +kernel
theorem dX10_towns_22 : decode cX10_towns 22 = .ok (.laload, 1) := by decide +kernel
theorem dX10_towns_23 : decode cX10_towns 23 = .ok (.l2i, 1) := by decide +kernel
theorem dX10_towns_24 : decode cX10_towns 24 = .ok (.istore_n 2, 1) := by decide +kernel
theorem dX10_towns_25 : decode cX10_towns 25 = .ok (.aload_n 0, 1) := by decide +kernel
theorem dX10_towns_26 : decode cX10_towns 26 = .ok (.getfield 9, 3) := by decide +kernel
theorem dX10_towns_29 : decode cX10_towns 29 = .ok (.iconst 0, 1) := by decide +kernel
theorem dX10_towns_30 : decode cX10_towns 30 = .ok (.iload_n 1, 1) := by decide +kernel
theorem dX10_towns_31 : decode cX10_towns 31 = .ok (.i2l, 1) := by decide +kernel
theorem dX10_towns_32 : decode cX10_towns 32 = .ok (.lastore, 1) := by decide +kernel
theorem dX10_towns_33 : decode cX10_towns 33 = .ok (.aload_n 0, 1) := by decide +kernel
theorem dX10_towns_34 : decode cX10_towns 34 = .ok (.getfield 9, 3) := by decide +kernel
theorem dX10_towns_37 : decode cX10_towns 37 = .ok (.iconst 1, 1) := by decide +kernel
theorem dX10_towns_38 : decode cX10_towns 38 = .ok (.lconst 0, 1) := by decide +kernel
theorem dX10_towns_39 : decode cX10_towns 39 = .ok (.lastore, 1) := by decide +kernel
theorem dX10_towns_40 : decode cX10_towns 40 = .ok (.iload_n 2, 1) := by decide +kernel
theorem dX10_towns_41 : decode cX10_towns 41 = .ok (.ireturn, 1) := by decide +kernel
theorem dX10_puts_0 : decode cX10_puts 0 = .ok (.iconst 2, 1) := by decide +kernel
theorem dX10_puts_1 : decode cX10_puts 1 = .ok (.bipush 8, 2) := by decide +kernel
theorem dX10_puts_3 : decode cX10_puts 3 = .ok (.aload_n 0, 1) := by decide +kernel
theorem dX10_puts_4 : decode cX10_puts 4 = .ok (.invokevirtual 85, 3) := by decide +kernel
theorem dX10_puts_7 : decode cX10_puts 7 = .ok (.imul, 1) := by decide +kernel
theorem dX10_puts_8 : decode cX10_puts 8 = .ok (.iadd, 1) := by decide +kernel
theorem dX10_puts_9 : decode cX10_puts 9 = .ok (.istore 11, 2) := by decide +kernel
theorem dX10_puts_11 : decode cX10_puts 11 = .ok (.aload_n 0, 1) := by decide +kernel
theorem dX10_puts_12 : decode cX10_puts 12 = .ok (.getfield 9, 3) := by decide +kernel
theorem dX10_puts_15 : decode cX10_puts 15 = .ok (.iload 11, 2) := by decide +kernel
theorem dX10_puts_17 : decode cX10_puts 17 = .ok (.iload_n 1, 1) := by decide +kernel
theorem dX10_puts_18 : decode cX10_puts 18 = .ok (.i2l, 1) := by decide +kernel
theorem dX10_puts_19 : decode cX10_puts 19 = .ok (.lastore, 1) := by decide +kernel
theorem dX10_puts_20 : decode cX10_puts 20 = .ok (.aload_n 0, 1) := by decide +kernel
theorem dX10_puts_21 : decode cX10_puts 21 = .ok (.getfield 9, 3) := by decide +kernel
theorem dX10_puts_24 : decode cX10_puts 24 = .ok (.iload 11, 2) := by decide +kernel
theorem dX10_puts_26 : decode cX10_puts 26 = .ok (.iconst 1, 1) := by decide +kernel
theorem dX10_puts_27 : decode cX10_puts 27 = .ok (.iadd, 1) := by decide +kernel
theorem dX10_puts_28 : decode cX10_puts 28 = .ok (.iload_n 2, 1) := by decide +kernel
theorem dX10_puts_29 : decode cX10_puts 29 = .ok (.i2l, 1) := by decide +kernel
theorem dX10_puts_30 : decode cX10_puts 30 = .ok (.lastore, 1) := by decide +kernel
theorem dX10_puts_31 : decode cX10_puts 31 = .ok (.aload_n 0, 1) := by decide +kernel
theorem dX10_puts_32 : decode cX10_puts 32 = .ok (.getfield 9, 3) := by decide +kernel
theorem dX10_puts_35 : decode cX10_puts 35 = .ok (.iload 11, 2) := by decide +kernel
theorem dX10_puts_37 : decode cX10_puts 37 = .ok (.iconst 2, 1) := by decide +kernel
theorem dX10_puts_38 : decode cX10_puts 38 = .ok (.iadd, 1) := by decide +kernel
theorem dX10_puts_39 : decode cX10_puts 39 = .ok (.iload_n 3, 1) := by decide +kernel
theorem dX10_puts_40 : decode cX10_puts 40 = .ok (.i2l, 1) := by decide +kernel
theorem dX10_puts_41 : decode cX10_puts 41 = .ok (.lastore, 1) := by decide +kernel
theorem dX10_puts_42 : decode cX10_puts 42 = .ok (.aload_n 0, 1) := by decide +kernel
theorem dX10_puts_43 : decode cX10_puts 43 = .ok (.getfield 9, 3) := by decide +kernel
theorem dX10_puts_46 : decode cX10_puts 46 = .ok (.iload 11, 2) := by decide +kernel
theorem dX10_puts_48 : decode cX10_puts 48 = .ok (.iconst 3, 1) := by decide +kernel
theorem dX10_puts_49 : decode cX10_puts 49 = .ok (.iadd, 1) := by decide +kernel
theorem dX10_puts_50 : decode cX10_puts 50 = .ok (.lload 4, 2) := by decide +kernel
theorem dX10_puts_52 : decode cX10_puts 52 = .ok (.lastore, 1) := by decide +kernel
theorem dX10_puts_53 : decode cX10_puts 53 = .ok (.aload_n 0, 1) := by decide +kernel
theorem dX10_puts_54 : decode cX10_puts 54 = .ok (.getfield 9, 3) := by decide +kernel
theorem dX10_puts_57 : decode cX10_puts 57 = .ok (.iload 11, 2) := by decide +kernel
theorem dX10_puts_59 : decode cX10_puts 59 = .ok (.iconst 4, 1) := by decide +kernel
theorem dX10_puts_60 : decode cX10_puts 60 = .ok (.iadd, 1) := by decide +kernel
theorem dX10_puts_61 : decode cX10_puts 61 = .ok (.lload 6, 2) := by decide +kernel
theorem dX10_puts_63 : decode cX10_puts 63 = .ok (.lastore, 1) := by decide +kernel
theorem dX10_puts_64 : decode cX10_puts 64 = .ok (.aload_n 0, 1) := by decide +kernel
theorem dX10_puts_65 : decode cX10_puts 65 = .ok (.getfield 9, 3) := by decide +kernel
theorem dX10_puts_68 : decode cX10_puts 68 = .ok (.iload 11, 2) := by decide +kernel
theorem dX10_puts_70 : decode cX10_puts 70 = .ok (.iconst 5, 1) := by decide +kernel
theorem dX10_puts_71 : decode cX10_puts 71 = .ok (.iadd, 1) := by decide +kernel
theorem dX10_puts_72 : decode cX10_puts 72 = .ok (.lload 8, 2) := by decide +kernel
theorem dX10_puts_74 : decode cX10_puts 74 = .ok (.lastore, 1) := by decide +kernel
theorem dX10_puts_75 : decode cX10_puts 75 = .ok (.aload_n 0, 1) := by decide +kernel
theorem dX10_puts_76 : decode cX10_puts 76 = .ok (.getfield 9, 3) := by decide +kernel
theorem dX10_puts_79 : decode cX10_puts 79 = .ok (.iload 11, 2) := by decide +kernel
theorem dX10_puts_81 : decode cX10_puts 81 = .ok (.bipush 6, 2) := by decide +kernel
theorem dX10_puts_83 : decode cX10_puts 83 = .ok (.iadd, 1) := by decide +kernel
theorem dX10_puts_84 : decode cX10_puts 84 = .ok (.iload 10, 2) := by decide +kernel
theorem dX10_puts_86 : decode cX10_puts 86 = .ok (.i2l, 1) := by decide +kernel
theorem dX10_puts_87 : decode cX10_puts 87 = .ok (.lastore, 1) := by decide +kernel
theorem dX10_puts_88 : decode cX10_puts 88 = .ok (.aload_n 0, 1) := by decide +kernel
theorem dX10_puts_89 : decode cX10_puts 89 = .ok (.getfield 9, 3) := by decide +kernel
theorem dX10_puts_92 : decode cX10_puts 92 = .ok (.iload 11, 2) := by decide +kernel
theorem dX10_puts_94 : decode cX10_puts 94 = .ok (.bipush 7, 2) := by decide +kernel
theorem dX10_puts_96 : decode cX10_puts 96 = .ok (.iadd, 1) := by decide +kernel
theorem dX10_puts_97 : decode cX10_puts 97 = .ok (.lconst 0, 1) := by decide +kernel
theorem dX10_puts_98 : decode cX10_puts 98 = .ok (.lastore, 1) := by decide +kernel
theorem dX10_puts_99 : decode cX10_puts 99 = .ok (.aload_n 0, 1) := by decide +kernel
theorem dX10_puts_100 : decode cX10_puts 100 = .ok (.getfield 9, 3) := by decide +kernel
theorem dX10_puts_103 : decode cX10_puts 103 = .ok (.iconst 1, 1) := by decide +kernel
theorem dX10_puts_104 : decode cX10_puts 104 = .ok (.dup2, 1) := by decide +kernel
theorem dX10_puts_105 : decode cX10_puts 105 = .ok (.laload, 1) := by decide +kernel
theorem dX10_puts_106 : decode cX10_puts 106 = .ok (.lconst 1, 1) := by decide +kernel
theorem dX10_puts_107 : decode cX10_puts 107 = .ok (.ladd, 1) := by decide +kernel
theorem dX10_puts_108 : decode cX10_puts 108 = .ok (.lastore, 1) := by decide +kernel
theorem dX10_puts_109 : decode cX10_puts 109 = .ok (.return_, 1) := by decide +kernel
theorem dX10_areTowns_0 : decode cX10_areTowns 0 = .ok (.aload_n 0, 1) := by decide +kernel
theorem dX10_areTowns_1 : decode cX10_areTowns 1 = .ok (.iload_n 1, 1) := by decide +kernel
theorem dX10_areTowns_2 : decode cX10_areTowns 2 = .ok (.invokevirtual 95, 3) := by decide +kernel
theorem dX10_areTowns_5 : decode cX10_areTowns 5 = .ok (.ifCond .eq 20, 3) := by decide +kernel
theorem dX10_areTowns_8 : decode cX10_areTowns 8 = .ok (.aload_n 0, 1) := by decide +kernel
theorem dX10_areTowns_9 : decode cX10_areTowns 9 = .ok (.iload_n 2, 1) := by decide +kernel
theorem dX10_areTowns_10 : decode cX10_areTowns 10 = .ok (.invokevirtual 95, 3) := by decide +kernel
theorem dX10_areTowns_13 : decode cX10_areTowns 13 = .ok (.ifCond .eq 12, 3) := by decide +kernel
theorem dX10_areTowns_16 : decode cX10_areTowns 16 = .ok (.iload_n 1, 1) := by decide +kernel
theorem dX10_areTowns_17 : decode cX10_areTowns 17 = .ok (.iload_n 2, 1) := by decide +kernel
theorem dX10_areTowns_18 : decode cX10_areTowns 18 = .ok (.if_icmp .eq 7, 3) := by decide +kernel
theorem dX10_areTowns_21 : decode cX10_areTowns 21 = .ok (.iconst 1, 1) := by decide +kernel
theorem dX10_areTowns_22 : decode cX10_areTowns 22 = .ok (.goto 4, 3) := by decide +kernel
theorem dX10_areTowns_25 : decode cX10_areTowns 25 = .ok (.iconst 0, 1) := by decide +kernel
theorem dX10_areTowns_26 : decode cX10_areTowns 26 = .ok (.ireturn, 1) := by decide +kernel
theorem dX10_road_0 : decode cX10_road 0 = .ok (.aload_n 0, 1) := by decide +kernel
theorem dX10_road_1 : decode cX10_road 1 = .ok (.iload_n 1, 1) := by decide +kernel
theorem dX10_road_2 : decode cX10_road 2 = .ok (.iload_n 2, 1) := by decide +kernel
theorem dX10_road_3 : decode cX10_road 3 = .ok (.invokevirtual 99, 3) := by decide +kernel
theorem dX10_road_6 : decode cX10_road 6 = .ok (.ifCond .eq 15, 3) := by decide +kernel
theorem dX10_road_9 : decode cX10_road 9 = .ok (.iload_n 3, 1) := by decide +kernel
theorem dX10_road_10 : decode cX10_road 10 = .ok (.i2l, 1) := by decide +kernel
theorem dX10_road_11 : decode cX10_road 11 = .ok (.lconst 0, 1) := by decide +kernel
theorem dX10_road_12 : decode cX10_road 12 = .ok (.ldc2_w 83, 3) := by decide +kernel
theorem dX10_road_15 : decode cX10_road 15 = .ok (.invokestatic 89, 3) := by decide +kernel
theorem dX10_road_18 : decode cX10_road 18 = .ok (.ifCond .ne 5, 3) := by decide +kernel
theorem dX10_road_21 : decode cX10_road 21 = .ok (.iconst (-1), 1) := by decide +kernel
theorem dX10_road_22 : decode cX10_road 22 = .ok (.ireturn, 1) := by decide +kernel
theorem dX10_road_23 : decode cX10_road 23 = .ok (.lload 4, 2) := by decide +kernel
theorem dX10_road_25 : decode cX10_road 25 = .ok (.lconst 0, 1) := by decide +kernel
theorem dX10_road_26 : decode cX10_road 26 = .ok (.ldc2_w 103, 3) := by decide +kernel
theorem dX10_road_29 : decode cX10_road 29 = .ok (.invokestatic 89, 3) := by decide +kernel
theorem dX10_road_32 : decode cX10_road 32 = .ok (.ifCond .eq 40, 3) := by decide +kernel
theorem dX10_road_35 : decode cX10_road 35 = .ok (.lload 6, 2) := by decide +kernel
theorem dX10_road_37 : decode cX10_road 37 = .ok (.lconst 0, 1) := by decide +kernel
theorem dX10_road_38 : decode cX10_road 38 = .ok (.ldc2_w 105, 3) := by decide +kernel
theorem dX10_road_41 : decode cX10_road 41 = .ok (.invokestatic 89, 3) := by decide +kernel
theorem dX10_road_44 : decode cX10_road 44 = .ok (.ifCond .eq 28, 3) := by decide +kernel
theorem dX10_road_47 : decode cX10_road 47 = .ok (.lload 8, 2) := by decide +kernel
theorem dX10_road_49 : decode cX10_road 49 = .ok (.lconst 0, 1) := by decide +kernel
theorem dX10_road_50 : decode cX10_road 50 = .ok (.ldc2_w 105, 3) := by decide +kernel
theorem dX10_road_53 : decode cX10_road 53 = .ok (.invokestatic 89, 3) := by decide +kernel
theorem dX10_road_56 : decode cX10_road 56 = .ok (.ifCond .eq 16, 3) := by decide +kernel
theorem dX10_road_59 : decode cX10_road 59 = .ok (.iload 10, 2) := by decide +kernel
theorem dX10_road_61 : decode cX10_road 61 = .ok (.i2l, 1) := by decide +kernel
theorem dX10_road_62 : decode cX10_road 62 = .ok (.lconst 0, 1) := by decide +kernel
theorem dX10_road_63 : decode cX10_road 63 = .ok (.ldc2_w 107, 3) := by decide +kernel
theorem dX10_road_66 : decode cX10_road 66 = .ok (.invokestatic 89, 3) := by decide +kernel
theorem dX10_road_69 : decode cX10_road 69 = .ok (.ifCond .ne 6, 3) := by decide +kernel
theorem dX10_road_72 : decode cX10_road 72 = .ok (.bipush (-2), 2) := by decide +kernel
theorem dX10_road_74 : decode cX10_road 74 = .ok (.ireturn, 1) := by decide +kernel
theorem dX10_road_75 : decode cX10_road 75 = .ok (.aload_n 0, 1) := by decide +kernel
theorem dX10_road_76 : decode cX10_road 76 = .ok (.getfield 9, 3) := by decide +kernel
theorem dX10_road_79 : decode cX10_road 79 = .ok (.iconst 1, 1) := by decide +kernel
theorem dX10_road_80 : decode cX10_road 80 = .ok (.laload, 1) := by decide +kernel
theorem dX10_road_81 : decode cX10_road 81 = .ok (.ldc2_w 109, 3) := by decide +kernel
theorem dX10_road_84 : decode cX10_road 84 = .ok (.lcmp, 1) := by decide +kernel
theorem dX10_road_85 : decode cX10_road 85 = .ok (.ifCond .ne 6, 3) := by decide +kernel
theorem dX10_road_88 : decode cX10_road 88 = .ok (.bipush (-4), 2) := by decide +kernel
theorem dX10_road_90 : decode cX10_road 90 = .ok (.ireturn, 1) := by decide +kernel
theorem dX10_road_91 : decode cX10_road 91 = .ok (.aload_n 0, 1) := by decide +kernel
theorem dX10_road_92 : decode cX10_road 92 = .ok (.iload_n 1, 1) := by decide +kernel
theorem dX10_road_93 : decode cX10_road 93 = .ok (.iload_n 2, 1) := by decide +kernel
theorem dX10_road_94 : decode cX10_road 94 = .ok (.iload_n 3, 1) := by decide +kernel
theorem dX10_road_95 : decode cX10_road 95 = .ok (.lload 4, 2) := by decide +kernel
theorem dX10_road_97 : decode cX10_road 97 = .ok (.lload 6, 2) := by decide +kernel
theorem dX10_road_99 : decode cX10_road 99 = .ok (.lload 8, 2) := by decide +kernel
theorem dX10_road_101 : decode cX10_road 101 = .ok (.iload 10, 2) := by decide +kernel
theorem dX10_road_103 : decode cX10_road 103 = .ok (.invokevirtual 111, 3) := by decide +kernel
theorem dX10_road_106 : decode cX10_road 106 = .ok (.aload_n 0, 1) := by decide +kernel
theorem dX10_road_107 : decode cX10_road 107 = .ok (.invokevirtual 85, 3) := by decide +kernel
theorem dX10_road_110 : decode cX10_road 110 = .ok (.iconst 1, 1) := by decide +kernel
theorem dX10_road_111 : decode cX10_road 111 = .ok (.isub, 1) := by decide +kernel
theorem dX10_road_112 : decode cX10_road 112 = .ok (.ireturn, 1) := by decide +kernel
theorem dX10_takesOut_0 : decode cX10_takesOut 0 = .ok (.bipush 8, 2) := by decide +kernel
theorem dX10_takesOut_2 : decode cX10_takesOut 2 = .ok (.iload_n 1, 1) := by decide +kernel
theorem dX10_takesOut_3 : decode cX10_takesOut 3 = .ok (.imul, 1) := by decide +kernel
theorem dX10_takesOut_4 : decode cX10_takesOut 4 = .ok (.istore_n 2, 1) := by decide +kernel
theorem dX10_takesOut_5 : decode cX10_takesOut 5 = .ok (.iload_n 2, 1) := by decide +kernel
theorem dX10_takesOut_6 : decode cX10_takesOut 6 = .ok (.bipush 8, 2) := by decide +kernel
theorem dX10_takesOut_8 : decode cX10_takesOut 8 = .ok (.aload_n 0, 1) := by decide +kernel
theorem dX10_takesOut_9 : decode cX10_takesOut 9 = .ok (.invokevirtual 85, 3) := by decide +kernel
theorem dX10_takesOut_12 : decode cX10_takesOut 12 = .ok (.iconst 1, 1) := by decide +kernel
theorem dX10_takesOut_13 : decode cX10_takesOut 13 = .ok (.isub, 1) := by decide +kernel
theorem dX10_takesOut_14 : decode cX10_takesOut 14 = .ok (.imul, 1) := by decide +kernel
theorem dX10_takesOut_15 : decode cX10_takesOut 15 = .ok (.if_icmp .ge 28, 3) := by decide +kernel
theorem dX10_takesOut_18 : decode cX10_takesOut 18 = .ok (.aload_n 0, 1) := by decide +kernel
theorem dX10_takesOut_19 : decode cX10_takesOut 19 = .ok (.getfield 9, 3) := by decide +kernel
theorem dX10_takesOut_22 : decode cX10_takesOut 22 = .ok (.iconst 2, 1) := by decide +kernel
theorem dX10_takesOut_23 : decode cX10_takesOut 23 = .ok (.iload_n 2, 1) := by decide +kernel
theorem dX10_takesOut_24 : decode cX10_takesOut 24 = .ok (.iadd, 1) := by decide +kernel
theorem dX10_takesOut_25 : decode cX10_takesOut 25 = .ok (.aload_n 0, 1) := by decide +kernel
theorem dX10_takesOut_26 : decode cX10_takesOut 26 = .ok (.getfield 9, 3) := by decide +kernel
theorem dX10_takesOut_29 : decode cX10_takesOut 29 = .ok (.iconst 2, 1) := by decide +kernel
theorem dX10_takesOut_30 : decode cX10_takesOut 30 = .ok (.iload_n 2, 1) := by decide +kernel
theorem dX10_takesOut_31 : decode cX10_takesOut 31 = .ok (.iadd, 1) := by decide +kernel
theorem dX10_takesOut_32 : decode cX10_takesOut 32 = .ok (.bipush 8, 2) := by decide +kernel
theorem dX10_takesOut_34 : decode cX10_takesOut 34 = .ok (.iadd, 1) := by decide +kernel
theorem dX10_takesOut_35 : decode cX10_takesOut 35 = .ok (.laload, 1) := by decide +kernel
theorem dX10_takesOut_36 : decode cX10_takesOut 36 = .ok (.lastore, 1) := by decide +kernel
theorem dX10_takesOut_37 : decode cX10_takesOut 37 = .ok (.iinc 2 1, 3) := by decide +kernel
theorem dX10_takesOut_40 : decode cX10_takesOut 40 = .ok (.goto (-35), 3) := by decide +kernel
theorem dX10_takesOut_43 : decode cX10_takesOut 43 = .ok (.aload_n 0, 1) := by decide +kernel
theorem dX10_takesOut_44 : decode cX10_takesOut 44 = .ok (.getfield 9, 3) := by decide +kernel
theorem dX10_takesOut_47 : decode cX10_takesOut 47 = .ok (.iconst 1, 1) := by decide +kernel
theorem dX10_takesOut_48 : decode cX10_takesOut 48 = .ok (.dup2, 1) := by decide +kernel
theorem dX10_takesOut_49 : decode cX10_takesOut 49 = .ok (.laload, 1) := by decide +kernel
theorem dX10_takesOut_50 : decode cX10_takesOut 50 = .ok (.lconst 1, 1) := by decide +kernel
theorem dX10_takesOut_51 : decode cX10_takesOut 51 = .ok (.lsub, 1) := by decide +kernel
theorem dX10_takesOut_52 : decode cX10_takesOut 52 = .ok (.lastore, 1) := by decide +kernel
theorem dX10_takesOut_53 : decode cX10_takesOut 53 = .ok (.return_, 1) := by decide +kernel
theorem dX10_close_0 : decode cX10_close 0 = .ok (.aload_n 0, 1) := by decide +kernel
theorem dX10_close_1 : decode cX10_close 1 = .ok (.iload_n 1, 1) := by decide +kernel
theorem dX10_close_2 : decode cX10_close 2 = .ok (.invokevirtual 115, 3) := by decide +kernel
theorem dX10_close_5 : decode cX10_close 5 = .ok (.ifCond .ne 5, 3) := by decide +kernel
theorem dX10_close_8 : decode cX10_close 8 = .ok (.iconst (-1), 1) := by decide +kernel
theorem dX10_close_9 : decode cX10_close 9 = .ok (.ireturn, 1) := by decide +kernel
theorem dX10_close_10 : decode cX10_close 10 = .ok (.aload_n 0, 1) := by decide +kernel
theorem dX10_close_11 : decode cX10_close 11 = .ok (.iload_n 1, 1) := by decide +kernel
theorem dX10_close_12 : decode cX10_close 12 = .ok (.invokevirtual 118, 3) := by decide +kernel
theorem dX10_close_15 : decode cX10_close 15 = .ok (.aload_n 0, 1) := by decide +kernel
theorem dX10_close_16 : decode cX10_close 16 = .ok (.invokevirtual 85, 3) := by decide +kernel
theorem dX10_close_19 : decode cX10_close 19 = .ok (.ireturn, 1) := by decide +kernel
theorem dX10_toll_0 : decode cX10_toll 0 = .ok (.aload_n 0, 1) := by decide +kernel
theorem dX10_toll_1 : decode cX10_toll 1 = .ok (.iload_n 1, 1) := by decide +kernel
theorem dX10_toll_2 : decode cX10_toll 2 = .ok (.invokevirtual 115, 3) := by decide +kernel
theorem dX10_toll_5 : decode cX10_toll 5 = .ok (.ifCond .ne 7, 3) := by decide +kernel
theorem dX10_toll_8 : decode cX10_toll 8 = .ok (.ldc2_w 122, 3) := by decide +kernel
theorem dX10_toll_11 : decode cX10_toll 11 = .ok (.lreturn, 1) := by decide +kernel
theorem dX10_toll_12 : decode cX10_toll 12 = .ok (.lload_n 2, 1) := by decide +kernel
theorem dX10_toll_13 : decode cX10_toll 13 = .ok (.lconst 0, 1) := by decide +kernel
theorem dX10_toll_14 : decode cX10_toll 14 = .ok (.ldc2_w 124, 3) := by decide +kernel
theorem dX10_toll_17 : decode cX10_toll 17 = .ok (.invokestatic 89, 3) := by decide +kernel
theorem dX10_toll_20 : decode cX10_toll 20 = .ok (.ifCond .ne 7, 3) := by decide +kernel
theorem dX10_toll_23 : decode cX10_toll 23 = .ok (.ldc2_w 126, 3) := by decide +kernel
theorem dX10_toll_26 : decode cX10_toll 26 = .ok (.lreturn, 1) := by decide +kernel
theorem dX10_toll_27 : decode cX10_toll 27 = .ok (.aload_n 0, 1) := by decide +kernel
theorem dX10_toll_28 : decode cX10_toll 28 = .ok (.iload_n 1, 1) := by decide +kernel
theorem dX10_toll_29 : decode cX10_toll 29 = .ok (.bipush 7, 2) := by decide +kernel
theorem dX10_toll_31 : decode cX10_toll 31 = .ok (.invokevirtual 128, 3) := by decide +kernel
theorem dX10_toll_34 : decode cX10_toll 34 = .ok (.lstore 4, 2) := by decide +kernel
theorem dX10_toll_36 : decode cX10_toll 36 = .ok (.aload_n 0, 1) := by decide +kernel
theorem dX10_toll_37 : decode cX10_toll 37 = .ok (.getfield 9, 3) := by decide +kernel
theorem dX10_toll_40 : decode cX10_toll 40 = .ok (.iconst 2, 1) := by decide +kernel
theorem dX10_toll_41 : decode cX10_toll 41 = .ok (.bipush 8, 2) := by decide +kernel
theorem dX10_toll_43 : decode cX10_toll 43 = .ok (.iload_n 1, 1) := by decide +kernel
theorem dX10_toll_44 : decode cX10_toll 44 = .ok (.imul, 1) := by decide +kernel
theorem dX10_toll_45 : decode cX10_toll 45 = .ok (.iadd, 1) := by decide +kernel
