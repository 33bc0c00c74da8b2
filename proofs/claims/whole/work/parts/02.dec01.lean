theorem dX7_push_1 : decode cX7_push 1 = .ok (.getfield 9, 3) := by decide +kernel
theorem dX7_push_4 : decode cX7_push 4 = .ok (.bipush 100, 2) := by decide +kernel
theorem dX7_push_6 : decode cX7_push 6 = .ok (.if_icmp .lt 5, 3) := by decide +kernel
theorem dX7_push_9 : decode cX7_push 9 = .ok (.iconst 0, 1) := by decide +kernel
theorem dX7_push_10 : decode cX7_push 10 = .ok (.ireturn, 1) := by decide +kernel
theorem dX7_push_11 : decode cX7_push 11 = .ok (.aload_n 0, 1) := by decide +kernel
theorem dX7_push_12 : decode cX7_push 12 = .ok (.getfield 15, 3) := by decide +kernel
theorem dX7_push_15 : decode cX7_push 15 = .ok (.aload_n 0, 1) := by decide +kernel
theorem dX7_push_16 : decode cX7_push 16 = .ok (.getfield 9, 3) := by decide +kernel
theorem dX7_push_19 : decode cX7_push 19 = .ok (.iload_n 1, 1) := by decide +kernel
theorem dX7_push_20 : decode cX7_push 20 = .ok (.iastore, 1) := by decide +kernel
theorem dX7_push_21 : decode cX7_push 21 = .ok (.aload_n 0, 1) := by decide +kernel
theorem dX7_push_22 : decode cX7_push 22 = .ok (.dup, 1) := by decide +kernel
theorem dX7_push_23 : decode cX7_push 23 = .ok (.getfield 9, 3) := by decide +kernel
theorem dX7_push_26 : decode cX7_push 26 = .ok (.iconst 1, 1) := by decide +kernel
theorem dX7_push_27 : decode cX7_push 27 = .ok (.iadd, 1) := by decide +kernel
theorem dX7_push_28 : decode cX7_push 28 = .ok (.putfield 9, 3) := by decide +kernel
theorem dX7_push_31 : decode cX7_push 31 = .ok (.iconst 1, 1) := by decide +kernel
theorem dX7_push_32 : decode cX7_push 32 = .ok (.ireturn, 1) := by decide +kernel
theorem dX7_readInto_0 : decode cX7_readInto 0 = .ok (.aload_n 0, 1) := by decide +kernel
theorem dX7_readInto_1 : decode cX7_readInto 1 = .ok (.iconst 0, 1) := by decide +kernel
theorem dX7_readInto_2 : decode cX7_readInto 2 = .ok (.putfield 19, 3) := by decide +kernel
theorem dX7_readInto_5 : decode cX7_readInto 5 = .ok (.iconst 0, 1) := by decide +kernel
theorem dX7_readInto_6 : decode cX7_readInto 6 = .ok (.istore_n 2, 1) := by decide +kernel
theorem dX7_readInto_7 : decode cX7_readInto 7 = .ok (.iload_n 2, 1) := by decide +kernel
theorem dX7_readInto_8 : decode cX7_readInto 8 = .ok (.bipush 12, 2) := by decide +kernel
theorem dX7_readInto_10 : decode cX7_readInto 10 = .ok (.if_icmp .gt 57, 3) := by decide +kernel
theorem dX7_readInto_13 : decode cX7_readInto 13 = .ok (.aload_n 0, 1) := by decide +kernel
theorem dX7_readInto_14 : decode cX7_readInto 14 = .ok (.aload_n 1, 1) := by decide +kernel
theorem dX7_readInto_15 : decode cX7_readInto 15 = .ok (.invokevirtual 25, 3) := by decide +kernel
theorem dX7_readInto_18 : decode cX7_readInto 18 = .ok (.ifCond .ne 11, 3) := by decide +kernel
theorem dX7_readInto_21 : decode cX7_readInto 21 = .ok (.bipush (-100), 2) := by decide +kernel
theorem dX7_readInto_23 : decode cX7_readInto 23 = .ok (.aload_n 0, 1) := by decide +kernel
theorem dX7_readInto_24 : decode cX7_readInto 24 = .ok (.getfield 22, 3) := by decide +kernel
theorem dX7_readInto_27 : decode cX7_readInto 27 = .ok (.isub, 1) := by decide +kernel
theorem dX7_readInto_28 : decode cX7_readInto 28 = .ok (.ireturn, 1) := by decide +kernel
theorem dX7_readInto_29 : decode cX7_readInto 29 = .ok (.aload_n 0, 1) := by decide +kernel
theorem dX7_readInto_30 : decode cX7_readInto 30 = .ok (.getfield 19, 3) := by decide +kernel
theorem dX7_readInto_33 : decode cX7_readInto 33 = .ok (.aload_n 0, 1) := by decide +kernel
theorem dX7_readInto_34 : decode cX7_readInto 34 = .ok (.getfield 9, 3) := by decide +kernel
theorem dX7_readInto_37 : decode cX7_readInto 37 = .ok (.if_icmp .lt 7, 3) := by decide +kernel
theorem dX7_readInto_40 : decode cX7_readInto 40 = .ok (.iload_n 2, 1) := by decide +kernel
theorem dX7_readInto_41 : decode cX7_readInto 41 = .ok (.iconst 1, 1) := by decide +kernel
theorem dX7_readInto_42 : decode cX7_readInto 42 = .ok (.iadd, 1) := by decide +kernel
theorem dX7_readInto_43 : decode cX7_readInto 43 = .ok (.ireturn, 1) := by decide +kernel
theorem dX7_readInto_44 : decode cX7_readInto 44 = .ok (.aload_n 0, 1) := by decide +kernel
theorem dX7_readInto_45 : decode cX7_readInto 45 = .ok (.bipush 59, 2) := by decide +kernel
theorem dX7_readInto_47 : decode cX7_readInto 47 = .ok (.invokevirtual 29, 3) := by decide +kernel
theorem dX7_readInto_50 : decode cX7_readInto 50 = .ok (.ifCond .ne 11, 3) := by decide +kernel
theorem dX7_readInto_53 : decode cX7_readInto 53 = .ok (.bipush (-100), 2) := by decide +kernel
theorem dX7_readInto_55 : decode cX7_readInto 55 = .ok (.aload_n 0, 1) := by decide +kernel
theorem dX7_readInto_56 : decode cX7_readInto 56 = .ok (.getfield 22, 3) := by decide +kernel
theorem dX7_readInto_59 : decode cX7_readInto 59 = .ok (.isub, 1) := by decide +kernel
theorem dX7_readInto_60 : decode cX7_readInto 60 = .ok (.ireturn, 1) := by decide +kernel
theorem dX7_readInto_61 : decode cX7_readInto 61 = .ok (.iinc 2 1, 3) := by decide +kernel
theorem dX7_readInto_64 : decode cX7_readInto 64 = .ok (.goto (-57), 3) := by decide +kernel
theorem dX7_readInto_67 : decode cX7_readInto 67 = .ok (.bipush (-100), 2) := by decide +kernel
theorem dX7_readInto_69 : decode cX7_readInto 69 = .ok (.aload_n 0, 1) := by decide +kernel
theorem dX7_readInto_70 : decode cX7_readInto 70 = .ok (.getfield 19, 3) := by decide +kernel
theorem dX7_readInto_73 : decode cX7_readInto 73 = .ok (.isub, 1) := by decide +kernel
theorem dX7_readInto_74 : decode cX7_readInto 74 = .ok (.ireturn, 1) := by decide +kernel
theorem dX7_readRoad_0 : decode cX7_readRoad 0 = .ok (.aload_n 1, 1) := by decide +kernel
theorem dX7_readRoad_1 : decode cX7_readRoad 1 = .ok (.getfield 33, 3) := by decide +kernel
theorem dX7_readRoad_4 : decode cX7_readRoad 4 = .ok (.bipush 12, 2) := by decide +kernel
theorem dX7_readRoad_6 : decode cX7_readRoad 6 = .ok (.if_icmp .lt 12, 3) := by decide +kernel
theorem dX7_readRoad_9 : decode cX7_readRoad 9 = .ok (.aload_n 0, 1) := by decide +kernel
theorem dX7_readRoad_10 : decode cX7_readRoad 10 = .ok (.aload_n 0, 1) := by decide +kernel
theorem dX7_readRoad_11 : decode cX7_readRoad 11 = .ok (.getfield 19, 3) := by decide +kernel
theorem dX7_readRoad_14 : decode cX7_readRoad 14 = .ok (.invokevirtual 38, 3) := by decide +kernel
theorem dX7_readRoad_17 : decode cX7_readRoad 17 = .ok (.ireturn, 1) := by decide +kernel
theorem dX7_readRoad_18 : decode cX7_readRoad 18 = .ok (.aload_n 0, 1) := by decide +kernel
theorem dX7_readRoad_19 : decode cX7_readRoad 19 = .ok (.aload_n 1, 1) := by decide +kernel
theorem dX7_readRoad_20 : decode cX7_readRoad 20 = .ok (.iconst (-1), 1) := by decide +kernel
theorem dX7_readRoad_21 : decode cX7_readRoad 21 = .ok (.invokevirtual 42, 3) := by decide +kernel
theorem dX7_readRoad_24 : decode cX7_readRoad 24 = .ok (.istore_n 2, 1) := by decide +kernel
theorem dX7_readRoad_25 : decode cX7_readRoad 25 = .ok (.iload_n 2, 1) := by decide +kernel
theorem dX7_readRoad_26 : decode cX7_readRoad 26 = .ok (.ifCond .lt 12, 3) := by decide +kernel
theorem dX7_readRoad_29 : decode cX7_readRoad 29 = .ok (.aload_n 0, 1) := by decide +kernel
theorem dX7_readRoad_30 : decode cX7_readRoad 30 = .ok (.bipush 62, 2) := by decide +kernel
theorem dX7_readRoad_32 : decode cX7_readRoad 32 = .ok (.invokevirtual 29, 3) := by decide +kernel
theorem dX7_readRoad_35 : decode cX7_readRoad 35 = .ok (.ifCond .ne 5, 3) := by decide +kernel
theorem dX7_readRoad_38 : decode cX7_readRoad 38 = .ok (.iconst 0, 1) := by decide +kernel
theorem dX7_readRoad_39 : decode cX7_readRoad 39 = .ok (.ireturn, 1) := by decide +kernel
theorem dX7_readRoad_40 : decode cX7_readRoad 40 = .ok (.aload_n 0, 1) := by decide +kernel
theorem dX7_readRoad_41 : decode cX7_readRoad 41 = .ok (.aload_n 1, 1) := by decide +kernel
theorem dX7_readRoad_42 : decode cX7_readRoad 42 = .ok (.iload_n 2, 1) := by decide +kernel
theorem dX7_readRoad_43 : decode cX7_readRoad 43 = .ok (.invokevirtual 42, 3) := by decide +kernel
theorem dX7_readRoad_46 : decode cX7_readRoad 46 = .ok (.istore_n 3, 1) := by decide +kernel
theorem dX7_readRoad_47 : decode cX7_readRoad 47 = .ok (.iload_n 3, 1) := by decide +kernel
theorem dX7_readRoad_48 : decode cX7_readRoad 48 = .ok (.ifCond .lt 12, 3) := by decide +kernel
theorem dX7_readRoad_51 : decode cX7_readRoad 51 = .ok (.aload_n 0, 1) := by decide +kernel
theorem dX7_readRoad_52 : decode cX7_readRoad 52 = .ok (.bipush 61, 2) := by decide +kernel
theorem dX7_readRoad_54 : decode cX7_readRoad 54 = .ok (.invokevirtual 29, 3) := by decide +kernel
theorem dX7_readRoad_57 : decode cX7_readRoad 57 = .ok (.ifCond .ne 5, 3) := by decide +kernel
theorem dX7_readRoad_60 : decode cX7_readRoad 60 = .ok (.iconst 0, 1) := by decide +kernel
theorem dX7_readRoad_61 : decode cX7_readRoad 61 = .ok (.ireturn, 1) := by decide +kernel
theorem dX7_readRoad_62 : decode cX7_readRoad 62 = .ok (.aload_n 0, 1) := by decide +kernel
theorem dX7_readRoad_63 : decode cX7_readRoad 63 = .ok (.bipush 6, 2) := by decide +kernel
theorem dX7_readRoad_65 : decode cX7_readRoad 65 = .ok (.invokevirtual 46, 3) := by decide +kernel
theorem dX7_readRoad_68 : decode cX7_readRoad 68 = .ok (.istore 4, 2) := by decide +kernel
theorem dX7_readRoad_70 : decode cX7_readRoad 70 = .ok (.iload 4, 2) := by decide +kernel
theorem dX7_readRoad_72 : decode cX7_readRoad 72 = .ok (.ifCond .lt 19, 3) := by decide +kernel
theorem dX7_readRoad_75 : decode cX7_readRoad 75 = .ok (.aload_n 0, 1) := by decide +kernel
theorem dX7_readRoad_76 : decode cX7_readRoad 76 = .ok (.aload_n 1, 1) := by decide +kernel
theorem dX7_readRoad_77 : decode cX7_readRoad 77 = .ok (.iload_n 2, 1) := by decide +kernel
theorem dX7_readRoad_78 : decode cX7_readRoad 78 = .ok (.iload_n 3, 1) := by decide +kernel
theorem dX7_readRoad_79 : decode cX7_readRoad 79 = .ok (.iload 4, 2) := by decide +kernel
theorem dX7_readRoad_81 : decode cX7_readRoad 81 = .ok (.invokevirtual 50, 3) := by decide +kernel
theorem dX7_readRoad_84 : decode cX7_readRoad 84 = .ok (.ifCond .eq 7, 3) := by decide +kernel
theorem dX7_readRoad_87 : decode cX7_readRoad 87 = .ok (.iconst 1, 1) := by decide +kernel
theorem dX7_readRoad_88 : decode cX7_readRoad 88 = .ok (.goto 4, 3) := by decide +kernel
theorem dX7_readRoad_91 : decode cX7_readRoad 91 = .ok (.iconst 0, 1) := by decide +kernel
theorem dX7_readRoad_92 : decode cX7_readRoad 92 = .ok (.ireturn, 1) := by decide +kernel
theorem dX7_readRest_0 : decode cX7_readRest 0 = .ok (.iconst 0, 1) := by decide +kernel
theorem dX7_readRest_1 : decode cX7_readRest 1 = .ok (.istore 5, 2) := by decide +kernel
theorem dX7_readRest_3 : decode cX7_readRest 3 = .ok (.iconst 0, 1) := by decide +kernel
theorem dX7_readRest_4 : decode cX7_readRest 4 = .ok (.istore 6, 2) := by decide +kernel
theorem dX7_readRest_6 : decode cX7_readRest 6 = .ok (.iconst 0, 1) := by decide +kernel
theorem dX7_readRest_7 : decode cX7_readRest 7 = .ok (.istore 7, 2) := by decide +kernel
theorem dX7_readRest_9 : decode cX7_readRest 9 = .ok (.iconst 0, 1) := by decide +kernel
theorem dX7_readRest_10 : decode cX7_readRest 10 = .ok (.istore 8, 2) := by decide +kernel
theorem dX7_readRest_12 : decode cX7_readRest 12 = .ok (.aload_n 0, 1) := by decide +kernel
theorem dX7_readRest_13 : decode cX7_readRest 13 = .ok (.bipush 43, 2) := by decide +kernel
theorem dX7_readRest_15 : decode cX7_readRest 15 = .ok (.invokevirtual 54, 3) := by decide +kernel
theorem dX7_readRest_18 : decode cX7_readRest 18 = .ok (.ifCond .eq 63, 3) := by decide +kernel
theorem dX7_readRest_21 : decode cX7_readRest 21 = .ok (.iconst 1, 1) := by decide +kernel
theorem dX7_readRest_22 : decode cX7_readRest 22 = .ok (.istore 5, 2) := by decide +kernel
theorem dX7_readRest_24 : decode cX7_readRest 24 = .ok (.aload_n 0, 1) := by decide +kernel
theorem dX7_readRest_25 : decode cX7_readRest 25 = .ok (.bipush 6, 2) := by decide +kernel
theorem dX7_readRest_27 : decode cX7_readRest 27 = .ok (.invokevirtual 46, 3) := by decide +kernel
theorem dX7_readRest_30 : decode cX7_readRest 30 = .ok (.istore 6, 2) := by decide +kernel
theorem dX7_readRest_32 : decode cX7_readRest 32 = .ok (.iload 6, 2) := by decide +kernel
theorem dX7_readRest_34 : decode cX7_readRest 34 = .ok (.ifCond .lt 47, 3) := by decide +kernel
theorem dX7_readRest_37 : decode cX7_readRest 37 = .ok (.aload_n 0, 1) := by decide +kernel
theorem dX7_readRest_38 : decode cX7_readRest 38 = .ok (.bipush 94, 2) := by decide +kernel
theorem dX7_readRest_40 : decode cX7_readRest 40 = .ok (.invokevirtual 54, 3) := by decide +kernel
theorem dX7_readRest_43 : decode cX7_readRest 43 = .ok (.ifCond .eq 38, 3) := by decide +kernel
theorem dX7_readRest_46 : decode cX7_readRest 46 = .ok (.iconst 2, 1) := by decide +kernel
theorem dX7_readRest_47 : decode cX7_readRest 47 = .ok (.istore 5, 2) := by decide +kernel
theorem dX7_readRest_49 : decode cX7_readRest 49 = .ok (.aload_n 0, 1) := by decide +kernel
theorem dX7_readRest_50 : decode cX7_readRest 50 = .ok (.invokevirtual 57, 3) := by decide +kernel
theorem dX7_readRest_53 : decode cX7_readRest 53 = .ok (.istore 7, 2) := by decide +kernel
theorem dX7_readRest_55 : decode cX7_readRest 55 = .ok (.iload 7, 2) := by decide +kernel
theorem dX7_readRest_57 : decode cX7_readRest 57 = .ok (.ifCond .lt 21, 3) := by decide +kernel
theorem dX7_readRest_60 : decode cX7_readRest 60 = .ok (.aload_n 0, 1) := by decide +kernel
theorem dX7_readRest_61 : decode cX7_readRest 61 = .ok (.bipush 58, 2) := by decide +kernel
theorem dX7_readRest_63 : decode cX7_readRest 63 = .ok (.invokevirtual 29, 3) := by decide +kernel
theorem dX7_readRest_66 : decode cX7_readRest 66 = .ok (.ifCond .eq 12, 3) := by decide +kernel
theorem dX7_readRest_69 : decode cX7_readRest 69 = .ok (.aload_n 0, 1) := by decide +kernel
theorem dX7_readRest_70 : decode cX7_readRest 70 = .ok (.bipush 6, 2) := by decide +kernel
theorem dX7_readRest_72 : decode cX7_readRest 72 = .ok (.invokevirtual 46, 3) := by decide +kernel
theorem dX7_readRest_75 : decode cX7_readRest 75 = .ok (.goto 4, 3) := by decide +kernel
theorem dX7_readRest_78 : decode cX7_readRest 78 = .ok (.iconst (-1), 1) := by decide +kernel
theorem dX7_readRest_79 : decode cX7_readRest 79 = .ok (.istore 8, 2) := by decide +kernel
theorem dX7_readRest_81 : decode cX7_readRest 81 = .ok (.iload 6, 2) := by decide +kernel
theorem dX7_readRest_83 : decode cX7_readRest 83 = .ok (.ifCond .lt 8, 3) := by decide +kernel
theorem dX7_readRest_86 : decode cX7_readRest 86 = .ok (.iload 8, 2) := by decide +kernel
theorem dX7_readRest_88 : decode cX7_readRest 88 = .ok (.ifCond .ge 5, 3) := by decide +kernel
theorem dX7_readRest_91 : decode cX7_readRest 91 = .ok (.iconst 0, 1) := by decide +kernel
theorem dX7_readRest_92 : decode cX7_readRest 92 = .ok (.ireturn, 1) := by decide +kernel
theorem dX7_readRest_93 : decode cX7_readRest 93 = .ok (.aload_n 1, 1) := by decide +kernel
theorem dX7_readRest_94 : decode cX7_readRest 94 = .ok (.new 61, 3) := by decide +kernel
theorem dX7_readRest_97 : decode cX7_readRest 97 = .ok (.dup, 1) := by decide +kernel
theorem dX7_readRest_98 : decode cX7_readRest 98 = .ok (.iload_n 2, 1) := by decide +kernel
theorem dX7_readRest_99 : decode cX7_readRest 99 = .ok (.iload_n 3, 1) := by decide +kernel
theorem dX7_readRest_100 : decode cX7_readRest 100 = .ok (.iload 5, 2) := by decide +kernel
theorem dX7_readRest_102 : decode cX7_readRest 102 = .ok (.iload 4, 2) := by decide +kernel
theorem dX7_readRest_104 : decode cX7_readRest 104 = .ok (.i2l, 1) := by decide +kernel
theorem dX7_readRest_105 : decode cX7_readRest 105 = .ok (.iload 6, 2) := by decide +kernel
theorem dX7_readRest_107 : decode cX7_readRest 107 = .ok (.i2l, 1) := by decide +kernel
theorem dX7_readRest_108 : decode cX7_readRest 108 = .ok (.iload 8, 2) := by decide +kernel
theorem dX7_readRest_110 : decode cX7_readRest 110 = .ok (.i2l, 1) := by decide +kernel
theorem dX7_readRest_111 : decode cX7_readRest 111 = .ok (.iload 7, 2) := by decide +kernel
theorem dX7_readRest_113 : decode cX7_readRest 113 = .ok (.invokespecial 63, 3) := by decide +kernel
theorem dX7_readRest_116 : decode cX7_readRest 116 = .ok (.invokevirtual 66, 3) := by decide +kernel
theorem dX7_readRest_119 : decode cX7_readRest 119 = .ok (.iconst 1, 1) := by decide +kernel
theorem dX7_readRest_120 : decode cX7_readRest 120 = .ok (.ireturn, 1) := by decide +kernel
theorem dX7_readTown_0 : decode cX7_readTown 0 = .ok (.aload_n 0, 1) := by decide +kernel
theorem dX7_readTown_1 : decode cX7_readTown 1 = .ok (.getfield 19, 3) := by decide +kernel
theorem dX7_readTown_4 : decode cX7_readTown 4 = .ok (.istore_n 3, 1) := by decide +kernel
theorem dX7_readTown_5 : decode cX7_readTown 5 = .ok (.aload_n 0, 1) := by decide +kernel
theorem dX7_readTown_6 : decode cX7_readTown 6 = .ok (.iconst 1, 1) := by decide +kernel
theorem dX7_readTown_7 : decode cX7_readTown 7 = .ok (.invokevirtual 46, 3) := by decide +kernel
theorem dX7_readTown_10 : decode cX7_readTown 10 = .ok (.istore 4, 2) := by decide +kernel
theorem dX7_readTown_12 : decode cX7_readTown 12 = .ok (.iload 4, 2) := by decide +kernel
theorem dX7_readTown_14 : decode cX7_readTown 14 = .ok (.aload_n 1, 1) := by decide +kernel
theorem dX7_readTown_15 : decode cX7_readTown 15 = .ok (.getfield 70, 3) := by decide +kernel
theorem dX7_readTown_18 : decode cX7_readTown 18 = .ok (.if_icmp .ge 14, 3) := by decide +kernel
theorem dX7_readTown_21 : decode cX7_readTown 21 = .ok (.iload 4, 2) := by decide +kernel
theorem dX7_readTown_23 : decode cX7_readTown 23 = .ok (.ifCond .lt 17, 3) := by decide +kernel
theorem dX7_readTown_26 : decode cX7_readTown 26 = .ok (.iload 4, 2) := by decide +kernel
theorem dX7_readTown_28 : decode cX7_readTown 28 = .ok (.iload_n 2, 1) := by decide +kernel
theorem dX7_readTown_29 : decode cX7_readTown 29 = .ok (.if_icmp .ne 11, 3) := by decide +kernel
theorem dX7_readTown_32 : decode cX7_readTown 32 = .ok (.aload_n 0, 1) := by decide +kernel
theorem dX7_readTown_33 : decode cX7_readTown 33 = .ok (.iload_n 3, 1) := by decide +kernel
theorem dX7_readTown_34 : decode cX7_readTown 34 = .ok (.invokevirtual 38, 3) := by decide +kernel
theorem dX7_readTown_37 : decode cX7_readTown 37 = .ok (.pop, 1) := by decide +kernel
theorem dX7_readTown_38 : decode cX7_readTown 38 = .ok (.iconst (-1), 1) := by decide +kernel
theorem dX7_readTown_39 : decode cX7_readTown 39 = .ok (.ireturn, 1) := by decide +kernel
theorem dX7_readTown_40 : decode cX7_readTown 40 = .ok (.iload 4, 2) := by decide +kernel
theorem dX7_readTown_42 : decode cX7_readTown 42 = .ok (.ireturn, 1) := by decide +kernel
theorem dX7_readKnee_0 : decode cX7_readKnee 0 = .ok (.aload_n 0, 1) := by decide +kernel
theorem dX7_readKnee_1 : decode cX7_readKnee 1 = .ok (.getfield 19, 3) := by decide +kernel
theorem dX7_readKnee_4 : decode cX7_readKnee 4 = .ok (.istore_n 1, 1) := by decide +kernel
theorem dX7_readKnee_5 : decode cX7_readKnee 5 = .ok (.aload_n 0, 1) := by decide +kernel
theorem dX7_readKnee_6 : decode cX7_readKnee 6 = .ok (.iconst 2, 1) := by decide +kernel
theorem dX7_readKnee_7 : decode cX7_readKnee 7 = .ok (.invokevirtual 46, 3) := by decide +kernel
theorem dX7_readKnee_10 : decode cX7_readKnee 10 = .ok (.istore_n 2, 1) := by decide +kernel
theorem dX7_readKnee_11 : decode cX7_readKnee 11 = .ok (.iload_n 2, 1) := by decide +kernel
theorem dX7_readKnee_12 : decode cX7_readKnee 12 = .ok (.bipush 36, 2) := by decide +kernel
theorem dX7_readKnee_14 : decode cX7_readKnee 14 = .ok (.if_icmp .le 11, 3) := by decide +kernel
theorem dX7_readKnee_17 : decode cX7_readKnee 17 = .ok (.aload_n 0, 1) := by decide +kernel
theorem dX7_readKnee_18 : decode cX7_readKnee 18 = .ok (.iload_n 1, 1) := by decide +kernel
theorem dX7_readKnee_19 : decode cX7_readKnee 19 = .ok (.invokevirtual 38, 3) := by decide +kernel
theorem dX7_readKnee_22 : decode cX7_readKnee 22 = .ok (.pop, 1) := by decide +kernel
theorem dX7_readKnee_23 : decode cX7_readKnee 23 = .ok (.iconst (-1), 1) := by decide +kernel
theorem dX7_readKnee_24 : decode cX7_readKnee 24 = .ok (.ireturn, 1) := by decide +kernel
theorem dX7_readKnee_25 : decode cX7_readKnee 25 = .ok (.iload_n 2, 1) := by decide +kernel
theorem dX7_readKnee_26 : decode cX7_readKnee 26 = .ok (.ireturn, 1) := by decide +kernel
theorem dX7_readNumber_0 : decode cX7_readNumber 0 = .ok (.iconst 0, 1) := by decide +kernel
theorem dX7_readNumber_1 : decode cX7_readNumber 1 = .ok (.istore_n 2, 1) := by decide +kernel
theorem dX7_readNumber_2 : decode cX7_readNumber 2 = .ok (.iconst 0, 1) := by decide +kernel
theorem dX7_readNumber_3 : decode cX7_readNumber 3 = .ok (.istore_n 3, 1) := by decide +kernel
theorem dX7_readNumber_4 : decode cX7_readNumber 4 = .ok (.iload_n 3, 1) := by decide +kernel
theorem dX7_readNumber_5 : decode cX7_readNumber 5 = .ok (.iload_n 1, 1) := by decide +kernel
theorem dX7_readNumber_6 : decode cX7_readNumber 6 = .ok (.if_icmp .ge 76, 3) := by decide +kernel
theorem dX7_readNumber_9 : decode cX7_readNumber 9 = .ok (.aload_n 0, 1) := by decide +kernel
theorem dX7_readNumber_10 : decode cX7_readNumber 10 = .ok (.getfield 19, 3) := by decide +kernel
theorem dX7_readNumber_13 : decode cX7_readNumber 13 = .ok (.aload_n 0, 1) := by decide +kernel
theorem dX7_readNumber_14 : decode cX7_readNumber 14 = .ok (.getfield 9, 3) := by decide +kernel
theorem dX7_readNumber_17 : decode cX7_readNumber 17 = .ok (.if_icmp .ge 65, 3) := by decide +kernel
theorem dX7_readNumber_20 : decode cX7_readNumber 20 = .ok (.aload_n 0, 1) := by decide +kernel
theorem dX7_readNumber_21 : decode cX7_readNumber 21 = .ok (.getfield 15, 3) := by decide +kernel
theorem dX7_readNumber_24 : decode cX7_readNumber 24 = .ok (.aload_n 0, 1) := by decide +kernel
theorem dX7_readNumber_25 : decode cX7_readNumber 25 = .ok (.getfield 19, 3) := by decide +kernel
theorem dX7_readNumber_28 : decode cX7_readNumber 28 = .ok (.iaload, 1) := by decide +kernel
theorem dX7_readNumber_29 : decode cX7_readNumber 29 = .ok (.bipush 48, 2) := by decide +kernel
theorem dX7_readNumber_31 : decode cX7_readNumber 31 = .ok (.if_icmp .lt 51, 3) := by decide +kernel
theorem dX7_readNumber_34 : decode cX7_readNumber 34 = .ok (.aload_n 0, 1) := by decide +kernel
theorem dX7_readNumber_35 : decode cX7_readNumber 35 = .ok (.getfield 15, 3) := by decide +kernel
theorem dX7_readNumber_38 : decode cX7_readNumber 38 = .ok (.aload_n 0, 1) := by decide +kernel
theorem dX7_readNumber_39 : decode cX7_readNumber 39 = .ok (.getfield 19, 3) := by decide +kernel
theorem dX7_readNumber_42 : decode cX7_readNumber 42 = .ok (.iaload, 1) := by decide +kernel
theorem dX7_readNumber_43 : decode cX7_readNumber 43 = .ok (.bipush 57, 2) := by decide +kernel
theorem dX7_readNumber_45 : decode cX7_readNumber 45 = .ok (.if_icmp .gt 37, 3) := by decide +kernel
theorem dX7_readNumber_48 : decode cX7_readNumber 48 = .ok (.iload_n 2, 1) := by decide +kernel
theorem dX7_readNumber_49 : decode cX7_readNumber 49 = .ok (.bipush 10, 2) := by decide +kernel
theorem dX7_readNumber_51 : decode cX7_readNumber 51 = .ok (.imul, 1) := by decide +kernel
theorem dX7_readNumber_52 : decode cX7_readNumber 52 = .ok (.aload_n 0, 1) := by decide +kernel
theorem dX7_readNumber_53 : decode cX7_readNumber 53 = .ok (.getfield 15, 3) := by decide +kernel
theorem dX7_readNumber_56 : decode cX7_readNumber 56 = .ok (.aload_n 0, 1) := by decide +kernel
theorem dX7_readNumber_57 : decode cX7_readNumber 57 = .ok (.getfield 19, 3) := by decide +kernel
theorem dX7_readNumber_60 : decode cX7_readNumber 60 = .ok (.iaload, 1) := by decide +kernel
theorem dX7_readNumber_61 : decode cX7_readNumber 61 = .ok (.iadd, 1) := by decide +kernel
theorem dX7_readNumber_62 : decode cX7_readNumber 62 = .ok (.bipush 48, 2) := by decide +kernel
theorem dX7_readNumber_64 : decode cX7_readNumber 64 = .ok (.isub, 1) := by decide +kernel
theorem dX7_readNumber_65 : decode cX7_readNumber 65 = .ok (.istore_n 2, 1) := by decide +kernel
theorem dX7_readNumber_66 : decode cX7_readNumber 66 = .ok (.iinc 3 1, 3) := by decide +kernel
theorem dX7_readNumber_69 : decode cX7_readNumber 69 = .ok (.aload_n 0, 1) := by decide +kernel
theorem dX7_readNumber_70 : decode cX7_readNumber 70 = .ok (.dup, 1) := by decide +kernel
theorem dX7_readNumber_71 : decode cX7_readNumber 71 = .ok (.getfield 19, 3) := by decide +kernel
theorem dX7_readNumber_74 : decode cX7_readNumber 74 = .ok (.iconst 1, 1) := by decide +kernel
theorem dX7_readNumber_75 : decode cX7_readNumber 75 = .ok (.iadd, 1) := by decide +kernel
theorem dX7_readNumber_76 : decode cX7_readNumber 76 = .ok (.putfield 19, 3) := by decide +kernel
theorem dX7_readNumber_79 : decode cX7_readNumber 79 = .ok (.goto (-75), 3) := by decide +kernel
theorem dX7_readNumber_82 : decode cX7_readNumber 82 = .ok (.iload_n 3, 1) := by decide +kernel
theorem dX7_readNumber_83 : decode cX7_readNumber 83 = .ok (.ifCond .ne 14, 3) := by decide +kernel
theorem dX7_readNumber_86 : decode cX7_readNumber 86 = .ok (.aload_n 0, 1) := by decide +kernel
theorem dX7_readNumber_87 : decode cX7_readNumber 87 = .ok (.aload_n 0, 1) := by decide +kernel
theorem dX7_readNumber_88 : decode cX7_readNumber 88 = .ok (.getfield 19, 3) := by decide +kernel
theorem dX7_readNumber_91 : decode cX7_readNumber 91 = .ok (.invokevirtual 38, 3) := by decide +kernel
theorem dX7_readNumber_94 : decode cX7_readNumber 94 = .ok (.pop, 1) := by decide +kernel
theorem dX7_readNumber_95 : decode cX7_readNumber 95 = .ok (.iconst (-1), 1) := by decide +kernel
theorem dX7_readNumber_96 : decode cX7_readNumber 96 = .ok (.ireturn, 1) := by decide +kernel
theorem dX7_readNumber_97 : decode cX7_readNumber 97 = .ok (.iload_n 2, 1) := by decide +kernel
theorem dX7_readNumber_98 : decode cX7_readNumber 98 = .ok (.ireturn, 1) := by decide +kernel
theorem dX7_eats_0 : decode cX7_eats 0 = .ok (.aload_n 0, 1) := by decide +kernel
theorem dX7_eats_1 : decode cX7_eats 1 = .ok (.getfield 19, 3) := by decide +kernel
theorem dX7_eats_4 : decode cX7_eats 4 = .ok (.aload_n 0, 1) := by decide +kernel
theorem dX7_eats_5 : decode cX7_eats 5 = .ok (.getfield 9, 3) := by decide +kernel
theorem dX7_eats_8 : decode cX7_eats 8 = .ok (.if_icmp .ge 16, 3) := by decide +kernel
theorem dX7_eats_11 : decode cX7_eats 11 = .ok (.aload_n 0, 1) := by decide +kernel
theorem dX7_eats_12 : decode cX7_eats 12 = .ok (.getfield 15, 3) := by decide +kernel
theorem dX7_eats_15 : decode cX7_eats 15 = .ok (.aload_n 0, 1) := by decide +kernel
theorem dX7_eats_16 : decode cX7_eats 16 = .ok (.getfield 19, 3) := by decide +kernel
theorem dX7_eats_19 : decode cX7_eats 19 = .ok (.iaload, 1) := by decide +kernel
theorem dX7_eats_20 : decode cX7_eats 20 = .ok (.iload_n 1, 1) := by decide +kernel
theorem dX7_eats_21 : decode cX7_eats 21 = .ok (.if_icmp .eq 5, 3) := by decide +kernel
theorem dX7_eats_24 : decode cX7_eats 24 = .ok (.iconst 0, 1) := by decide +kernel
theorem dX7_eats_25 : decode cX7_eats 25 = .ok (.ireturn, 1) := by decide +kernel
theorem dX7_eats_26 : decode cX7_eats 26 = .ok (.aload_n 0, 1) := by decide +kernel
theorem dX7_eats_27 : decode cX7_eats 27 = .ok (.dup, 1) := by decide +kernel
theorem dX7_eats_28 : decode cX7_eats 28 = .ok (.getfield 19, 3) := by decide +kernel
theorem dX7_eats_31 : decode cX7_eats 31 = .ok (.iconst 1, 1) := by decide +kernel
theorem dX7_eats_32 : decode cX7_eats 32 = .ok (.iadd, 1) := by decide +kernel
theorem dX7_eats_33 : decode cX7_eats 33 = .ok (.putfield 19, 3) := by decide +kernel
theorem dX7_eats_36 : decode cX7_eats 36 = .ok (.iconst 1, 1) := by decide +kernel
theorem dX7_eats_37 : decode cX7_eats 37 = .ok (.ireturn, 1) := by decide +kernel
theorem dX7_expects_0 : decode cX7_expects 0 = .ok (.aload_n 0, 1) := by decide +kernel
theorem dX7_expects_1 : decode cX7_expects 1 = .ok (.iload_n 1, 1) := by decide +kernel
theorem dX7_expects_2 : decode cX7_expects 2 = .ok (.invokevirtual 54, 3) := by decide +kernel
theorem dX7_expects_5 : decode cX7_expects 5 = .ok (.ifCond .ne 14, 3) := by decide +kernel
theorem dX7_expects_8 : decode cX7_expects 8 = .ok (.aload_n 0, 1) := by decide +kernel
theorem dX7_expects_9 : decode cX7_expects 9 = .ok (.aload_n 0, 1) := by decide +kernel
theorem dX7_expects_10 : decode cX7_expects 10 = .ok (.getfield 19, 3) := by decide +kernel
theorem dX7_expects_13 : decode cX7_expects 13 = .ok (.invokevirtual 38, 3) := by decide +kernel
theorem dX7_expects_16 : decode cX7_expects 16 = .ok (.ifCond .eq 7, 3) := by decide +kernel
theorem dX7_expects_19 : decode cX7_expects 19 = .ok (.iconst 1, 1) := by decide +kernel
theorem dX7_expects_20 : decode cX7_expects 20 = .ok (.goto 4, 3) := by decide +kernel
theorem dX7_expects_23 : decode cX7_expects 23 = .ok (.iconst 0, 1) := by decide +kernel
theorem dX7_expects_24 : decode cX7_expects 24 = .ok (.ireturn, 1) := by decide +kernel
theorem dX7_failsAt_0 : decode cX7_failsAt 0 = .ok (.aload_n 0, 1) := by decide +kernel
theorem dX7_failsAt_1 : decode cX7_failsAt 1 = .ok (.iload_n 1, 1) := by decide +kernel
theorem dX7_failsAt_2 : decode cX7_failsAt 2 = .ok (.putfield 22, 3) := by decide +kernel
theorem dX7_failsAt_5 : decode cX7_failsAt 5 = .ok (.iconst 0, 1) := by decide +kernel
theorem dX7_failsAt_6 : decode cX7_failsAt 6 = .ok (.ireturn, 1) := by decide +kernel
theorem dX8_init_0 : decode cX8_init 0 = .ok (.aload_n 0, 1) := by decide +kernel
theorem dX8_init_1 : decode cX8_init 1 = .ok (.invokespecial 3, 3) := by decide +kernel
theorem dX8_init_4 : decode cX8_init 4 = .ok (.aload_n 0, 1) := by decide +kernel
theorem dX8_init_5 : decode cX8_init 5 = .ok (.iconst (-1), 1) := by decide +kernel
theorem dX8_init_6 : decode cX8_init 6 = .ok (.putfield 9, 3) := by decide +kernel
theorem dX8_init_9 : decode cX8_init 9 = .ok (.aload_n 0, 1) := by decide +kernel
theorem dX8_init_10 : decode cX8_init 10 = .ok (.iconst 0, 1) := by decide +kernel
theorem dX8_init_11 : decode cX8_init 11 = .ok (.putfield 15, 3) := by decide +kernel
theorem dX8_init_14 : decode cX8_init 14 = .ok (.aload_n 0, 1) := by decide +kernel
theorem dX8_init_15 : decode cX8_init 15 = .ok (.bipush 20, 2) := by decide +kernel
theorem dX8_init_17 : decode cX8_init 17 = .ok (.anewarray 18, 3) := by decide +kernel
theorem dX8_init_20 : decode cX8_init 20 = .ok (.putfield 20, 3) := by decide +kernel
theorem dX8_init_23 : decode cX8_init 23 = .ok (.return_, 1) := by decide +kernel
theorem dX8_isMissing_0 : decode cX8_isMissing 0 = .ok (.aload_n 0, 1) := by decide +kernel
theorem dX8_isMissing_1 : decode cX8_isMissing 1 = .ok (.getfield 9, 3) := by decide +kernel
theorem dX8_isMissing_4 : decode cX8_isMissing 4 = .ok (.ifCond .ge 7, 3) := by decide +kernel
theorem dX8_isMissing_7 : decode cX8_isMissing 7 = .ok (.iconst 1, 1) := by decide +kernel
theorem dX8_isMissing_8 : decode cX8_isMissing 8 = .ok (.goto 4, 3) := by decide +kernel
theorem dX8_isMissing_11 : decode cX8_isMissing 11 = .ok (.iconst 0, 1) := by decide +kernel
theorem dX8_isMissing_12 : decode cX8_isMissing 12 = .ok (.ireturn, 1) := by decide +kernel
theorem dX8_become_0 : decode cX8_become 0 = .ok (.aload_n 0, 1) := by decide +kernel
theorem dX8_become_1 : decode cX8_become 1 = .ok (.iload_n 1, 1) := by decide +kernel
theorem dX8_become_2 : decode cX8_become 2 = .ok (.putfield 15, 3) := by decide +kernel
theorem dX8_become_5 : decode cX8_become 5 = .ok (.aload_n 0, 1) := by decide +kernel
theorem dX8_become_6 : decode cX8_become 6 = .ok (.iload_n 2, 1) := by decide +kernel
theorem dX8_become_7 : decode cX8_become 7 = .ok (.putfield 9, 3) := by decide +kernel
theorem dX8_become_10 : decode cX8_become 10 = .ok (.iconst 0, 1) := by decide +kernel
theorem dX8_become_11 : decode cX8_become 11 = .ok (.istore_n 3, 1) := by decide +kernel
theorem dX8_become_12 : decode cX8_become 12 = .ok (.iload_n 3, 1) := by decide +kernel
theorem dX8_become_13 : decode cX8_become 13 = .ok (.bipush 20, 2) := by decide +kernel
theorem dX8_become_15 : decode cX8_become 15 = .ok (.if_icmp .ge 16, 3) := by decide +kernel
theorem dX8_become_18 : decode cX8_become 18 = .ok (.aload_n 0, 1) := by decide +kernel
theorem dX8_become_19 : decode cX8_become 19 = .ok (.getfield 20, 3) := by decide +kernel
theorem dX8_become_22 : decode cX8_become 22 = .ok (.iload_n 3, 1) := by decide +kernel
theorem dX8_become_23 : decode cX8_become 23 = .ok (.aconst_null, 1) := by decide +kernel
theorem dX8_become_24 : decode cX8_become 24 = .ok (.aastore, 1) := by decide +kernel
theorem dX8_become_25 : decode cX8_become 25 = .ok (.iinc 3 1, 3) := by decide +kernel
theorem dX8_become_28 : decode cX8_become 28 = .ok (.goto (-16), 3) := by decide +kernel
theorem dX8_become_31 : decode cX8_become 31 = .ok (.return_, 1) := by decide +kernel
theorem dX8_copyFrom_0 : decode cX8_copyFrom 0 = .ok (.aload_n 0, 1) := by decide +kernel
theorem dX8_copyFrom_1 : decode cX8_copyFrom 1 = .ok (.aload_n 1, 1) := by decide +kernel
theorem dX8_copyFrom_2 : decode cX8_copyFrom 2 = .ok (.getfield 15, 3) := by decide +kernel
theorem dX8_copyFrom_5 : decode cX8_copyFrom 5 = .ok (.putfield 15, 3) := by decide +kernel
theorem dX8_copyFrom_8 : decode cX8_copyFrom 8 = .ok (.aload_n 0, 1) := by decide +kernel
theorem dX8_copyFrom_9 : decode cX8_copyFrom 9 = .ok (.aload_n 1, 1) := by decide +kernel
theorem dX8_copyFrom_10 : decode cX8_copyFrom 10 = .ok (.getfield 9, 3) := by decide +kernel
theorem dX8_copyFrom_13 : decode cX8_copyFrom 13 = .ok (.putfield 9, 3) := by decide +kernel
theorem dX8_copyFrom_16 : decode cX8_copyFrom 16 = .ok (.iconst 0, 1) := by decide +kernel
theorem dX8_copyFrom_17 : decode cX8_copyFrom 17 = .ok (.istore_n 2, 1) := by decide +kernel
theorem dX8_copyFrom_18 : decode cX8_copyFrom 18 = .ok (.iload_n 2, 1) := by decide +kernel
theorem dX8_copyFrom_19 : decode cX8_copyFrom 19 = .ok (.bipush 20, 2) := by decide +kernel
theorem dX8_copyFrom_21 : decode cX8_copyFrom 21 = .ok (.if_icmp .ge 21, 3) := by decide +kernel
theorem dX8_copyFrom_24 : decode cX8_copyFrom 24 = .ok (.aload_n 0, 1) := by decide +kernel
theorem dX8_copyFrom_25 : decode cX8_copyFrom 25 = .ok (.getfield 20, 3) := by decide +kernel
theorem dX8_copyFrom_28 : decode cX8_copyFrom 28 = .ok (.iload_n 2, 1) := by decide +kernel
theorem dX8_copyFrom_29 : decode cX8_copyFrom 29 = .ok (.aload_n 1, 1) := by decide +kernel
theorem dX8_copyFrom_30 : decode cX8_copyFrom 30 = .ok (.getfield 20, 3) := by decide +kernel
theorem dX8_copyFrom_33 : decode cX8_copyFrom 33 = .ok (.iload_n 2, 1) := by decide +kernel
theorem dX8_copyFrom_34 : decode cX8_copyFrom 34 = .ok (.aaload, 1) := by decide +kernel
theorem dX8_copyFrom_35 : decode cX8_copyFrom 35 = .ok (.aastore, 1) := by decide +kernel
theorem dX8_copyFrom_36 : decode cX8_copyFrom 36 = .ok (.iinc 2 1, 3) := by decide +kernel
theorem dX8_copyFrom_39 : decode cX8_copyFrom 39 = .ok (.goto (-21), 3) := by decide +kernel
theorem dX8_copyFrom_42 : decode cX8_copyFrom 42 = .ok (.return_, 1) := by decide +kernel
theorem dX9_init_0 : decode cX9_init 0 = .ok (.aload_n 0, 1) := by decide +kernel
theorem dX9_init_1 : decode cX9_init 1 = .ok (.invokespecial 5, 3) := by decide +kernel
theorem dX9_init_4 : decode cX9_init 4 = .ok (.aload_n 0, 1) := by decide +kernel
theorem dX9_init_5 : decode cX9_init 5 = .ok (.new 11, 3) := by decide +kernel
theorem dX9_init_8 : decode cX9_init 8 = .ok (.dup, 1) := by decide +kernel
theorem dX9_init_9 : decode cX9_init 9 = .ok (.invokespecial 13, 3) := by decide +kernel
theorem dX9_init_12 : decode cX9_init 12 = .ok (.putfield 14, 3) := by decide +kernel
theorem dX9_init_15 : decode cX9_init 15 = .ok (.aload_n 0, 1) := by decide +kernel
theorem dX9_init_16 : decode cX9_init 16 = .ok (.new 11, 3) := by decide +kernel
theorem dX9_init_19 : decode cX9_init 19 = .ok (.dup, 1) := by decide +kernel
theorem dX9_init_20 : decode cX9_init 20 = .ok (.invokespecial 13, 3) := by decide +kernel
theorem dX9_init_23 : decode cX9_init 23 = .ok (.putfield 18, 3) := by decide +kernel
theorem dX9_init_26 : decode cX9_init 26 = .ok (.aload_n 0, 1) := by decide +kernel
theorem dX9_init_27 : decode cX9_init 27 = .ok (.iconst 0, 1) := by decide +kernel
theorem dX9_init_28 : decode cX9_init 28 = .ok (.putfield 21, 3) := by decide +kernel
theorem dX9_init_31 : decode cX9_init 31 = .ok (.aload_n 0, 1) := by decide +kernel
theorem dX9_init_32 : decode cX9_init 32 = .ok (.new 25, 3) := by decide +kernel
theorem dX9_init_35 : decode cX9_init 35 = .ok (.dup, 1) := by decide +kernel
theorem dX9_init_36 : decode cX9_init 36 = .ok (.invokespecial 27, 3) := by decide +kernel
theorem dX9_init_39 : decode cX9_init 39 = .ok (.putfield 28, 3) := by decide +kernel
theorem dX9_init_42 : decode cX9_init 42 = .ok (.aload_n 0, 1) := by decide +kernel
theorem dX9_init_43 : decode cX9_init 43 = .ok (.iconst 0, 1) := by decide +kernel
theorem dX9_init_44 : decode cX9_init 44 = .ok (.putfield 32, 3) := by decide +kernel
theorem dX9_init_47 : decode cX9_init 47 = .ok (.aload_n 0, 1) := by decide +kernel
theorem dX9_init_48 : decode cX9_init 48 = .ok (.iconst 3, 1) := by decide +kernel
theorem dX9_init_49 : decode cX9_init 49 = .ok (.anewarray 35, 3) := by decide +kernel
theorem dX9_init_52 : decode cX9_init 52 = .ok (.putfield 37, 3) := by decide +kernel
theorem dX9_init_55 : decode cX9_init 55 = .ok (.aload_n 0, 1) := by decide +kernel
theorem dX9_init_56 : decode cX9_init 56 = .ok (.iconst 3, 1) := by decide +kernel
theorem dX9_init_57 : decode cX9_init 57 = .ok (.newarray .boolean, 2) := by decide +kernel
theorem dX9_init_59 : decode cX9_init 59 = .ok (.putfield 41, 3) := by decide +kernel
theorem dX9_init_62 : decode cX9_init 62 = .ok (.aload_n 0, 1) := by decide +kernel
theorem dX9_init_63 : decode cX9_init 63 = .ok (.new 45, 3) := by decide +kernel
theorem dX9_init_66 : decode cX9_init 66 = .ok (.dup, 1) := by decide +kernel
theorem dX9_init_67 : decode cX9_init 67 = .ok (.invokespecial 47, 3) := by decide +kernel
theorem dX9_init_70 : decode cX9_init 70 = .ok (.putfield 48, 3) := by decide +kernel
theorem dX9_init_73 : decode cX9_init 73 = .ok (.aload_n 0, 1) := by decide +kernel
theorem dX9_init_74 : decode cX9_init 74 = .ok (.iconst 0, 1) := by decide +kernel
theorem dX9_init_75 : decode cX9_init 75 = .ok (.putfield 52, 3) := by decide +kernel
theorem dX9_init_78 : decode cX9_init 78 = .ok (.aload_n 0, 1) := by decide +kernel
theorem dX9_init_79 : decode cX9_init 79 = .ok (.new 11, 3) := by decide +kernel
theorem dX9_init_82 : decode cX9_init 82 = .ok (.dup, 1) := by decide +kernel
theorem dX9_init_83 : decode cX9_init 83 = .ok (.invokespecial 13, 3) := by decide +kernel
theorem dX9_init_86 : decode cX9_init 86 = .ok (.putfield 55, 3) := by decide +kernel
theorem dX9_init_89 : decode cX9_init 89 = .ok (.aload_n 0, 1) := by decide +kernel
theorem dX9_init_90 : decode cX9_init 90 = .ok (.new 25, 3) := by decide +kernel
theorem dX9_init_93 : decode cX9_init 93 = .ok (.dup, 1) := by decide +kernel
theorem dX9_init_94 : decode cX9_init 94 = .ok (.invokespecial 27, 3) := by decide +kernel
theorem dX9_init_97 : decode cX9_init 97 = .ok (.putfield 58, 3) := by decide +kernel
theorem dX9_init_100 : decode cX9_init 100 = .ok (.aload_n 0, 1) := by decide +kernel
theorem dX9_init_101 : decode cX9_init 101 = .ok (.new 35, 3) := by decide +kernel
theorem dX9_init_104 : decode cX9_init 104 = .ok (.dup, 1) := by decide +kernel
theorem dX9_init_105 : decode cX9_init 105 = .ok (.invokespecial 61, 3) := by decide +kernel
theorem dX9_init_108 : decode cX9_init 108 = .ok (.putfield 62, 3) := by decide +kernel
theorem dX9_init_111 : decode cX9_init 111 = .ok (.aload_n 0, 1) := by decide +kernel
theorem dX9_init_112 : decode cX9_init 112 = .ok (.new 66, 3) := by decide +kernel
theorem dX9_init_115 : decode cX9_init 115 = .ok (.dup, 1) := by decide +kernel
theorem dX9_init_116 : decode cX9_init 116 = .ok (.invokespecial 68, 3) := by decide +kernel
theorem dX9_init_119 : decode cX9_init 119 = .ok (.putfield 69, 3) := by decide +kernel
theorem dX9_init_122 : decode cX9_init 122 = .ok (.aload_n 0, 1) := by decide +kernel
theorem dX9_init_123 : decode cX9_init 123 = .ok (.iconst 3, 1) := by decide +kernel
theorem dX9_init_124 : decode cX9_init 124 = .ok (.anewarray 73, 3) := by decide +kernel
theorem dX9_init_127 : decode cX9_init 127 = .ok (.putfield 75, 3) := by decide +kernel
theorem dX9_init_130 : decode cX9_init 130 = .ok (.aload_n 0, 1) := by decide +kernel
theorem dX9_init_131 : decode cX9_init 131 = .ok (.iconst 4, 1) := by decide +kernel
theorem dX9_init_132 : decode cX9_init 132 = .ok (.anewarray 79, 3) := by decide +kernel
theorem dX9_init_135 : decode cX9_init 135 = .ok (.putfield 81, 3) := by decide +kernel
theorem dX9_init_138 : decode cX9_init 138 = .ok (.aload_n 0, 1) := by decide +kernel
theorem dX9_init_139 : decode cX9_init 139 = .ok (.bipush 13, 2) := by decide +kernel
theorem dX9_init_141 : decode cX9_init 141 = .ok (.newarray .int, 2) := by decide +kernel
theorem dX9_init_143 : decode cX9_init 143 = .ok (.putfield 85, 3) := by decide +kernel
theorem dX9_init_146 : decode cX9_init 146 = .ok (.aload_n 0, 1) := by decide +kernel
theorem dX9_init_147 : decode cX9_init 147 = .ok (.new 89, 3) := by decide +kernel
theorem dX9_init_150 : decode cX9_init 150 = .ok (.dup, 1) := by decide +kernel
theorem dX9_init_151 : decode cX9_init 151 = .ok (.invokespecial 91, 3) := by decide +kernel
theorem dX9_init_154 : decode cX9_init 154 = .ok (.putfield 92, 3) := by decide +kernel
theorem dX9_init_157 : decode cX9_init 157 = .ok (.iconst 0, 1) := by decide +kernel
theorem dX9_init_158 : decode cX9_init 158 = .ok (.istore_n 1, 1) := by decide +kernel
theorem dX9_init_159 : decode cX9_init 159 = .ok (.iload_n 1, 1) := by decide +kernel
theorem dX9_init_160 : decode cX9_init 160 = .ok (.iconst 3, 1) := by decide +kernel
theorem dX9_init_161 : decode cX9_init 161 = .ok (.if_icmp .ge 22, 3) := by decide +kernel
theorem dX9_init_164 : decode cX9_init 164 = .ok (.aload_n 0, 1) := by decide +kernel
theorem dX9_init_165 : decode cX9_init 165 = .ok (.getfield 37, 3) := by decide +kernel
theorem dX9_init_168 : decode cX9_init 168 = .ok (.iload_n 1, 1) := by decide +kernel
theorem dX9_init_169 : decode cX9_init 169 = .ok (.new 35, 3) := by decide +kernel
theorem dX9_init_172 : decode cX9_init 172 = .ok (.dup, 1) := by decide +kernel
theorem dX9_init_173 : decode cX9_init 173 = .ok (.invokespecial 61, 3) := by decide +kernel
theorem dX9_init_176 : decode cX9_init 176 = .ok (.aastore, 1) := by decide +kernel
theorem dX9_init_177 : decode cX9_init 177 = .ok (.iinc 1 1, 3) := by decide +kernel
theorem dX9_init_180 : decode cX9_init 180 = .ok (.goto (-21), 3) := by decide +kernel
theorem dX9_init_183 : decode cX9_init 183 = .ok (.iconst 0, 1) := by decide +kernel
theorem dX9_init_184 : decode cX9_init 184 = .ok (.istore_n 1, 1) := by decide +kernel
theorem dX9_init_185 : decode cX9_init 185 = .ok (.iload_n 1, 1) := by decide +kernel
theorem dX9_init_186 : decode cX9_init 186 = .ok (.iconst 3, 1) := by decide +kernel
theorem dX9_init_187 : decode cX9_init 187 = .ok (.if_icmp .ge 22, 3) := by decide +kernel
theorem dX9_init_190 : decode cX9_init 190 = .ok (.aload_n 0, 1) := by decide +kernel
theorem dX9_init_191 : decode cX9_init 191 = .ok (.getfield 75, 3) := by decide +kernel
theorem dX9_init_194 : decode cX9_init 194 = .ok (.iload_n 1, 1) := by decide +kernel
theorem dX9_init_195 : decode cX9_init 195 = .ok (.new 73, 3) := by decide +kernel
theorem dX9_init_198 : decode cX9_init 198 = .ok (.dup, 1) := by decide +kernel
theorem dX9_init_199 : decode cX9_init 199 = .ok (.invokespecial 96, 3) := by decide +kernel
theorem dX9_init_202 : decode cX9_init 202 = .ok (.aastore, 1) := by decide +kernel
theorem dX9_init_203 : decode cX9_init 203 = .ok (.iinc 1 1, 3) := by decide +kernel
theorem dX9_init_206 : decode cX9_init 206 = .ok (.goto (-21), 3) := by decide +kernel
theorem dX9_init_209 : decode cX9_init 209 = .ok (.iconst 0, 1) := by decide +kernel
theorem dX9_init_210 : decode cX9_init 210 = .ok (.istore_n 1, 1) := by decide +kernel
theorem dX9_init_211 : decode cX9_init 211 = .ok (.iload_n 1, 1) := by decide +kernel
theorem dX9_init_212 : decode cX9_init 212 = .ok (.iconst 4, 1) := by decide +kernel
theorem dX9_init_213 : decode cX9_init 213 = .ok (.if_icmp .ge 22, 3) := by decide +kernel
theorem dX9_init_216 : decode cX9_init 216 = .ok (.aload_n 0, 1) := by decide +kernel
theorem dX9_init_217 : decode cX9_init 217 = .ok (.getfield 81, 3) := by decide +kernel
theorem dX9_init_220 : decode cX9_init 220 = .ok (.iload_n 1, 1) := by decide +kernel
theorem dX9_init_221 : decode cX9_init 221 = .ok (.new 79, 3) := by decide +kernel
theorem dX9_init_224 : decode cX9_init 224 = .ok (.dup, 1) := by decide +kernel
theorem dX9_init_225 : decode cX9_init 225 = .ok (.invokespecial 97, 3) := by decide +kernel
theorem dX9_init_228 : decode cX9_init 228 = .ok (.aastore, 1) := by decide +kernel
theorem dX9_init_229 : decode cX9_init 229 = .ok (.iinc 1 1, 3) := by decide +kernel
theorem dX9_init_232 : decode cX9_init 232 = .ok (.goto (-21), 3) := by decide +kernel
theorem dX9_init_235 : decode cX9_init 235 = .ok (.return_, 1) := by decide +kernel
theorem dX9_towns_0 : decode cX9_towns 0 = .ok (.iload_n 1, 1) := by decide +kernel
theorem dX9_towns_1 : decode cX9_towns 1 = .ok (.iconst 2, 1) := by decide +kernel
theorem dX9_towns_2 : decode cX9_towns 2 = .ok (.if_icmp .lt 9, 3) := by decide +kernel
theorem dX9_towns_5 : decode cX9_towns 5 = .ok (.iload_n 1, 1) := by decide +kernel
theorem dX9_towns_6 : decode cX9_towns 6 = .ok (.bipush 6, 2) := by decide +kernel
theorem dX9_towns_8 : decode cX9_towns 8 = .ok (.if_icmp .le 6, 3) := by decide +kernel
theorem dX9_towns_11 : decode cX9_towns 11 = .ok (.bipush (-2), 2) := by decide +kernel
theorem dX9_towns_13 : decode cX9_towns 13 = .ok (.ireturn, 1) := by decide +kernel
theorem dX9_towns_14 : decode cX9_towns 14 = .ok (.aload_n 0, 1) := by decide +kernel
theorem dX9_towns_15 : decode cX9_towns 15 = .ok (.getfield 14, 3) := by decide +kernel
theorem dX9_towns_18 : decode cX9_towns 18 = .ok (.getfield 98, 3) := by decide +kernel
theorem dX9_towns_21 : decode cX9_towns 21 = .ok (.istore_n 2, 1) := by decide +kernel
theorem dX9_towns_22 : decode cX9_towns 22 = .ok (.aload_n 0, 1) := by decide +kernel
theorem dX9_towns_23 : decode cX9_towns 23 = .ok (.getfield 14, 3) := by decide +kernel
theorem dX9_towns_26 : decode cX9_towns 26 = .ok (.iload_n 1, 1) := by decide +kernel
theorem dX9_towns_27 : decode cX9_towns 27 = .ok (.putfield 98, 3) := by decide +kernel
theorem dX9_towns_30 : decode cX9_towns 30 = .ok (.aload_n 0, 1) := by decide +kernel
theorem dX9_towns_31 : decode cX9_towns 31 = .ok (.getfield 14, 3) := by decide +kernel
theorem dX9_towns_34 : decode cX9_towns 34 = .ok (.iconst 0, 1) := by decide +kernel
theorem dX9_towns_35 : decode cX9_towns 35 = .ok (.putfield 102, 3) := by decide +kernel
theorem dX9_towns_38 : decode cX9_towns 38 = .ok (.aload_n 0, 1) := by decide +kernel
theorem dX9_towns_39 : decode cX9_towns 39 = .ok (.invokevirtual 105, 3) := by decide +kernel
theorem dX9_towns_42 : decode cX9_towns 42 = .ok (.iload_n 2, 1) := by decide +kernel
theorem dX9_towns_43 : decode cX9_towns 43 = .ok (.ireturn, 1) := by decide +kernel
theorem dX9_road_0 : decode cX9_road 0 = .ok (.aload_n 0, 1) := by decide +kernel
theorem dX9_road_1 : decode cX9_road 1 = .ok (.getfield 14, 3) := by decide +kernel
theorem dX9_road_4 : decode cX9_road 4 = .ok (.iload_n 1, 1) := by decide +kernel
theorem dX9_road_5 : decode cX9_road 5 = .ok (.iload_n 2, 1) := by decide +kernel
theorem dX9_road_6 : decode cX9_road 6 = .ok (.invokevirtual 108, 3) := by decide +kernel
theorem dX9_road_9 : decode cX9_road 9 = .ok (.ifCond .eq 10, 3) := by decide +kernel
theorem dX9_road_12 : decode cX9_road 12 = .ok (.iload_n 3, 1) := by decide +kernel
theorem dX9_road_13 : decode cX9_road 13 = .ok (.invokestatic 112, 3) := by decide +kernel
theorem dX9_road_16 : decode cX9_road 16 = .ok (.ifCond .ne 5, 3) := by decide +kernel
theorem dX9_road_19 : decode cX9_road 19 = .ok (.iconst (-1), 1) := by decide +kernel
theorem dX9_road_20 : decode cX9_road 20 = .ok (.ireturn, 1) := by decide +kernel
theorem dX9_road_21 : decode cX9_road 21 = .ok (.lload 4, 2) := by decide +kernel
theorem dX9_road_23 : decode cX9_road 23 = .ok (.ldc2_w 116, 3) := by decide +kernel
theorem dX9_road_26 : decode cX9_road 26 = .ok (.invokestatic 118, 3) := by decide +kernel
theorem dX9_road_29 : decode cX9_road 29 = .ok (.ifCond .eq 18, 3) := by decide +kernel
theorem dX9_road_32 : decode cX9_road 32 = .ok (.lload 6, 2) := by decide +kernel
theorem dX9_road_34 : decode cX9_road 34 = .ok (.ldc2_w 122, 3) := by decide +kernel
theorem dX9_road_37 : decode cX9_road 37 = .ok (.invokestatic 118, 3) := by decide +kernel
theorem dX9_road_40 : decode cX9_road 40 = .ok (.ifCond .eq 7, 3) := by decide +kernel
theorem dX9_road_43 : decode cX9_road 43 = .ok (.iconst 1, 1) := by decide +kernel
theorem dX9_road_44 : decode cX9_road 44 = .ok (.goto 4, 3) := by decide +kernel
theorem dX9_road_47 : decode cX9_road 47 = .ok (.iconst 0, 1) := by decide +kernel
theorem dX9_road_48 : decode cX9_road 48 = .ok (.istore 11, 2) := by decide +kernel
theorem dX9_road_50 : decode cX9_road 50 = .ok (.iload 11, 2) := by decide +kernel
theorem dX9_road_52 : decode cX9_road 52 = .ok (.ifCond .eq 26, 3) := by decide +kernel
theorem dX9_road_55 : decode cX9_road 55 = .ok (.lload 8, 2) := by decide +kernel
theorem dX9_road_57 : decode cX9_road 57 = .ok (.ldc2_w 122, 3) := by decide +kernel
theorem dX9_road_60 : decode cX9_road 60 = .ok (.invokestatic 118, 3) := by decide +kernel
theorem dX9_road_63 : decode cX9_road 63 = .ok (.ifCond .eq 15, 3) := by decide +kernel
theorem dX9_road_66 : decode cX9_road 66 = .ok (.iload 10, 2) := by decide +kernel
theorem dX9_road_68 : decode cX9_road 68 = .ok (.i2l, 1) := by decide +kernel
theorem dX9_road_69 : decode cX9_road 69 = .ok (.ldc2_w 124, 3) := by decide +kernel
theorem dX9_road_72 : decode cX9_road 72 = .ok (.invokestatic 118, 3) := by decide +kernel
theorem dX9_road_75 : decode cX9_road 75 = .ok (.ifCond .ne 6, 3) := by decide +kernel
theorem dX9_road_78 : decode cX9_road 78 = .ok (.bipush (-2), 2) := by decide +kernel
theorem dX9_road_80 : decode cX9_road 80 = .ok (.ireturn, 1) := by decide +kernel
theorem dX9_road_81 : decode cX9_road 81 = .ok (.aload_n 0, 1) := by decide +kernel
theorem dX9_road_82 : decode cX9_road 82 = .ok (.getfield 14, 3) := by decide +kernel
theorem dX9_road_85 : decode cX9_road 85 = .ok (.getfield 102, 3) := by decide +kernel
theorem dX9_road_88 : decode cX9_road 88 = .ok (.bipush 12, 2) := by decide +kernel
theorem dX9_road_90 : decode cX9_road 90 = .ok (.if_icmp .lt 6, 3) := by decide +kernel
theorem dX9_road_93 : decode cX9_road 93 = .ok (.bipush (-4), 2) := by decide +kernel
theorem dX9_road_95 : decode cX9_road 95 = .ok (.ireturn, 1) := by decide +kernel
theorem dX9_road_96 : decode cX9_road 96 = .ok (.aload_n 0, 1) := by decide +kernel
theorem dX9_road_97 : decode cX9_road 97 = .ok (.getfield 14, 3) := by decide +kernel
theorem dX9_road_100 : decode cX9_road 100 = .ok (.new 126, 3) := by decide +kernel
theorem dX9_road_103 : decode cX9_road 103 = .ok (.dup, 1) := by decide +kernel
theorem dX9_road_104 : decode cX9_road 104 = .ok (.iload_n 1, 1) := by decide +kernel
theorem dX9_road_105 : decode cX9_road 105 = .ok (.iload_n 2, 1) := by decide +kernel
theorem dX9_road_106 : decode cX9_road 106 = .ok (.iload_n 3, 1) := by decide +kernel
theorem dX9_road_107 : decode cX9_road 107 = .ok (.lload 4, 2) := by decide +kernel
theorem dX9_road_109 : decode cX9_road 109 = .ok (.lload 6, 2) := by decide +kernel
theorem dX9_road_111 : decode cX9_road 111 = .ok (.lload 8, 2) := by decide +kernel
theorem dX9_road_113 : decode cX9_road 113 = .ok (.iload 10, 2) := by decide +kernel
theorem dX9_road_115 : decode cX9_road 115 = .ok (.invokespecial 128, 3) := by decide +kernel
theorem dX9_road_118 : decode cX9_road 118 = .ok (.invokevirtual 131, 3) := by decide +kernel
theorem dX9_road_121 : decode cX9_road 121 = .ok (.aload_n 0, 1) := by decide +kernel
theorem dX9_road_122 : decode cX9_road 122 = .ok (.invokevirtual 105, 3) := by decide +kernel
theorem dX9_road_125 : decode cX9_road 125 = .ok (.aload_n 0, 1) := by decide +kernel
theorem dX9_road_126 : decode cX9_road 126 = .ok (.getfield 14, 3) := by decide +kernel
theorem dX9_road_129 : decode cX9_road 129 = .ok (.getfield 102, 3) := by decide +kernel
theorem dX9_road_132 : decode cX9_road 132 = .ok (.iconst 1, 1) := by decide +kernel
theorem dX9_road_133 : decode cX9_road 133 = .ok (.isub, 1) := by decide +kernel
theorem dX9_road_134 : decode cX9_road 134 = .ok (.ireturn, 1) := by decide +kernel
theorem dX9_close_0 : decode cX9_close 0 = .ok (.aload_n 0, 1) := by decide +kernel
theorem dX9_close_1 : decode cX9_close 1 = .ok (.getfield 14, 3) := by decide +kernel
theorem dX9_close_4 : decode cX9_close 4 = .ok (.iload_n 1, 1) := by decide +kernel
theorem dX9_close_5 : decode cX9_close 5 = .ok (.invokevirtual 135, 3) := by decide +kernel
theorem dX9_close_8 : decode cX9_close 8 = .ok (.ifCond .ne 5, 3) := by decide +kernel
theorem dX9_close_11 : decode cX9_close 11 = .ok (.iconst (-1), 1) := by decide +kernel
theorem dX9_close_12 : decode cX9_close 12 = .ok (.ireturn, 1) := by decide +kernel
theorem dX9_close_13 : decode cX9_close 13 = .ok (.aload_n 0, 1) := by decide +kernel
theorem dX9_close_14 : decode cX9_close 14 = .ok (.getfield 14, 3) := by decide +kernel
theorem dX9_close_17 : decode cX9_close 17 = .ok (.iload_n 1, 1) := by decide +kernel
theorem dX9_close_18 : decode cX9_close 18 = .ok (.invokevirtual 138, 3) := by decide +kernel
theorem dX9_close_21 : decode cX9_close 21 = .ok (.aload_n 0, 1) := by decide +kernel
theorem dX9_close_22 : decode cX9_close 22 = .ok (.invokevirtual 105, 3) := by decide +kernel
theorem dX9_close_25 : decode cX9_close 25 = .ok (.aload_n 0, 1) := by decide +kernel
theorem dX9_close_26 : decode cX9_close 26 = .ok (.getfield 14, 3) := by decide +kernel
theorem dX9_close_29 : decode cX9_close 29 = .ok (.getfield 102, 3) := by decide +kernel
theorem dX9_close_32 : decode cX9_close 32 = .ok (.ireturn, 1) := by decide +kernel
theorem dX9_toll_0 : decode cX9_toll 0 = .ok (.aload_n 0, 1) := by decide +kernel
theorem dX9_toll_1 : decode cX9_toll 1 = .ok (.getfield 14, 3) := by decide +kernel
theorem dX9_toll_4 : decode cX9_toll 4 = .ok (.iload_n 1, 1) := by decide +kernel
theorem dX9_toll_5 : decode cX9_toll 5 = .ok (.invokevirtual 135, 3) := by decide +kernel
theorem dX9_toll_8 : decode cX9_toll 8 = .ok (.ifCond .ne 7, 3) := by decide +kernel
theorem dX9_toll_11 : decode cX9_toll 11 = .ok (.ldc2_w 142, 3) := by decide +kernel
theorem dX9_toll_14 : decode cX9_toll 14 = .ok (.lreturn, 1) := by decide +kernel
theorem dX9_toll_15 : decode cX9_toll 15 = .ok (.lload_n 2, 1) := by decide +kernel
theorem dX9_toll_16 : decode cX9_toll 16 = .ok (.ldc2_w 144, 3) := by decide +kernel
theorem dX9_toll_19 : decode cX9_toll 19 = .ok (.invokestatic 118, 3) := by decide +kernel
theorem dX9_toll_22 : decode cX9_toll 22 = .ok (.ifCond .ne 7, 3) := by decide +kernel
theorem dX9_toll_25 : decode cX9_toll 25 = .ok (.ldc2_w 146, 3) := by decide +kernel
theorem dX9_toll_28 : decode cX9_toll 28 = .ok (.lreturn, 1) := by decide +kernel
theorem dX9_toll_29 : decode cX9_toll 29 = .ok (.aload_n 0, 1) := by decide +kernel
theorem dX9_toll_30 : decode cX9_toll 30 = .ok (.getfield 14, 3) := by decide +kernel
theorem dX9_toll_33 : decode cX9_toll 33 = .ok (.getfield 148, 3) := by decide +kernel
theorem dX9_toll_36 : decode cX9_toll 36 = .ok (.iload_n 1, 1) := by decide +kernel
theorem dX9_toll_37 : decode cX9_toll 37 = .ok (.laload, 1) := by decide +kernel
theorem dX9_toll_38 : decode cX9_toll 38 = .ok (.lstore 4, 2) := by decide +kernel
theorem dX9_toll_40 : decode cX9_toll 40 = .ok (.aload_n 0, 1) := by decide +kernel
theorem dX9_toll_41 : decode cX9_toll 41 = .ok (.getfield 14, 3) := by decide +kernel
theorem dX9_toll_44 : decode cX9_toll 44 = .ok (.getfield 148, 3) := by decide +kernel
theorem dX9_toll_47 : decode cX9_toll 47 = .ok (.iload_n 1, 1) := by decide +kernel
theorem dX9_toll_48 : decode cX9_toll 48 = .ok (.lload_n 2, 1) := by decide +kernel
theorem dX9_toll_49 : decode cX9_toll 49 = .ok (.lastore, 1) := by decide +kernel
theorem dX9_toll_50 : decode cX9_toll 50 = .ok (.aload_n 0, 1) := by decide +kernel
theorem dX9_toll_51 : decode cX9_toll 51 = .ok (.invokevirtual 105, 3) := by decide +kernel
theorem dX9_toll_54 : decode cX9_toll 54 = .ok (.lload 4, 2) := by decide +kernel
theorem dX9_toll_56 : decode cX9_toll 56 = .ok (.lreturn, 1) := by decide +kernel
theorem dX9_of_0 : decode cX9_of 0 = .ok (.aload_n 0, 1) := by decide +kernel
theorem dX9_of_1 : decode cX9_of 1 = .ok (.getfield 14, 3) := by decide +kernel
theorem dX9_of_4 : decode cX9_of 4 = .ok (.iload_n 1, 1) := by decide +kernel
theorem dX9_of_5 : decode cX9_of 5 = .ok (.invokevirtual 135, 3) := by decide +kernel
theorem dX9_of_8 : decode cX9_of 8 = .ok (.ifCond .ne 7, 3) := by decide +kernel
theorem dX9_of_11 : decode cX9_of 11 = .ok (.ldc2_w 152, 3) := by decide +kernel
theorem dX9_of_14 : decode cX9_of 14 = .ok (.lreturn, 1) := by decide +kernel
theorem dX9_of_15 : decode cX9_of 15 = .ok (.aload_n 0, 1) := by decide +kernel
theorem dX9_of_16 : decode cX9_of 16 = .ok (.getfield 14, 3) := by decide +kernel
theorem dX9_of_19 : decode cX9_of 19 = .ok (.getfield 154, 3) := by decide +kernel
theorem dX9_of_22 : decode cX9_of 22 = .ok (.iload_n 1, 1) := by decide +kernel
theorem dX9_of_23 : decode cX9_of 23 = .ok (.aaload, 1) := by decide +kernel
theorem dX9_of_24 : decode cX9_of 24 = .ok (.astore_n 3, 1) := by decide +kernel
theorem dX9_of_25 : decode cX9_of 25 = .ok (.iload_n 2, 1) := by decide +kernel
theorem dX9_of_26 : decode cX9_of 26 = .ok (.tableswitch 95 0 7 #[46, 52, 58, 64, 69, 74, 79, 85], 46) := by decide +kernel
theorem dX9_of_72 : decode cX9_of 72 = .ok (.aload_n 3, 1) := by decide +kernel
theorem dX9_of_73 : decode cX9_of 73 = .ok (.getfield 158, 3) := by decide +kernel
theorem dX9_of_76 : decode cX9_of 76 = .ok (.i2l, 1) := by decide +kernel
theorem dX9_of_77 : decode cX9_of 77 = .ok (.lreturn, 1) := by decide +kernel
theorem dX9_of_78 : decode cX9_of 78 = .ok (.aload_n 3, 1) := by decide +kernel
theorem dX9_of_79 : decode cX9_of 79 = .ok (.getfield 161, 3) := by decide +kernel
theorem dX9_of_82 : decode cX9_of 82 = .ok (.i2l, 1) := by decide +kernel
theorem dX9_of_83 : decode cX9_of 83 = .ok (.lreturn, 1) := by decide +kernel
theorem dX9_of_84 : decode cX9_of 84 = .ok (.aload_n 3, 1) := by decide +kernel
theorem dX9_of_85 : decode cX9_of 85 = .ok (.getfield 164, 3) := by decide +kernel
theorem dX9_of_88 : decode cX9_of 88 = .ok (.i2l, 1) := by decide +kernel
theorem dX9_of_89 : decode cX9_of 89 = .ok (.lreturn, 1) := by decide +kernel
theorem dX9_of_90 : decode cX9_of 90 = .ok (.aload_n 3, 1) := by decide +kernel
theorem dX9_of_91 : decode cX9_of 91 = .ok (.getfield 167, 3) := by decide +kernel
theorem dX9_of_94 : decode cX9_of 94 = .ok (.lreturn, 1) := by decide +kernel
theorem dX9_of_95 : decode cX9_of 95 = .ok (.aload_n 3, 1) := by decide +kernel
theorem dX9_of_96 : decode cX9_of 96 = .ok (.getfield 171, 3) := by decide +kernel
theorem dX9_of_99 : decode cX9_of 99 = .ok (.lreturn, 1) := by decide +kernel
theorem dX9_of_100 : decode cX9_of 100 = .ok (.aload_n 3, 1) := by decide +kernel
theorem dX9_of_101 : decode cX9_of 101 = .ok (.getfield 174, 3) := by decide +kernel
theorem dX9_of_104 : decode cX9_of 104 = .ok (.lreturn, 1) := by decide +kernel
theorem dX9_of_105 : decode cX9_of 105 = .ok (.aload_n 3, 1) := by decide +kernel
theorem dX9_of_106 : decode cX9_of 106 = .ok (.getfield 177, 3) := by decide +kernel
theorem dX9_of_109 : decode cX9_of 109 = .ok (.i2l, 1) := by decide +kernel
theorem dX9_of_110 : decode cX9_of 110 = .ok (.lreturn, 1) := by decide +kernel
theorem dX9_of_111 : decode cX9_of 111 = .ok (.aload_n 0, 1) := by decide +kernel
theorem dX9_of_112 : decode cX9_of 112 = .ok (.getfield 14, 3) := by decide +kernel
theorem dX9_of_115 : decode cX9_of 115 = .ok (.getfield 148, 3) := by decide +kernel
theorem dX9_of_118 : decode cX9_of 118 = .ok (.iload_n 1, 1) := by decide +kernel
theorem dX9_of_119 : decode cX9_of 119 = .ok (.laload, 1) := by decide +kernel
theorem dX9_of_120 : decode cX9_of 120 = .ok (.lreturn, 1) := by decide +kernel
theorem dX9_of_121 : decode cX9_of 121 = .ok (.ldc2_w 152, 3) := by decide +kernel
theorem dX9_of_124 : decode cX9_of 124 = .ok (.lreturn, 1) := by decide +kernel
theorem dX9_cost_0 : decode cX9_cost 0 = .ok (.aload_n 0, 1) := by decide +kernel
theorem dX9_cost_1 : decode cX9_cost 1 = .ok (.getfield 14, 3) := by decide +kernel
theorem dX9_cost_4 : decode cX9_cost 4 = .ok (.iload_n 1, 1) := by decide +kernel
theorem dX9_cost_5 : decode cX9_cost 5 = .ok (.invokevirtual 135, 3) := by decide +kernel
theorem dX9_cost_8 : decode cX9_cost 8 = .ok (.ifCond .eq 18, 3) := by decide +kernel
theorem dX9_cost_11 : decode cX9_cost 11 = .ok (.iload_n 2, 1) := by decide +kernel
theorem dX9_cost_12 : decode cX9_cost 12 = .ok (.invokestatic 180, 3) := by decide +kernel
theorem dX9_cost_15 : decode cX9_cost 15 = .ok (.ifCond .eq 11, 3) := by decide +kernel
theorem dX9_cost_18 : decode cX9_cost 18 = .ok (.iload_n 3, 1) := by decide +kernel
theorem dX9_cost_19 : decode cX9_cost 19 = .ok (.iconst 2, 1) := by decide +kernel
theorem dX9_cost_20 : decode cX9_cost 20 = .ok (.invokestatic 183, 3) := by decide +kernel
theorem dX9_cost_23 : decode cX9_cost 23 = .ok (.ifCond .ne 7, 3) := by decide +kernel
theorem dX9_cost_26 : decode cX9_cost 26 = .ok (.ldc2_w 152, 3) := by decide +kernel
theorem dX9_cost_29 : decode cX9_cost 29 = .ok (.lreturn, 1) := by decide +kernel
theorem dX9_cost_30 : decode cX9_cost 30 = .ok (.iload_n 3, 1) := by decide +kernel
theorem dX9_cost_31 : decode cX9_cost 31 = .ok (.ifCond .ne 19, 3) := by decide +kernel
theorem dX9_cost_34 : decode cX9_cost 34 = .ok (.aload_n 0, 1) := by decide +kernel
theorem dX9_cost_35 : decode cX9_cost 35 = .ok (.getfield 14, 3) := by decide +kernel
theorem dX9_cost_38 : decode cX9_cost 38 = .ok (.getfield 154, 3) := by decide +kernel
theorem dX9_cost_41 : decode cX9_cost 41 = .ok (.iload_n 1, 1) := by decide +kernel
theorem dX9_cost_42 : decode cX9_cost 42 = .ok (.aaload, 1) := by decide +kernel
theorem dX9_cost_43 : decode cX9_cost 43 = .ok (.iload_n 2, 1) := by decide +kernel
theorem dX9_cost_44 : decode cX9_cost 44 = .ok (.invokevirtual 186, 3) := by decide +kernel
theorem dX9_cost_47 : decode cX9_cost 47 = .ok (.goto 16, 3) := by decide +kernel
theorem dX9_cost_50 : decode cX9_cost 50 = .ok (.aload_n 0, 1) := by decide +kernel
theorem dX9_cost_51 : decode cX9_cost 51 = .ok (.getfield 14, 3) := by decide +kernel
theorem dX9_cost_54 : decode cX9_cost 54 = .ok (.getfield 154, 3) := by decide +kernel
theorem dX9_cost_57 : decode cX9_cost 57 = .ok (.iload_n 1, 1) := by decide +kernel
theorem dX9_cost_58 : decode cX9_cost 58 = .ok (.aaload, 1) := by decide +kernel
theorem dX9_cost_59 : decode cX9_cost 59 = .ok (.iload_n 2, 1) := by decide +kernel
theorem dX9_cost_60 : decode cX9_cost 60 = .ok (.invokevirtual 190, 3) := by decide +kernel
theorem dX9_cost_63 : decode cX9_cost 63 = .ok (.lreturn, 1) := by decide +kernel
theorem dX9_drivers_0 : decode cX9_drivers 0 = .ok (.iload_n 1, 1) := by decide +kernel
theorem dX9_drivers_1 : decode cX9_drivers 1 = .ok (.iconst 3, 1) := by decide +kernel
theorem dX9_drivers_2 : decode cX9_drivers 2 = .ok (.invokestatic 183, 3) := by decide +kernel
theorem dX9_drivers_5 : decode cX9_drivers 5 = .ok (.ifCond .eq 11, 3) := by decide +kernel
theorem dX9_drivers_8 : decode cX9_drivers 8 = .ok (.iload_n 2, 1) := by decide +kernel
theorem dX9_drivers_9 : decode cX9_drivers 9 = .ok (.iconst 4, 1) := by decide +kernel
theorem dX9_drivers_10 : decode cX9_drivers 10 = .ok (.invokestatic 183, 3) := by decide +kernel
theorem dX9_drivers_13 : decode cX9_drivers 13 = .ok (.ifCond .ne 5, 3) := by decide +kernel
theorem dX9_drivers_16 : decode cX9_drivers 16 = .ok (.iconst (-1), 1) := by decide +kernel
theorem dX9_drivers_17 : decode cX9_drivers 17 = .ok (.ireturn, 1) := by decide +kernel
theorem dX9_drivers_18 : decode cX9_drivers 18 = .ok (.iload_n 3, 1) := by decide +kernel
theorem dX9_drivers_19 : decode cX9_drivers 19 = .ok (.getstatic 193, 3) := by decide +kernel
theorem dX9_drivers_22 : decode cX9_drivers 22 = .ok (.iload_n 2, 1) := by decide +kernel
theorem dX9_drivers_23 : decode cX9_drivers 23 = .ok (.iaload, 1) := by decide +kernel
theorem dX9_drivers_24 : decode cX9_drivers 24 = .ok (.if_icmp .lt 12, 3) := by decide +kernel
theorem dX9_drivers_27 : decode cX9_drivers 27 = .ok (.iload_n 3, 1) := by decide +kernel
theorem dX9_drivers_28 : decode cX9_drivers 28 = .ok (.getstatic 196, 3) := by decide +kernel
theorem dX9_drivers_31 : decode cX9_drivers 31 = .ok (.iload_n 2, 1) := by decide +kernel
theorem dX9_drivers_32 : decode cX9_drivers 32 = .ok (.iaload, 1) := by decide +kernel
theorem dX9_drivers_33 : decode cX9_drivers 33 = .ok (.if_icmp .le 6, 3) := by decide +kernel
theorem dX9_drivers_36 : decode cX9_drivers 36 = .ok (.bipush (-2), 2) := by decide +kernel
theorem dX9_drivers_38 : decode cX9_drivers 38 = .ok (.ireturn, 1) := by decide +kernel
theorem dX9_drivers_39 : decode cX9_drivers 39 = .ok (.aload_n 0, 1) := by decide +kernel
theorem dX9_drivers_40 : decode cX9_drivers 40 = .ok (.getfield 14, 3) := by decide +kernel
theorem dX9_drivers_43 : decode cX9_drivers 43 = .ok (.getfield 199, 3) := by decide +kernel
theorem dX9_drivers_46 : decode cX9_drivers 46 = .ok (.iload_n 1, 1) := by decide +kernel
theorem dX9_drivers_47 : decode cX9_drivers 47 = .ok (.aaload, 1) := by decide +kernel
theorem dX9_drivers_48 : decode cX9_drivers 48 = .ok (.iload_n 2, 1) := by decide +kernel
theorem dX9_drivers_49 : decode cX9_drivers 49 = .ok (.iaload, 1) := by decide +kernel
theorem dX9_drivers_50 : decode cX9_drivers 50 = .ok (.istore 4, 2) := by decide +kernel
theorem dX9_drivers_52 : decode cX9_drivers 52 = .ok (.aload_n 0, 1) := by decide +kernel
theorem dX9_drivers_53 : decode cX9_drivers 53 = .ok (.getfield 14, 3) := by decide +kernel
theorem dX9_drivers_56 : decode cX9_drivers 56 = .ok (.getfield 199, 3) := by decide +kernel
theorem dX9_drivers_59 : decode cX9_drivers 59 = .ok (.iload_n 1, 1) := by decide +kernel
theorem dX9_drivers_60 : decode cX9_drivers 60 = .ok (.aaload, 1) := by decide +kernel
theorem dX9_drivers_61 : decode cX9_drivers 61 = .ok (.iload_n 2, 1) := by decide +kernel
theorem dX9_drivers_62 : decode cX9_drivers 62 = .ok (.iload_n 3, 1) := by decide +kernel
theorem dX9_drivers_63 : decode cX9_drivers 63 = .ok (.iastore, 1) := by decide +kernel
theorem dX9_drivers_64 : decode cX9_drivers 64 = .ok (.aload_n 0, 1) := by decide +kernel
theorem dX9_drivers_65 : decode cX9_drivers 65 = .ok (.invokevirtual 105, 3) := by decide +kernel
theorem dX9_drivers_68 : decode cX9_drivers 68 = .ok (.iload 4, 2) := by decide +kernel
theorem dX9_drivers_70 : decode cX9_drivers 70 = .ok (.ireturn, 1) := by decide +kernel
theorem dX9_driversOf_0 : decode cX9_driversOf 0 = .ok (.iload_n 1, 1) := by decide +kernel
theorem dX9_driversOf_1 : decode cX9_driversOf 1 = .ok (.iconst 3, 1) := by decide +kernel
theorem dX9_driversOf_2 : decode cX9_driversOf 2 = .ok (.invokestatic 183, 3) := by decide +kernel
theorem dX9_driversOf_5 : decode cX9_driversOf 5 = .ok (.ifCond .eq 11, 3) := by decide +kernel
theorem dX9_driversOf_8 : decode cX9_driversOf 8 = .ok (.iload_n 2, 1) := by decide +kernel
theorem dX9_driversOf_9 : decode cX9_driversOf 9 = .ok (.iconst 4, 1) := by decide +kernel
theorem dX9_driversOf_10 : decode cX9_driversOf 10 = .ok (.invokestatic 183, 3) := by decide +kernel
theorem dX9_driversOf_13 : decode cX9_driversOf 13 = .ok (.ifCond .ne 5, 3) := by decide +kernel
theorem dX9_driversOf_16 : decode cX9_driversOf 16 = .ok (.iconst (-1), 1) := by decide +kernel
theorem dX9_driversOf_17 : decode cX9_driversOf 17 = .ok (.ireturn, 1) := by decide +kernel
theorem dX9_driversOf_18 : decode cX9_driversOf 18 = .ok (.aload_n 0, 1) := by decide +kernel
theorem dX9_driversOf_19 : decode cX9_driversOf 19 = .ok (.getfield 14, 3) := by decide +kernel
theorem dX9_driversOf_22 : decode cX9_driversOf 22 = .ok (.getfield 199, 3) := by decide +kernel
theorem dX9_driversOf_25 : decode cX9_driversOf 25 = .ok (.iload_n 1, 1) := by decide +kernel
theorem dX9_driversOf_26 : decode cX9_driversOf 26 = .ok (.aaload, 1) := by decide +kernel
theorem dX9_driversOf_27 : decode cX9_driversOf 27 = .ok (.iload_n 2, 1) := by decide +kernel
theorem dX9_driversOf_28 : decode cX9_driversOf 28 = .ok (.iaload, 1) := by decide +kernel
theorem dX9_driversOf_29 : decode cX9_driversOf 29 = .ok (.ireturn, 1) := by decide +kernel
theorem dX9_feed_0 : decode cX9_feed 0 = .ok (.iload_n 1, 1) := by decide +kernel
theorem dX9_feed_1 : decode cX9_feed 1 = .ok (.iconst 1, 1) := by decide +kernel
theorem dX9_feed_2 : decode cX9_feed 2 = .ok (.if_icmp .lt 9, 3) := by decide +kernel
theorem dX9_feed_5 : decode cX9_feed 5 = .ok (.iload_n 1, 1) := by decide +kernel
theorem dX9_feed_6 : decode cX9_feed 6 = .ok (.bipush 127, 2) := by decide +kernel
theorem dX9_feed_8 : decode cX9_feed 8 = .ok (.if_icmp .le 6, 3) := by decide +kernel
theorem dX9_feed_11 : decode cX9_feed 11 = .ok (.bipush (-2), 2) := by decide +kernel
theorem dX9_feed_13 : decode cX9_feed 13 = .ok (.ireturn, 1) := by decide +kernel
theorem dX9_feed_14 : decode cX9_feed 14 = .ok (.aload_n 0, 1) := by decide +kernel
theorem dX9_feed_15 : decode cX9_feed 15 = .ok (.getfield 69, 3) := by decide +kernel
theorem dX9_feed_18 : decode cX9_feed 18 = .ok (.iload_n 1, 1) := by decide +kernel
theorem dX9_feed_19 : decode cX9_feed 19 = .ok (.invokevirtual 203, 3) := by decide +kernel
theorem dX9_feed_22 : decode cX9_feed 22 = .ok (.ifCond .eq 13, 3) := by decide +kernel
theorem dX9_feed_25 : decode cX9_feed 25 = .ok (.aload_n 0, 1) := by decide +kernel
theorem dX9_feed_26 : decode cX9_feed 26 = .ok (.getfield 69, 3) := by decide +kernel
theorem dX9_feed_29 : decode cX9_feed 29 = .ok (.getfield 206, 3) := by decide +kernel
theorem dX9_feed_32 : decode cX9_feed 32 = .ok (.goto 5, 3) := by decide +kernel
theorem dX9_feed_35 : decode cX9_feed 35 = .ok (.bipush (-4), 2) := by decide +kernel
theorem dX9_feed_37 : decode cX9_feed 37 = .ok (.ireturn, 1) := by decide +kernel
theorem dX9_clear_0 : decode cX9_clear 0 = .ok (.aload_n 0, 1) := by decide +kernel
theorem dX9_clear_1 : decode cX9_clear 1 = .ok (.getfield 69, 3) := by decide +kernel
theorem dX9_clear_4 : decode cX9_clear 4 = .ok (.getfield 206, 3) := by decide +kernel
theorem dX9_clear_7 : decode cX9_clear 7 = .ok (.istore_n 1, 1) := by decide +kernel
theorem dX9_clear_8 : decode cX9_clear 8 = .ok (.aload_n 0, 1) := by decide +kernel
theorem dX9_clear_9 : decode cX9_clear 9 = .ok (.getfield 69, 3) := by decide +kernel
theorem dX9_clear_12 : decode cX9_clear 12 = .ok (.iconst 0, 1) := by decide +kernel
theorem dX9_clear_13 : decode cX9_clear 13 = .ok (.putfield 206, 3) := by decide +kernel
theorem dX9_clear_16 : decode cX9_clear 16 = .ok (.iload_n 1, 1) := by decide +kernel
theorem dX9_clear_17 : decode cX9_clear 17 = .ok (.ireturn, 1) := by decide +kernel
theorem dX9_roads_0 : decode cX9_roads 0 = .ok (.aload_n 0, 1) := by decide +kernel
theorem dX9_roads_1 : decode cX9_roads 1 = .ok (.getfield 55, 3) := by decide +kernel
theorem dX9_roads_4 : decode cX9_roads 4 = .ok (.aload_n 0, 1) := by decide +kernel
theorem dX9_roads_5 : decode cX9_roads 5 = .ok (.getfield 14, 3) := by decide +kernel
theorem dX9_roads_8 : decode cX9_roads 8 = .ok (.invokevirtual 209, 3) := by decide +kernel
theorem dX9_roads_11 : decode cX9_roads 11 = .ok (.aload_n 0, 1) := by decide +kernel
theorem dX9_roads_12 : decode cX9_roads 12 = .ok (.getfield 69, 3) := by decide +kernel
theorem dX9_roads_15 : decode cX9_roads 15 = .ok (.aload_n 0, 1) := by decide +kernel
theorem dX9_roads_16 : decode cX9_roads 16 = .ok (.getfield 55, 3) := by decide +kernel
theorem dX9_roads_19 : decode cX9_roads 19 = .ok (.invokevirtual 213, 3) := by decide +kernel
theorem dX9_roads_22 : decode cX9_roads 22 = .ok (.istore_n 1, 1) := by decide +kernel
theorem dX9_roads_23 : decode cX9_roads 23 = .ok (.aload_n 0, 1) := by decide +kernel
theorem dX9_roads_24 : decode cX9_roads 24 = .ok (.getfield 69, 3) := by decide +kernel
theorem dX9_roads_27 : decode cX9_roads 27 = .ok (.iconst 0, 1) := by decide +kernel
theorem dX9_roads_28 : decode cX9_roads 28 = .ok (.putfield 206, 3) := by decide +kernel
theorem dX9_roads_31 : decode cX9_roads 31 = .ok (.iload_n 1, 1) := by decide +kernel
theorem dX9_roads_32 : decode cX9_roads 32 = .ok (.ifCond .lt 18, 3) := by decide +kernel
theorem dX9_roads_35 : decode cX9_roads 35 = .ok (.aload_n 0, 1) := by decide +kernel
theorem dX9_roads_36 : decode cX9_roads 36 = .ok (.getfield 14, 3) := by decide +kernel
theorem dX9_roads_39 : decode cX9_roads 39 = .ok (.aload_n 0, 1) := by decide +kernel
theorem dX9_roads_40 : decode cX9_roads 40 = .ok (.getfield 55, 3) := by decide +kernel
theorem dX9_roads_43 : decode cX9_roads 43 = .ok (.invokevirtual 209, 3) := by decide +kernel
theorem dX9_roads_46 : decode cX9_roads 46 = .ok (.aload_n 0, 1) := by decide +kernel
theorem dX9_roads_47 : decode cX9_roads 47 = .ok (.invokevirtual 105, 3) := by decide +kernel
theorem dX9_roads_50 : decode cX9_roads 50 = .ok (.iload_n 1, 1) := by decide +kernel
theorem dX9_roads_51 : decode cX9_roads 51 = .ok (.ireturn, 1) := by decide +kernel
theorem dX9_ways_0 : decode cX9_ways 0 = .ok (.iload_n 1, 1) := by decide +kernel
theorem dX9_ways_1 : decode cX9_ways 1 = .ok (.iconst 3, 1) := by decide +kernel
theorem dX9_ways_2 : decode cX9_ways 2 = .ok (.invokestatic 183, 3) := by decide +kernel
theorem dX9_ways_5 : decode cX9_ways 5 = .ok (.ifCond .ne 5, 3) := by decide +kernel
theorem dX9_ways_8 : decode cX9_ways 8 = .ok (.iconst (-1), 1) := by decide +kernel
theorem dX9_ways_9 : decode cX9_ways 9 = .ok (.ireturn, 1) := by decide +kernel
theorem dX9_ways_10 : decode cX9_ways 10 = .ok (.aload_n 0, 1) := by decide +kernel
theorem dX9_ways_11 : decode cX9_ways 11 = .ok (.invokevirtual 217, 3) := by decide +kernel
theorem dX9_ways_14 : decode cX9_ways 14 = .ok (.aload_n 0, 1) := by decide +kernel
theorem dX9_ways_15 : decode cX9_ways 15 = .ok (.getfield 14, 3) := by decide +kernel
theorem dX9_ways_18 : decode cX9_ways 18 = .ok (.getfield 199, 3) := by decide +kernel
theorem dX9_ways_21 : decode cX9_ways 21 = .ok (.iload_n 1, 1) := by decide +kernel
theorem dX9_ways_22 : decode cX9_ways 22 = .ok (.aaload, 1) := by decide +kernel
theorem dX9_ways_23 : decode cX9_ways 23 = .ok (.iconst 0, 1) := by decide +kernel
theorem dX9_ways_24 : decode cX9_ways 24 = .ok (.iaload, 1) := by decide +kernel
theorem dX9_ways_25 : decode cX9_ways 25 = .ok (.invokevirtual 221, 3) := by decide +kernel
theorem dX9_ways_28 : decode cX9_ways 28 = .ok (.ireturn, 1) := by decide +kernel
theorem dX9_way_0 : decode cX9_way 0 = .ok (.aload_n 0, 1) := by decide +kernel
theorem dX9_way_1 : decode cX9_way 1 = .ok (.iload_n 1, 1) := by decide +kernel
theorem dX9_way_2 : decode cX9_way 2 = .ok (.iload_n 2, 1) := by decide +kernel
theorem dX9_way_3 : decode cX9_way 3 = .ok (.invokevirtual 225, 3) := by decide +kernel
theorem dX9_way_6 : decode cX9_way 6 = .ok (.istore 4, 2) := by decide +kernel
theorem dX9_way_8 : decode cX9_way 8 = .ok (.iload 4, 2) := by decide +kernel
theorem dX9_way_10 : decode cX9_way 10 = .ok (.ifCond .lt 22, 3) := by decide +kernel
theorem dX9_way_13 : decode cX9_way 13 = .ok (.iload_n 3, 1) := by decide +kernel
theorem dX9_way_14 : decode cX9_way 14 = .ok (.iconst (-1), 1) := by decide +kernel
theorem dX9_way_15 : decode cX9_way 15 = .ok (.if_icmp .lt 17, 3) := by decide +kernel
theorem dX9_way_18 : decode cX9_way 18 = .ok (.iload_n 3, 1) := by decide +kernel
theorem dX9_way_19 : decode cX9_way 19 = .ok (.aload_n 0, 1) := by decide +kernel
theorem dX9_way_20 : decode cX9_way 20 = .ok (.getfield 28, 3) := by decide +kernel
theorem dX9_way_23 : decode cX9_way 23 = .ok (.getfield 229, 3) := by decide +kernel
theorem dX9_way_26 : decode cX9_way 26 = .ok (.iload 4, 2) := by decide +kernel
theorem dX9_way_28 : decode cX9_way 28 = .ok (.iaload, 1) := by decide +kernel
theorem dX9_way_29 : decode cX9_way 29 = .ok (.if_icmp .lt 5, 3) := by decide +kernel
theorem dX9_way_32 : decode cX9_way 32 = .ok (.iconst (-1), 1) := by decide +kernel
theorem dX9_way_33 : decode cX9_way 33 = .ok (.ireturn, 1) := by decide +kernel
theorem dX9_way_34 : decode cX9_way 34 = .ok (.iload_n 3, 1) := by decide +kernel
theorem dX9_way_35 : decode cX9_way 35 = .ok (.iconst (-1), 1) := by decide +kernel
theorem dX9_way_36 : decode cX9_way 36 = .ok (.if_icmp .ne 16, 3) := by decide +kernel
theorem dX9_way_39 : decode cX9_way 39 = .ok (.aload_n 0, 1) := by decide +kernel
theorem dX9_way_40 : decode cX9_way 40 = .ok (.getfield 28, 3) := by decide +kernel
theorem dX9_way_43 : decode cX9_way 43 = .ok (.getfield 229, 3) := by decide +kernel
theorem dX9_way_46 : decode cX9_way 46 = .ok (.iload 4, 2) := by decide +kernel
theorem dX9_way_48 : decode cX9_way 48 = .ok (.iaload, 1) := by decide +kernel
theorem dX9_way_49 : decode cX9_way 49 = .ok (.goto 13, 3) := by decide +kernel
theorem dX9_way_52 : decode cX9_way 52 = .ok (.aload_n 0, 1) := by decide +kernel
theorem dX9_way_53 : decode cX9_way 53 = .ok (.getfield 28, 3) := by decide +kernel
theorem dX9_way_56 : decode cX9_way 56 = .ok (.iload 4, 2) := by decide +kernel
theorem dX9_way_58 : decode cX9_way 58 = .ok (.iload_n 3, 1) := by decide +kernel
theorem dX9_way_59 : decode cX9_way 59 = .ok (.invokevirtual 232, 3) := by decide +kernel
theorem dX9_way_62 : decode cX9_way 62 = .ok (.ireturn, 1) := by decide +kernel
theorem dX9_is_0 : decode cX9_is 0 = .ok (.iload_n 1, 1) := by decide +kernel
theorem dX9_is_1 : decode cX9_is 1 = .ok (.iconst 3, 1) := by decide +kernel
theorem dX9_is_2 : decode cX9_is 2 = .ok (.invokestatic 183, 3) := by decide +kernel
theorem dX9_is_5 : decode cX9_is 5 = .ok (.ifCond .ne 5, 3) := by decide +kernel
theorem dX9_is_8 : decode cX9_is 8 = .ok (.iconst (-1), 1) := by decide +kernel
theorem dX9_is_9 : decode cX9_is 9 = .ok (.ireturn, 1) := by decide +kernel
theorem dX9_is_10 : decode cX9_is 10 = .ok (.aload_n 0, 1) := by decide +kernel
theorem dX9_is_11 : decode cX9_is 11 = .ok (.iload_n 1, 1) := by decide +kernel
theorem dX9_is_12 : decode cX9_is 12 = .ok (.invokevirtual 235, 3) := by decide +kernel
theorem dX9_is_15 : decode cX9_is 15 = .ok (.astore_n 2, 1) := by decide +kernel
theorem dX9_is_16 : decode cX9_is 16 = .ok (.aload_n 2, 1) := by decide +kernel
theorem dX9_is_17 : decode cX9_is 17 = .ok (.getfield 239, 3) := by decide +kernel
theorem dX9_is_20 : decode cX9_is 20 = .ok (.ifCond .ne 6, 3) := by decide +kernel
theorem dX9_is_23 : decode cX9_is 23 = .ok (.bipush (-3), 2) := by decide +kernel
theorem dX9_is_25 : decode cX9_is 25 = .ok (.ireturn, 1) := by decide +kernel
theorem dX9_is_26 : decode cX9_is 26 = .ok (.aload_n 2, 1) := by decide +kernel
theorem dX9_is_27 : decode cX9_is 27 = .ok (.getfield 242, 3) := by decide +kernel
theorem dX9_is_30 : decode cX9_is 30 = .ok (.getfield 243, 3) := by decide +kernel
theorem dX9_is_33 : decode cX9_is 33 = .ok (.ifCond .eq 8, 3) := by decide +kernel
theorem dX9_is_36 : decode cX9_is 36 = .ok (.bipush (-6), 2) := by decide +kernel
theorem dX9_is_38 : decode cX9_is 38 = .ok (.goto 4, 3) := by decide +kernel
theorem dX9_is_41 : decode cX9_is 41 = .ok (.iconst 1, 1) := by decide +kernel
theorem dX9_is_42 : decode cX9_is 42 = .ok (.ireturn, 1) := by decide +kernel
theorem dX9_load_0 : decode cX9_load 0 = .ok (.iload_n 1, 1) := by decide +kernel
theorem dX9_load_1 : decode cX9_load 1 = .ok (.iconst 3, 1) := by decide +kernel
theorem dX9_load_2 : decode cX9_load 2 = .ok (.invokestatic 183, 3) := by decide +kernel
theorem dX9_load_5 : decode cX9_load 5 = .ok (.ifCond .eq 14, 3) := by decide +kernel
theorem dX9_load_8 : decode cX9_load 8 = .ok (.aload_n 0, 1) := by decide +kernel
theorem dX9_load_9 : decode cX9_load 9 = .ok (.getfield 14, 3) := by decide +kernel
theorem dX9_load_12 : decode cX9_load 12 = .ok (.iload_n 2, 1) := by decide +kernel
theorem dX9_load_13 : decode cX9_load 13 = .ok (.invokevirtual 135, 3) := by decide +kernel
theorem dX9_load_16 : decode cX9_load 16 = .ok (.ifCond .ne 5, 3) := by decide +kernel
theorem dX9_load_19 : decode cX9_load 19 = .ok (.iconst (-1), 1) := by decide +kernel
theorem dX9_load_20 : decode cX9_load 20 = .ok (.ireturn, 1) := by decide +kernel
theorem dX9_load_21 : decode cX9_load 21 = .ok (.aload_n 0, 1) := by decide +kernel
theorem dX9_load_22 : decode cX9_load 22 = .ok (.iload_n 1, 1) := by decide +kernel
theorem dX9_load_23 : decode cX9_load 23 = .ok (.invokevirtual 235, 3) := by decide +kernel
theorem dX9_load_26 : decode cX9_load 26 = .ok (.astore_n 3, 1) := by decide +kernel
theorem dX9_load_27 : decode cX9_load 27 = .ok (.aload_n 3, 1) := by decide +kernel
theorem dX9_load_28 : decode cX9_load 28 = .ok (.getfield 239, 3) := by decide +kernel
theorem dX9_load_31 : decode cX9_load 31 = .ok (.ifCond .eq 12, 3) := by decide +kernel
theorem dX9_load_34 : decode cX9_load 34 = .ok (.aload_n 3, 1) := by decide +kernel
theorem dX9_load_35 : decode cX9_load 35 = .ok (.getfield 246, 3) := by decide +kernel
theorem dX9_load_38 : decode cX9_load 38 = .ok (.iload_n 2, 1) := by decide +kernel
theorem dX9_load_39 : decode cX9_load 39 = .ok (.iaload, 1) := by decide +kernel
theorem dX9_load_40 : decode cX9_load 40 = .ok (.goto 5, 3) := by decide +kernel
theorem dX9_load_43 : decode cX9_load 43 = .ok (.bipush (-3), 2) := by decide +kernel
theorem dX9_load_45 : decode cX9_load 45 = .ok (.ireturn, 1) := by decide +kernel
theorem dX9_on_0 : decode cX9_on 0 = .ok (.aload_n 0, 1) := by decide +kernel
theorem dX9_on_1 : decode cX9_on 1 = .ok (.iload_n 2, 1) := by decide +kernel
theorem dX9_on_2 : decode cX9_on 2 = .ok (.iload_n 3, 1) := by decide +kernel
theorem dX9_on_3 : decode cX9_on 3 = .ok (.invokevirtual 225, 3) := by decide +kernel
theorem dX9_on_6 : decode cX9_on 6 = .ok (.istore 4, 2) := by decide +kernel
theorem dX9_on_8 : decode cX9_on 8 = .ok (.iload_n 1, 1) := by decide +kernel
theorem dX9_on_9 : decode cX9_on 9 = .ok (.iconst 3, 1) := by decide +kernel
theorem dX9_on_10 : decode cX9_on 10 = .ok (.invokestatic 183, 3) := by decide +kernel
theorem dX9_on_13 : decode cX9_on 13 = .ok (.ifCond .eq 8, 3) := by decide +kernel
theorem dX9_on_16 : decode cX9_on 16 = .ok (.iload 4, 2) := by decide +kernel
theorem dX9_on_18 : decode cX9_on 18 = .ok (.ifCond .ge 5, 3) := by decide +kernel
theorem dX9_on_21 : decode cX9_on 21 = .ok (.iconst (-1), 1) := by decide +kernel
theorem dX9_on_22 : decode cX9_on 22 = .ok (.ireturn, 1) := by decide +kernel
theorem dX9_on_23 : decode cX9_on 23 = .ok (.aload_n 0, 1) := by decide +kernel
theorem dX9_on_24 : decode cX9_on 24 = .ok (.iload_n 1, 1) := by decide +kernel
theorem dX9_on_25 : decode cX9_on 25 = .ok (.invokevirtual 235, 3) := by decide +kernel
theorem dX9_on_28 : decode cX9_on 28 = .ok (.astore 5, 2) := by decide +kernel
theorem dX9_on_30 : decode cX9_on 30 = .ok (.aload 5, 2) := by decide +kernel
theorem dX9_on_32 : decode cX9_on 32 = .ok (.getfield 239, 3) := by decide +kernel
theorem dX9_on_35 : decode cX9_on 35 = .ok (.ifCond .eq 16, 3) := by decide +kernel
theorem dX9_on_38 : decode cX9_on 38 = .ok (.aload 5, 2) := by decide +kernel
theorem dX9_on_40 : decode cX9_on 40 = .ok (.getfield 249, 3) := by decide +kernel
theorem dX9_on_43 : decode cX9_on 43 = .ok (.iload_n 2, 1) := by decide +kernel
theorem dX9_on_44 : decode cX9_on 44 = .ok (.aaload, 1) := by decide +kernel
theorem dX9_on_45 : decode cX9_on 45 = .ok (.iload 4, 2) := by decide +kernel
theorem dX9_on_47 : decode cX9_on 47 = .ok (.iaload, 1) := by decide +kernel
theorem dX9_on_48 : decode cX9_on 48 = .ok (.goto 5, 3) := by decide +kernel
theorem dX9_on_51 : decode cX9_on 51 = .ok (.bipush (-3), 2) := by decide +kernel
theorem dX9_on_53 : decode cX9_on 53 = .ok (.ireturn, 1) := by decide +kernel
theorem dX9_steps_0 : decode cX9_steps 0 = .ok (.iload_n 1, 1) := by decide +kernel
theorem dX9_steps_1 : decode cX9_steps 1 = .ok (.iconst 3, 1) := by decide +kernel
theorem dX9_steps_2 : decode cX9_steps 2 = .ok (.invokestatic 183, 3) := by decide +kernel
theorem dX9_steps_5 : decode cX9_steps 5 = .ok (.ifCond .ne 5, 3) := by decide +kernel
theorem dX9_steps_8 : decode cX9_steps 8 = .ok (.iconst (-1), 1) := by decide +kernel
theorem dX9_steps_9 : decode cX9_steps 9 = .ok (.ireturn, 1) := by decide +kernel
theorem dX9_steps_10 : decode cX9_steps 10 = .ok (.aload_n 0, 1) := by decide +kernel
theorem dX9_steps_11 : decode cX9_steps 11 = .ok (.iload_n 1, 1) := by decide +kernel
theorem dX9_steps_12 : decode cX9_steps 12 = .ok (.invokevirtual 235, 3) := by decide +kernel
theorem dX9_steps_15 : decode cX9_steps 15 = .ok (.astore_n 2, 1) := by decide +kernel
theorem dX9_steps_16 : decode cX9_steps 16 = .ok (.aload_n 2, 1) := by decide +kernel
theorem dX9_steps_17 : decode cX9_steps 17 = .ok (.getfield 239, 3) := by decide +kernel
theorem dX9_steps_20 : decode cX9_steps 20 = .ok (.ifCond .eq 10, 3) := by decide +kernel
theorem dX9_steps_23 : decode cX9_steps 23 = .ok (.aload_n 2, 1) := by decide +kernel
theorem dX9_steps_24 : decode cX9_steps 24 = .ok (.getfield 252, 3) := by decide +kernel
theorem dX9_steps_27 : decode cX9_steps 27 = .ok (.goto 5, 3) := by decide +kernel
theorem dX9_steps_30 : decode cX9_steps 30 = .ok (.bipush (-3), 2) := by decide +kernel
theorem dX9_steps_32 : decode cX9_steps 32 = .ok (.ireturn, 1) := by decide +kernel
theorem dX9_total_0 : decode cX9_total 0 = .ok (.iload_n 1, 1) := by decide +kernel
theorem dX9_total_1 : decode cX9_total 1 = .ok (.iconst 3, 1) := by decide +kernel
theorem dX9_total_2 : decode cX9_total 2 = .ok (.invokestatic 183, 3) := by decide +kernel
theorem dX9_total_5 : decode cX9_total 5 = .ok (.ifCond .eq 14, 3) := by decide +kernel
theorem dX9_total_8 : decode cX9_total 8 = .ok (.aload_n 0, 1) := by decide +kernel
theorem dX9_total_9 : decode cX9_total 9 = .ok (.iload_n 1, 1) := by decide +kernel
theorem dX9_total_10 : decode cX9_total 10 = .ok (.invokevirtual 235, 3) := by decide +kernel
theorem dX9_total_13 : decode cX9_total 13 = .ok (.invokevirtual 255, 3) := by decide +kernel
theorem dX9_total_16 : decode cX9_total 16 = .ok (.goto 6, 3) := by decide +kernel
theorem dX9_total_19 : decode cX9_total 19 = .ok (.ldc2_w 152, 3) := by decide +kernel
theorem dX9_total_22 : decode cX9_total 22 = .ok (.lreturn, 1) := by decide +kernel
theorem dX9_price_0 : decode cX9_price 0 = .ok (.aload_n 0, 1) := by decide +kernel
theorem dX9_price_1 : decode cX9_price 1 = .ok (.iload_n 2, 1) := by decide +kernel
theorem dX9_price_2 : decode cX9_price 2 = .ok (.iload_n 3, 1) := by decide +kernel
theorem dX9_price_3 : decode cX9_price 3 = .ok (.invokevirtual 225, 3) := by decide +kernel
theorem dX9_price_6 : decode cX9_price 6 = .ok (.istore 5, 2) := by decide +kernel
theorem dX9_price_8 : decode cX9_price 8 = .ok (.iload_n 1, 1) := by decide +kernel
theorem dX9_price_9 : decode cX9_price 9 = .ok (.iconst 3, 1) := by decide +kernel
theorem dX9_price_10 : decode cX9_price 10 = .ok (.invokestatic 183, 3) := by decide +kernel
theorem dX9_price_13 : decode cX9_price 13 = .ok (.ifCond .eq 17, 3) := by decide +kernel
theorem dX9_price_16 : decode cX9_price 16 = .ok (.iload 5, 2) := by decide +kernel
theorem dX9_price_18 : decode cX9_price 18 = .ok (.ifCond .lt 12, 3) := by decide +kernel
theorem dX9_price_21 : decode cX9_price 21 = .ok (.iload 4, 2) := by decide +kernel
theorem dX9_price_23 : decode cX9_price 23 = .ok (.iconst 2, 1) := by decide +kernel
theorem dX9_price_24 : decode cX9_price 24 = .ok (.invokestatic 183, 3) := by decide +kernel
theorem dX9_price_27 : decode cX9_price 27 = .ok (.ifCond .ne 7, 3) := by decide +kernel
theorem dX9_price_30 : decode cX9_price 30 = .ok (.ldc2_w 152, 3) := by decide +kernel
theorem dX9_price_33 : decode cX9_price 33 = .ok (.lreturn, 1) := by decide +kernel
theorem dX9_price_34 : decode cX9_price 34 = .ok (.aload_n 0, 1) := by decide +kernel
theorem dX9_price_35 : decode cX9_price 35 = .ok (.iload_n 1, 1) := by decide +kernel
theorem dX9_price_36 : decode cX9_price 36 = .ok (.invokevirtual 235, 3) := by decide +kernel
theorem dX9_price_39 : decode cX9_price 39 = .ok (.getfield 239, 3) := by decide +kernel
theorem dX9_price_42 : decode cX9_price 42 = .ok (.ifCond .eq 16, 3) := by decide +kernel
theorem dX9_price_45 : decode cX9_price 45 = .ok (.aload_n 0, 1) := by decide +kernel
theorem dX9_price_46 : decode cX9_price 46 = .ok (.iload_n 1, 1) := by decide +kernel
theorem dX9_price_47 : decode cX9_price 47 = .ok (.iload_n 2, 1) := by decide +kernel
theorem dX9_price_48 : decode cX9_price 48 = .ok (.iload 5, 2) := by decide +kernel
theorem dX9_price_50 : decode cX9_price 50 = .ok (.iload 4, 2) := by decide +kernel
theorem dX9_price_52 : decode cX9_price 52 = .ok (.invokevirtual 259, 3) := by decide +kernel
theorem dX9_price_55 : decode cX9_price 55 = .ok (.goto 6, 3) := by decide +kernel
theorem dX9_price_58 : decode cX9_price 58 = .ok (.ldc2_w 152, 3) := by decide +kernel
theorem dX9_price_61 : decode cX9_price 61 = .ok (.lreturn, 1) := by decide +kernel
theorem dX9_mean_0 : decode cX9_mean 0 = .ok (.iload_n 1, 1) := by decide +kernel
theorem dX9_mean_1 : decode cX9_mean 1 = .ok (.iconst 3, 1) := by decide +kernel
theorem dX9_mean_2 : decode cX9_mean 2 = .ok (.invokestatic 183, 3) := by decide +kernel
theorem dX9_mean_5 : decode cX9_mean 5 = .ok (.ifCond .eq 19, 3) := by decide +kernel
theorem dX9_mean_8 : decode cX9_mean 8 = .ok (.iload_n 2, 1) := by decide +kernel
theorem dX9_mean_9 : decode cX9_mean 9 = .ok (.iconst 3, 1) := by decide +kernel
theorem dX9_mean_10 : decode cX9_mean 10 = .ok (.invokestatic 183, 3) := by decide +kernel
theorem dX9_mean_13 : decode cX9_mean 13 = .ok (.ifCond .eq 11, 3) := by decide +kernel
theorem dX9_mean_16 : decode cX9_mean 16 = .ok (.iload_n 3, 1) := by decide +kernel
theorem dX9_mean_17 : decode cX9_mean 17 = .ok (.iconst 2, 1) := by decide +kernel
theorem dX9_mean_18 : decode cX9_mean 18 = .ok (.invokestatic 183, 3) := by decide +kernel
theorem dX9_mean_21 : decode cX9_mean 21 = .ok (.ifCond .ne 7, 3) := by decide +kernel
theorem dX9_mean_24 : decode cX9_mean 24 = .ok (.ldc2_w 152, 3) := by decide +kernel
theorem dX9_mean_27 : decode cX9_mean 27 = .ok (.lreturn, 1) := by decide +kernel
theorem dX9_mean_28 : decode cX9_mean 28 = .ok (.aload_n 0, 1) := by decide +kernel
theorem dX9_mean_29 : decode cX9_mean 29 = .ok (.getfield 14, 3) := by decide +kernel
theorem dX9_mean_32 : decode cX9_mean 32 = .ok (.getfield 199, 3) := by decide +kernel
theorem dX9_mean_35 : decode cX9_mean 35 = .ok (.iload_n 2, 1) := by decide +kernel
theorem dX9_mean_36 : decode cX9_mean 36 = .ok (.aaload, 1) := by decide +kernel
theorem dX9_mean_37 : decode cX9_mean 37 = .ok (.iconst 1, 1) := by decide +kernel
theorem dX9_mean_38 : decode cX9_mean 38 = .ok (.iaload, 1) := by decide +kernel
theorem dX9_mean_39 : decode cX9_mean 39 = .ok (.istore 4, 2) := by decide +kernel
theorem dX9_mean_41 : decode cX9_mean 41 = .ok (.aload_n 0, 1) := by decide +kernel
theorem dX9_mean_42 : decode cX9_mean 42 = .ok (.iload_n 1, 1) := by decide +kernel
theorem dX9_mean_43 : decode cX9_mean 43 = .ok (.invokevirtual 235, 3) := by decide +kernel
theorem dX9_mean_46 : decode cX9_mean 46 = .ok (.astore 5, 2) := by decide +kernel
theorem dX9_mean_48 : decode cX9_mean 48 = .ok (.iload 4, 2) := by decide +kernel
theorem dX9_mean_50 : decode cX9_mean 50 = .ok (.ifCond .eq 11, 3) := by decide +kernel
theorem dX9_mean_53 : decode cX9_mean 53 = .ok (.aload 5, 2) := by decide +kernel
theorem dX9_mean_55 : decode cX9_mean 55 = .ok (.getfield 239, 3) := by decide +kernel
theorem dX9_mean_58 : decode cX9_mean 58 = .ok (.ifCond .ne 7, 3) := by decide +kernel
theorem dX9_mean_61 : decode cX9_mean 61 = .ok (.ldc2_w 152, 3) := by decide +kernel
theorem dX9_mean_64 : decode cX9_mean 64 = .ok (.lreturn, 1) := by decide +kernel
theorem dX9_mean_65 : decode cX9_mean 65 = .ok (.aload_n 0, 1) := by decide +kernel
theorem dX9_mean_66 : decode cX9_mean 66 = .ok (.getfield 92, 3) := by decide +kernel
theorem dX9_mean_69 : decode cX9_mean 69 = .ok (.invokevirtual 263, 3) := by decide +kernel
theorem dX9_mean_72 : decode cX9_mean 72 = .ok (.iconst 1, 1) := by decide +kernel
theorem dX9_mean_73 : decode cX9_mean 73 = .ok (.istore 6, 2) := by decide +kernel
theorem dX9_mean_75 : decode cX9_mean 75 = .ok (.iload 6, 2) := by decide +kernel
theorem dX9_mean_77 : decode cX9_mean 77 = .ok (.aload_n 0, 1) := by decide +kernel
theorem dX9_mean_78 : decode cX9_mean 78 = .ok (.getfield 28, 3) := by decide +kernel
theorem dX9_mean_81 : decode cX9_mean 81 = .ok (.getfield 266, 3) := by decide +kernel
theorem dX9_mean_84 : decode cX9_mean 84 = .ok (.if_icmp .ge 49, 3) := by decide +kernel
theorem dX9_mean_87 : decode cX9_mean 87 = .ok (.aload 5, 2) := by decide +kernel
theorem dX9_mean_89 : decode cX9_mean 89 = .ok (.getfield 249, 3) := by decide +kernel
theorem dX9_mean_92 : decode cX9_mean 92 = .ok (.iload_n 2, 1) := by decide +kernel
theorem dX9_mean_93 : decode cX9_mean 93 = .ok (.aaload, 1) := by decide +kernel
theorem dX9_mean_94 : decode cX9_mean 94 = .ok (.iload 6, 2) := by decide +kernel
theorem dX9_mean_96 : decode cX9_mean 96 = .ok (.iaload, 1) := by decide +kernel
theorem dX9_mean_97 : decode cX9_mean 97 = .ok (.ifCond .le 30, 3) := by decide +kernel
theorem dX9_mean_100 : decode cX9_mean 100 = .ok (.aload_n 0, 1) := by decide +kernel
theorem dX9_mean_101 : decode cX9_mean 101 = .ok (.getfield 92, 3) := by decide +kernel
theorem dX9_mean_104 : decode cX9_mean 104 = .ok (.aload 5, 2) := by decide +kernel
theorem dX9_mean_106 : decode cX9_mean 106 = .ok (.getfield 249, 3) := by decide +kernel
theorem dX9_mean_109 : decode cX9_mean 109 = .ok (.iload_n 2, 1) := by decide +kernel
theorem dX9_mean_110 : decode cX9_mean 110 = .ok (.aaload, 1) := by decide +kernel
theorem dX9_mean_111 : decode cX9_mean 111 = .ok (.iload 6, 2) := by decide +kernel
theorem dX9_mean_113 : decode cX9_mean 113 = .ok (.iaload, 1) := by decide +kernel
theorem dX9_mean_114 : decode cX9_mean 114 = .ok (.i2l, 1) := by decide +kernel
theorem dX9_mean_115 : decode cX9_mean 115 = .ok (.aload_n 0, 1) := by decide +kernel
theorem dX9_mean_116 : decode cX9_mean 116 = .ok (.iload_n 1, 1) := by decide +kernel
theorem dX9_mean_117 : decode cX9_mean 117 = .ok (.iload_n 2, 1) := by decide +kernel
theorem dX9_mean_118 : decode cX9_mean 118 = .ok (.iload 6, 2) := by decide +kernel
theorem dX9_mean_120 : decode cX9_mean 120 = .ok (.iconst 0, 1) := by decide +kernel
theorem dX9_mean_121 : decode cX9_mean 121 = .ok (.invokevirtual 259, 3) := by decide +kernel
theorem dX9_mean_124 : decode cX9_mean 124 = .ok (.invokevirtual 269, 3) := by decide +kernel
theorem dX9_mean_127 : decode cX9_mean 127 = .ok (.iinc 6 1, 3) := by decide +kernel
theorem dX9_mean_130 : decode cX9_mean 130 = .ok (.goto (-55), 3) := by decide +kernel
theorem dX9_mean_133 : decode cX9_mean 133 = .ok (.aload_n 0, 1) := by decide +kernel
theorem dX9_mean_134 : decode cX9_mean 134 = .ok (.getfield 92, 3) := by decide +kernel
theorem dX9_mean_137 : decode cX9_mean 137 = .ok (.getfield 243, 3) := by decide +kernel
theorem dX9_mean_140 : decode cX9_mean 140 = .ok (.ifCond .eq 9, 3) := by decide +kernel
theorem dX9_mean_143 : decode cX9_mean 143 = .ok (.ldc2_w 152, 3) := by decide +kernel
theorem dX9_mean_146 : decode cX9_mean 146 = .ok (.goto 17, 3) := by decide +kernel
theorem dX9_mean_149 : decode cX9_mean 149 = .ok (.aload_n 0, 1) := by decide +kernel
theorem dX9_mean_150 : decode cX9_mean 150 = .ok (.getfield 92, 3) := by decide +kernel
theorem dX9_mean_153 : decode cX9_mean 153 = .ok (.getfield 273, 3) := by decide +kernel
theorem dX9_mean_156 : decode cX9_mean 156 = .ok (.iload 4, 2) := by decide +kernel
theorem dX9_mean_158 : decode cX9_mean 158 = .ok (.i2l, 1) := by decide +kernel
theorem dX9_mean_159 : decode cX9_mean 159 = .ok (.iload_n 3, 1) := by decide +kernel
theorem dX9_mean_160 : decode cX9_mean 160 = .ok (.invokestatic 276, 3) := by decide +kernel
theorem dX9_mean_163 : decode cX9_mean 163 = .ok (.lreturn, 1) := by decide +kernel
theorem dX9_shown_0 : decode cX9_shown 0 = .ok (.iload_n 1, 1) := by decide +kernel
theorem dX9_shown_1 : decode cX9_shown 1 = .ok (.iconst 3, 1) := by decide +kernel
theorem dX9_shown_2 : decode cX9_shown 2 = .ok (.invokestatic 183, 3) := by decide +kernel
theorem dX9_shown_5 : decode cX9_shown 5 = .ok (.ifCond .eq 11, 3) := by decide +kernel
theorem dX9_shown_8 : decode cX9_shown 8 = .ok (.iload_n 2, 1) := by decide +kernel
theorem dX9_shown_9 : decode cX9_shown 9 = .ok (.iconst 3, 1) := by decide +kernel
theorem dX9_shown_10 : decode cX9_shown 10 = .ok (.invokestatic 183, 3) := by decide +kernel
theorem dX9_shown_13 : decode cX9_shown 13 = .ok (.ifCond .ne 5, 3) := by decide +kernel
theorem dX9_shown_16 : decode cX9_shown 16 = .ok (.iconst (-1), 1) := by decide +kernel
theorem dX9_shown_17 : decode cX9_shown 17 = .ok (.ireturn, 1) := by decide +kernel
theorem dX9_shown_18 : decode cX9_shown 18 = .ok (.aload_n 0, 1) := by decide +kernel
theorem dX9_shown_19 : decode cX9_shown 19 = .ok (.getfield 14, 3) := by decide +kernel
theorem dX9_shown_22 : decode cX9_shown 22 = .ok (.getfield 199, 3) := by decide +kernel
theorem dX9_shown_25 : decode cX9_shown 25 = .ok (.iload_n 2, 1) := by decide +kernel
theorem dX9_shown_26 : decode cX9_shown 26 = .ok (.aaload, 1) := by decide +kernel
theorem dX9_shown_27 : decode cX9_shown 27 = .ok (.iconst 1, 1) := by decide +kernel
theorem dX9_shown_28 : decode cX9_shown 28 = .ok (.iaload, 1) := by decide +kernel
theorem dX9_shown_29 : decode cX9_shown 29 = .ok (.istore_n 3, 1) := by decide +kernel
theorem dX9_shown_30 : decode cX9_shown 30 = .ok (.aload_n 0, 1) := by decide +kernel
theorem dX9_shown_31 : decode cX9_shown 31 = .ok (.iload_n 1, 1) := by decide +kernel
theorem dX9_shown_32 : decode cX9_shown 32 = .ok (.invokevirtual 235, 3) := by decide +kernel
theorem dX9_shown_35 : decode cX9_shown 35 = .ok (.astore 4, 2) := by decide +kernel
theorem dX9_shown_37 : decode cX9_shown 37 = .ok (.iload_n 3, 1) := by decide +kernel
theorem dX9_shown_38 : decode cX9_shown 38 = .ok (.ifCond .eq 11, 3) := by decide +kernel
theorem dX9_shown_41 : decode cX9_shown 41 = .ok (.aload 4, 2) := by decide +kernel
theorem dX9_shown_43 : decode cX9_shown 43 = .ok (.getfield 239, 3) := by decide +kernel
theorem dX9_shown_46 : decode cX9_shown 46 = .ok (.ifCond .ne 6, 3) := by decide +kernel
theorem dX9_shown_49 : decode cX9_shown 49 = .ok (.bipush (-3), 2) := by decide +kernel
theorem dX9_shown_51 : decode cX9_shown 51 = .ok (.ireturn, 1) := by decide +kernel
theorem dX9_shown_52 : decode cX9_shown 52 = .ok (.fconst 0, 1) := by decide +kernel
theorem dX9_shown_53 : decode cX9_shown 53 = .ok (.fstore 5, 2) := by decide +kernel
theorem dX9_shown_55 : decode cX9_shown 55 = .ok (.iconst 1, 1) := by decide +kernel
theorem dX9_shown_56 : decode cX9_shown 56 = .ok (.istore 6, 2) := by decide +kernel
theorem dX9_shown_58 : decode cX9_shown 58 = .ok (.iload 6, 2) := by decide +kernel
theorem dX9_shown_60 : decode cX9_shown 60 = .ok (.aload_n 0, 1) := by decide +kernel
theorem dX9_shown_61 : decode cX9_shown 61 = .ok (.getfield 28, 3) := by decide +kernel
theorem dX9_shown_64 : decode cX9_shown 64 = .ok (.getfield 266, 3) := by decide +kernel
theorem dX9_shown_67 : decode cX9_shown 67 = .ok (.if_icmp .ge 52, 3) := by decide +kernel
theorem dX9_shown_70 : decode cX9_shown 70 = .ok (.aload 4, 2) := by decide +kernel
theorem dX9_shown_72 : decode cX9_shown 72 = .ok (.getfield 249, 3) := by decide +kernel
theorem dX9_shown_75 : decode cX9_shown 75 = .ok (.iload_n 2, 1) := by decide +kernel
theorem dX9_shown_76 : decode cX9_shown 76 = .ok (.aaload, 1) := by decide +kernel
theorem dX9_shown_77 : decode cX9_shown 77 = .ok (.iload 6, 2) := by decide +kernel
theorem dX9_shown_79 : decode cX9_shown 79 = .ok (.iaload, 1) := by decide +kernel
theorem dX9_shown_80 : decode cX9_shown 80 = .ok (.istore 7, 2) := by decide +kernel
theorem dX9_shown_82 : decode cX9_shown 82 = .ok (.iload 7, 2) := by decide +kernel
theorem dX9_shown_84 : decode cX9_shown 84 = .ok (.ifCond .le 29, 3) := by decide +kernel
theorem dX9_shown_87 : decode cX9_shown 87 = .ok (.aload_n 0, 1) := by decide +kernel
theorem dX9_shown_88 : decode cX9_shown 88 = .ok (.iload_n 1, 1) := by decide +kernel
theorem dX9_shown_89 : decode cX9_shown 89 = .ok (.iload_n 2, 1) := by decide +kernel
theorem dX9_shown_90 : decode cX9_shown 90 = .ok (.iload 6, 2) := by decide +kernel
theorem dX9_shown_92 : decode cX9_shown 92 = .ok (.iconst 0, 1) := by decide +kernel
theorem dX9_shown_93 : decode cX9_shown 93 = .ok (.invokevirtual 259, 3) := by decide +kernel
theorem dX9_shown_96 : decode cX9_shown 96 = .ok (.l2f, 1) := by decide +kernel
theorem dX9_shown_97 : decode cX9_shown 97 = .ok (.iload 7, 2) := by decide +kernel
theorem dX9_shown_99 : decode cX9_shown 99 = .ok (.i2f, 1) := by decide +kernel
theorem dX9_shown_100 : decode cX9_shown 100 = .ok (.fmul, 1) := by decide +kernel
theorem dX9_shown_101 : decode cX9_shown 101 = .ok (.fstore 8, 2) := by decide +kernel
theorem dX9_shown_103 : decode cX9_shown 103 = .ok (.fload 5, 2) := by decide +kernel
theorem dX9_shown_105 : decode cX9_shown 105 = .ok (.fload 8, 2) := by decide +kernel
theorem dX9_shown_107 : decode cX9_shown 107 = .ok (.iload_n 3, 1) := by decide +kernel
theorem dX9_shown_108 : decode cX9_shown 108 = .ok (.i2f, 1) := by decide +kernel
theorem dX9_shown_109 : decode cX9_shown 109 = .ok (.fdiv, 1) := by decide +kernel
theorem dX9_shown_110 : decode cX9_shown 110 = .ok (.fadd, 1) := by decide +kernel
theorem dX9_shown_111 : decode cX9_shown 111 = .ok (.fstore 5, 2) := by decide +kernel
theorem dX9_shown_113 : decode cX9_shown 113 = .ok (.iinc 6 1, 3) := by decide +kernel
theorem dX9_shown_116 : decode cX9_shown 116 = .ok (.goto (-58), 3) := by decide +kernel
theorem dX9_shown_119 : decode cX9_shown 119 = .ok (.fload 5, 2) := by decide +kernel
theorem dX9_shown_121 : decode cX9_shown 121 = .ok (.invokestatic 280, 3) := by decide +kernel
theorem dX9_shown_124 : decode cX9_shown 124 = .ok (.ireturn, 1) := by decide +kernel
theorem dX9_taken_0 : decode cX9_taken 0 = .ok (.iload_n 1, 1) := by decide +kernel
theorem dX9_taken_1 : decode cX9_taken 1 = .ok (.iconst 3, 1) := by decide +kernel
theorem dX9_taken_2 : decode cX9_taken 2 = .ok (.invokestatic 183, 3) := by decide +kernel
theorem dX9_taken_5 : decode cX9_taken 5 = .ok (.ifCond .ne 7, 3) := by decide +kernel
theorem dX9_taken_8 : decode cX9_taken 8 = .ok (.ldc2_w 152, 3) := by decide +kernel
theorem dX9_taken_11 : decode cX9_taken 11 = .ok (.lreturn, 1) := by decide +kernel
theorem dX9_taken_12 : decode cX9_taken 12 = .ok (.aload_n 0, 1) := by decide +kernel
theorem dX9_taken_13 : decode cX9_taken 13 = .ok (.iload_n 1, 1) := by decide +kernel
theorem dX9_taken_14 : decode cX9_taken 14 = .ok (.invokevirtual 235, 3) := by decide +kernel
theorem dX9_taken_17 : decode cX9_taken 17 = .ok (.astore_n 2, 1) := by decide +kernel
theorem dX9_taken_18 : decode cX9_taken 18 = .ok (.aload_n 2, 1) := by decide +kernel
theorem dX9_taken_19 : decode cX9_taken 19 = .ok (.getfield 239, 3) := by decide +kernel
theorem dX9_taken_22 : decode cX9_taken 22 = .ok (.ifCond .ne 7, 3) := by decide +kernel
theorem dX9_taken_25 : decode cX9_taken 25 = .ok (.ldc2_w 152, 3) := by decide +kernel
theorem dX9_taken_28 : decode cX9_taken 28 = .ok (.lreturn, 1) := by decide +kernel
theorem dX9_taken_29 : decode cX9_taken 29 = .ok (.aload_n 0, 1) := by decide +kernel
theorem dX9_taken_30 : decode cX9_taken 30 = .ok (.getfield 92, 3) := by decide +kernel
theorem dX9_taken_33 : decode cX9_taken 33 = .ok (.invokevirtual 263, 3) := by decide +kernel
theorem dX9_taken_36 : decode cX9_taken 36 = .ok (.iconst 0, 1) := by decide +kernel
theorem dX9_taken_37 : decode cX9_taken 37 = .ok (.istore_n 3, 1) := by decide +kernel
theorem dX9_taken_38 : decode cX9_taken 38 = .ok (.iload_n 3, 1) := by decide +kernel
theorem dX9_taken_39 : decode cX9_taken 39 = .ok (.aload_n 0, 1) := by decide +kernel
theorem dX9_taken_40 : decode cX9_taken 40 = .ok (.getfield 14, 3) := by decide +kernel
theorem dX9_taken_43 : decode cX9_taken 43 = .ok (.getfield 102, 3) := by decide +kernel
theorem dX9_taken_46 : decode cX9_taken 46 = .ok (.if_icmp .ge 83, 3) := by decide +kernel
theorem dX9_taken_49 : decode cX9_taken 49 = .ok (.aload_n 2, 1) := by decide +kernel
theorem dX9_taken_50 : decode cX9_taken 50 = .ok (.getfield 246, 3) := by decide +kernel
theorem dX9_taken_53 : decode cX9_taken 53 = .ok (.iload_n 3, 1) := by decide +kernel
theorem dX9_taken_54 : decode cX9_taken 54 = .ok (.iaload, 1) := by decide +kernel
theorem dX9_taken_55 : decode cX9_taken 55 = .ok (.istore 4, 2) := by decide +kernel
theorem dX9_taken_57 : decode cX9_taken 57 = .ok (.iload 4, 2) := by decide +kernel
theorem dX9_taken_59 : decode cX9_taken 59 = .ok (.ifCond .le 30, 3) := by decide +kernel
theorem dX9_taken_62 : decode cX9_taken 62 = .ok (.iload_n 1, 1) := by decide +kernel
theorem dX9_taken_63 : decode cX9_taken 63 = .ok (.iconst 1, 1) := by decide +kernel
theorem dX9_taken_64 : decode cX9_taken 64 = .ok (.if_icmp .ne 25, 3) := by decide +kernel
theorem dX9_taken_67 : decode cX9_taken 67 = .ok (.aload_n 0, 1) := by decide +kernel
theorem dX9_taken_68 : decode cX9_taken 68 = .ok (.getfield 92, 3) := by decide +kernel
theorem dX9_taken_71 : decode cX9_taken 71 = .ok (.iload 4, 2) := by decide +kernel
theorem dX9_taken_73 : decode cX9_taken 73 = .ok (.i2l, 1) := by decide +kernel
theorem dX9_taken_74 : decode cX9_taken 74 = .ok (.aload_n 0, 1) := by decide +kernel
theorem dX9_taken_75 : decode cX9_taken 75 = .ok (.getfield 14, 3) := by decide +kernel
theorem dX9_taken_78 : decode cX9_taken 78 = .ok (.getfield 148, 3) := by decide +kernel
theorem dX9_taken_81 : decode cX9_taken 81 = .ok (.iload_n 3, 1) := by decide +kernel
theorem dX9_taken_82 : decode cX9_taken 82 = .ok (.laload, 1) := by decide +kernel
theorem dX9_taken_83 : decode cX9_taken 83 = .ok (.invokevirtual 269, 3) := by decide +kernel
theorem dX9_taken_86 : decode cX9_taken 86 = .ok (.goto 37, 3) := by decide +kernel
theorem dX9_taken_89 : decode cX9_taken 89 = .ok (.iload 4, 2) := by decide +kernel
theorem dX9_taken_91 : decode cX9_taken 91 = .ok (.ifCond .le 32, 3) := by decide +kernel
theorem dX9_taken_94 : decode cX9_taken 94 = .ok (.iload_n 1, 1) := by decide +kernel
theorem dX9_taken_95 : decode cX9_taken 95 = .ok (.iconst 2, 1) := by decide +kernel
theorem dX9_taken_96 : decode cX9_taken 96 = .ok (.if_icmp .ne 27, 3) := by decide +kernel
theorem dX9_taken_99 : decode cX9_taken 99 = .ok (.aload_n 0, 1) := by decide +kernel
theorem dX9_taken_100 : decode cX9_taken 100 = .ok (.getfield 92, 3) := by decide +kernel
theorem dX9_taken_103 : decode cX9_taken 103 = .ok (.iload 4, 2) := by decide +kernel
theorem dX9_taken_105 : decode cX9_taken 105 = .ok (.i2l, 1) := by decide +kernel
theorem dX9_taken_106 : decode cX9_taken 106 = .ok (.aload_n 0, 1) := by decide +kernel
theorem dX9_taken_107 : decode cX9_taken 107 = .ok (.getfield 14, 3) := by decide +kernel
theorem dX9_taken_110 : decode cX9_taken 110 = .ok (.getfield 154, 3) := by decide +kernel
theorem dX9_taken_113 : decode cX9_taken 113 = .ok (.iload_n 3, 1) := by decide +kernel
theorem dX9_taken_114 : decode cX9_taken 114 = .ok (.aaload, 1) := by decide +kernel
theorem dX9_taken_115 : decode cX9_taken 115 = .ok (.iload 4, 2) := by decide +kernel
theorem dX9_taken_117 : decode cX9_taken 117 = .ok (.invokevirtual 190, 3) := by decide +kernel
theorem dX9_taken_120 : decode cX9_taken 120 = .ok (.invokevirtual 269, 3) := by decide +kernel
theorem dX9_taken_123 : decode cX9_taken 123 = .ok (.iinc 3 1, 3) := by decide +kernel
theorem dX9_taken_126 : decode cX9_taken 126 = .ok (.goto (-88), 3) := by decide +kernel
theorem dX9_taken_129 : decode cX9_taken 129 = .ok (.aload_n 0, 1) := by decide +kernel
theorem dX9_taken_130 : decode cX9_taken 130 = .ok (.getfield 92, 3) := by decide +kernel
theorem dX9_taken_133 : decode cX9_taken 133 = .ok (.getfield 243, 3) := by decide +kernel
theorem dX9_taken_136 : decode cX9_taken 136 = .ok (.ifCond .eq 9, 3) := by decide +kernel
theorem dX9_taken_139 : decode cX9_taken 139 = .ok (.ldc2_w 152, 3) := by decide +kernel
theorem dX9_taken_142 : decode cX9_taken 142 = .ok (.goto 10, 3) := by decide +kernel
theorem dX9_taken_145 : decode cX9_taken 145 = .ok (.aload_n 0, 1) := by decide +kernel
theorem dX9_taken_146 : decode cX9_taken 146 = .ok (.getfield 92, 3) := by decide +kernel
theorem dX9_taken_149 : decode cX9_taken 149 = .ok (.getfield 273, 3) := by decide +kernel
theorem dX9_taken_152 : decode cX9_taken 152 = .ok (.lreturn, 1) := by decide +kernel
theorem dX9_busy_0 : decode cX9_busy 0 = .ok (.iload_n 1, 1) := by decide +kernel
theorem dX9_busy_1 : decode cX9_busy 1 = .ok (.iconst 3, 1) := by decide +kernel
theorem dX9_busy_2 : decode cX9_busy 2 = .ok (.invokestatic 183, 3) := by decide +kernel
theorem dX9_busy_5 : decode cX9_busy 5 = .ok (.ifCond .eq 14, 3) := by decide +kernel
theorem dX9_busy_8 : decode cX9_busy 8 = .ok (.aload_n 0, 1) := by decide +kernel
theorem dX9_busy_9 : decode cX9_busy 9 = .ok (.getfield 14, 3) := by decide +kernel
theorem dX9_busy_12 : decode cX9_busy 12 = .ok (.iload_n 2, 1) := by decide +kernel
theorem dX9_busy_13 : decode cX9_busy 13 = .ok (.invokevirtual 135, 3) := by decide +kernel
theorem dX9_busy_16 : decode cX9_busy 16 = .ok (.ifCond .ne 5, 3) := by decide +kernel
theorem dX9_busy_19 : decode cX9_busy 19 = .ok (.iconst (-1), 1) := by decide +kernel
theorem dX9_busy_20 : decode cX9_busy 20 = .ok (.ireturn, 1) := by decide +kernel
theorem dX9_busy_21 : decode cX9_busy 21 = .ok (.aload_n 0, 1) := by decide +kernel
theorem dX9_busy_22 : decode cX9_busy 22 = .ok (.iload_n 1, 1) := by decide +kernel
theorem dX9_busy_23 : decode cX9_busy 23 = .ok (.invokevirtual 235, 3) := by decide +kernel
theorem dX9_busy_26 : decode cX9_busy 26 = .ok (.astore_n 3, 1) := by decide +kernel
theorem dX9_busy_27 : decode cX9_busy 27 = .ok (.aload_n 3, 1) := by decide +kernel
theorem dX9_busy_28 : decode cX9_busy 28 = .ok (.getfield 239, 3) := by decide +kernel
theorem dX9_busy_31 : decode cX9_busy 31 = .ok (.ifCond .ne 6, 3) := by decide +kernel
theorem dX9_busy_34 : decode cX9_busy 34 = .ok (.bipush (-3), 2) := by decide +kernel
theorem dX9_busy_36 : decode cX9_busy 36 = .ok (.ireturn, 1) := by decide +kernel
theorem dX9_busy_37 : decode cX9_busy 37 = .ok (.iconst 0, 1) := by decide +kernel
theorem dX9_busy_38 : decode cX9_busy 38 = .ok (.istore 4, 2) := by decide +kernel
theorem dX9_busy_40 : decode cX9_busy 40 = .ok (.iload 4, 2) := by decide +kernel
theorem dX9_busy_42 : decode cX9_busy 42 = .ok (.aload_n 0, 1) := by decide +kernel
theorem dX9_busy_43 : decode cX9_busy 43 = .ok (.getfield 14, 3) := by decide +kernel
theorem dX9_busy_46 : decode cX9_busy 46 = .ok (.getfield 102, 3) := by decide +kernel
theorem dX9_busy_49 : decode cX9_busy 49 = .ok (.if_icmp .ge 29, 3) := by decide +kernel
theorem dX9_busy_52 : decode cX9_busy 52 = .ok (.aload_n 3, 1) := by decide +kernel
theorem dX9_busy_53 : decode cX9_busy 53 = .ok (.iload 4, 2) := by decide +kernel
theorem dX9_busy_55 : decode cX9_busy 55 = .ok (.aload_n 0, 1) := by decide +kernel
theorem dX9_busy_56 : decode cX9_busy 56 = .ok (.getfield 14, 3) := by decide +kernel
theorem dX9_busy_59 : decode cX9_busy 59 = .ok (.getfield 102, 3) := by decide +kernel
theorem dX9_busy_62 : decode cX9_busy 62 = .ok (.invokevirtual 284, 3) := by decide +kernel
theorem dX9_busy_65 : decode cX9_busy 65 = .ok (.iload_n 2, 1) := by decide +kernel
theorem dX9_busy_66 : decode cX9_busy 66 = .ok (.if_icmp .ne 6, 3) := by decide +kernel
theorem dX9_busy_69 : decode cX9_busy 69 = .ok (.iload 4, 2) := by decide +kernel
theorem dX9_busy_71 : decode cX9_busy 71 = .ok (.ireturn, 1) := by decide +kernel
theorem dX9_busy_72 : decode cX9_busy 72 = .ok (.iinc 4 1, 3) := by decide +kernel
theorem dX9_busy_75 : decode cX9_busy 75 = .ok (.goto (-35), 3) := by decide +kernel
theorem dX9_busy_78 : decode cX9_busy 78 = .ok (.iconst (-1), 1) := by decide +kernel
theorem dX9_busy_79 : decode cX9_busy 79 = .ok (.ireturn, 1) := by decide +kernel
theorem dX9_best_0 : decode cX9_best 0 = .ok (.aload_n 0, 1) := by decide +kernel
theorem dX9_best_1 : decode cX9_best 1 = .ok (.invokevirtual 287, 3) := by decide +kernel
theorem dX9_best_4 : decode cX9_best 4 = .ok (.lreturn, 1) := by decide +kernel
theorem dX9_worse_0 : decode cX9_worse 0 = .ok (.iload_n 1, 1) := by decide +kernel
theorem dX9_worse_1 : decode cX9_worse 1 = .ok (.iconst 3, 1) := by decide +kernel
theorem dX9_worse_2 : decode cX9_worse 2 = .ok (.invokestatic 183, 3) := by decide +kernel
theorem dX9_worse_5 : decode cX9_worse 5 = .ok (.ifCond .eq 11, 3) := by decide +kernel
theorem dX9_worse_8 : decode cX9_worse 8 = .ok (.iload_n 2, 1) := by decide +kernel
theorem dX9_worse_9 : decode cX9_worse 9 = .ok (.iconst 2, 1) := by decide +kernel
theorem dX9_worse_10 : decode cX9_worse 10 = .ok (.invokestatic 183, 3) := by decide +kernel
theorem dX9_worse_13 : decode cX9_worse 13 = .ok (.ifCond .ne 7, 3) := by decide +kernel
theorem dX9_worse_16 : decode cX9_worse 16 = .ok (.ldc2_w 152, 3) := by decide +kernel
theorem dX9_worse_19 : decode cX9_worse 19 = .ok (.lreturn, 1) := by decide +kernel
theorem dX9_worse_20 : decode cX9_worse 20 = .ok (.aload_n 0, 1) := by decide +kernel
theorem dX9_worse_21 : decode cX9_worse 21 = .ok (.iload_n 1, 1) := by decide +kernel
theorem dX9_worse_22 : decode cX9_worse 22 = .ok (.invokevirtual 235, 3) := by decide +kernel
theorem dX9_worse_25 : decode cX9_worse 25 = .ok (.invokevirtual 255, 3) := by decide +kernel
theorem dX9_worse_28 : decode cX9_worse 28 = .ok (.lstore_n 3, 1) := by decide +kernel
theorem dX9_worse_29 : decode cX9_worse 29 = .ok (.aload_n 0, 1) := by decide +kernel
theorem dX9_worse_30 : decode cX9_worse 30 = .ok (.invokevirtual 287, 3) := by decide +kernel
theorem dX9_worse_33 : decode cX9_worse 33 = .ok (.lstore 5, 2) := by decide +kernel
theorem dX9_worse_35 : decode cX9_worse 35 = .ok (.lload_n 3, 1) := by decide +kernel
theorem dX9_worse_36 : decode cX9_worse 36 = .ok (.ldc2_w 152, 3) := by decide +kernel
theorem dX9_worse_39 : decode cX9_worse 39 = .ok (.lcmp, 1) := by decide +kernel
theorem dX9_worse_40 : decode cX9_worse 40 = .ok (.ifCond .eq 12, 3) := by decide +kernel
theorem dX9_worse_43 : decode cX9_worse 43 = .ok (.lload 5, 2) := by decide +kernel
theorem dX9_worse_45 : decode cX9_worse 45 = .ok (.ldc2_w 152, 3) := by decide +kernel
theorem dX9_worse_48 : decode cX9_worse 48 = .ok (.lcmp, 1) := by decide +kernel
theorem dX9_worse_49 : decode cX9_worse 49 = .ok (.ifCond .ne 7, 3) := by decide +kernel
theorem dX9_worse_52 : decode cX9_worse 52 = .ok (.ldc2_w 152, 3) := by decide +kernel
theorem dX9_worse_55 : decode cX9_worse 55 = .ok (.lreturn, 1) := by decide +kernel
theorem dX9_worse_56 : decode cX9_worse 56 = .ok (.lload 5, 2) := by decide +kernel
theorem dX9_worse_58 : decode cX9_worse 58 = .ok (.lconst 0, 1) := by decide +kernel
theorem dX9_worse_59 : decode cX9_worse 59 = .ok (.lcmp, 1) := by decide +kernel
theorem dX9_worse_60 : decode cX9_worse 60 = .ok (.ifCond .ne 18, 3) := by decide +kernel
theorem dX9_worse_63 : decode cX9_worse 63 = .ok (.lload_n 3, 1) := by decide +kernel
theorem dX9_worse_64 : decode cX9_worse 64 = .ok (.lconst 0, 1) := by decide +kernel
theorem dX9_worse_65 : decode cX9_worse 65 = .ok (.lcmp, 1) := by decide +kernel
theorem dX9_worse_66 : decode cX9_worse 66 = .ok (.ifCond .ne 8, 3) := by decide +kernel
theorem dX9_worse_69 : decode cX9_worse 69 = .ok (.iload_n 2, 1) := by decide +kernel
theorem dX9_worse_70 : decode cX9_worse 70 = .ok (.i2l, 1) := by decide +kernel
theorem dX9_worse_71 : decode cX9_worse 71 = .ok (.goto 6, 3) := by decide +kernel
theorem dX9_worse_74 : decode cX9_worse 74 = .ok (.ldc2_w 152, 3) := by decide +kernel
theorem dX9_worse_77 : decode cX9_worse 77 = .ok (.lreturn, 1) := by decide +kernel
theorem dX9_worse_78 : decode cX9_worse 78 = .ok (.lload_n 3, 1) := by decide +kernel
theorem dX9_worse_79 : decode cX9_worse 79 = .ok (.lload 5, 2) := by decide +kernel
theorem dX9_worse_81 : decode cX9_worse 81 = .ok (.lsub, 1) := by decide +kernel
theorem dX9_worse_82 : decode cX9_worse 82 = .ok (.lload 5, 2) := by decide +kernel
theorem dX9_worse_84 : decode cX9_worse 84 = .ok (.iload_n 2, 1) := by decide +kernel
theorem dX9_worse_85 : decode cX9_worse 85 = .ok (.invokestatic 276, 3) := by decide +kernel
theorem dX9_worse_88 : decode cX9_worse 88 = .ok (.lreturn, 1) := by decide +kernel
theorem dX9_without_0 : decode cX9_without 0 = .ok (.iload_n 1, 1) := by decide +kernel
theorem dX9_without_1 : decode cX9_without 1 = .ok (.iconst 3, 1) := by decide +kernel
theorem dX9_without_2 : decode cX9_without 2 = .ok (.invokestatic 183, 3) := by decide +kernel
theorem dX9_without_5 : decode cX9_without 5 = .ok (.ifCond .eq 14, 3) := by decide +kernel
theorem dX9_without_8 : decode cX9_without 8 = .ok (.aload_n 0, 1) := by decide +kernel
theorem dX9_without_9 : decode cX9_without 9 = .ok (.getfield 14, 3) := by decide +kernel
theorem dX9_without_12 : decode cX9_without 12 = .ok (.iload_n 2, 1) := by decide +kernel
theorem dX9_without_13 : decode cX9_without 13 = .ok (.invokevirtual 135, 3) := by decide +kernel
theorem dX9_without_16 : decode cX9_without 16 = .ok (.ifCond .ne 7, 3) := by decide +kernel
theorem dX9_without_19 : decode cX9_without 19 = .ok (.ldc2_w 152, 3) := by decide +kernel
theorem dX9_without_22 : decode cX9_without 22 = .ok (.lreturn, 1) := by decide +kernel
theorem dX9_without_23 : decode cX9_without 23 = .ok (.aload_n 0, 1) := by decide +kernel
theorem dX9_without_24 : decode cX9_without 24 = .ok (.iload_n 1, 1) := by decide +kernel
theorem dX9_without_25 : decode cX9_without 25 = .ok (.invokevirtual 235, 3) := by decide +kernel
theorem dX9_without_28 : decode cX9_without 28 = .ok (.aload_n 0, 1) := by decide +kernel
theorem dX9_without_29 : decode cX9_without 29 = .ok (.iload_n 1, 1) := by decide +kernel
theorem dX9_without_30 : decode cX9_without 30 = .ok (.iload_n 2, 1) := by decide +kernel
theorem dX9_without_31 : decode cX9_without 31 = .ok (.invokevirtual 290, 3) := by decide +kernel
theorem dX9_without_34 : decode cX9_without 34 = .ok (.invokestatic 294, 3) := by decide +kernel
theorem dX9_without_37 : decode cX9_without 37 = .ok (.lreturn, 1) := by decide +kernel
theorem dX9_paradox_0 : decode cX9_paradox 0 = .ok (.iload_n 1, 1) := by decide +kernel
theorem dX9_paradox_1 : decode cX9_paradox 1 = .ok (.iconst 3, 1) := by decide +kernel
theorem dX9_paradox_2 : decode cX9_paradox 2 = .ok (.invokestatic 183, 3) := by decide +kernel
theorem dX9_paradox_5 : decode cX9_paradox 5 = .ok (.ifCond .eq 14, 3) := by decide +kernel
theorem dX9_paradox_8 : decode cX9_paradox 8 = .ok (.aload_n 0, 1) := by decide +kernel
theorem dX9_paradox_9 : decode cX9_paradox 9 = .ok (.getfield 14, 3) := by decide +kernel
theorem dX9_paradox_12 : decode cX9_paradox 12 = .ok (.iload_n 2, 1) := by decide +kernel
theorem dX9_paradox_13 : decode cX9_paradox 13 = .ok (.invokevirtual 135, 3) := by decide +kernel
theorem dX9_paradox_16 : decode cX9_paradox 16 = .ok (.ifCond .ne 5, 3) := by decide +kernel
theorem dX9_paradox_19 : decode cX9_paradox 19 = .ok (.iconst (-1), 1) := by decide +kernel
theorem dX9_paradox_20 : decode cX9_paradox 20 = .ok (.ireturn, 1) := by decide +kernel
theorem dX9_paradox_21 : decode cX9_paradox 21 = .ok (.aload_n 0, 1) := by decide +kernel
theorem dX9_paradox_22 : decode cX9_paradox 22 = .ok (.iload_n 1, 1) := by decide +kernel
theorem dX9_paradox_23 : decode cX9_paradox 23 = .ok (.invokevirtual 235, 3) := by decide +kernel
theorem dX9_paradox_26 : decode cX9_paradox 26 = .ok (.aload_n 0, 1) := by decide +kernel
theorem dX9_paradox_27 : decode cX9_paradox 27 = .ok (.iload_n 1, 1) := by decide +kernel
theorem dX9_paradox_28 : decode cX9_paradox 28 = .ok (.iload_n 2, 1) := by decide +kernel
theorem dX9_paradox_29 : decode cX9_paradox 29 = .ok (.invokevirtual 290, 3) := by decide +kernel
theorem dX9_paradox_32 : decode cX9_paradox 32 = .ok (.invokestatic 298, 3) := by decide +kernel
theorem dX9_paradox_35 : decode cX9_paradox 35 = .ok (.ireturn, 1) := by decide +kernel
theorem dX9_paradoxes_0 : decode cX9_paradoxes 0 = .ok (.iload_n 1, 1) := by decide +kernel
theorem dX9_paradoxes_1 : decode cX9_paradoxes 1 = .ok (.iconst 3, 1) := by decide +kernel
theorem dX9_paradoxes_2 : decode cX9_paradoxes 2 = .ok (.invokestatic 183, 3) := by decide +kernel
theorem dX9_paradoxes_5 : decode cX9_paradoxes 5 = .ok (.ifCond .ne 5, 3) := by decide +kernel
theorem dX9_paradoxes_8 : decode cX9_paradoxes 8 = .ok (.iconst (-1), 1) := by decide +kernel
theorem dX9_paradoxes_9 : decode cX9_paradoxes 9 = .ok (.ireturn, 1) := by decide +kernel
theorem dX9_paradoxes_10 : decode cX9_paradoxes 10 = .ok (.aload_n 0, 1) := by decide +kernel
theorem dX9_paradoxes_11 : decode cX9_paradoxes 11 = .ok (.iload_n 1, 1) := by decide +kernel
theorem dX9_paradoxes_12 : decode cX9_paradoxes 12 = .ok (.invokevirtual 235, 3) := by decide +kernel
theorem dX9_paradoxes_15 : decode cX9_paradoxes 15 = .ok (.astore_n 2, 1) := by decide +kernel
theorem dX9_paradoxes_16 : decode cX9_paradoxes 16 = .ok (.aload_n 2, 1) := by decide +kernel
theorem dX9_paradoxes_17 : decode cX9_paradoxes 17 = .ok (.getfield 239, 3) := by decide +kernel
theorem dX9_paradoxes_20 : decode cX9_paradoxes 20 = .ok (.ifCond .ne 6, 3) := by decide +kernel
theorem dX9_paradoxes_23 : decode cX9_paradoxes 23 = .ok (.bipush (-3), 2) := by decide +kernel
theorem dX9_paradoxes_25 : decode cX9_paradoxes 25 = .ok (.ireturn, 1) := by decide +kernel
theorem dX9_paradoxes_26 : decode cX9_paradoxes 26 = .ok (.iconst 0, 1) := by decide +kernel
theorem dX9_paradoxes_27 : decode cX9_paradoxes 27 = .ok (.istore_n 3, 1) := by decide +kernel
theorem dX9_paradoxes_28 : decode cX9_paradoxes 28 = .ok (.iconst 0, 1) := by decide +kernel
theorem dX9_paradoxes_29 : decode cX9_paradoxes 29 = .ok (.istore 4, 2) := by decide +kernel
theorem dX9_paradoxes_31 : decode cX9_paradoxes 31 = .ok (.iload 4, 2) := by decide +kernel
theorem dX9_paradoxes_33 : decode cX9_paradoxes 33 = .ok (.aload_n 0, 1) := by decide +kernel
theorem dX9_paradoxes_34 : decode cX9_paradoxes 34 = .ok (.getfield 14, 3) := by decide +kernel
theorem dX9_paradoxes_37 : decode cX9_paradoxes 37 = .ok (.getfield 102, 3) := by decide +kernel
theorem dX9_paradoxes_40 : decode cX9_paradoxes 40 = .ok (.if_icmp .ge 31, 3) := by decide +kernel
theorem dX9_paradoxes_43 : decode cX9_paradoxes 43 = .ok (.aload_n 2, 1) := by decide +kernel
theorem dX9_paradoxes_44 : decode cX9_paradoxes 44 = .ok (.aload_n 0, 1) := by decide +kernel
theorem dX9_paradoxes_45 : decode cX9_paradoxes 45 = .ok (.iload_n 1, 1) := by decide +kernel
theorem dX9_paradoxes_46 : decode cX9_paradoxes 46 = .ok (.iload 4, 2) := by decide +kernel
theorem dX9_paradoxes_48 : decode cX9_paradoxes 48 = .ok (.invokevirtual 290, 3) := by decide +kernel
theorem dX9_paradoxes_51 : decode cX9_paradoxes 51 = .ok (.invokestatic 298, 3) := by decide +kernel
theorem dX9_paradoxes_54 : decode cX9_paradoxes 54 = .ok (.iconst 1, 1) := by decide +kernel
theorem dX9_paradoxes_55 : decode cX9_paradoxes 55 = .ok (.if_icmp .ne 10, 3) := by decide +kernel
theorem dX9_paradoxes_58 : decode cX9_paradoxes 58 = .ok (.iload_n 3, 1) := by decide +kernel
theorem dX9_paradoxes_59 : decode cX9_paradoxes 59 = .ok (.iconst 1, 1) := by decide +kernel
theorem dX9_paradoxes_60 : decode cX9_paradoxes 60 = .ok (.iload 4, 2) := by decide +kernel
theorem dX9_paradoxes_62 : decode cX9_paradoxes 62 = .ok (.ishl, 1) := by decide +kernel
theorem dX9_paradoxes_63 : decode cX9_paradoxes 63 = .ok (.ior, 1) := by decide +kernel
theorem dX9_paradoxes_64 : decode cX9_paradoxes 64 = .ok (.istore_n 3, 1) := by decide +kernel
theorem dX9_paradoxes_65 : decode cX9_paradoxes 65 = .ok (.iinc 4 1, 3) := by decide +kernel
theorem dX9_paradoxes_68 : decode cX9_paradoxes 68 = .ok (.goto (-37), 3) := by decide +kernel
theorem dX9_paradoxes_71 : decode cX9_paradoxes 71 = .ok (.iload_n 3, 1) := by decide +kernel
theorem dX9_paradoxes_72 : decode cX9_paradoxes 72 = .ok (.ireturn, 1) := by decide +kernel
theorem dX9_adding_0 : decode cX9_adding 0 = .ok (.iload_n 1, 1) := by decide +kernel
theorem dX9_adding_1 : decode cX9_adding 1 = .ok (.iconst 3, 1) := by decide +kernel
theorem dX9_adding_2 : decode cX9_adding 2 = .ok (.invokestatic 183, 3) := by decide +kernel
theorem dX9_adding_5 : decode cX9_adding 5 = .ok (.ifCond .eq 15, 3) := by decide +kernel
theorem dX9_adding_8 : decode cX9_adding 8 = .ok (.aload_n 0, 1) := by decide +kernel
theorem dX9_adding_9 : decode cX9_adding 9 = .ok (.getfield 14, 3) := by decide +kernel
theorem dX9_adding_12 : decode cX9_adding 12 = .ok (.iload_n 2, 1) := by decide +kernel
theorem dX9_adding_13 : decode cX9_adding 13 = .ok (.iload_n 3, 1) := by decide +kernel
theorem dX9_adding_14 : decode cX9_adding 14 = .ok (.invokevirtual 108, 3) := by decide +kernel
theorem dX9_adding_17 : decode cX9_adding 17 = .ok (.ifCond .ne 7, 3) := by decide +kernel
theorem dX9_adding_20 : decode cX9_adding 20 = .ok (.ldc2_w 152, 3) := by decide +kernel
theorem dX9_adding_23 : decode cX9_adding 23 = .ok (.lreturn, 1) := by decide +kernel
theorem dX9_adding_24 : decode cX9_adding 24 = .ok (.lload 4, 2) := by decide +kernel
theorem dX9_adding_26 : decode cX9_adding 26 = .ok (.ldc2_w 116, 3) := by decide +kernel
theorem dX9_adding_29 : decode cX9_adding 29 = .ok (.invokestatic 118, 3) := by decide +kernel
theorem dX9_adding_32 : decode cX9_adding 32 = .ok (.ifCond .eq 14, 3) := by decide +kernel
theorem dX9_adding_35 : decode cX9_adding 35 = .ok (.lload 6, 2) := by decide +kernel
theorem dX9_adding_37 : decode cX9_adding 37 = .ok (.ldc2_w 122, 3) := by decide +kernel
theorem dX9_adding_40 : decode cX9_adding 40 = .ok (.invokestatic 118, 3) := by decide +kernel
theorem dX9_adding_43 : decode cX9_adding 43 = .ok (.ifCond .ne 7, 3) := by decide +kernel
theorem dX9_adding_46 : decode cX9_adding 46 = .ok (.ldc2_w 152, 3) := by decide +kernel
theorem dX9_adding_49 : decode cX9_adding 49 = .ok (.lreturn, 1) := by decide +kernel
theorem dX9_adding_50 : decode cX9_adding 50 = .ok (.aload_n 0, 1) := by decide +kernel
theorem dX9_adding_51 : decode cX9_adding 51 = .ok (.getfield 55, 3) := by decide +kernel
theorem dX9_adding_54 : decode cX9_adding 54 = .ok (.aload_n 0, 1) := by decide +kernel
theorem dX9_adding_55 : decode cX9_adding 55 = .ok (.getfield 14, 3) := by decide +kernel
theorem dX9_adding_58 : decode cX9_adding 58 = .ok (.invokevirtual 209, 3) := by decide +kernel
theorem dX9_adding_61 : decode cX9_adding 61 = .ok (.aload_n 0, 1) := by decide +kernel
theorem dX9_adding_62 : decode cX9_adding 62 = .ok (.getfield 55, 3) := by decide +kernel
theorem dX9_adding_65 : decode cX9_adding 65 = .ok (.new 126, 3) := by decide +kernel
theorem dX9_adding_68 : decode cX9_adding 68 = .ok (.dup, 1) := by decide +kernel
theorem dX9_adding_69 : decode cX9_adding 69 = .ok (.iload_n 2, 1) := by decide +kernel
theorem dX9_adding_70 : decode cX9_adding 70 = .ok (.iload_n 3, 1) := by decide +kernel
theorem dX9_adding_71 : decode cX9_adding 71 = .ok (.iconst 1, 1) := by decide +kernel
theorem dX9_adding_72 : decode cX9_adding 72 = .ok (.lload 4, 2) := by decide +kernel
theorem dX9_adding_74 : decode cX9_adding 74 = .ok (.lload 6, 2) := by decide +kernel
theorem dX9_adding_76 : decode cX9_adding 76 = .ok (.lconst 0, 1) := by decide +kernel
theorem dX9_adding_77 : decode cX9_adding 77 = .ok (.iconst 0, 1) := by decide +kernel
theorem dX9_adding_78 : decode cX9_adding 78 = .ok (.invokespecial 128, 3) := by decide +kernel
theorem dX9_adding_81 : decode cX9_adding 81 = .ok (.invokevirtual 131, 3) := by decide +kernel
theorem dX9_adding_84 : decode cX9_adding 84 = .ok (.aload_n 0, 1) := by decide +kernel
theorem dX9_adding_85 : decode cX9_adding 85 = .ok (.getfield 58, 3) := by decide +kernel
theorem dX9_adding_88 : decode cX9_adding 88 = .ok (.aload_n 0, 1) := by decide +kernel
theorem dX9_adding_89 : decode cX9_adding 89 = .ok (.getfield 55, 3) := by decide +kernel
theorem dX9_adding_92 : decode cX9_adding 92 = .ok (.iconst (-1), 1) := by decide +kernel
theorem dX9_adding_93 : decode cX9_adding 93 = .ok (.invokevirtual 302, 3) := by decide +kernel
theorem dX9_adding_96 : decode cX9_adding 96 = .ok (.aload_n 0, 1) := by decide +kernel
theorem dX9_adding_97 : decode cX9_adding 97 = .ok (.getfield 62, 3) := by decide +kernel
theorem dX9_adding_100 : decode cX9_adding 100 = .ok (.aload_n 0, 1) := by decide +kernel
theorem dX9_adding_101 : decode cX9_adding 101 = .ok (.getfield 55, 3) := by decide +kernel
theorem dX9_adding_104 : decode cX9_adding 104 = .ok (.aload_n 0, 1) := by decide +kernel
theorem dX9_adding_105 : decode cX9_adding 105 = .ok (.getfield 58, 3) := by decide +kernel
theorem dX9_adding_108 : decode cX9_adding 108 = .ok (.iload_n 1, 1) := by decide +kernel
theorem dX9_adding_109 : decode cX9_adding 109 = .ok (.invokevirtual 306, 3) := by decide +kernel
theorem dX9_adding_112 : decode cX9_adding 112 = .ok (.aload_n 0, 1) := by decide +kernel
theorem dX9_adding_113 : decode cX9_adding 113 = .ok (.iload_n 1, 1) := by decide +kernel
theorem dX9_adding_114 : decode cX9_adding 114 = .ok (.invokevirtual 235, 3) := by decide +kernel
theorem dX9_adding_117 : decode cX9_adding 117 = .ok (.aload_n 0, 1) := by decide +kernel
theorem dX9_adding_118 : decode cX9_adding 118 = .ok (.getfield 62, 3) := by decide +kernel
theorem dX9_adding_121 : decode cX9_adding 121 = .ok (.invokestatic 294, 3) := by decide +kernel
theorem dX9_adding_124 : decode cX9_adding 124 = .ok (.lreturn, 1) := by decide +kernel
theorem dX9_fix_0 : decode cX9_fix 0 = .ok (.aload_n 0, 1) := by decide +kernel
theorem dX9_fix_1 : decode cX9_fix 1 = .ok (.iconst 2, 1) := by decide +kernel
theorem dX9_fix_2 : decode cX9_fix 2 = .ok (.invokevirtual 235, 3) := by decide +kernel
theorem dX9_fix_5 : decode cX9_fix 5 = .ok (.astore_n 1, 1) := by decide +kernel
theorem dX9_fix_6 : decode cX9_fix 6 = .ok (.aload_n 1, 1) := by decide +kernel
theorem dX9_fix_7 : decode cX9_fix 7 = .ok (.getfield 239, 3) := by decide +kernel
theorem dX9_fix_10 : decode cX9_fix 10 = .ok (.ifCond .ne 6, 3) := by decide +kernel
theorem dX9_fix_13 : decode cX9_fix 13 = .ok (.bipush (-3), 2) := by decide +kernel
theorem dX9_fix_15 : decode cX9_fix 15 = .ok (.ireturn, 1) := by decide +kernel
theorem dX9_fix_16 : decode cX9_fix 16 = .ok (.iconst 0, 1) := by decide +kernel
theorem dX9_fix_17 : decode cX9_fix 17 = .ok (.istore_n 2, 1) := by decide +kernel
theorem dX9_fix_18 : decode cX9_fix 18 = .ok (.iconst 0, 1) := by decide +kernel
theorem dX9_fix_19 : decode cX9_fix 19 = .ok (.istore_n 3, 1) := by decide +kernel
theorem dX9_fix_20 : decode cX9_fix 20 = .ok (.iload_n 3, 1) := by decide +kernel
theorem dX9_fix_21 : decode cX9_fix 21 = .ok (.aload_n 0, 1) := by decide +kernel
theorem dX9_fix_22 : decode cX9_fix 22 = .ok (.getfield 14, 3) := by decide +kernel
theorem dX9_fix_25 : decode cX9_fix 25 = .ok (.getfield 102, 3) := by decide +kernel
theorem dX9_fix_28 : decode cX9_fix 28 = .ok (.if_icmp .ge 77, 3) := by decide +kernel
theorem dX9_fix_31 : decode cX9_fix 31 = .ok (.aload_n 1, 1) := by decide +kernel
theorem dX9_fix_32 : decode cX9_fix 32 = .ok (.getfield 246, 3) := by decide +kernel
theorem dX9_fix_35 : decode cX9_fix 35 = .ok (.iload_n 3, 1) := by decide +kernel
theorem dX9_fix_36 : decode cX9_fix 36 = .ok (.iaload, 1) := by decide +kernel
theorem dX9_fix_37 : decode cX9_fix 37 = .ok (.istore 4, 2) := by decide +kernel
