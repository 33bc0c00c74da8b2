theorem dX0_init_0 : decode cX0_init 0 = .ok (.aload_n 0, 1) := by decide +kernel
theorem dX0_init_1 : decode cX0_init 1 = .ok (.invokespecial 3, 3) := by decide +kernel
theorem dX0_init_4 : decode cX0_init 4 = .ok (.aload_n 0, 1) := by decide +kernel
theorem dX0_init_5 : decode cX0_init 5 = .ok (.new 9, 3) := by decide +kernel
theorem dX0_init_8 : decode cX0_init 8 = .ok (.dup, 1) := by decide +kernel
theorem dX0_init_9 : decode cX0_init 9 = .ok (.invokespecial 11, 3) := by decide +kernel
theorem dX0_init_12 : decode cX0_init 12 = .ok (.putfield 12, 3) := by decide +kernel
theorem dX0_init_15 : decode cX0_init 15 = .ok (.aload_n 0, 1) := by decide +kernel
theorem dX0_init_16 : decode cX0_init 16 = .ok (.bipush 13, 2) := by decide +kernel
theorem dX0_init_18 : decode cX0_init 18 = .ok (.newarray .int, 2) := by decide +kernel
theorem dX0_init_20 : decode cX0_init 20 = .ok (.putfield 18, 3) := by decide +kernel
theorem dX0_init_23 : decode cX0_init 23 = .ok (.aload_n 0, 1) := by decide +kernel
theorem dX0_init_24 : decode cX0_init 24 = .ok (.bipush 6, 2) := by decide +kernel
theorem dX0_init_26 : decode cX0_init 26 = .ok (.newarray .boolean, 2) := by decide +kernel
theorem dX0_init_28 : decode cX0_init 28 = .ok (.putfield 22, 3) := by decide +kernel
theorem dX0_init_31 : decode cX0_init 31 = .ok (.aload_n 0, 1) := by decide +kernel
theorem dX0_init_32 : decode cX0_init 32 = .ok (.bipush 6, 2) := by decide +kernel
theorem dX0_init_34 : decode cX0_init 34 = .ok (.newarray .long, 2) := by decide +kernel
theorem dX0_init_36 : decode cX0_init 36 = .ok (.putfield 26, 3) := by decide +kernel
theorem dX0_init_39 : decode cX0_init 39 = .ok (.aload_n 0, 1) := by decide +kernel
theorem dX0_init_40 : decode cX0_init 40 = .ok (.bipush 6, 2) := by decide +kernel
theorem dX0_init_42 : decode cX0_init 42 = .ok (.newarray .int, 2) := by decide +kernel
theorem dX0_init_44 : decode cX0_init 44 = .ok (.putfield 30, 3) := by decide +kernel
theorem dX0_init_47 : decode cX0_init 47 = .ok (.aload_n 0, 1) := by decide +kernel
theorem dX0_init_48 : decode cX0_init 48 = .ok (.bipush 6, 2) := by decide +kernel
theorem dX0_init_50 : decode cX0_init 50 = .ok (.newarray .int, 2) := by decide +kernel
theorem dX0_init_52 : decode cX0_init 52 = .ok (.putfield 33, 3) := by decide +kernel
theorem dX0_init_55 : decode cX0_init 55 = .ok (.return_, 1) := by decide +kernel
theorem dX0_seek_0 : decode cX0_seek 0 = .ok (.aload_n 0, 1) := by decide +kernel
theorem dX0_seek_1 : decode cX0_seek 1 = .ok (.getfield 18, 3) := by decide +kernel
theorem dX0_seek_4 : decode cX0_seek 4 = .ok (.iconst 0, 1) := by decide +kernel
theorem dX0_seek_5 : decode cX0_seek 5 = .ok (.invokestatic 36, 3) := by decide +kernel
theorem dX0_seek_8 : decode cX0_seek 8 = .ok (.iconst 0, 1) := by decide +kernel
theorem dX0_seek_9 : decode cX0_seek 9 = .ok (.istore_n 2, 1) := by decide +kernel
theorem dX0_seek_10 : decode cX0_seek 10 = .ok (.iload_n 2, 1) := by decide +kernel
theorem dX0_seek_11 : decode cX0_seek 11 = .ok (.iconst 3, 1) := by decide +kernel
theorem dX0_seek_12 : decode cX0_seek 12 = .ok (.if_icmp .ge 47, 3) := by decide +kernel
theorem dX0_seek_15 : decode cX0_seek 15 = .ok (.iconst 0, 1) := by decide +kernel
theorem dX0_seek_16 : decode cX0_seek 16 = .ok (.istore_n 3, 1) := by decide +kernel
theorem dX0_seek_17 : decode cX0_seek 17 = .ok (.iload_n 3, 1) := by decide +kernel
theorem dX0_seek_18 : decode cX0_seek 18 = .ok (.aload_n 1, 1) := by decide +kernel
theorem dX0_seek_19 : decode cX0_seek 19 = .ok (.getfield 42, 3) := by decide +kernel
theorem dX0_seek_22 : decode cX0_seek 22 = .ok (.iload_n 2, 1) := by decide +kernel
theorem dX0_seek_23 : decode cX0_seek 23 = .ok (.aaload, 1) := by decide +kernel
theorem dX0_seek_24 : decode cX0_seek 24 = .ok (.iconst 1, 1) := by decide +kernel
theorem dX0_seek_25 : decode cX0_seek 25 = .ok (.iaload, 1) := by decide +kernel
theorem dX0_seek_26 : decode cX0_seek 26 = .ok (.if_icmp .ge 27, 3) := by decide +kernel
theorem dX0_seek_29 : decode cX0_seek 29 = .ok (.aload_n 0, 1) := by decide +kernel
theorem dX0_seek_30 : decode cX0_seek 30 = .ok (.aload_n 1, 1) := by decide +kernel
theorem dX0_seek_31 : decode cX0_seek 31 = .ok (.invokevirtual 48, 3) := by decide +kernel
theorem dX0_seek_34 : decode cX0_seek 34 = .ok (.aload_n 0, 1) := by decide +kernel
theorem dX0_seek_35 : decode cX0_seek 35 = .ok (.aload_n 1, 1) := by decide +kernel
theorem dX0_seek_36 : decode cX0_seek 36 = .ok (.aload_n 1, 1) := by decide +kernel
theorem dX0_seek_37 : decode cX0_seek 37 = .ok (.getfield 42, 3) := by decide +kernel
theorem dX0_seek_40 : decode cX0_seek 40 = .ok (.iload_n 2, 1) := by decide +kernel
theorem dX0_seek_41 : decode cX0_seek 41 = .ok (.aaload, 1) := by decide +kernel
theorem dX0_seek_42 : decode cX0_seek 42 = .ok (.iconst 0, 1) := by decide +kernel
theorem dX0_seek_43 : decode cX0_seek 43 = .ok (.iaload, 1) := by decide +kernel
theorem dX0_seek_44 : decode cX0_seek 44 = .ok (.invokevirtual 52, 3) := by decide +kernel
theorem dX0_seek_47 : decode cX0_seek 47 = .ok (.iinc 3 1, 3) := by decide +kernel
theorem dX0_seek_50 : decode cX0_seek 50 = .ok (.goto (-33), 3) := by decide +kernel
theorem dX0_seek_53 : decode cX0_seek 53 = .ok (.iinc 2 1, 3) := by decide +kernel
theorem dX0_seek_56 : decode cX0_seek 56 = .ok (.goto (-46), 3) := by decide +kernel
theorem dX0_seek_59 : decode cX0_seek 59 = .ok (.aload_n 1, 1) := by decide +kernel
theorem dX0_seek_60 : decode cX0_seek 60 = .ok (.aload_n 0, 1) := by decide +kernel
theorem dX0_seek_61 : decode cX0_seek 61 = .ok (.getfield 18, 3) := by decide +kernel
theorem dX0_seek_64 : decode cX0_seek 64 = .ok (.aload_n 0, 1) := by decide +kernel
theorem dX0_seek_65 : decode cX0_seek 65 = .ok (.getfield 12, 3) := by decide +kernel
theorem dX0_seek_68 : decode cX0_seek 68 = .ok (.invokevirtual 56, 3) := by decide +kernel
theorem dX0_seek_71 : decode cX0_seek 71 = .ok (.return_, 1) := by decide +kernel
theorem dX0_measure_0 : decode cX0_measure 0 = .ok (.iconst 0, 1) := by decide +kernel
theorem dX0_measure_1 : decode cX0_measure 1 = .ok (.istore_n 2, 1) := by decide +kernel
theorem dX0_measure_2 : decode cX0_measure 2 = .ok (.iload_n 2, 1) := by decide +kernel
theorem dX0_measure_3 : decode cX0_measure 3 = .ok (.bipush 6, 2) := by decide +kernel
theorem dX0_measure_5 : decode cX0_measure 5 = .ok (.if_icmp .ge 31, 3) := by decide +kernel
theorem dX0_measure_8 : decode cX0_measure 8 = .ok (.aload_n 0, 1) := by decide +kernel
theorem dX0_measure_9 : decode cX0_measure 9 = .ok (.getfield 22, 3) := by decide +kernel
theorem dX0_measure_12 : decode cX0_measure 12 = .ok (.iload_n 2, 1) := by decide +kernel
theorem dX0_measure_13 : decode cX0_measure 13 = .ok (.iload_n 2, 1) := by decide +kernel
theorem dX0_measure_14 : decode cX0_measure 14 = .ok (.ifCond .ne 7, 3) := by decide +kernel
theorem dX0_measure_17 : decode cX0_measure 17 = .ok (.iconst 1, 1) := by decide +kernel
theorem dX0_measure_18 : decode cX0_measure 18 = .ok (.goto 4, 3) := by decide +kernel
theorem dX0_measure_21 : decode cX0_measure 21 = .ok (.iconst 0, 1) := by decide +kernel
theorem dX0_measure_22 : decode cX0_measure 22 = .ok (.bastore, 1) := by decide +kernel
theorem dX0_measure_23 : decode cX0_measure 23 = .ok (.aload_n 0, 1) := by decide +kernel
theorem dX0_measure_24 : decode cX0_measure 24 = .ok (.getfield 26, 3) := by decide +kernel
theorem dX0_measure_27 : decode cX0_measure 27 = .ok (.iload_n 2, 1) := by decide +kernel
theorem dX0_measure_28 : decode cX0_measure 28 = .ok (.lconst 0, 1) := by decide +kernel
theorem dX0_measure_29 : decode cX0_measure 29 = .ok (.lastore, 1) := by decide +kernel
theorem dX0_measure_30 : decode cX0_measure 30 = .ok (.iinc 2 1, 3) := by decide +kernel
theorem dX0_measure_33 : decode cX0_measure 33 = .ok (.goto (-31), 3) := by decide +kernel
theorem dX0_measure_36 : decode cX0_measure 36 = .ok (.iconst 1, 1) := by decide +kernel
theorem dX0_measure_37 : decode cX0_measure 37 = .ok (.istore_n 2, 1) := by decide +kernel
theorem dX0_measure_38 : decode cX0_measure 38 = .ok (.iconst 0, 1) := by decide +kernel
theorem dX0_measure_39 : decode cX0_measure 39 = .ok (.istore_n 3, 1) := by decide +kernel
theorem dX0_measure_40 : decode cX0_measure 40 = .ok (.iload_n 3, 1) := by decide +kernel
theorem dX0_measure_41 : decode cX0_measure 41 = .ok (.bipush 6, 2) := by decide +kernel
theorem dX0_measure_43 : decode cX0_measure 43 = .ok (.if_icmp .ge 43, 3) := by decide +kernel
theorem dX0_measure_46 : decode cX0_measure 46 = .ok (.iload_n 2, 1) := by decide +kernel
theorem dX0_measure_47 : decode cX0_measure 47 = .ok (.ifCond .eq 39, 3) := by decide +kernel
theorem dX0_measure_50 : decode cX0_measure 50 = .ok (.iconst 0, 1) := by decide +kernel
theorem dX0_measure_51 : decode cX0_measure 51 = .ok (.istore_n 2, 1) := by decide +kernel
theorem dX0_measure_52 : decode cX0_measure 52 = .ok (.iconst 0, 1) := by decide +kernel
theorem dX0_measure_53 : decode cX0_measure 53 = .ok (.istore 4, 2) := by decide +kernel
theorem dX0_measure_55 : decode cX0_measure 55 = .ok (.iload 4, 2) := by decide +kernel
theorem dX0_measure_57 : decode cX0_measure 57 = .ok (.aload_n 1, 1) := by decide +kernel
theorem dX0_measure_58 : decode cX0_measure 58 = .ok (.getfield 60, 3) := by decide +kernel
theorem dX0_measure_61 : decode cX0_measure 61 = .ok (.if_icmp .ge 19, 3) := by decide +kernel
theorem dX0_measure_64 : decode cX0_measure 64 = .ok (.iload_n 2, 1) := by decide +kernel
theorem dX0_measure_65 : decode cX0_measure 65 = .ok (.aload_n 0, 1) := by decide +kernel
theorem dX0_measure_66 : decode cX0_measure 66 = .ok (.aload_n 1, 1) := by decide +kernel
theorem dX0_measure_67 : decode cX0_measure 67 = .ok (.iload 4, 2) := by decide +kernel
theorem dX0_measure_69 : decode cX0_measure 69 = .ok (.invokevirtual 64, 3) := by decide +kernel
theorem dX0_measure_72 : decode cX0_measure 72 = .ok (.ior, 1) := by decide +kernel
theorem dX0_measure_73 : decode cX0_measure 73 = .ok (.istore_n 2, 1) := by decide +kernel
theorem dX0_measure_74 : decode cX0_measure 74 = .ok (.iinc 4 1, 3) := by decide +kernel
theorem dX0_measure_77 : decode cX0_measure 77 = .ok (.goto (-22), 3) := by decide +kernel
theorem dX0_measure_80 : decode cX0_measure 80 = .ok (.iinc 3 1, 3) := by decide +kernel
theorem dX0_measure_83 : decode cX0_measure 83 = .ok (.goto (-43), 3) := by decide +kernel
theorem dX0_measure_86 : decode cX0_measure 86 = .ok (.return_, 1) := by decide +kernel
theorem dX0_reach_0 : decode cX0_reach 0 = .ok (.aload_n 1, 1) := by decide +kernel
theorem dX0_reach_1 : decode cX0_reach 1 = .ok (.getfield 68, 3) := by decide +kernel
theorem dX0_reach_4 : decode cX0_reach 4 = .ok (.iload_n 2, 1) := by decide +kernel
theorem dX0_reach_5 : decode cX0_reach 5 = .ok (.aaload, 1) := by decide +kernel
theorem dX0_reach_6 : decode cX0_reach 6 = .ok (.astore_n 3, 1) := by decide +kernel
theorem dX0_reach_7 : decode cX0_reach 7 = .ok (.aload_n 0, 1) := by decide +kernel
theorem dX0_reach_8 : decode cX0_reach 8 = .ok (.getfield 18, 3) := by decide +kernel
theorem dX0_reach_11 : decode cX0_reach 11 = .ok (.iload_n 2, 1) := by decide +kernel
theorem dX0_reach_12 : decode cX0_reach 12 = .ok (.iaload, 1) := by decide +kernel
theorem dX0_reach_13 : decode cX0_reach 13 = .ok (.istore 4, 2) := by decide +kernel
theorem dX0_reach_15 : decode cX0_reach 15 = .ok (.aload_n 0, 1) := by decide +kernel
theorem dX0_reach_16 : decode cX0_reach 16 = .ok (.aload_n 3, 1) := by decide +kernel
theorem dX0_reach_17 : decode cX0_reach 17 = .ok (.getfield 72, 3) := by decide +kernel
theorem dX0_reach_20 : decode cX0_reach 20 = .ok (.aload_n 3, 1) := by decide +kernel
theorem dX0_reach_21 : decode cX0_reach 21 = .ok (.getfield 77, 3) := by decide +kernel
theorem dX0_reach_24 : decode cX0_reach 24 = .ok (.iload_n 2, 1) := by decide +kernel
theorem dX0_reach_25 : decode cX0_reach 25 = .ok (.aload_n 3, 1) := by decide +kernel
theorem dX0_reach_26 : decode cX0_reach 26 = .ok (.iload 4, 2) := by decide +kernel
theorem dX0_reach_28 : decode cX0_reach 28 = .ok (.iconst 1, 1) := by decide +kernel
theorem dX0_reach_29 : decode cX0_reach 29 = .ok (.iadd, 1) := by decide +kernel
theorem dX0_reach_30 : decode cX0_reach 30 = .ok (.invokevirtual 80, 3) := by decide +kernel
theorem dX0_reach_33 : decode cX0_reach 33 = .ok (.aload_n 3, 1) := by decide +kernel
theorem dX0_reach_34 : decode cX0_reach 34 = .ok (.iload 4, 2) := by decide +kernel
theorem dX0_reach_36 : decode cX0_reach 36 = .ok (.iconst 1, 1) := by decide +kernel
theorem dX0_reach_37 : decode cX0_reach 37 = .ok (.iadd, 1) := by decide +kernel
theorem dX0_reach_38 : decode cX0_reach 38 = .ok (.invokevirtual 84, 3) := by decide +kernel
theorem dX0_reach_41 : decode cX0_reach 41 = .ok (.ladd, 1) := by decide +kernel
theorem dX0_reach_42 : decode cX0_reach 42 = .ok (.invokevirtual 87, 3) := by decide +kernel
theorem dX0_reach_45 : decode cX0_reach 45 = .ok (.istore 5, 2) := by decide +kernel
theorem dX0_reach_47 : decode cX0_reach 47 = .ok (.iload 4, 2) := by decide +kernel
theorem dX0_reach_49 : decode cX0_reach 49 = .ok (.ifCond .le 35, 3) := by decide +kernel
theorem dX0_reach_52 : decode cX0_reach 52 = .ok (.iload 5, 2) := by decide +kernel
theorem dX0_reach_54 : decode cX0_reach 54 = .ok (.aload_n 0, 1) := by decide +kernel
theorem dX0_reach_55 : decode cX0_reach 55 = .ok (.aload_n 3, 1) := by decide +kernel
theorem dX0_reach_56 : decode cX0_reach 56 = .ok (.getfield 77, 3) := by decide +kernel
theorem dX0_reach_59 : decode cX0_reach 59 = .ok (.aload_n 3, 1) := by decide +kernel
theorem dX0_reach_60 : decode cX0_reach 60 = .ok (.getfield 72, 3) := by decide +kernel
theorem dX0_reach_63 : decode cX0_reach 63 = .ok (.iload_n 2, 1) := by decide +kernel
theorem dX0_reach_64 : decode cX0_reach 64 = .ok (.aload_n 3, 1) := by decide +kernel
theorem dX0_reach_65 : decode cX0_reach 65 = .ok (.iload 4, 2) := by decide +kernel
theorem dX0_reach_67 : decode cX0_reach 67 = .ok (.invokevirtual 80, 3) := by decide +kernel
theorem dX0_reach_70 : decode cX0_reach 70 = .ok (.lneg, 1) := by decide +kernel
theorem dX0_reach_71 : decode cX0_reach 71 = .ok (.aload_n 3, 1) := by decide +kernel
theorem dX0_reach_72 : decode cX0_reach 72 = .ok (.iload 4, 2) := by decide +kernel
theorem dX0_reach_74 : decode cX0_reach 74 = .ok (.invokevirtual 84, 3) := by decide +kernel
theorem dX0_reach_77 : decode cX0_reach 77 = .ok (.lsub, 1) := by decide +kernel
theorem dX0_reach_78 : decode cX0_reach 78 = .ok (.invokevirtual 87, 3) := by decide +kernel
theorem dX0_reach_81 : decode cX0_reach 81 = .ok (.ior, 1) := by decide +kernel
theorem dX0_reach_82 : decode cX0_reach 82 = .ok (.istore 5, 2) := by decide +kernel
theorem dX0_reach_84 : decode cX0_reach 84 = .ok (.iload 5, 2) := by decide +kernel
theorem dX0_reach_86 : decode cX0_reach 86 = .ok (.ireturn, 1) := by decide +kernel
theorem dX0_comeTo_0 : decode cX0_comeTo 0 = .ok (.aload_n 0, 1) := by decide +kernel
theorem dX0_comeTo_1 : decode cX0_comeTo 1 = .ok (.getfield 22, 3) := by decide +kernel
theorem dX0_comeTo_4 : decode cX0_comeTo 4 = .ok (.iload_n 2, 1) := by decide +kernel
theorem dX0_comeTo_5 : decode cX0_comeTo 5 = .ok (.baload, 1) := by decide +kernel
theorem dX0_comeTo_6 : decode cX0_comeTo 6 = .ok (.ifCond .eq 31, 3) := by decide +kernel
theorem dX0_comeTo_9 : decode cX0_comeTo 9 = .ok (.aload_n 0, 1) := by decide +kernel
theorem dX0_comeTo_10 : decode cX0_comeTo 10 = .ok (.getfield 22, 3) := by decide +kernel
theorem dX0_comeTo_13 : decode cX0_comeTo 13 = .ok (.iload_n 1, 1) := by decide +kernel
theorem dX0_comeTo_14 : decode cX0_comeTo 14 = .ok (.baload, 1) := by decide +kernel
theorem dX0_comeTo_15 : decode cX0_comeTo 15 = .ok (.ifCond .eq 24, 3) := by decide +kernel
theorem dX0_comeTo_18 : decode cX0_comeTo 18 = .ok (.aload_n 0, 1) := by decide +kernel
theorem dX0_comeTo_19 : decode cX0_comeTo 19 = .ok (.getfield 26, 3) := by decide +kernel
theorem dX0_comeTo_22 : decode cX0_comeTo 22 = .ok (.iload_n 1, 1) := by decide +kernel
theorem dX0_comeTo_23 : decode cX0_comeTo 23 = .ok (.laload, 1) := by decide +kernel
theorem dX0_comeTo_24 : decode cX0_comeTo 24 = .ok (.aload_n 0, 1) := by decide +kernel
theorem dX0_comeTo_25 : decode cX0_comeTo 25 = .ok (.getfield 26, 3) := by decide +kernel
theorem dX0_comeTo_28 : decode cX0_comeTo 28 = .ok (.iload_n 2, 1) := by decide +kernel
theorem dX0_comeTo_29 : decode cX0_comeTo 29 = .ok (.laload, 1) := by decide +kernel
theorem dX0_comeTo_30 : decode cX0_comeTo 30 = .ok (.lload 4, 2) := by decide +kernel
theorem dX0_comeTo_32 : decode cX0_comeTo 32 = .ok (.ladd, 1) := by decide +kernel
theorem dX0_comeTo_33 : decode cX0_comeTo 33 = .ok (.lcmp, 1) := by decide +kernel
theorem dX0_comeTo_34 : decode cX0_comeTo 34 = .ok (.ifCond .gt 5, 3) := by decide +kernel
theorem dX0_comeTo_37 : decode cX0_comeTo 37 = .ok (.iconst 0, 1) := by decide +kernel
theorem dX0_comeTo_38 : decode cX0_comeTo 38 = .ok (.ireturn, 1) := by decide +kernel
theorem dX0_comeTo_39 : decode cX0_comeTo 39 = .ok (.aload_n 0, 1) := by decide +kernel
theorem dX0_comeTo_40 : decode cX0_comeTo 40 = .ok (.getfield 22, 3) := by decide +kernel
theorem dX0_comeTo_43 : decode cX0_comeTo 43 = .ok (.iload_n 1, 1) := by decide +kernel
theorem dX0_comeTo_44 : decode cX0_comeTo 44 = .ok (.iconst 1, 1) := by decide +kernel
theorem dX0_comeTo_45 : decode cX0_comeTo 45 = .ok (.bastore, 1) := by decide +kernel
theorem dX0_comeTo_46 : decode cX0_comeTo 46 = .ok (.aload_n 0, 1) := by decide +kernel
theorem dX0_comeTo_47 : decode cX0_comeTo 47 = .ok (.getfield 26, 3) := by decide +kernel
theorem dX0_comeTo_50 : decode cX0_comeTo 50 = .ok (.iload_n 1, 1) := by decide +kernel
theorem dX0_comeTo_51 : decode cX0_comeTo 51 = .ok (.aload_n 0, 1) := by decide +kernel
theorem dX0_comeTo_52 : decode cX0_comeTo 52 = .ok (.getfield 26, 3) := by decide +kernel
theorem dX0_comeTo_55 : decode cX0_comeTo 55 = .ok (.iload_n 2, 1) := by decide +kernel
theorem dX0_comeTo_56 : decode cX0_comeTo 56 = .ok (.laload, 1) := by decide +kernel
theorem dX0_comeTo_57 : decode cX0_comeTo 57 = .ok (.lload 4, 2) := by decide +kernel
theorem dX0_comeTo_59 : decode cX0_comeTo 59 = .ok (.ladd, 1) := by decide +kernel
theorem dX0_comeTo_60 : decode cX0_comeTo 60 = .ok (.lastore, 1) := by decide +kernel
theorem dX0_comeTo_61 : decode cX0_comeTo 61 = .ok (.aload_n 0, 1) := by decide +kernel
theorem dX0_comeTo_62 : decode cX0_comeTo 62 = .ok (.getfield 30, 3) := by decide +kernel
theorem dX0_comeTo_65 : decode cX0_comeTo 65 = .ok (.iload_n 1, 1) := by decide +kernel
theorem dX0_comeTo_66 : decode cX0_comeTo 66 = .ok (.iload_n 2, 1) := by decide +kernel
theorem dX0_comeTo_67 : decode cX0_comeTo 67 = .ok (.iastore, 1) := by decide +kernel
theorem dX0_comeTo_68 : decode cX0_comeTo 68 = .ok (.aload_n 0, 1) := by decide +kernel
theorem dX0_comeTo_69 : decode cX0_comeTo 69 = .ok (.getfield 33, 3) := by decide +kernel
theorem dX0_comeTo_72 : decode cX0_comeTo 72 = .ok (.iload_n 1, 1) := by decide +kernel
theorem dX0_comeTo_73 : decode cX0_comeTo 73 = .ok (.iload_n 3, 1) := by decide +kernel
theorem dX0_comeTo_74 : decode cX0_comeTo 74 = .ok (.iastore, 1) := by decide +kernel
theorem dX0_comeTo_75 : decode cX0_comeTo 75 = .ok (.iconst 1, 1) := by decide +kernel
theorem dX0_comeTo_76 : decode cX0_comeTo 76 = .ok (.ireturn, 1) := by decide +kernel
theorem dX0_push_0 : decode cX0_push 0 = .ok (.aload_n 0, 1) := by decide +kernel
theorem dX0_push_1 : decode cX0_push 1 = .ok (.getfield 22, 3) := by decide +kernel
theorem dX0_push_4 : decode cX0_push 4 = .ok (.iload_n 2, 1) := by decide +kernel
theorem dX0_push_5 : decode cX0_push 5 = .ok (.baload, 1) := by decide +kernel
theorem dX0_push_6 : decode cX0_push 6 = .ok (.ifCond .eq 7, 3) := by decide +kernel
theorem dX0_push_9 : decode cX0_push 9 = .ok (.iload_n 2, 1) := by decide +kernel
theorem dX0_push_10 : decode cX0_push 10 = .ok (.goto 4, 3) := by decide +kernel
theorem dX0_push_13 : decode cX0_push 13 = .ok (.iconst 0, 1) := by decide +kernel
theorem dX0_push_14 : decode cX0_push 14 = .ok (.istore_n 3, 1) := by decide +kernel
theorem dX0_push_15 : decode cX0_push 15 = .ok (.iconst 0, 1) := by decide +kernel
theorem dX0_push_16 : decode cX0_push 16 = .ok (.istore 4, 2) := by decide +kernel
theorem dX0_push_18 : decode cX0_push 18 = .ok (.iload 4, 2) := by decide +kernel
theorem dX0_push_20 : decode cX0_push 20 = .ok (.bipush 6, 2) := by decide +kernel
theorem dX0_push_22 : decode cX0_push 22 = .ok (.if_icmp .ge 57, 3) := by decide +kernel
theorem dX0_push_25 : decode cX0_push 25 = .ok (.iload_n 3, 1) := by decide +kernel
theorem dX0_push_26 : decode cX0_push 26 = .ok (.ifCond .eq 53, 3) := by decide +kernel
theorem dX0_push_29 : decode cX0_push 29 = .ok (.aload_n 0, 1) := by decide +kernel
theorem dX0_push_30 : decode cX0_push 30 = .ok (.getfield 33, 3) := by decide +kernel
theorem dX0_push_33 : decode cX0_push 33 = .ok (.iload_n 3, 1) := by decide +kernel
theorem dX0_push_34 : decode cX0_push 34 = .ok (.iaload, 1) := by decide +kernel
theorem dX0_push_35 : decode cX0_push 35 = .ok (.istore 5, 2) := by decide +kernel
theorem dX0_push_37 : decode cX0_push 37 = .ok (.aload_n 0, 1) := by decide +kernel
theorem dX0_push_38 : decode cX0_push 38 = .ok (.getfield 18, 3) := by decide +kernel
theorem dX0_push_41 : decode cX0_push 41 = .ok (.iload 5, 2) := by decide +kernel
theorem dX0_push_43 : decode cX0_push 43 = .ok (.dup2, 1) := by decide +kernel
theorem dX0_push_44 : decode cX0_push 44 = .ok (.iaload, 1) := by decide +kernel
theorem dX0_push_45 : decode cX0_push 45 = .ok (.aload_n 1, 1) := by decide +kernel
theorem dX0_push_46 : decode cX0_push 46 = .ok (.getfield 68, 3) := by decide +kernel
theorem dX0_push_49 : decode cX0_push 49 = .ok (.iload 5, 2) := by decide +kernel
theorem dX0_push_51 : decode cX0_push 51 = .ok (.aaload, 1) := by decide +kernel
theorem dX0_push_52 : decode cX0_push 52 = .ok (.getfield 72, 3) := by decide +kernel
theorem dX0_push_55 : decode cX0_push 55 = .ok (.iload_n 3, 1) := by decide +kernel
theorem dX0_push_56 : decode cX0_push 56 = .ok (.if_icmp .ne 7, 3) := by decide +kernel
theorem dX0_push_59 : decode cX0_push 59 = .ok (.iconst 1, 1) := by decide +kernel
theorem dX0_push_60 : decode cX0_push 60 = .ok (.goto 4, 3) := by decide +kernel
theorem dX0_push_63 : decode cX0_push 63 = .ok (.iconst (-1), 1) := by decide +kernel
theorem dX0_push_64 : decode cX0_push 64 = .ok (.iadd, 1) := by decide +kernel
theorem dX0_push_65 : decode cX0_push 65 = .ok (.iastore, 1) := by decide +kernel
theorem dX0_push_66 : decode cX0_push 66 = .ok (.aload_n 0, 1) := by decide +kernel
theorem dX0_push_67 : decode cX0_push 67 = .ok (.getfield 30, 3) := by decide +kernel
theorem dX0_push_70 : decode cX0_push 70 = .ok (.iload_n 3, 1) := by decide +kernel
theorem dX0_push_71 : decode cX0_push 71 = .ok (.iaload, 1) := by decide +kernel
theorem dX0_push_72 : decode cX0_push 72 = .ok (.istore_n 3, 1) := by decide +kernel
theorem dX0_push_73 : decode cX0_push 73 = .ok (.iinc 4 1, 3) := by decide +kernel
theorem dX0_push_76 : decode cX0_push 76 = .ok (.goto (-58), 3) := by decide +kernel
theorem dX0_push_79 : decode cX0_push 79 = .ok (.return_, 1) := by decide +kernel
theorem dX1_init_0 : decode cX1_init 0 = .ok (.aload_n 0, 1) := by decide +kernel
theorem dX1_init_1 : decode cX1_init 1 = .ok (.invokespecial 3, 3) := by decide +kernel
theorem dX1_init_4 : decode cX1_init 4 = .ok (.aload_n 0, 1) := by decide +kernel
theorem dX1_init_5 : decode cX1_init 5 = .ok (.iconst 2, 1) := by decide +kernel
theorem dX1_init_6 : decode cX1_init 6 = .ok (.putfield 9, 3) := by decide +kernel
theorem dX1_init_9 : decode cX1_init 9 = .ok (.aload_n 0, 1) := by decide +kernel
theorem dX1_init_10 : decode cX1_init 10 = .ok (.iconst 0, 1) := by decide +kernel
theorem dX1_init_11 : decode cX1_init 11 = .ok (.putfield 15, 3) := by decide +kernel
theorem dX1_init_14 : decode cX1_init 14 = .ok (.aload_n 0, 1) := by decide +kernel
theorem dX1_init_15 : decode cX1_init 15 = .ok (.bipush 13, 2) := by decide +kernel
theorem dX1_init_17 : decode cX1_init 17 = .ok (.anewarray 18, 3) := by decide +kernel
theorem dX1_init_20 : decode cX1_init 20 = .ok (.putfield 20, 3) := by decide +kernel
theorem dX1_init_23 : decode cX1_init 23 = .ok (.aload_n 0, 1) := by decide +kernel
theorem dX1_init_24 : decode cX1_init 24 = .ok (.bipush 13, 2) := by decide +kernel
theorem dX1_init_26 : decode cX1_init 26 = .ok (.newarray .long, 2) := by decide +kernel
theorem dX1_init_28 : decode cX1_init 28 = .ok (.putfield 24, 3) := by decide +kernel
theorem dX1_init_31 : decode cX1_init 31 = .ok (.aload_n 0, 1) := by decide +kernel
theorem dX1_init_32 : decode cX1_init 32 = .ok (.iconst 3, 1) := by decide +kernel
theorem dX1_init_33 : decode cX1_init 33 = .ok (.iconst 4, 1) := by decide +kernel
theorem dX1_init_34 : decode cX1_init 34 = .ok (.multianewarray 28 2, 4) := by decide +kernel
theorem dX1_init_38 : decode cX1_init 38 = .ok (.putfield 30, 3) := by decide +kernel
theorem dX1_init_41 : decode cX1_init 41 = .ok (.new 18, 3) := by decide +kernel
theorem dX1_init_44 : decode cX1_init 44 = .ok (.dup, 1) := by decide +kernel
theorem dX1_init_45 : decode cX1_init 45 = .ok (.iconst 0, 1) := by decide +kernel
theorem dX1_init_46 : decode cX1_init 46 = .ok (.iconst 1, 1) := by decide +kernel
theorem dX1_init_47 : decode cX1_init 47 = .ok (.iconst 0, 1) := by decide +kernel
theorem dX1_init_48 : decode cX1_init 48 = .ok (.lconst 0, 1) := by decide +kernel
theorem dX1_init_49 : decode cX1_init 49 = .ok (.lconst 0, 1) := by decide +kernel
theorem dX1_init_50 : decode cX1_init 50 = .ok (.lconst 0, 1) := by decide +kernel
theorem dX1_init_51 : decode cX1_init 51 = .ok (.iconst 0, 1) := by decide +kernel
theorem dX1_init_52 : decode cX1_init 52 = .ok (.invokespecial 33, 3) := by decide +kernel
theorem dX1_init_55 : decode cX1_init 55 = .ok (.astore_n 1, 1) := by decide +kernel
theorem dX1_init_56 : decode cX1_init 56 = .ok (.iconst 0, 1) := by decide +kernel
theorem dX1_init_57 : decode cX1_init 57 = .ok (.istore_n 2, 1) := by decide +kernel
theorem dX1_init_58 : decode cX1_init 58 = .ok (.iload_n 2, 1) := by decide +kernel
theorem dX1_init_59 : decode cX1_init 59 = .ok (.bipush 13, 2) := by decide +kernel
theorem dX1_init_61 : decode cX1_init 61 = .ok (.if_icmp .ge 16, 3) := by decide +kernel
theorem dX1_init_64 : decode cX1_init 64 = .ok (.aload_n 0, 1) := by decide +kernel
theorem dX1_init_65 : decode cX1_init 65 = .ok (.getfield 20, 3) := by decide +kernel
theorem dX1_init_68 : decode cX1_init 68 = .ok (.iload_n 2, 1) := by decide +kernel
theorem dX1_init_69 : decode cX1_init 69 = .ok (.aload_n 1, 1) := by decide +kernel
theorem dX1_init_70 : decode cX1_init 70 = .ok (.aastore, 1) := by decide +kernel
theorem dX1_init_71 : decode cX1_init 71 = .ok (.iinc 2 1, 3) := by decide +kernel
theorem dX1_init_74 : decode cX1_init 74 = .ok (.goto (-16), 3) := by decide +kernel
theorem dX1_init_77 : decode cX1_init 77 = .ok (.iconst 0, 1) := by decide +kernel
theorem dX1_init_78 : decode cX1_init 78 = .ok (.istore_n 2, 1) := by decide +kernel
theorem dX1_init_79 : decode cX1_init 79 = .ok (.iload_n 2, 1) := by decide +kernel
theorem dX1_init_80 : decode cX1_init 80 = .ok (.iconst 3, 1) := by decide +kernel
theorem dX1_init_81 : decode cX1_init 81 = .ok (.if_icmp .ge 36, 3) := by decide +kernel
theorem dX1_init_84 : decode cX1_init 84 = .ok (.aload_n 0, 1) := by decide +kernel
theorem dX1_init_85 : decode cX1_init 85 = .ok (.getfield 30, 3) := by decide +kernel
theorem dX1_init_88 : decode cX1_init 88 = .ok (.iload_n 2, 1) := by decide +kernel
theorem dX1_init_89 : decode cX1_init 89 = .ok (.aaload, 1) := by decide +kernel
theorem dX1_init_90 : decode cX1_init 90 = .ok (.iconst 0, 1) := by decide +kernel
theorem dX1_init_91 : decode cX1_init 91 = .ok (.iconst 1, 1) := by decide +kernel
theorem dX1_init_92 : decode cX1_init 92 = .ok (.iastore, 1) := by decide +kernel
theorem dX1_init_93 : decode cX1_init 93 = .ok (.aload_n 0, 1) := by decide +kernel
theorem dX1_init_94 : decode cX1_init 94 = .ok (.getfield 30, 3) := by decide +kernel
theorem dX1_init_97 : decode cX1_init 97 = .ok (.iload_n 2, 1) := by decide +kernel
theorem dX1_init_98 : decode cX1_init 98 = .ok (.aaload, 1) := by decide +kernel
theorem dX1_init_99 : decode cX1_init 99 = .ok (.iconst 2, 1) := by decide +kernel
theorem dX1_init_100 : decode cX1_init 100 = .ok (.iconst 1, 1) := by decide +kernel
theorem dX1_init_101 : decode cX1_init 101 = .ok (.iastore, 1) := by decide +kernel
theorem dX1_init_102 : decode cX1_init 102 = .ok (.aload_n 0, 1) := by decide +kernel
theorem dX1_init_103 : decode cX1_init 103 = .ok (.getfield 30, 3) := by decide +kernel
theorem dX1_init_106 : decode cX1_init 106 = .ok (.iload_n 2, 1) := by decide +kernel
theorem dX1_init_107 : decode cX1_init 107 = .ok (.aaload, 1) := by decide +kernel
theorem dX1_init_108 : decode cX1_init 108 = .ok (.iconst 3, 1) := by decide +kernel
theorem dX1_init_109 : decode cX1_init 109 = .ok (.iconst 1, 1) := by decide +kernel
theorem dX1_init_110 : decode cX1_init 110 = .ok (.iastore, 1) := by decide +kernel
theorem dX1_init_111 : decode cX1_init 111 = .ok (.iinc 2 1, 3) := by decide +kernel
theorem dX1_init_114 : decode cX1_init 114 = .ok (.goto (-35), 3) := by decide +kernel
theorem dX1_init_117 : decode cX1_init 117 = .ok (.return_, 1) := by decide +kernel
theorem dX1_copyFrom_0 : decode cX1_copyFrom 0 = .ok (.aload_n 0, 1) := by decide +kernel
theorem dX1_copyFrom_1 : decode cX1_copyFrom 1 = .ok (.aload_n 1, 1) := by decide +kernel
theorem dX1_copyFrom_2 : decode cX1_copyFrom 2 = .ok (.getfield 9, 3) := by decide +kernel
theorem dX1_copyFrom_5 : decode cX1_copyFrom 5 = .ok (.putfield 9, 3) := by decide +kernel
theorem dX1_copyFrom_8 : decode cX1_copyFrom 8 = .ok (.aload_n 0, 1) := by decide +kernel
theorem dX1_copyFrom_9 : decode cX1_copyFrom 9 = .ok (.aload_n 1, 1) := by decide +kernel
theorem dX1_copyFrom_10 : decode cX1_copyFrom 10 = .ok (.getfield 15, 3) := by decide +kernel
theorem dX1_copyFrom_13 : decode cX1_copyFrom 13 = .ok (.putfield 15, 3) := by decide +kernel
theorem dX1_copyFrom_16 : decode cX1_copyFrom 16 = .ok (.iconst 0, 1) := by decide +kernel
theorem dX1_copyFrom_17 : decode cX1_copyFrom 17 = .ok (.istore_n 2, 1) := by decide +kernel
theorem dX1_copyFrom_18 : decode cX1_copyFrom 18 = .ok (.iload_n 2, 1) := by decide +kernel
theorem dX1_copyFrom_19 : decode cX1_copyFrom 19 = .ok (.bipush 13, 2) := by decide +kernel
theorem dX1_copyFrom_21 : decode cX1_copyFrom 21 = .ok (.if_icmp .ge 33, 3) := by decide +kernel
theorem dX1_copyFrom_24 : decode cX1_copyFrom 24 = .ok (.aload_n 0, 1) := by decide +kernel
theorem dX1_copyFrom_25 : decode cX1_copyFrom 25 = .ok (.getfield 20, 3) := by decide +kernel
theorem dX1_copyFrom_28 : decode cX1_copyFrom 28 = .ok (.iload_n 2, 1) := by decide +kernel
theorem dX1_copyFrom_29 : decode cX1_copyFrom 29 = .ok (.aload_n 1, 1) := by decide +kernel
theorem dX1_copyFrom_30 : decode cX1_copyFrom 30 = .ok (.getfield 20, 3) := by decide +kernel
theorem dX1_copyFrom_33 : decode cX1_copyFrom 33 = .ok (.iload_n 2, 1) := by decide +kernel
theorem dX1_copyFrom_34 : decode cX1_copyFrom 34 = .ok (.aaload, 1) := by decide +kernel
theorem dX1_copyFrom_35 : decode cX1_copyFrom 35 = .ok (.aastore, 1) := by decide +kernel
theorem dX1_copyFrom_36 : decode cX1_copyFrom 36 = .ok (.aload_n 0, 1) := by decide +kernel
theorem dX1_copyFrom_37 : decode cX1_copyFrom 37 = .ok (.getfield 24, 3) := by decide +kernel
theorem dX1_copyFrom_40 : decode cX1_copyFrom 40 = .ok (.iload_n 2, 1) := by decide +kernel
theorem dX1_copyFrom_41 : decode cX1_copyFrom 41 = .ok (.aload_n 1, 1) := by decide +kernel
theorem dX1_copyFrom_42 : decode cX1_copyFrom 42 = .ok (.getfield 24, 3) := by decide +kernel
theorem dX1_copyFrom_45 : decode cX1_copyFrom 45 = .ok (.iload_n 2, 1) := by decide +kernel
theorem dX1_copyFrom_46 : decode cX1_copyFrom 46 = .ok (.laload, 1) := by decide +kernel
theorem dX1_copyFrom_47 : decode cX1_copyFrom 47 = .ok (.lastore, 1) := by decide +kernel
theorem dX1_copyFrom_48 : decode cX1_copyFrom 48 = .ok (.iinc 2 1, 3) := by decide +kernel
theorem dX1_copyFrom_51 : decode cX1_copyFrom 51 = .ok (.goto (-33), 3) := by decide +kernel
theorem dX1_copyFrom_54 : decode cX1_copyFrom 54 = .ok (.iconst 0, 1) := by decide +kernel
theorem dX1_copyFrom_55 : decode cX1_copyFrom 55 = .ok (.istore_n 2, 1) := by decide +kernel
theorem dX1_copyFrom_56 : decode cX1_copyFrom 56 = .ok (.iload_n 2, 1) := by decide +kernel
theorem dX1_copyFrom_57 : decode cX1_copyFrom 57 = .ok (.iconst 3, 1) := by decide +kernel
theorem dX1_copyFrom_58 : decode cX1_copyFrom 58 = .ok (.if_icmp .ge 27, 3) := by decide +kernel
theorem dX1_copyFrom_61 : decode cX1_copyFrom 61 = .ok (.aload_n 1, 1) := by decide +kernel
theorem dX1_copyFrom_62 : decode cX1_copyFrom 62 = .ok (.getfield 30, 3) := by decide +kernel
theorem dX1_copyFrom_65 : decode cX1_copyFrom 65 = .ok (.iload_n 2, 1) := by decide +kernel
theorem dX1_copyFrom_66 : decode cX1_copyFrom 66 = .ok (.aaload, 1) := by decide +kernel
theorem dX1_copyFrom_67 : decode cX1_copyFrom 67 = .ok (.iconst 0, 1) := by decide +kernel
theorem dX1_copyFrom_68 : decode cX1_copyFrom 68 = .ok (.aload_n 0, 1) := by decide +kernel
theorem dX1_copyFrom_69 : decode cX1_copyFrom 69 = .ok (.getfield 30, 3) := by decide +kernel
theorem dX1_copyFrom_72 : decode cX1_copyFrom 72 = .ok (.iload_n 2, 1) := by decide +kernel
theorem dX1_copyFrom_73 : decode cX1_copyFrom 73 = .ok (.aaload, 1) := by decide +kernel
theorem dX1_copyFrom_74 : decode cX1_copyFrom 74 = .ok (.iconst 0, 1) := by decide +kernel
theorem dX1_copyFrom_75 : decode cX1_copyFrom 75 = .ok (.iconst 4, 1) := by decide +kernel
theorem dX1_copyFrom_76 : decode cX1_copyFrom 76 = .ok (.invokestatic 36, 3) := by decide +kernel
theorem dX1_copyFrom_79 : decode cX1_copyFrom 79 = .ok (.iinc 2 1, 3) := by decide +kernel
theorem dX1_copyFrom_82 : decode cX1_copyFrom 82 = .ok (.goto (-26), 3) := by decide +kernel
theorem dX1_copyFrom_85 : decode cX1_copyFrom 85 = .ok (.return_, 1) := by decide +kernel
theorem dX1_hasRoad_0 : decode cX1_hasRoad 0 = .ok (.iload_n 1, 1) := by decide +kernel
theorem dX1_hasRoad_1 : decode cX1_hasRoad 1 = .ok (.aload_n 0, 1) := by decide +kernel
theorem dX1_hasRoad_2 : decode cX1_hasRoad 2 = .ok (.getfield 15, 3) := by decide +kernel
theorem dX1_hasRoad_5 : decode cX1_hasRoad 5 = .ok (.invokestatic 42, 3) := by decide +kernel
theorem dX1_hasRoad_8 : decode cX1_hasRoad 8 = .ok (.ireturn, 1) := by decide +kernel
theorem dX1_joins_0 : decode cX1_joins 0 = .ok (.iload_n 1, 1) := by decide +kernel
theorem dX1_joins_1 : decode cX1_joins 1 = .ok (.aload_n 0, 1) := by decide +kernel
theorem dX1_joins_2 : decode cX1_joins 2 = .ok (.getfield 9, 3) := by decide +kernel
theorem dX1_joins_5 : decode cX1_joins 5 = .ok (.invokestatic 42, 3) := by decide +kernel
theorem dX1_joins_8 : decode cX1_joins 8 = .ok (.ifCond .eq 23, 3) := by decide +kernel
theorem dX1_joins_11 : decode cX1_joins 11 = .ok (.iload_n 2, 1) := by decide +kernel
theorem dX1_joins_12 : decode cX1_joins 12 = .ok (.aload_n 0, 1) := by decide +kernel
theorem dX1_joins_13 : decode cX1_joins 13 = .ok (.getfield 9, 3) := by decide +kernel
theorem dX1_joins_16 : decode cX1_joins 16 = .ok (.invokestatic 42, 3) := by decide +kernel
theorem dX1_joins_19 : decode cX1_joins 19 = .ok (.ifCond .eq 12, 3) := by decide +kernel
theorem dX1_joins_22 : decode cX1_joins 22 = .ok (.iload_n 1, 1) := by decide +kernel
theorem dX1_joins_23 : decode cX1_joins 23 = .ok (.iload_n 2, 1) := by decide +kernel
theorem dX1_joins_24 : decode cX1_joins 24 = .ok (.if_icmp .eq 7, 3) := by decide +kernel
theorem dX1_joins_27 : decode cX1_joins 27 = .ok (.iconst 1, 1) := by decide +kernel
theorem dX1_joins_28 : decode cX1_joins 28 = .ok (.goto 4, 3) := by decide +kernel
theorem dX1_joins_31 : decode cX1_joins 31 = .ok (.iconst 0, 1) := by decide +kernel
theorem dX1_joins_32 : decode cX1_joins 32 = .ok (.ireturn, 1) := by decide +kernel
theorem dX1_append_0 : decode cX1_append 0 = .ok (.aload_n 0, 1) := by decide +kernel
theorem dX1_append_1 : decode cX1_append 1 = .ok (.getfield 15, 3) := by decide +kernel
theorem dX1_append_4 : decode cX1_append 4 = .ok (.bipush 13, 2) := by decide +kernel
theorem dX1_append_6 : decode cX1_append 6 = .ok (.if_icmp .ge 33, 3) := by decide +kernel
theorem dX1_append_9 : decode cX1_append 9 = .ok (.aload_n 0, 1) := by decide +kernel
theorem dX1_append_10 : decode cX1_append 10 = .ok (.getfield 20, 3) := by decide +kernel
theorem dX1_append_13 : decode cX1_append 13 = .ok (.aload_n 0, 1) := by decide +kernel
theorem dX1_append_14 : decode cX1_append 14 = .ok (.getfield 15, 3) := by decide +kernel
theorem dX1_append_17 : decode cX1_append 17 = .ok (.aload_n 1, 1) := by decide +kernel
theorem dX1_append_18 : decode cX1_append 18 = .ok (.aastore, 1) := by decide +kernel
theorem dX1_append_19 : decode cX1_append 19 = .ok (.aload_n 0, 1) := by decide +kernel
theorem dX1_append_20 : decode cX1_append 20 = .ok (.getfield 24, 3) := by decide +kernel
theorem dX1_append_23 : decode cX1_append 23 = .ok (.aload_n 0, 1) := by decide +kernel
theorem dX1_append_24 : decode cX1_append 24 = .ok (.getfield 15, 3) := by decide +kernel
theorem dX1_append_27 : decode cX1_append 27 = .ok (.lconst 0, 1) := by decide +kernel
theorem dX1_append_28 : decode cX1_append 28 = .ok (.lastore, 1) := by decide +kernel
theorem dX1_append_29 : decode cX1_append 29 = .ok (.aload_n 0, 1) := by decide +kernel
theorem dX1_append_30 : decode cX1_append 30 = .ok (.dup, 1) := by decide +kernel
theorem dX1_append_31 : decode cX1_append 31 = .ok (.getfield 15, 3) := by decide +kernel
theorem dX1_append_34 : decode cX1_append 34 = .ok (.iconst 1, 1) := by decide +kernel
theorem dX1_append_35 : decode cX1_append 35 = .ok (.iadd, 1) := by decide +kernel
theorem dX1_append_36 : decode cX1_append 36 = .ok (.putfield 15, 3) := by decide +kernel
theorem dX1_append_39 : decode cX1_append 39 = .ok (.return_, 1) := by decide +kernel
theorem dX1_drop_0 : decode cX1_drop 0 = .ok (.iload_n 1, 1) := by decide +kernel
theorem dX1_drop_1 : decode cX1_drop 1 = .ok (.istore_n 2, 1) := by decide +kernel
theorem dX1_drop_2 : decode cX1_drop 2 = .ok (.iload_n 2, 1) := by decide +kernel
theorem dX1_drop_3 : decode cX1_drop 3 = .ok (.iconst 1, 1) := by decide +kernel
theorem dX1_drop_4 : decode cX1_drop 4 = .ok (.iadd, 1) := by decide +kernel
theorem dX1_drop_5 : decode cX1_drop 5 = .ok (.aload_n 0, 1) := by decide +kernel
theorem dX1_drop_6 : decode cX1_drop 6 = .ok (.getfield 15, 3) := by decide +kernel
theorem dX1_drop_9 : decode cX1_drop 9 = .ok (.if_icmp .ge 37, 3) := by decide +kernel
theorem dX1_drop_12 : decode cX1_drop 12 = .ok (.aload_n 0, 1) := by decide +kernel
theorem dX1_drop_13 : decode cX1_drop 13 = .ok (.getfield 20, 3) := by decide +kernel
theorem dX1_drop_16 : decode cX1_drop 16 = .ok (.iload_n 2, 1) := by decide +kernel
theorem dX1_drop_17 : decode cX1_drop 17 = .ok (.aload_n 0, 1) := by decide +kernel
theorem dX1_drop_18 : decode cX1_drop 18 = .ok (.getfield 20, 3) := by decide +kernel
theorem dX1_drop_21 : decode cX1_drop 21 = .ok (.iload_n 2, 1) := by decide +kernel
theorem dX1_drop_22 : decode cX1_drop 22 = .ok (.iconst 1, 1) := by decide +kernel
theorem dX1_drop_23 : decode cX1_drop 23 = .ok (.iadd, 1) := by decide +kernel
theorem dX1_drop_24 : decode cX1_drop 24 = .ok (.aaload, 1) := by decide +kernel
theorem dX1_drop_25 : decode cX1_drop 25 = .ok (.aastore, 1) := by decide +kernel
theorem dX1_drop_26 : decode cX1_drop 26 = .ok (.aload_n 0, 1) := by decide +kernel
theorem dX1_drop_27 : decode cX1_drop 27 = .ok (.getfield 24, 3) := by decide +kernel
theorem dX1_drop_30 : decode cX1_drop 30 = .ok (.iload_n 2, 1) := by decide +kernel
theorem dX1_drop_31 : decode cX1_drop 31 = .ok (.aload_n 0, 1) := by decide +kernel
theorem dX1_drop_32 : decode cX1_drop 32 = .ok (.getfield 24, 3) := by decide +kernel
theorem dX1_drop_35 : decode cX1_drop 35 = .ok (.iload_n 2, 1) := by decide +kernel
theorem dX1_drop_36 : decode cX1_drop 36 = .ok (.iconst 1, 1) := by decide +kernel
theorem dX1_drop_37 : decode cX1_drop 37 = .ok (.iadd, 1) := by decide +kernel
theorem dX1_drop_38 : decode cX1_drop 38 = .ok (.laload, 1) := by decide +kernel
theorem dX1_drop_39 : decode cX1_drop 39 = .ok (.lastore, 1) := by decide +kernel
theorem dX1_drop_40 : decode cX1_drop 40 = .ok (.iinc 2 1, 3) := by decide +kernel
theorem dX1_drop_43 : decode cX1_drop 43 = .ok (.goto (-41), 3) := by decide +kernel
theorem dX1_drop_46 : decode cX1_drop 46 = .ok (.aload_n 0, 1) := by decide +kernel
theorem dX1_drop_47 : decode cX1_drop 47 = .ok (.dup, 1) := by decide +kernel
theorem dX1_drop_48 : decode cX1_drop 48 = .ok (.getfield 15, 3) := by decide +kernel
theorem dX1_drop_51 : decode cX1_drop 51 = .ok (.iconst 1, 1) := by decide +kernel
theorem dX1_drop_52 : decode cX1_drop 52 = .ok (.isub, 1) := by decide +kernel
theorem dX1_drop_53 : decode cX1_drop 53 = .ok (.putfield 15, 3) := by decide +kernel
theorem dX1_drop_56 : decode cX1_drop 56 = .ok (.return_, 1) := by decide +kernel
theorem dX1_countDrivers_0 : decode cX1_countDrivers 0 = .ok (.iconst 0, 1) := by decide +kernel
theorem dX1_countDrivers_1 : decode cX1_countDrivers 1 = .ok (.istore_n 1, 1) := by decide +kernel
theorem dX1_countDrivers_2 : decode cX1_countDrivers 2 = .ok (.iconst 0, 1) := by decide +kernel
theorem dX1_countDrivers_3 : decode cX1_countDrivers 3 = .ok (.istore_n 2, 1) := by decide +kernel
theorem dX1_countDrivers_4 : decode cX1_countDrivers 4 = .ok (.iload_n 2, 1) := by decide +kernel
theorem dX1_countDrivers_5 : decode cX1_countDrivers 5 = .ok (.iconst 3, 1) := by decide +kernel
theorem dX1_countDrivers_6 : decode cX1_countDrivers 6 = .ok (.if_icmp .ge 20, 3) := by decide +kernel
theorem dX1_countDrivers_9 : decode cX1_countDrivers 9 = .ok (.iload_n 1, 1) := by decide +kernel
theorem dX1_countDrivers_10 : decode cX1_countDrivers 10 = .ok (.aload_n 0, 1) := by decide +kernel
theorem dX1_countDrivers_11 : decode cX1_countDrivers 11 = .ok (.getfield 30, 3) := by decide +kernel
theorem dX1_countDrivers_14 : decode cX1_countDrivers 14 = .ok (.iload_n 2, 1) := by decide +kernel
theorem dX1_countDrivers_15 : decode cX1_countDrivers 15 = .ok (.aaload, 1) := by decide +kernel
theorem dX1_countDrivers_16 : decode cX1_countDrivers 16 = .ok (.iconst 1, 1) := by decide +kernel
theorem dX1_countDrivers_17 : decode cX1_countDrivers 17 = .ok (.iaload, 1) := by decide +kernel
theorem dX1_countDrivers_18 : decode cX1_countDrivers 18 = .ok (.iadd, 1) := by decide +kernel
theorem dX1_countDrivers_19 : decode cX1_countDrivers 19 = .ok (.istore_n 1, 1) := by decide +kernel
theorem dX1_countDrivers_20 : decode cX1_countDrivers 20 = .ok (.iinc 2 1, 3) := by decide +kernel
theorem dX1_countDrivers_23 : decode cX1_countDrivers 23 = .ok (.goto (-19), 3) := by decide +kernel
theorem dX1_countDrivers_26 : decode cX1_countDrivers 26 = .ok (.iload_n 1, 1) := by decide +kernel
theorem dX1_countDrivers_27 : decode cX1_countDrivers 27 = .ok (.ireturn, 1) := by decide +kernel
theorem dX1_driversTo_0 : decode cX1_driversTo 0 = .ok (.iconst 0, 1) := by decide +kernel
theorem dX1_driversTo_1 : decode cX1_driversTo 1 = .ok (.istore_n 2, 1) := by decide +kernel
theorem dX1_driversTo_2 : decode cX1_driversTo 2 = .ok (.iconst 0, 1) := by decide +kernel
theorem dX1_driversTo_3 : decode cX1_driversTo 3 = .ok (.istore_n 3, 1) := by decide +kernel
theorem dX1_driversTo_4 : decode cX1_driversTo 4 = .ok (.iload_n 3, 1) := by decide +kernel
theorem dX1_driversTo_5 : decode cX1_driversTo 5 = .ok (.iconst 3, 1) := by decide +kernel
theorem dX1_driversTo_6 : decode cX1_driversTo 6 = .ok (.if_icmp .ge 36, 3) := by decide +kernel
theorem dX1_driversTo_9 : decode cX1_driversTo 9 = .ok (.iload_n 2, 1) := by decide +kernel
theorem dX1_driversTo_10 : decode cX1_driversTo 10 = .ok (.aload_n 0, 1) := by decide +kernel
theorem dX1_driversTo_11 : decode cX1_driversTo 11 = .ok (.getfield 30, 3) := by decide +kernel
theorem dX1_driversTo_14 : decode cX1_driversTo 14 = .ok (.iload_n 3, 1) := by decide +kernel
theorem dX1_driversTo_15 : decode cX1_driversTo 15 = .ok (.aaload, 1) := by decide +kernel
theorem dX1_driversTo_16 : decode cX1_driversTo 16 = .ok (.iconst 0, 1) := by decide +kernel
theorem dX1_driversTo_17 : decode cX1_driversTo 17 = .ok (.iaload, 1) := by decide +kernel
theorem dX1_driversTo_18 : decode cX1_driversTo 18 = .ok (.iload_n 1, 1) := by decide +kernel
theorem dX1_driversTo_19 : decode cX1_driversTo 19 = .ok (.if_icmp .ne 14, 3) := by decide +kernel
theorem dX1_driversTo_22 : decode cX1_driversTo 22 = .ok (.aload_n 0, 1) := by decide +kernel
theorem dX1_driversTo_23 : decode cX1_driversTo 23 = .ok (.getfield 30, 3) := by decide +kernel
theorem dX1_driversTo_26 : decode cX1_driversTo 26 = .ok (.iload_n 3, 1) := by decide +kernel
theorem dX1_driversTo_27 : decode cX1_driversTo 27 = .ok (.aaload, 1) := by decide +kernel
theorem dX1_driversTo_28 : decode cX1_driversTo 28 = .ok (.iconst 1, 1) := by decide +kernel
theorem dX1_driversTo_29 : decode cX1_driversTo 29 = .ok (.iaload, 1) := by decide +kernel
theorem dX1_driversTo_30 : decode cX1_driversTo 30 = .ok (.goto 4, 3) := by decide +kernel
theorem dX1_driversTo_33 : decode cX1_driversTo 33 = .ok (.iconst 0, 1) := by decide +kernel
theorem dX1_driversTo_34 : decode cX1_driversTo 34 = .ok (.iadd, 1) := by decide +kernel
theorem dX1_driversTo_35 : decode cX1_driversTo 35 = .ok (.istore_n 2, 1) := by decide +kernel
theorem dX1_driversTo_36 : decode cX1_driversTo 36 = .ok (.iinc 3 1, 3) := by decide +kernel
theorem dX1_driversTo_39 : decode cX1_driversTo 39 = .ok (.goto (-35), 3) := by decide +kernel
theorem dX1_driversTo_42 : decode cX1_driversTo 42 = .ok (.iload_n 2, 1) := by decide +kernel
theorem dX1_driversTo_43 : decode cX1_driversTo 43 = .ok (.ireturn, 1) := by decide +kernel
theorem dX1_sumOfTolls_0 : decode cX1_sumOfTolls 0 = .ok (.lconst 0, 1) := by decide +kernel
theorem dX1_sumOfTolls_1 : decode cX1_sumOfTolls 1 = .ok (.lstore_n 1, 1) := by decide +kernel
theorem dX1_sumOfTolls_2 : decode cX1_sumOfTolls 2 = .ok (.iconst 0, 1) := by decide +kernel
theorem dX1_sumOfTolls_3 : decode cX1_sumOfTolls 3 = .ok (.istore_n 3, 1) := by decide +kernel
theorem dX1_sumOfTolls_4 : decode cX1_sumOfTolls 4 = .ok (.iload_n 3, 1) := by decide +kernel
theorem dX1_sumOfTolls_5 : decode cX1_sumOfTolls 5 = .ok (.aload_n 0, 1) := by decide +kernel
theorem dX1_sumOfTolls_6 : decode cX1_sumOfTolls 6 = .ok (.getfield 15, 3) := by decide +kernel
theorem dX1_sumOfTolls_9 : decode cX1_sumOfTolls 9 = .ok (.if_icmp .ge 18, 3) := by decide +kernel
theorem dX1_sumOfTolls_12 : decode cX1_sumOfTolls 12 = .ok (.lload_n 1, 1) := by decide +kernel
theorem dX1_sumOfTolls_13 : decode cX1_sumOfTolls 13 = .ok (.aload_n 0, 1) := by decide +kernel
theorem dX1_sumOfTolls_14 : decode cX1_sumOfTolls 14 = .ok (.getfield 24, 3) := by decide +kernel
theorem dX1_sumOfTolls_17 : decode cX1_sumOfTolls 17 = .ok (.iload_n 3, 1) := by decide +kernel
theorem dX1_sumOfTolls_18 : decode cX1_sumOfTolls 18 = .ok (.laload, 1) := by decide +kernel
theorem dX1_sumOfTolls_19 : decode cX1_sumOfTolls 19 = .ok (.ladd, 1) := by decide +kernel
theorem dX1_sumOfTolls_20 : decode cX1_sumOfTolls 20 = .ok (.lstore_n 1, 1) := by decide +kernel
theorem dX1_sumOfTolls_21 : decode cX1_sumOfTolls 21 = .ok (.iinc 3 1, 3) := by decide +kernel
theorem dX1_sumOfTolls_24 : decode cX1_sumOfTolls 24 = .ok (.goto (-20), 3) := by decide +kernel
theorem dX1_sumOfTolls_27 : decode cX1_sumOfTolls 27 = .ok (.lload_n 1, 1) := by decide +kernel
theorem dX1_sumOfTolls_28 : decode cX1_sumOfTolls 28 = .ok (.lreturn, 1) := by decide +kernel
theorem dX1_priceAt_0 : decode cX1_priceAt 0 = .ok (.aload_n 0, 1) := by decide +kernel
theorem dX1_priceAt_1 : decode cX1_priceAt 1 = .ok (.getfield 20, 3) := by decide +kernel
theorem dX1_priceAt_4 : decode cX1_priceAt 4 = .ok (.iload_n 3, 1) := by decide +kernel
theorem dX1_priceAt_5 : decode cX1_priceAt 5 = .ok (.aaload, 1) := by decide +kernel
theorem dX1_priceAt_6 : decode cX1_priceAt 6 = .ok (.iload 4, 2) := by decide +kernel
theorem dX1_priceAt_8 : decode cX1_priceAt 8 = .ok (.invokevirtual 46, 3) := by decide +kernel
theorem dX1_priceAt_11 : decode cX1_priceAt 11 = .ok (.lstore 5, 2) := by decide +kernel
theorem dX1_priceAt_13 : decode cX1_priceAt 13 = .ok (.iload_n 1, 1) := by decide +kernel
theorem dX1_priceAt_14 : decode cX1_priceAt 14 = .ok (.iconst 2, 1) := by decide +kernel
theorem dX1_priceAt_15 : decode cX1_priceAt 15 = .ok (.if_icmp .ne 19, 3) := by decide +kernel
theorem dX1_priceAt_18 : decode cX1_priceAt 18 = .ok (.lload 5, 2) := by decide +kernel
theorem dX1_priceAt_20 : decode cX1_priceAt 20 = .ok (.aload_n 0, 1) := by decide +kernel
theorem dX1_priceAt_21 : decode cX1_priceAt 21 = .ok (.getfield 20, 3) := by decide +kernel
theorem dX1_priceAt_24 : decode cX1_priceAt 24 = .ok (.iload_n 3, 1) := by decide +kernel
theorem dX1_priceAt_25 : decode cX1_priceAt 25 = .ok (.aaload, 1) := by decide +kernel
theorem dX1_priceAt_26 : decode cX1_priceAt 26 = .ok (.iload 4, 2) := by decide +kernel
theorem dX1_priceAt_28 : decode cX1_priceAt 28 = .ok (.invokevirtual 50, 3) := by decide +kernel
theorem dX1_priceAt_31 : decode cX1_priceAt 31 = .ok (.ladd, 1) := by decide +kernel
theorem dX1_priceAt_32 : decode cX1_priceAt 32 = .ok (.lstore 5, 2) := by decide +kernel
theorem dX1_priceAt_34 : decode cX1_priceAt 34 = .ok (.aload_n 0, 1) := by decide +kernel
theorem dX1_priceAt_35 : decode cX1_priceAt 35 = .ok (.getfield 30, 3) := by decide +kernel
theorem dX1_priceAt_38 : decode cX1_priceAt 38 = .ok (.iload_n 2, 1) := by decide +kernel
theorem dX1_priceAt_39 : decode cX1_priceAt 39 = .ok (.aaload, 1) := by decide +kernel
theorem dX1_priceAt_40 : decode cX1_priceAt 40 = .ok (.iconst 2, 1) := by decide +kernel
theorem dX1_priceAt_41 : decode cX1_priceAt 41 = .ok (.iaload, 1) := by decide +kernel
theorem dX1_priceAt_42 : decode cX1_priceAt 42 = .ok (.i2l, 1) := by decide +kernel
theorem dX1_priceAt_43 : decode cX1_priceAt 43 = .ok (.lload 5, 2) := by decide +kernel
theorem dX1_priceAt_45 : decode cX1_priceAt 45 = .ok (.lmul, 1) := by decide +kernel
theorem dX1_priceAt_46 : decode cX1_priceAt 46 = .ok (.lstore 7, 2) := by decide +kernel
theorem dX1_priceAt_48 : decode cX1_priceAt 48 = .ok (.iload_n 1, 1) := by decide +kernel
theorem dX1_priceAt_49 : decode cX1_priceAt 49 = .ok (.iconst 1, 1) := by decide +kernel
theorem dX1_priceAt_50 : decode cX1_priceAt 50 = .ok (.if_icmp .ne 25, 3) := by decide +kernel
theorem dX1_priceAt_53 : decode cX1_priceAt 53 = .ok (.lload 7, 2) := by decide +kernel
theorem dX1_priceAt_55 : decode cX1_priceAt 55 = .ok (.aload_n 0, 1) := by decide +kernel
theorem dX1_priceAt_56 : decode cX1_priceAt 56 = .ok (.getfield 30, 3) := by decide +kernel
theorem dX1_priceAt_59 : decode cX1_priceAt 59 = .ok (.iload_n 2, 1) := by decide +kernel
theorem dX1_priceAt_60 : decode cX1_priceAt 60 = .ok (.aaload, 1) := by decide +kernel
theorem dX1_priceAt_61 : decode cX1_priceAt 61 = .ok (.iconst 3, 1) := by decide +kernel
theorem dX1_priceAt_62 : decode cX1_priceAt 62 = .ok (.iaload, 1) := by decide +kernel
theorem dX1_priceAt_63 : decode cX1_priceAt 63 = .ok (.i2l, 1) := by decide +kernel
theorem dX1_priceAt_64 : decode cX1_priceAt 64 = .ok (.aload_n 0, 1) := by decide +kernel
theorem dX1_priceAt_65 : decode cX1_priceAt 65 = .ok (.getfield 24, 3) := by decide +kernel
theorem dX1_priceAt_68 : decode cX1_priceAt 68 = .ok (.iload_n 3, 1) := by decide +kernel
theorem dX1_priceAt_69 : decode cX1_priceAt 69 = .ok (.laload, 1) := by decide +kernel
theorem dX1_priceAt_70 : decode cX1_priceAt 70 = .ok (.lmul, 1) := by decide +kernel
theorem dX1_priceAt_71 : decode cX1_priceAt 71 = .ok (.ladd, 1) := by decide +kernel
theorem dX1_priceAt_72 : decode cX1_priceAt 72 = .ok (.goto 5, 3) := by decide +kernel
theorem dX1_priceAt_75 : decode cX1_priceAt 75 = .ok (.lload 7, 2) := by decide +kernel
theorem dX1_priceAt_77 : decode cX1_priceAt 77 = .ok (.lreturn, 1) := by decide +kernel
theorem dX1_addUp_0 : decode cX1_addUp 0 = .ok (.aload_n 2, 1) := by decide +kernel
theorem dX1_addUp_1 : decode cX1_addUp 1 = .ok (.invokevirtual 53, 3) := by decide +kernel
theorem dX1_addUp_4 : decode cX1_addUp 4 = .ok (.iconst 0, 1) := by decide +kernel
theorem dX1_addUp_5 : decode cX1_addUp 5 = .ok (.istore_n 3, 1) := by decide +kernel
theorem dX1_addUp_6 : decode cX1_addUp 6 = .ok (.iload_n 3, 1) := by decide +kernel
theorem dX1_addUp_7 : decode cX1_addUp 7 = .ok (.aload_n 0, 1) := by decide +kernel
theorem dX1_addUp_8 : decode cX1_addUp 8 = .ok (.getfield 15, 3) := by decide +kernel
theorem dX1_addUp_11 : decode cX1_addUp 11 = .ok (.if_icmp .ge 35, 3) := by decide +kernel
theorem dX1_addUp_14 : decode cX1_addUp 14 = .ok (.aload_n 1, 1) := by decide +kernel
theorem dX1_addUp_15 : decode cX1_addUp 15 = .ok (.iload_n 3, 1) := by decide +kernel
theorem dX1_addUp_16 : decode cX1_addUp 16 = .ok (.iaload, 1) := by decide +kernel
theorem dX1_addUp_17 : decode cX1_addUp 17 = .ok (.ifCond .le 23, 3) := by decide +kernel
theorem dX1_addUp_20 : decode cX1_addUp 20 = .ok (.aload_n 2, 1) := by decide +kernel
theorem dX1_addUp_21 : decode cX1_addUp 21 = .ok (.aload_n 1, 1) := by decide +kernel
theorem dX1_addUp_22 : decode cX1_addUp 22 = .ok (.iload_n 3, 1) := by decide +kernel
theorem dX1_addUp_23 : decode cX1_addUp 23 = .ok (.iaload, 1) := by decide +kernel
theorem dX1_addUp_24 : decode cX1_addUp 24 = .ok (.i2l, 1) := by decide +kernel
theorem dX1_addUp_25 : decode cX1_addUp 25 = .ok (.aload_n 0, 1) := by decide +kernel
theorem dX1_addUp_26 : decode cX1_addUp 26 = .ok (.getfield 20, 3) := by decide +kernel
theorem dX1_addUp_29 : decode cX1_addUp 29 = .ok (.iload_n 3, 1) := by decide +kernel
theorem dX1_addUp_30 : decode cX1_addUp 30 = .ok (.aaload, 1) := by decide +kernel
theorem dX1_addUp_31 : decode cX1_addUp 31 = .ok (.aload_n 1, 1) := by decide +kernel
theorem dX1_addUp_32 : decode cX1_addUp 32 = .ok (.iload_n 3, 1) := by decide +kernel
theorem dX1_addUp_33 : decode cX1_addUp 33 = .ok (.iaload, 1) := by decide +kernel
theorem dX1_addUp_34 : decode cX1_addUp 34 = .ok (.invokevirtual 46, 3) := by decide +kernel
theorem dX1_addUp_37 : decode cX1_addUp 37 = .ok (.invokevirtual 58, 3) := by decide +kernel
theorem dX1_addUp_40 : decode cX1_addUp 40 = .ok (.iinc 3 1, 3) := by decide +kernel
theorem dX1_addUp_43 : decode cX1_addUp 43 = .ok (.goto (-37), 3) := by decide +kernel
theorem dX1_addUp_46 : decode cX1_addUp 46 = .ok (.return_, 1) := by decide +kernel
theorem dX2_init_0 : decode cX2_init 0 = .ok (.aload_n 0, 1) := by decide +kernel
theorem dX2_init_1 : decode cX2_init 1 = .ok (.invokespecial 3, 3) := by decide +kernel
theorem dX2_init_4 : decode cX2_init 4 = .ok (.aload_n 0, 1) := by decide +kernel
theorem dX2_init_5 : decode cX2_init 5 = .ok (.iconst 1, 1) := by decide +kernel
theorem dX2_init_6 : decode cX2_init 6 = .ok (.putfield 9, 3) := by decide +kernel
theorem dX2_init_9 : decode cX2_init 9 = .ok (.aload_n 0, 1) := by decide +kernel
theorem dX2_init_10 : decode cX2_init 10 = .ok (.sipush 211, 3) := by decide +kernel
theorem dX2_init_13 : decode cX2_init 13 = .ok (.newarray .int, 2) := by decide +kernel
theorem dX2_init_15 : decode cX2_init 15 = .ok (.putfield 15, 3) := by decide +kernel
theorem dX2_init_18 : decode cX2_init 18 = .ok (.aload_n 0, 1) := by decide +kernel
theorem dX2_init_19 : decode cX2_init 19 = .ok (.sipush 211, 3) := by decide +kernel
theorem dX2_init_22 : decode cX2_init 22 = .ok (.newarray .int, 2) := by decide +kernel
theorem dX2_init_24 : decode cX2_init 24 = .ok (.putfield 19, 3) := by decide +kernel
theorem dX2_init_27 : decode cX2_init 27 = .ok (.aload_n 0, 1) := by decide +kernel
theorem dX2_init_28 : decode cX2_init 28 = .ok (.sipush 211, 3) := by decide +kernel
theorem dX2_init_31 : decode cX2_init 31 = .ok (.newarray .int, 2) := by decide +kernel
theorem dX2_init_33 : decode cX2_init 33 = .ok (.putfield 22, 3) := by decide +kernel
theorem dX2_init_36 : decode cX2_init 36 = .ok (.aload_n 0, 1) := by decide +kernel
theorem dX2_init_37 : decode cX2_init 37 = .ok (.sipush 211, 3) := by decide +kernel
theorem dX2_init_40 : decode cX2_init 40 = .ok (.newarray .int, 2) := by decide +kernel
theorem dX2_init_42 : decode cX2_init 42 = .ok (.putfield 25, 3) := by decide +kernel
theorem dX2_init_45 : decode cX2_init 45 = .ok (.aload_n 0, 1) := by decide +kernel
theorem dX2_init_46 : decode cX2_init 46 = .ok (.sipush 211, 3) := by decide +kernel
theorem dX2_init_49 : decode cX2_init 49 = .ok (.newarray .int, 2) := by decide +kernel
theorem dX2_init_51 : decode cX2_init 51 = .ok (.putfield 28, 3) := by decide +kernel
theorem dX2_init_54 : decode cX2_init 54 = .ok (.aload_n 0, 1) := by decide +kernel
theorem dX2_init_55 : decode cX2_init 55 = .ok (.sipush 211, 3) := by decide +kernel
theorem dX2_init_58 : decode cX2_init 58 = .ok (.newarray .int, 2) := by decide +kernel
theorem dX2_init_60 : decode cX2_init 60 = .ok (.putfield 31, 3) := by decide +kernel
theorem dX2_init_63 : decode cX2_init 63 = .ok (.aload_n 0, 1) := by decide +kernel
theorem dX2_init_64 : decode cX2_init 64 = .ok (.getfield 31, 3) := by decide +kernel
theorem dX2_init_67 : decode cX2_init 67 = .ok (.iconst 0, 1) := by decide +kernel
theorem dX2_init_68 : decode cX2_init 68 = .ok (.iconst 1, 1) := by decide +kernel
theorem dX2_init_69 : decode cX2_init 69 = .ok (.iastore, 1) := by decide +kernel
theorem dX2_init_70 : decode cX2_init 70 = .ok (.return_, 1) := by decide +kernel
theorem dX2_find_0 : decode cX2_find 0 = .ok (.aload_n 0, 1) := by decide +kernel
theorem dX2_find_1 : decode cX2_find 1 = .ok (.iconst 1, 1) := by decide +kernel
theorem dX2_find_2 : decode cX2_find 2 = .ok (.putfield 9, 3) := by decide +kernel
theorem dX2_find_5 : decode cX2_find 5 = .ok (.iconst 0, 1) := by decide +kernel
theorem dX2_find_6 : decode cX2_find 6 = .ok (.istore_n 3, 1) := by decide +kernel
theorem dX2_find_7 : decode cX2_find 7 = .ok (.iload_n 3, 1) := by decide +kernel
theorem dX2_find_8 : decode cX2_find 8 = .ok (.aload_n 0, 1) := by decide +kernel
theorem dX2_find_9 : decode cX2_find 9 = .ok (.getfield 9, 3) := by decide +kernel
theorem dX2_find_12 : decode cX2_find 12 = .ok (.if_icmp .ge 54, 3) := by decide +kernel
theorem dX2_find_15 : decode cX2_find 15 = .ok (.iload_n 3, 1) := by decide +kernel
theorem dX2_find_16 : decode cX2_find 16 = .ok (.sipush 211, 3) := by decide +kernel
theorem dX2_find_19 : decode cX2_find 19 = .ok (.if_icmp .ge 47, 3) := by decide +kernel
theorem dX2_find_22 : decode cX2_find 22 = .ok (.iconst 0, 1) := by decide +kernel
theorem dX2_find_23 : decode cX2_find 23 = .ok (.istore 4, 2) := by decide +kernel
theorem dX2_find_25 : decode cX2_find 25 = .ok (.iload 4, 2) := by decide +kernel
theorem dX2_find_27 : decode cX2_find 27 = .ok (.aload_n 1, 1) := by decide +kernel
theorem dX2_find_28 : decode cX2_find 28 = .ok (.getfield 34, 3) := by decide +kernel
theorem dX2_find_31 : decode cX2_find 31 = .ok (.if_icmp .ge 29, 3) := by decide +kernel
theorem dX2_find_34 : decode cX2_find 34 = .ok (.iload 4, 2) := by decide +kernel
theorem dX2_find_36 : decode cX2_find 36 = .ok (.iload_n 2, 1) := by decide +kernel
theorem dX2_find_37 : decode cX2_find 37 = .ok (.if_icmp .eq 17, 3) := by decide +kernel
theorem dX2_find_40 : decode cX2_find 40 = .ok (.aload_n 0, 1) := by decide +kernel
theorem dX2_find_41 : decode cX2_find 41 = .ok (.iload_n 3, 1) := by decide +kernel
theorem dX2_find_42 : decode cX2_find 42 = .ok (.iload 4, 2) := by decide +kernel
theorem dX2_find_44 : decode cX2_find 44 = .ok (.aload_n 1, 1) := by decide +kernel
theorem dX2_find_45 : decode cX2_find 45 = .ok (.getfield 39, 3) := by decide +kernel
theorem dX2_find_48 : decode cX2_find 48 = .ok (.iload 4, 2) := by decide +kernel
theorem dX2_find_50 : decode cX2_find 50 = .ok (.aaload, 1) := by decide +kernel
theorem dX2_find_51 : decode cX2_find 51 = .ok (.invokevirtual 43, 3) := by decide +kernel
theorem dX2_find_54 : decode cX2_find 54 = .ok (.iinc 4 1, 3) := by decide +kernel
theorem dX2_find_57 : decode cX2_find 57 = .ok (.goto (-32), 3) := by decide +kernel
theorem dX2_find_60 : decode cX2_find 60 = .ok (.iinc 3 1, 3) := by decide +kernel
theorem dX2_find_63 : decode cX2_find 63 = .ok (.goto (-56), 3) := by decide +kernel
theorem dX2_find_66 : decode cX2_find 66 = .ok (.return_, 1) := by decide +kernel
theorem dX2_grow_0 : decode cX2_grow 0 = .ok (.aload_n 3, 1) := by decide +kernel
theorem dX2_grow_1 : decode cX2_grow 1 = .ok (.getfield 47, 3) := by decide +kernel
theorem dX2_grow_4 : decode cX2_grow 4 = .ok (.aload_n 0, 1) := by decide +kernel
theorem dX2_grow_5 : decode cX2_grow 5 = .ok (.getfield 22, 3) := by decide +kernel
theorem dX2_grow_8 : decode cX2_grow 8 = .ok (.iload_n 1, 1) := by decide +kernel
theorem dX2_grow_9 : decode cX2_grow 9 = .ok (.iaload, 1) := by decide +kernel
theorem dX2_grow_10 : decode cX2_grow 10 = .ok (.if_icmp .ne 23, 3) := by decide +kernel
theorem dX2_grow_13 : decode cX2_grow 13 = .ok (.aload_n 0, 1) := by decide +kernel
theorem dX2_grow_14 : decode cX2_grow 14 = .ok (.getfield 31, 3) := by decide +kernel
theorem dX2_grow_17 : decode cX2_grow 17 = .ok (.iload_n 1, 1) := by decide +kernel
theorem dX2_grow_18 : decode cX2_grow 18 = .ok (.iaload, 1) := by decide +kernel
theorem dX2_grow_19 : decode cX2_grow 19 = .ok (.aload_n 3, 1) := by decide +kernel
theorem dX2_grow_20 : decode cX2_grow 20 = .ok (.getfield 52, 3) := by decide +kernel
theorem dX2_grow_23 : decode cX2_grow 23 = .ok (.ishr, 1) := by decide +kernel
theorem dX2_grow_24 : decode cX2_grow 24 = .ok (.iconst 1, 1) := by decide +kernel
theorem dX2_grow_25 : decode cX2_grow 25 = .ok (.iand, 1) := by decide +kernel
theorem dX2_grow_26 : decode cX2_grow 26 = .ok (.ifCond .ne 7, 3) := by decide +kernel
theorem dX2_grow_29 : decode cX2_grow 29 = .ok (.iconst 1, 1) := by decide +kernel
theorem dX2_grow_30 : decode cX2_grow 30 = .ok (.goto 4, 3) := by decide +kernel
theorem dX2_grow_33 : decode cX2_grow 33 = .ok (.iconst 0, 1) := by decide +kernel
theorem dX2_grow_34 : decode cX2_grow 34 = .ok (.istore 4, 2) := by decide +kernel
theorem dX2_grow_36 : decode cX2_grow 36 = .ok (.iload 4, 2) := by decide +kernel
theorem dX2_grow_38 : decode cX2_grow 38 = .ok (.ifCond .eq 13, 3) := by decide +kernel
theorem dX2_grow_41 : decode cX2_grow 41 = .ok (.aload_n 0, 1) := by decide +kernel
theorem dX2_grow_42 : decode cX2_grow 42 = .ok (.getfield 9, 3) := by decide +kernel
theorem dX2_grow_45 : decode cX2_grow 45 = .ok (.sipush 211, 3) := by decide +kernel
theorem dX2_grow_48 : decode cX2_grow 48 = .ok (.if_icmp .lt 4, 3) := by decide +kernel
theorem dX2_grow_51 : decode cX2_grow 51 = .ok (.return_, 1) := by decide +kernel
theorem dX2_grow_52 : decode cX2_grow 52 = .ok (.aload_n 0, 1) := by decide +kernel
theorem dX2_grow_53 : decode cX2_grow 53 = .ok (.getfield 15, 3) := by decide +kernel
theorem dX2_grow_56 : decode cX2_grow 56 = .ok (.aload_n 0, 1) := by decide +kernel
theorem dX2_grow_57 : decode cX2_grow 57 = .ok (.getfield 9, 3) := by decide +kernel
theorem dX2_grow_60 : decode cX2_grow 60 = .ok (.iload_n 1, 1) := by decide +kernel
theorem dX2_grow_61 : decode cX2_grow 61 = .ok (.iastore, 1) := by decide +kernel
theorem dX2_grow_62 : decode cX2_grow 62 = .ok (.aload_n 0, 1) := by decide +kernel
theorem dX2_grow_63 : decode cX2_grow 63 = .ok (.getfield 19, 3) := by decide +kernel
theorem dX2_grow_66 : decode cX2_grow 66 = .ok (.aload_n 0, 1) := by decide +kernel
theorem dX2_grow_67 : decode cX2_grow 67 = .ok (.getfield 9, 3) := by decide +kernel
theorem dX2_grow_70 : decode cX2_grow 70 = .ok (.iload_n 2, 1) := by decide +kernel
theorem dX2_grow_71 : decode cX2_grow 71 = .ok (.iastore, 1) := by decide +kernel
theorem dX2_grow_72 : decode cX2_grow 72 = .ok (.aload_n 0, 1) := by decide +kernel
theorem dX2_grow_73 : decode cX2_grow 73 = .ok (.getfield 22, 3) := by decide +kernel
theorem dX2_grow_76 : decode cX2_grow 76 = .ok (.aload_n 0, 1) := by decide +kernel
theorem dX2_grow_77 : decode cX2_grow 77 = .ok (.getfield 9, 3) := by decide +kernel
theorem dX2_grow_80 : decode cX2_grow 80 = .ok (.aload_n 3, 1) := by decide +kernel
theorem dX2_grow_81 : decode cX2_grow 81 = .ok (.getfield 52, 3) := by decide +kernel
theorem dX2_grow_84 : decode cX2_grow 84 = .ok (.iastore, 1) := by decide +kernel
theorem dX2_grow_85 : decode cX2_grow 85 = .ok (.aload_n 0, 1) := by decide +kernel
theorem dX2_grow_86 : decode cX2_grow 86 = .ok (.getfield 25, 3) := by decide +kernel
theorem dX2_grow_89 : decode cX2_grow 89 = .ok (.aload_n 0, 1) := by decide +kernel
theorem dX2_grow_90 : decode cX2_grow 90 = .ok (.getfield 9, 3) := by decide +kernel
theorem dX2_grow_93 : decode cX2_grow 93 = .ok (.aload_n 0, 1) := by decide +kernel
theorem dX2_grow_94 : decode cX2_grow 94 = .ok (.getfield 25, 3) := by decide +kernel
theorem dX2_grow_97 : decode cX2_grow 97 = .ok (.iload_n 1, 1) := by decide +kernel
theorem dX2_grow_98 : decode cX2_grow 98 = .ok (.iaload, 1) := by decide +kernel
theorem dX2_grow_99 : decode cX2_grow 99 = .ok (.iconst 1, 1) := by decide +kernel
theorem dX2_grow_100 : decode cX2_grow 100 = .ok (.iadd, 1) := by decide +kernel
theorem dX2_grow_101 : decode cX2_grow 101 = .ok (.iastore, 1) := by decide +kernel
theorem dX2_grow_102 : decode cX2_grow 102 = .ok (.aload_n 0, 1) := by decide +kernel
theorem dX2_grow_103 : decode cX2_grow 103 = .ok (.getfield 28, 3) := by decide +kernel
theorem dX2_grow_106 : decode cX2_grow 106 = .ok (.aload_n 0, 1) := by decide +kernel
theorem dX2_grow_107 : decode cX2_grow 107 = .ok (.getfield 9, 3) := by decide +kernel
theorem dX2_grow_110 : decode cX2_grow 110 = .ok (.aload_n 0, 1) := by decide +kernel
theorem dX2_grow_111 : decode cX2_grow 111 = .ok (.getfield 28, 3) := by decide +kernel
theorem dX2_grow_114 : decode cX2_grow 114 = .ok (.iload_n 1, 1) := by decide +kernel
theorem dX2_grow_115 : decode cX2_grow 115 = .ok (.iaload, 1) := by decide +kernel
theorem dX2_grow_116 : decode cX2_grow 116 = .ok (.iconst 1, 1) := by decide +kernel
theorem dX2_grow_117 : decode cX2_grow 117 = .ok (.iload_n 2, 1) := by decide +kernel
theorem dX2_grow_118 : decode cX2_grow 118 = .ok (.ishl, 1) := by decide +kernel
theorem dX2_grow_119 : decode cX2_grow 119 = .ok (.ior, 1) := by decide +kernel
theorem dX2_grow_120 : decode cX2_grow 120 = .ok (.iastore, 1) := by decide +kernel
theorem dX2_grow_121 : decode cX2_grow 121 = .ok (.aload_n 0, 1) := by decide +kernel
theorem dX2_grow_122 : decode cX2_grow 122 = .ok (.getfield 31, 3) := by decide +kernel
theorem dX2_grow_125 : decode cX2_grow 125 = .ok (.aload_n 0, 1) := by decide +kernel
theorem dX2_grow_126 : decode cX2_grow 126 = .ok (.getfield 9, 3) := by decide +kernel
theorem dX2_grow_129 : decode cX2_grow 129 = .ok (.aload_n 0, 1) := by decide +kernel
theorem dX2_grow_130 : decode cX2_grow 130 = .ok (.getfield 31, 3) := by decide +kernel
theorem dX2_grow_133 : decode cX2_grow 133 = .ok (.iload_n 1, 1) := by decide +kernel
theorem dX2_grow_134 : decode cX2_grow 134 = .ok (.iaload, 1) := by decide +kernel
theorem dX2_grow_135 : decode cX2_grow 135 = .ok (.iconst 1, 1) := by decide +kernel
theorem dX2_grow_136 : decode cX2_grow 136 = .ok (.aload_n 3, 1) := by decide +kernel
theorem dX2_grow_137 : decode cX2_grow 137 = .ok (.getfield 52, 3) := by decide +kernel
theorem dX2_grow_140 : decode cX2_grow 140 = .ok (.ishl, 1) := by decide +kernel
theorem dX2_grow_141 : decode cX2_grow 141 = .ok (.ior, 1) := by decide +kernel
theorem dX2_grow_142 : decode cX2_grow 142 = .ok (.iastore, 1) := by decide +kernel
theorem dX2_grow_143 : decode cX2_grow 143 = .ok (.aload_n 0, 1) := by decide +kernel
theorem dX2_grow_144 : decode cX2_grow 144 = .ok (.dup, 1) := by decide +kernel
theorem dX2_grow_145 : decode cX2_grow 145 = .ok (.getfield 9, 3) := by decide +kernel
theorem dX2_grow_148 : decode cX2_grow 148 = .ok (.iconst 1, 1) := by decide +kernel
theorem dX2_grow_149 : decode cX2_grow 149 = .ok (.iadd, 1) := by decide +kernel
theorem dX2_grow_150 : decode cX2_grow 150 = .ok (.putfield 9, 3) := by decide +kernel
theorem dX2_grow_153 : decode cX2_grow 153 = .ok (.return_, 1) := by decide +kernel
theorem dX2_uses_0 : decode cX2_uses 0 = .ok (.aload_n 0, 1) := by decide +kernel
theorem dX2_uses_1 : decode cX2_uses 1 = .ok (.getfield 28, 3) := by decide +kernel
theorem dX2_uses_4 : decode cX2_uses 4 = .ok (.iload_n 1, 1) := by decide +kernel
theorem dX2_uses_5 : decode cX2_uses 5 = .ok (.iaload, 1) := by decide +kernel
theorem dX2_uses_6 : decode cX2_uses 6 = .ok (.iload_n 2, 1) := by decide +kernel
theorem dX2_uses_7 : decode cX2_uses 7 = .ok (.ishr, 1) := by decide +kernel
theorem dX2_uses_8 : decode cX2_uses 8 = .ok (.iconst 1, 1) := by decide +kernel
theorem dX2_uses_9 : decode cX2_uses 9 = .ok (.iand, 1) := by decide +kernel
theorem dX2_uses_10 : decode cX2_uses 10 = .ok (.iconst 1, 1) := by decide +kernel
theorem dX2_uses_11 : decode cX2_uses 11 = .ok (.if_icmp .ne 7, 3) := by decide +kernel
theorem dX2_uses_14 : decode cX2_uses 14 = .ok (.iconst 1, 1) := by decide +kernel
theorem dX2_uses_15 : decode cX2_uses 15 = .ok (.goto 4, 3) := by decide +kernel
theorem dX2_uses_18 : decode cX2_uses 18 = .ok (.iconst 0, 1) := by decide +kernel
theorem dX2_uses_19 : decode cX2_uses 19 = .ok (.ireturn, 1) := by decide +kernel
theorem dX2_countTo_0 : decode cX2_countTo 0 = .ok (.iconst 0, 1) := by decide +kernel
theorem dX2_countTo_1 : decode cX2_countTo 1 = .ok (.istore_n 2, 1) := by decide +kernel
theorem dX2_countTo_2 : decode cX2_countTo 2 = .ok (.iconst 1, 1) := by decide +kernel
theorem dX2_countTo_3 : decode cX2_countTo 3 = .ok (.istore_n 3, 1) := by decide +kernel
theorem dX2_countTo_4 : decode cX2_countTo 4 = .ok (.iload_n 3, 1) := by decide +kernel
theorem dX2_countTo_5 : decode cX2_countTo 5 = .ok (.aload_n 0, 1) := by decide +kernel
theorem dX2_countTo_6 : decode cX2_countTo 6 = .ok (.getfield 9, 3) := by decide +kernel
theorem dX2_countTo_9 : decode cX2_countTo 9 = .ok (.if_icmp .ge 27, 3) := by decide +kernel
theorem dX2_countTo_12 : decode cX2_countTo 12 = .ok (.iload_n 2, 1) := by decide +kernel
theorem dX2_countTo_13 : decode cX2_countTo 13 = .ok (.aload_n 0, 1) := by decide +kernel
theorem dX2_countTo_14 : decode cX2_countTo 14 = .ok (.getfield 22, 3) := by decide +kernel
theorem dX2_countTo_17 : decode cX2_countTo 17 = .ok (.iload_n 3, 1) := by decide +kernel
theorem dX2_countTo_18 : decode cX2_countTo 18 = .ok (.iaload, 1) := by decide +kernel
theorem dX2_countTo_19 : decode cX2_countTo 19 = .ok (.iload_n 1, 1) := by decide +kernel
theorem dX2_countTo_20 : decode cX2_countTo 20 = .ok (.if_icmp .ne 7, 3) := by decide +kernel
theorem dX2_countTo_23 : decode cX2_countTo 23 = .ok (.iconst 1, 1) := by decide +kernel
theorem dX2_countTo_24 : decode cX2_countTo 24 = .ok (.goto 4, 3) := by decide +kernel
theorem dX2_countTo_27 : decode cX2_countTo 27 = .ok (.iconst 0, 1) := by decide +kernel
theorem dX2_countTo_28 : decode cX2_countTo 28 = .ok (.iadd, 1) := by decide +kernel
theorem dX2_countTo_29 : decode cX2_countTo 29 = .ok (.istore_n 2, 1) := by decide +kernel
theorem dX2_countTo_30 : decode cX2_countTo 30 = .ok (.iinc 3 1, 3) := by decide +kernel
theorem dX2_countTo_33 : decode cX2_countTo 33 = .ok (.goto (-29), 3) := by decide +kernel
theorem dX2_countTo_36 : decode cX2_countTo 36 = .ok (.iload_n 2, 1) := by decide +kernel
theorem dX2_countTo_37 : decode cX2_countTo 37 = .ok (.ireturn, 1) := by decide +kernel
theorem dX2_rowTo_0 : decode cX2_rowTo 0 = .ok (.iconst 0, 1) := by decide +kernel
theorem dX2_rowTo_1 : decode cX2_rowTo 1 = .ok (.istore_n 3, 1) := by decide +kernel
theorem dX2_rowTo_2 : decode cX2_rowTo 2 = .ok (.iconst 1, 1) := by decide +kernel
theorem dX2_rowTo_3 : decode cX2_rowTo 3 = .ok (.istore 4, 2) := by decide +kernel
theorem dX2_rowTo_5 : decode cX2_rowTo 5 = .ok (.iload 4, 2) := by decide +kernel
theorem dX2_rowTo_7 : decode cX2_rowTo 7 = .ok (.aload_n 0, 1) := by decide +kernel
theorem dX2_rowTo_8 : decode cX2_rowTo 8 = .ok (.getfield 9, 3) := by decide +kernel
theorem dX2_rowTo_11 : decode cX2_rowTo 11 = .ok (.if_icmp .ge 31, 3) := by decide +kernel
theorem dX2_rowTo_14 : decode cX2_rowTo 14 = .ok (.aload_n 0, 1) := by decide +kernel
theorem dX2_rowTo_15 : decode cX2_rowTo 15 = .ok (.getfield 22, 3) := by decide +kernel
theorem dX2_rowTo_18 : decode cX2_rowTo 18 = .ok (.iload 4, 2) := by decide +kernel
theorem dX2_rowTo_20 : decode cX2_rowTo 20 = .ok (.iaload, 1) := by decide +kernel
theorem dX2_rowTo_21 : decode cX2_rowTo 21 = .ok (.iload_n 1, 1) := by decide +kernel
theorem dX2_rowTo_22 : decode cX2_rowTo 22 = .ok (.if_icmp .ne 14, 3) := by decide +kernel
theorem dX2_rowTo_25 : decode cX2_rowTo 25 = .ok (.iload_n 3, 1) := by decide +kernel
theorem dX2_rowTo_26 : decode cX2_rowTo 26 = .ok (.iload_n 2, 1) := by decide +kernel
theorem dX2_rowTo_27 : decode cX2_rowTo 27 = .ok (.if_icmp .ne 6, 3) := by decide +kernel
theorem dX2_rowTo_30 : decode cX2_rowTo 30 = .ok (.iload 4, 2) := by decide +kernel
theorem dX2_rowTo_32 : decode cX2_rowTo 32 = .ok (.ireturn, 1) := by decide +kernel
theorem dX2_rowTo_33 : decode cX2_rowTo 33 = .ok (.iinc 3 1, 3) := by decide +kernel
theorem dX2_rowTo_36 : decode cX2_rowTo 36 = .ok (.iinc 4 1, 3) := by decide +kernel
theorem dX2_rowTo_39 : decode cX2_rowTo 39 = .ok (.goto (-34), 3) := by decide +kernel
theorem dX2_rowTo_42 : decode cX2_rowTo 42 = .ok (.iconst (-1), 1) := by decide +kernel
theorem dX2_rowTo_43 : decode cX2_rowTo 43 = .ok (.ireturn, 1) := by decide +kernel
theorem dX2_roadAt_0 : decode cX2_roadAt 0 = .ok (.iload_n 1, 1) := by decide +kernel
theorem dX2_roadAt_1 : decode cX2_roadAt 1 = .ok (.istore_n 3, 1) := by decide +kernel
theorem dX2_roadAt_2 : decode cX2_roadAt 2 = .ok (.aload_n 0, 1) := by decide +kernel
theorem dX2_roadAt_3 : decode cX2_roadAt 3 = .ok (.getfield 25, 3) := by decide +kernel
theorem dX2_roadAt_6 : decode cX2_roadAt 6 = .ok (.iload_n 1, 1) := by decide +kernel
theorem dX2_roadAt_7 : decode cX2_roadAt 7 = .ok (.iaload, 1) := by decide +kernel
theorem dX2_roadAt_8 : decode cX2_roadAt 8 = .ok (.istore 4, 2) := by decide +kernel
theorem dX2_roadAt_10 : decode cX2_roadAt 10 = .ok (.iload 4, 2) := by decide +kernel
theorem dX2_roadAt_12 : decode cX2_roadAt 12 = .ok (.iload_n 2, 1) := by decide +kernel
theorem dX2_roadAt_13 : decode cX2_roadAt 13 = .ok (.iconst 1, 1) := by decide +kernel
theorem dX2_roadAt_14 : decode cX2_roadAt 14 = .ok (.iadd, 1) := by decide +kernel
theorem dX2_roadAt_15 : decode cX2_roadAt 15 = .ok (.if_icmp .le 16, 3) := by decide +kernel
theorem dX2_roadAt_18 : decode cX2_roadAt 18 = .ok (.aload_n 0, 1) := by decide +kernel
theorem dX2_roadAt_19 : decode cX2_roadAt 19 = .ok (.getfield 15, 3) := by decide +kernel
theorem dX2_roadAt_22 : decode cX2_roadAt 22 = .ok (.iload_n 3, 1) := by decide +kernel
theorem dX2_roadAt_23 : decode cX2_roadAt 23 = .ok (.iaload, 1) := by decide +kernel
theorem dX2_roadAt_24 : decode cX2_roadAt 24 = .ok (.istore_n 3, 1) := by decide +kernel
theorem dX2_roadAt_25 : decode cX2_roadAt 25 = .ok (.iinc 4 (-1), 3) := by decide +kernel
theorem dX2_roadAt_28 : decode cX2_roadAt 28 = .ok (.goto (-18), 3) := by decide +kernel
theorem dX2_roadAt_31 : decode cX2_roadAt 31 = .ok (.aload_n 0, 1) := by decide +kernel
theorem dX2_roadAt_32 : decode cX2_roadAt 32 = .ok (.getfield 19, 3) := by decide +kernel
theorem dX2_roadAt_35 : decode cX2_roadAt 35 = .ok (.iload_n 3, 1) := by decide +kernel
theorem dX2_roadAt_36 : decode cX2_roadAt 36 = .ok (.iaload, 1) := by decide +kernel
theorem dX2_roadAt_37 : decode cX2_roadAt 37 = .ok (.ireturn, 1) := by decide +kernel
theorem dX3_init_0 : decode cX3_init 0 = .ok (.aload_n 0, 1) := by decide +kernel
theorem dX3_init_1 : decode cX3_init 1 = .ok (.invokespecial 3, 3) := by decide +kernel
theorem dX3_init_4 : decode cX3_init 4 = .ok (.aload_n 0, 1) := by decide +kernel
theorem dX3_init_5 : decode cX3_init 5 = .ok (.iload_n 1, 1) := by decide +kernel
theorem dX3_init_6 : decode cX3_init 6 = .ok (.putfield 9, 3) := by decide +kernel
theorem dX3_init_9 : decode cX3_init 9 = .ok (.aload_n 0, 1) := by decide +kernel
theorem dX3_init_10 : decode cX3_init 10 = .ok (.iload_n 2, 1) := by decide +kernel
theorem dX3_init_11 : decode cX3_init 11 = .ok (.putfield 15, 3) := by decide +kernel
theorem dX3_init_14 : decode cX3_init 14 = .ok (.aload_n 0, 1) := by decide +kernel
theorem dX3_init_15 : decode cX3_init 15 = .ok (.iload_n 3, 1) := by decide +kernel
theorem dX3_init_16 : decode cX3_init 16 = .ok (.putfield 18, 3) := by decide +kernel
theorem dX3_init_19 : decode cX3_init 19 = .ok (.aload_n 0, 1) := by decide +kernel
theorem dX3_init_20 : decode cX3_init 20 = .ok (.lload 4, 2) := by decide +kernel
theorem dX3_init_22 : decode cX3_init 22 = .ok (.putfield 21, 3) := by decide +kernel
theorem dX3_init_25 : decode cX3_init 25 = .ok (.aload_n 0, 1) := by decide +kernel
theorem dX3_init_26 : decode cX3_init 26 = .ok (.lload 6, 2) := by decide +kernel
theorem dX3_init_28 : decode cX3_init 28 = .ok (.putfield 25, 3) := by decide +kernel
theorem dX3_init_31 : decode cX3_init 31 = .ok (.aload_n 0, 1) := by decide +kernel
theorem dX3_init_32 : decode cX3_init 32 = .ok (.lload 8, 2) := by decide +kernel
theorem dX3_init_34 : decode cX3_init 34 = .ok (.putfield 28, 3) := by decide +kernel
theorem dX3_init_37 : decode cX3_init 37 = .ok (.aload_n 0, 1) := by decide +kernel
theorem dX3_init_38 : decode cX3_init 38 = .ok (.iload 10, 2) := by decide +kernel
theorem dX3_init_40 : decode cX3_init 40 = .ok (.putfield 31, 3) := by decide +kernel
theorem dX3_init_43 : decode cX3_init 43 = .ok (.return_, 1) := by decide +kernel
theorem dX3_costAt_0 : decode cX3_costAt 0 = .ok (.aload_n 0, 1) := by decide +kernel
theorem dX3_costAt_1 : decode cX3_costAt 1 = .ok (.getfield 21, 3) := by decide +kernel
theorem dX3_costAt_4 : decode cX3_costAt 4 = .ok (.lstore_n 2, 1) := by decide +kernel
theorem dX3_costAt_5 : decode cX3_costAt 5 = .ok (.aload_n 0, 1) := by decide +kernel
theorem dX3_costAt_6 : decode cX3_costAt 6 = .ok (.getfield 18, 3) := by decide +kernel
theorem dX3_costAt_9 : decode cX3_costAt 9 = .ok (.iconst 1, 1) := by decide +kernel
theorem dX3_costAt_10 : decode cX3_costAt 10 = .ok (.if_icmp .lt 13, 3) := by decide +kernel
theorem dX3_costAt_13 : decode cX3_costAt 13 = .ok (.lload_n 2, 1) := by decide +kernel
theorem dX3_costAt_14 : decode cX3_costAt 14 = .ok (.aload_n 0, 1) := by decide +kernel
theorem dX3_costAt_15 : decode cX3_costAt 15 = .ok (.getfield 25, 3) := by decide +kernel
theorem dX3_costAt_18 : decode cX3_costAt 18 = .ok (.iload_n 1, 1) := by decide +kernel
theorem dX3_costAt_19 : decode cX3_costAt 19 = .ok (.i2l, 1) := by decide +kernel
theorem dX3_costAt_20 : decode cX3_costAt 20 = .ok (.lmul, 1) := by decide +kernel
theorem dX3_costAt_21 : decode cX3_costAt 21 = .ok (.ladd, 1) := by decide +kernel
theorem dX3_costAt_22 : decode cX3_costAt 22 = .ok (.lstore_n 2, 1) := by decide +kernel
theorem dX3_costAt_23 : decode cX3_costAt 23 = .ok (.aload_n 0, 1) := by decide +kernel
theorem dX3_costAt_24 : decode cX3_costAt 24 = .ok (.getfield 18, 3) := by decide +kernel
theorem dX3_costAt_27 : decode cX3_costAt 27 = .ok (.iconst 2, 1) := by decide +kernel
theorem dX3_costAt_28 : decode cX3_costAt 28 = .ok (.if_icmp .lt 26, 3) := by decide +kernel
theorem dX3_costAt_31 : decode cX3_costAt 31 = .ok (.iload_n 1, 1) := by decide +kernel
theorem dX3_costAt_32 : decode cX3_costAt 32 = .ok (.aload_n 0, 1) := by decide +kernel
theorem dX3_costAt_33 : decode cX3_costAt 33 = .ok (.getfield 31, 3) := by decide +kernel
theorem dX3_costAt_36 : decode cX3_costAt 36 = .ok (.if_icmp .le 18, 3) := by decide +kernel
theorem dX3_costAt_39 : decode cX3_costAt 39 = .ok (.lload_n 2, 1) := by decide +kernel
theorem dX3_costAt_40 : decode cX3_costAt 40 = .ok (.aload_n 0, 1) := by decide +kernel
theorem dX3_costAt_41 : decode cX3_costAt 41 = .ok (.getfield 28, 3) := by decide +kernel
theorem dX3_costAt_44 : decode cX3_costAt 44 = .ok (.iload_n 1, 1) := by decide +kernel
theorem dX3_costAt_45 : decode cX3_costAt 45 = .ok (.aload_n 0, 1) := by decide +kernel
theorem dX3_costAt_46 : decode cX3_costAt 46 = .ok (.getfield 31, 3) := by decide +kernel
theorem dX3_costAt_49 : decode cX3_costAt 49 = .ok (.isub, 1) := by decide +kernel
theorem dX3_costAt_50 : decode cX3_costAt 50 = .ok (.i2l, 1) := by decide +kernel
theorem dX3_costAt_51 : decode cX3_costAt 51 = .ok (.lmul, 1) := by decide +kernel
theorem dX3_costAt_52 : decode cX3_costAt 52 = .ok (.ladd, 1) := by decide +kernel
theorem dX3_costAt_53 : decode cX3_costAt 53 = .ok (.lstore_n 2, 1) := by decide +kernel
theorem dX3_costAt_54 : decode cX3_costAt 54 = .ok (.lload_n 2, 1) := by decide +kernel
theorem dX3_costAt_55 : decode cX3_costAt 55 = .ok (.lreturn, 1) := by decide +kernel
theorem dX3_lossAt_0 : decode cX3_lossAt 0 = .ok (.lconst 0, 1) := by decide +kernel
theorem dX3_lossAt_1 : decode cX3_lossAt 1 = .ok (.lstore_n 2, 1) := by decide +kernel
theorem dX3_lossAt_2 : decode cX3_lossAt 2 = .ok (.aload_n 0, 1) := by decide +kernel
theorem dX3_lossAt_3 : decode cX3_lossAt 3 = .ok (.getfield 18, 3) := by decide +kernel
theorem dX3_lossAt_6 : decode cX3_lossAt 6 = .ok (.iconst 1, 1) := by decide +kernel
theorem dX3_lossAt_7 : decode cX3_lossAt 7 = .ok (.if_icmp .lt 10, 3) := by decide +kernel
theorem dX3_lossAt_10 : decode cX3_lossAt 10 = .ok (.lload_n 2, 1) := by decide +kernel
theorem dX3_lossAt_11 : decode cX3_lossAt 11 = .ok (.aload_n 0, 1) := by decide +kernel
theorem dX3_lossAt_12 : decode cX3_lossAt 12 = .ok (.getfield 25, 3) := by decide +kernel
theorem dX3_lossAt_15 : decode cX3_lossAt 15 = .ok (.ladd, 1) := by decide +kernel
theorem dX3_lossAt_16 : decode cX3_lossAt 16 = .ok (.lstore_n 2, 1) := by decide +kernel
theorem dX3_lossAt_17 : decode cX3_lossAt 17 = .ok (.aload_n 0, 1) := by decide +kernel
theorem dX3_lossAt_18 : decode cX3_lossAt 18 = .ok (.getfield 18, 3) := by decide +kernel
theorem dX3_lossAt_21 : decode cX3_lossAt 21 = .ok (.iconst 2, 1) := by decide +kernel
theorem dX3_lossAt_22 : decode cX3_lossAt 22 = .ok (.if_icmp .lt 18, 3) := by decide +kernel
theorem dX3_lossAt_25 : decode cX3_lossAt 25 = .ok (.iload_n 1, 1) := by decide +kernel
theorem dX3_lossAt_26 : decode cX3_lossAt 26 = .ok (.aload_n 0, 1) := by decide +kernel
theorem dX3_lossAt_27 : decode cX3_lossAt 27 = .ok (.getfield 31, 3) := by decide +kernel
theorem dX3_lossAt_30 : decode cX3_lossAt 30 = .ok (.if_icmp .le 10, 3) := by decide +kernel
theorem dX3_lossAt_33 : decode cX3_lossAt 33 = .ok (.lload_n 2, 1) := by decide +kernel
theorem dX3_lossAt_34 : decode cX3_lossAt 34 = .ok (.aload_n 0, 1) := by decide +kernel
theorem dX3_lossAt_35 : decode cX3_lossAt 35 = .ok (.getfield 28, 3) := by decide +kernel
theorem dX3_lossAt_38 : decode cX3_lossAt 38 = .ok (.ladd, 1) := by decide +kernel
theorem dX3_lossAt_39 : decode cX3_lossAt 39 = .ok (.lstore_n 2, 1) := by decide +kernel
theorem dX3_lossAt_40 : decode cX3_lossAt 40 = .ok (.iload_n 1, 1) := by decide +kernel
theorem dX3_lossAt_41 : decode cX3_lossAt 41 = .ok (.iconst 1, 1) := by decide +kernel
theorem dX3_lossAt_42 : decode cX3_lossAt 42 = .ok (.isub, 1) := by decide +kernel
theorem dX3_lossAt_43 : decode cX3_lossAt 43 = .ok (.i2l, 1) := by decide +kernel
theorem dX3_lossAt_44 : decode cX3_lossAt 44 = .ok (.lload_n 2, 1) := by decide +kernel
theorem dX3_lossAt_45 : decode cX3_lossAt 45 = .ok (.lmul, 1) := by decide +kernel
theorem dX3_lossAt_46 : decode cX3_lossAt 46 = .ok (.lreturn, 1) := by decide +kernel
theorem dX4_init_0 : decode cX4_init 0 = .ok (.aload_n 0, 1) := by decide +kernel
theorem dX4_init_1 : decode cX4_init 1 = .ok (.invokespecial 3, 3) := by decide +kernel
theorem dX4_init_4 : decode cX4_init 4 = .ok (.aload_n 0, 1) := by decide +kernel
theorem dX4_init_5 : decode cX4_init 5 = .ok (.iconst (-1), 1) := by decide +kernel
theorem dX4_init_6 : decode cX4_init 6 = .ok (.putfield 9, 3) := by decide +kernel
theorem dX4_init_9 : decode cX4_init 9 = .ok (.aload_n 0, 1) := by decide +kernel
theorem dX4_init_10 : decode cX4_init 10 = .ok (.bipush 24, 2) := by decide +kernel
theorem dX4_init_12 : decode cX4_init 12 = .ok (.newarray .long, 2) := by decide +kernel
theorem dX4_init_14 : decode cX4_init 14 = .ok (.putfield 15, 3) := by decide +kernel
theorem dX4_init_17 : decode cX4_init 17 = .ok (.return_, 1) := by decide +kernel
theorem dX4_isMissing_0 : decode cX4_isMissing 0 = .ok (.aload_n 0, 1) := by decide +kernel
theorem dX4_isMissing_1 : decode cX4_isMissing 1 = .ok (.getfield 9, 3) := by decide +kernel
theorem dX4_isMissing_4 : decode cX4_isMissing 4 = .ok (.ifCond .ge 7, 3) := by decide +kernel
theorem dX4_isMissing_7 : decode cX4_isMissing 7 = .ok (.iconst 1, 1) := by decide +kernel
theorem dX4_isMissing_8 : decode cX4_isMissing 8 = .ok (.goto 4, 3) := by decide +kernel
theorem dX4_isMissing_11 : decode cX4_isMissing 11 = .ok (.iconst 0, 1) := by decide +kernel
theorem dX4_isMissing_12 : decode cX4_isMissing 12 = .ok (.ireturn, 1) := by decide +kernel
theorem dX4_become_0 : decode cX4_become 0 = .ok (.aload_n 0, 1) := by decide +kernel
theorem dX4_become_1 : decode cX4_become 1 = .ok (.iload_n 1, 1) := by decide +kernel
theorem dX4_become_2 : decode cX4_become 2 = .ok (.putfield 9, 3) := by decide +kernel
theorem dX4_become_5 : decode cX4_become 5 = .ok (.aload_n 0, 1) := by decide +kernel
theorem dX4_become_6 : decode cX4_become 6 = .ok (.getfield 15, 3) := by decide +kernel
theorem dX4_become_9 : decode cX4_become 9 = .ok (.lconst 0, 1) := by decide +kernel
theorem dX4_become_10 : decode cX4_become 10 = .ok (.invokestatic 19, 3) := by decide +kernel
theorem dX4_become_13 : decode cX4_become 13 = .ok (.return_, 1) := by decide +kernel
theorem dX5_init_0 : decode cX5_init 0 = .ok (.aload_n 0, 1) := by decide +kernel
theorem dX5_init_1 : decode cX5_init 1 = .ok (.invokespecial 3, 3) := by decide +kernel
theorem dX5_init_4 : decode cX5_init 4 = .ok (.aload_n 0, 1) := by decide +kernel
theorem dX5_init_5 : decode cX5_init 5 = .ok (.bipush 13, 2) := by decide +kernel
theorem dX5_init_7 : decode cX5_init 7 = .ok (.newarray .int, 2) := by decide +kernel
theorem dX5_init_9 : decode cX5_init 9 = .ok (.putfield 9, 3) := by decide +kernel
theorem dX5_init_12 : decode cX5_init 12 = .ok (.aload_n 0, 1) := by decide +kernel
theorem dX5_init_13 : decode cX5_init 13 = .ok (.iconst 3, 1) := by decide +kernel
theorem dX5_init_14 : decode cX5_init 14 = .ok (.sipush 211, 3) := by decide +kernel
theorem dX5_init_17 : decode cX5_init 17 = .ok (.multianewarray 15 2, 4) := by decide +kernel
theorem dX5_init_21 : decode cX5_init 21 = .ok (.putfield 17, 3) := by decide +kernel
theorem dX5_init_24 : decode cX5_init 24 = .ok (.aload_n 0, 1) := by decide +kernel
theorem dX5_init_25 : decode cX5_init 25 = .ok (.new 20, 3) := by decide +kernel
theorem dX5_init_28 : decode cX5_init 28 = .ok (.dup, 1) := by decide +kernel
theorem dX5_init_29 : decode cX5_init 29 = .ok (.invokespecial 22, 3) := by decide +kernel
theorem dX5_init_32 : decode cX5_init 32 = .ok (.putfield 23, 3) := by decide +kernel
theorem dX5_init_35 : decode cX5_init 35 = .ok (.aload_n 0, 1) := by decide +kernel
theorem dX5_init_36 : decode cX5_init 36 = .ok (.iconst 0, 1) := by decide +kernel
theorem dX5_init_37 : decode cX5_init 37 = .ok (.putfield 27, 3) := by decide +kernel
theorem dX5_init_40 : decode cX5_init 40 = .ok (.aload_n 0, 1) := by decide +kernel
theorem dX5_init_41 : decode cX5_init 41 = .ok (.iconst 0, 1) := by decide +kernel
theorem dX5_init_42 : decode cX5_init 42 = .ok (.putfield 31, 3) := by decide +kernel
theorem dX5_init_45 : decode cX5_init 45 = .ok (.aload_n 0, 1) := by decide +kernel
theorem dX5_init_46 : decode cX5_init 46 = .ok (.bipush 13, 2) := by decide +kernel
theorem dX5_init_48 : decode cX5_init 48 = .ok (.newarray .long, 2) := by decide +kernel
theorem dX5_init_50 : decode cX5_init 50 = .ok (.putfield 35, 3) := by decide +kernel
theorem dX5_init_53 : decode cX5_init 53 = .ok (.aload_n 0, 1) := by decide +kernel
theorem dX5_init_54 : decode cX5_init 54 = .ok (.bipush 13, 2) := by decide +kernel
theorem dX5_init_56 : decode cX5_init 56 = .ok (.newarray .long, 2) := by decide +kernel
theorem dX5_init_58 : decode cX5_init 58 = .ok (.putfield 39, 3) := by decide +kernel
theorem dX5_init_61 : decode cX5_init 61 = .ok (.aload_n 0, 1) := by decide +kernel
theorem dX5_init_62 : decode cX5_init 62 = .ok (.sipush 211, 3) := by decide +kernel
theorem dX5_init_65 : decode cX5_init 65 = .ok (.newarray .long, 2) := by decide +kernel
theorem dX5_init_67 : decode cX5_init 67 = .ok (.putfield 42, 3) := by decide +kernel
theorem dX5_init_70 : decode cX5_init 70 = .ok (.return_, 1) := by decide +kernel
theorem dX5_settle_0 : decode cX5_settle 0 = .ok (.aload_n 0, 1) := by decide +kernel
theorem dX5_settle_1 : decode cX5_settle 1 = .ok (.invokevirtual 45, 3) := by decide +kernel
theorem dX5_settle_4 : decode cX5_settle 4 = .ok (.aload_n 0, 1) := by decide +kernel
theorem dX5_settle_5 : decode cX5_settle 5 = .ok (.aload_n 1, 1) := by decide +kernel
theorem dX5_settle_6 : decode cX5_settle 6 = .ok (.aload_n 2, 1) := by decide +kernel
theorem dX5_settle_7 : decode cX5_settle 7 = .ok (.invokestatic 48, 3) := by decide +kernel
theorem dX5_settle_10 : decode cX5_settle 10 = .ok (.putfield 27, 3) := by decide +kernel
theorem dX5_settle_13 : decode cX5_settle 13 = .ok (.aload_n 0, 1) := by decide +kernel
theorem dX5_settle_14 : decode cX5_settle 14 = .ok (.getfield 27, 3) := by decide +kernel
theorem dX5_settle_17 : decode cX5_settle 17 = .ok (.ifCond .ne 4, 3) := by decide +kernel
theorem dX5_settle_20 : decode cX5_settle 20 = .ok (.return_, 1) := by decide +kernel
theorem dX5_settle_21 : decode cX5_settle 21 = .ok (.iconst 0, 1) := by decide +kernel
theorem dX5_settle_22 : decode cX5_settle 22 = .ok (.istore 4, 2) := by decide +kernel
theorem dX5_settle_24 : decode cX5_settle 24 = .ok (.iload 4, 2) := by decide +kernel
theorem dX5_settle_26 : decode cX5_settle 26 = .ok (.iconst 3, 1) := by decide +kernel
theorem dX5_settle_27 : decode cX5_settle 27 = .ok (.if_icmp .ge 18, 3) := by decide +kernel
theorem dX5_settle_30 : decode cX5_settle 30 = .ok (.aload_n 0, 1) := by decide +kernel
theorem dX5_settle_31 : decode cX5_settle 31 = .ok (.aload_n 1, 1) := by decide +kernel
theorem dX5_settle_32 : decode cX5_settle 32 = .ok (.aload_n 2, 1) := by decide +kernel
theorem dX5_settle_33 : decode cX5_settle 33 = .ok (.iload_n 3, 1) := by decide +kernel
theorem dX5_settle_34 : decode cX5_settle 34 = .ok (.iload 4, 2) := by decide +kernel
theorem dX5_settle_36 : decode cX5_settle 36 = .ok (.invokevirtual 52, 3) := by decide +kernel
theorem dX5_settle_39 : decode cX5_settle 39 = .ok (.iinc 4 1, 3) := by decide +kernel
theorem dX5_settle_42 : decode cX5_settle 42 = .ok (.goto (-18), 3) := by decide +kernel
theorem dX5_settle_45 : decode cX5_settle 45 = .ok (.iconst 0, 1) := by decide +kernel
theorem dX5_settle_46 : decode cX5_settle 46 = .ok (.istore 4, 2) := by decide +kernel
theorem dX5_settle_48 : decode cX5_settle 48 = .ok (.iload 4, 2) := by decide +kernel
theorem dX5_settle_50 : decode cX5_settle 50 = .ok (.sipush 400, 3) := by decide +kernel
theorem dX5_settle_53 : decode cX5_settle 53 = .ok (.if_icmp .ge 29, 3) := by decide +kernel
theorem dX5_settle_56 : decode cX5_settle 56 = .ok (.aload_n 0, 1) := by decide +kernel
theorem dX5_settle_57 : decode cX5_settle 57 = .ok (.aload_n 1, 1) := by decide +kernel
theorem dX5_settle_58 : decode cX5_settle 58 = .ok (.aload_n 2, 1) := by decide +kernel
theorem dX5_settle_59 : decode cX5_settle 59 = .ok (.iload_n 3, 1) := by decide +kernel
theorem dX5_settle_60 : decode cX5_settle 60 = .ok (.invokevirtual 56, 3) := by decide +kernel
theorem dX5_settle_63 : decode cX5_settle 63 = .ok (.ifCond .eq 19, 3) := by decide +kernel
theorem dX5_settle_66 : decode cX5_settle 66 = .ok (.aload_n 0, 1) := by decide +kernel
theorem dX5_settle_67 : decode cX5_settle 67 = .ok (.dup, 1) := by decide +kernel
theorem dX5_settle_68 : decode cX5_settle 68 = .ok (.getfield 31, 3) := by decide +kernel
theorem dX5_settle_71 : decode cX5_settle 71 = .ok (.iconst 1, 1) := by decide +kernel
theorem dX5_settle_72 : decode cX5_settle 72 = .ok (.iadd, 1) := by decide +kernel
theorem dX5_settle_73 : decode cX5_settle 73 = .ok (.putfield 31, 3) := by decide +kernel
theorem dX5_settle_76 : decode cX5_settle 76 = .ok (.iinc 4 1, 3) := by decide +kernel
theorem dX5_settle_79 : decode cX5_settle 79 = .ok (.goto (-31), 3) := by decide +kernel
theorem dX5_settle_82 : decode cX5_settle 82 = .ok (.aload_n 1, 1) := by decide +kernel
theorem dX5_settle_83 : decode cX5_settle 83 = .ok (.aload_n 0, 1) := by decide +kernel
theorem dX5_settle_84 : decode cX5_settle 84 = .ok (.getfield 9, 3) := by decide +kernel
theorem dX5_settle_87 : decode cX5_settle 87 = .ok (.aload_n 0, 1) := by decide +kernel
theorem dX5_settle_88 : decode cX5_settle 88 = .ok (.getfield 23, 3) := by decide +kernel
theorem dX5_settle_91 : decode cX5_settle 91 = .ok (.invokevirtual 60, 3) := by decide +kernel
theorem dX5_settle_94 : decode cX5_settle 94 = .ok (.return_, 1) := by decide +kernel
theorem dX5_totalOrNo_0 : decode cX5_totalOrNo 0 = .ok (.aload_n 0, 1) := by decide +kernel
theorem dX5_totalOrNo_1 : decode cX5_totalOrNo 1 = .ok (.getfield 27, 3) := by decide +kernel
theorem dX5_totalOrNo_4 : decode cX5_totalOrNo 4 = .ok (.ifCond .eq 23, 3) := by decide +kernel
theorem dX5_totalOrNo_7 : decode cX5_totalOrNo 7 = .ok (.aload_n 0, 1) := by decide +kernel
theorem dX5_totalOrNo_8 : decode cX5_totalOrNo 8 = .ok (.getfield 23, 3) := by decide +kernel
theorem dX5_totalOrNo_11 : decode cX5_totalOrNo 11 = .ok (.getfield 66, 3) := by decide +kernel
theorem dX5_totalOrNo_14 : decode cX5_totalOrNo 14 = .ok (.ifCond .ne 13, 3) := by decide +kernel
theorem dX5_totalOrNo_17 : decode cX5_totalOrNo 17 = .ok (.aload_n 0, 1) := by decide +kernel
theorem dX5_totalOrNo_18 : decode cX5_totalOrNo 18 = .ok (.getfield 23, 3) := by decide +kernel
theorem dX5_totalOrNo_21 : decode cX5_totalOrNo 21 = .ok (.getfield 69, 3) := by decide +kernel
theorem dX5_totalOrNo_24 : decode cX5_totalOrNo 24 = .ok (.goto 6, 3) := by decide +kernel
theorem dX5_totalOrNo_27 : decode cX5_totalOrNo 27 = .ok (.ldc2_w 73, 3) := by decide +kernel
theorem dX5_totalOrNo_30 : decode cX5_totalOrNo 30 = .ok (.lreturn, 1) := by decide +kernel
theorem dX5_busierThan_0 : decode cX5_busierThan 0 = .ok (.iconst 0, 1) := by decide +kernel
theorem dX5_busierThan_1 : decode cX5_busierThan 1 = .ok (.istore_n 3, 1) := by decide +kernel
theorem dX5_busierThan_2 : decode cX5_busierThan 2 = .ok (.iconst 0, 1) := by decide +kernel
theorem dX5_busierThan_3 : decode cX5_busierThan 3 = .ok (.istore 4, 2) := by decide +kernel
theorem dX5_busierThan_5 : decode cX5_busierThan 5 = .ok (.iload 4, 2) := by decide +kernel
theorem dX5_busierThan_7 : decode cX5_busierThan 7 = .ok (.iload_n 2, 1) := by decide +kernel
theorem dX5_busierThan_8 : decode cX5_busierThan 8 = .ok (.if_icmp .ge 67, 3) := by decide +kernel
theorem dX5_busierThan_11 : decode cX5_busierThan 11 = .ok (.aload_n 0, 1) := by decide +kernel
theorem dX5_busierThan_12 : decode cX5_busierThan 12 = .ok (.getfield 9, 3) := by decide +kernel
theorem dX5_busierThan_15 : decode cX5_busierThan 15 = .ok (.iload 4, 2) := by decide +kernel
theorem dX5_busierThan_17 : decode cX5_busierThan 17 = .ok (.iaload, 1) := by decide +kernel
theorem dX5_busierThan_18 : decode cX5_busierThan 18 = .ok (.aload_n 0, 1) := by decide +kernel
theorem dX5_busierThan_19 : decode cX5_busierThan 19 = .ok (.getfield 9, 3) := by decide +kernel
theorem dX5_busierThan_22 : decode cX5_busierThan 22 = .ok (.iload_n 1, 1) := by decide +kernel
theorem dX5_busierThan_23 : decode cX5_busierThan 23 = .ok (.iaload, 1) := by decide +kernel
theorem dX5_busierThan_24 : decode cX5_busierThan 24 = .ok (.if_icmp .gt 25, 3) := by decide +kernel
theorem dX5_busierThan_27 : decode cX5_busierThan 27 = .ok (.aload_n 0, 1) := by decide +kernel
theorem dX5_busierThan_28 : decode cX5_busierThan 28 = .ok (.getfield 9, 3) := by decide +kernel
theorem dX5_busierThan_31 : decode cX5_busierThan 31 = .ok (.iload 4, 2) := by decide +kernel
theorem dX5_busierThan_33 : decode cX5_busierThan 33 = .ok (.iaload, 1) := by decide +kernel
theorem dX5_busierThan_34 : decode cX5_busierThan 34 = .ok (.aload_n 0, 1) := by decide +kernel
theorem dX5_busierThan_35 : decode cX5_busierThan 35 = .ok (.getfield 9, 3) := by decide +kernel
theorem dX5_busierThan_38 : decode cX5_busierThan 38 = .ok (.iload_n 1, 1) := by decide +kernel
theorem dX5_busierThan_39 : decode cX5_busierThan 39 = .ok (.iaload, 1) := by decide +kernel
theorem dX5_busierThan_40 : decode cX5_busierThan 40 = .ok (.if_icmp .ne 13, 3) := by decide +kernel
theorem dX5_busierThan_43 : decode cX5_busierThan 43 = .ok (.iload 4, 2) := by decide +kernel
theorem dX5_busierThan_45 : decode cX5_busierThan 45 = .ok (.iload_n 1, 1) := by decide +kernel
theorem dX5_busierThan_46 : decode cX5_busierThan 46 = .ok (.if_icmp .ge 7, 3) := by decide +kernel
theorem dX5_busierThan_49 : decode cX5_busierThan 49 = .ok (.iconst 1, 1) := by decide +kernel
theorem dX5_busierThan_50 : decode cX5_busierThan 50 = .ok (.goto 4, 3) := by decide +kernel
theorem dX5_busierThan_53 : decode cX5_busierThan 53 = .ok (.iconst 0, 1) := by decide +kernel
theorem dX5_busierThan_54 : decode cX5_busierThan 54 = .ok (.istore 5, 2) := by decide +kernel
theorem dX5_busierThan_56 : decode cX5_busierThan 56 = .ok (.iload_n 3, 1) := by decide +kernel
theorem dX5_busierThan_57 : decode cX5_busierThan 57 = .ok (.iload 5, 2) := by decide +kernel
theorem dX5_busierThan_59 : decode cX5_busierThan 59 = .ok (.ifCond .eq 7, 3) := by decide +kernel
theorem dX5_busierThan_62 : decode cX5_busierThan 62 = .ok (.iconst 1, 1) := by decide +kernel
theorem dX5_busierThan_63 : decode cX5_busierThan 63 = .ok (.goto 4, 3) := by decide +kernel
theorem dX5_busierThan_66 : decode cX5_busierThan 66 = .ok (.iconst 0, 1) := by decide +kernel
theorem dX5_busierThan_67 : decode cX5_busierThan 67 = .ok (.iadd, 1) := by decide +kernel
theorem dX5_busierThan_68 : decode cX5_busierThan 68 = .ok (.istore_n 3, 1) := by decide +kernel
theorem dX5_busierThan_69 : decode cX5_busierThan 69 = .ok (.iinc 4 1, 3) := by decide +kernel
theorem dX5_busierThan_72 : decode cX5_busierThan 72 = .ok (.goto (-67), 3) := by decide +kernel
theorem dX5_busierThan_75 : decode cX5_busierThan 75 = .ok (.iload_n 3, 1) := by decide +kernel
theorem dX5_busierThan_76 : decode cX5_busierThan 76 = .ok (.ireturn, 1) := by decide +kernel
theorem dX5_forget_0 : decode cX5_forget 0 = .ok (.aload_n 0, 1) := by decide +kernel
theorem dX5_forget_1 : decode cX5_forget 1 = .ok (.getfield 23, 3) := by decide +kernel
theorem dX5_forget_4 : decode cX5_forget 4 = .ok (.invokevirtual 75, 3) := by decide +kernel
theorem dX5_forget_7 : decode cX5_forget 7 = .ok (.aload_n 0, 1) := by decide +kernel
theorem dX5_forget_8 : decode cX5_forget 8 = .ok (.iconst 0, 1) := by decide +kernel
theorem dX5_forget_9 : decode cX5_forget 9 = .ok (.putfield 31, 3) := by decide +kernel
theorem dX5_forget_12 : decode cX5_forget 12 = .ok (.aload_n 0, 1) := by decide +kernel
theorem dX5_forget_13 : decode cX5_forget 13 = .ok (.getfield 9, 3) := by decide +kernel
theorem dX5_forget_16 : decode cX5_forget 16 = .ok (.iconst 0, 1) := by decide +kernel
theorem dX5_forget_17 : decode cX5_forget 17 = .ok (.invokestatic 78, 3) := by decide +kernel
theorem dX5_forget_20 : decode cX5_forget 20 = .ok (.iconst 0, 1) := by decide +kernel
theorem dX5_forget_21 : decode cX5_forget 21 = .ok (.istore_n 1, 1) := by decide +kernel
theorem dX5_forget_22 : decode cX5_forget 22 = .ok (.iload_n 1, 1) := by decide +kernel
theorem dX5_forget_23 : decode cX5_forget 23 = .ok (.iconst 3, 1) := by decide +kernel
theorem dX5_forget_24 : decode cX5_forget 24 = .ok (.if_icmp .ge 19, 3) := by decide +kernel
theorem dX5_forget_27 : decode cX5_forget 27 = .ok (.aload_n 0, 1) := by decide +kernel
theorem dX5_forget_28 : decode cX5_forget 28 = .ok (.getfield 17, 3) := by decide +kernel
theorem dX5_forget_31 : decode cX5_forget 31 = .ok (.iload_n 1, 1) := by decide +kernel
theorem dX5_forget_32 : decode cX5_forget 32 = .ok (.aaload, 1) := by decide +kernel
theorem dX5_forget_33 : decode cX5_forget 33 = .ok (.iconst 0, 1) := by decide +kernel
theorem dX5_forget_34 : decode cX5_forget 34 = .ok (.invokestatic 78, 3) := by decide +kernel
theorem dX5_forget_37 : decode cX5_forget 37 = .ok (.iinc 1 1, 3) := by decide +kernel
theorem dX5_forget_40 : decode cX5_forget 40 = .ok (.goto (-18), 3) := by decide +kernel
theorem dX5_forget_43 : decode cX5_forget 43 = .ok (.return_, 1) := by decide +kernel
theorem dX5_canAllDrive_0 : decode cX5_canAllDrive 0 = .ok (.iconst 0, 1) := by decide +kernel
theorem dX5_canAllDrive_1 : decode cX5_canAllDrive 1 = .ok (.istore_n 2, 1) := by decide +kernel
theorem dX5_canAllDrive_2 : decode cX5_canAllDrive 2 = .ok (.iload_n 2, 1) := by decide +kernel
theorem dX5_canAllDrive_3 : decode cX5_canAllDrive 3 = .ok (.iconst 3, 1) := by decide +kernel
theorem dX5_canAllDrive_4 : decode cX5_canAllDrive 4 = .ok (.if_icmp .ge 34, 3) := by decide +kernel
theorem dX5_canAllDrive_7 : decode cX5_canAllDrive 7 = .ok (.aload_n 0, 1) := by decide +kernel
theorem dX5_canAllDrive_8 : decode cX5_canAllDrive 8 = .ok (.getfield 84, 3) := by decide +kernel
theorem dX5_canAllDrive_11 : decode cX5_canAllDrive 11 = .ok (.iload_n 2, 1) := by decide +kernel
theorem dX5_canAllDrive_12 : decode cX5_canAllDrive 12 = .ok (.aaload, 1) := by decide +kernel
theorem dX5_canAllDrive_13 : decode cX5_canAllDrive 13 = .ok (.astore_n 3, 1) := by decide +kernel
theorem dX5_canAllDrive_14 : decode cX5_canAllDrive 14 = .ok (.aload_n 3, 1) := by decide +kernel
theorem dX5_canAllDrive_15 : decode cX5_canAllDrive 15 = .ok (.iconst 1, 1) := by decide +kernel
theorem dX5_canAllDrive_16 : decode cX5_canAllDrive 16 = .ok (.iaload, 1) := by decide +kernel
theorem dX5_canAllDrive_17 : decode cX5_canAllDrive 17 = .ok (.ifCond .le 15, 3) := by decide +kernel
theorem dX5_canAllDrive_20 : decode cX5_canAllDrive 20 = .ok (.aload_n 1, 1) := by decide +kernel
theorem dX5_canAllDrive_21 : decode cX5_canAllDrive 21 = .ok (.aload_n 3, 1) := by decide +kernel
theorem dX5_canAllDrive_22 : decode cX5_canAllDrive 22 = .ok (.iconst 0, 1) := by decide +kernel
theorem dX5_canAllDrive_23 : decode cX5_canAllDrive 23 = .ok (.iaload, 1) := by decide +kernel
theorem dX5_canAllDrive_24 : decode cX5_canAllDrive 24 = .ok (.invokevirtual 87, 3) := by decide +kernel
theorem dX5_canAllDrive_27 : decode cX5_canAllDrive 27 = .ok (.ifCond .ne 5, 3) := by decide +kernel
theorem dX5_canAllDrive_30 : decode cX5_canAllDrive 30 = .ok (.iconst 0, 1) := by decide +kernel
theorem dX5_canAllDrive_31 : decode cX5_canAllDrive 31 = .ok (.ireturn, 1) := by decide +kernel
theorem dX5_canAllDrive_32 : decode cX5_canAllDrive 32 = .ok (.iinc 2 1, 3) := by decide +kernel
theorem dX5_canAllDrive_35 : decode cX5_canAllDrive 35 = .ok (.goto (-33), 3) := by decide +kernel
theorem dX5_canAllDrive_38 : decode cX5_canAllDrive 38 = .ok (.iconst 1, 1) := by decide +kernel
theorem dX5_canAllDrive_39 : decode cX5_canAllDrive 39 = .ok (.ireturn, 1) := by decide +kernel
theorem dX5_arrive_0 : decode cX5_arrive 0 = .ok (.iconst 0, 1) := by decide +kernel
theorem dX5_arrive_1 : decode cX5_arrive 1 = .ok (.istore 5, 2) := by decide +kernel
theorem dX5_arrive_3 : decode cX5_arrive 3 = .ok (.iload 5, 2) := by decide +kernel
theorem dX5_arrive_5 : decode cX5_arrive 5 = .ok (.aload_n 1, 1) := by decide +kernel
theorem dX5_arrive_6 : decode cX5_arrive 6 = .ok (.getfield 84, 3) := by decide +kernel
theorem dX5_arrive_9 : decode cX5_arrive 9 = .ok (.iload 4, 2) := by decide +kernel
theorem dX5_arrive_11 : decode cX5_arrive 11 = .ok (.aaload, 1) := by decide +kernel
theorem dX5_arrive_12 : decode cX5_arrive 12 = .ok (.iconst 1, 1) := by decide +kernel
theorem dX5_arrive_13 : decode cX5_arrive 13 = .ok (.iaload, 1) := by decide +kernel
theorem dX5_arrive_14 : decode cX5_arrive 14 = .ok (.if_icmp .ge 40, 3) := by decide +kernel
theorem dX5_arrive_17 : decode cX5_arrive 17 = .ok (.aload_n 0, 1) := by decide +kernel
theorem dX5_arrive_18 : decode cX5_arrive 18 = .ok (.aload_n 1, 1) := by decide +kernel
theorem dX5_arrive_19 : decode cX5_arrive 19 = .ok (.iload_n 3, 1) := by decide +kernel
theorem dX5_arrive_20 : decode cX5_arrive 20 = .ok (.iload 4, 2) := by decide +kernel
theorem dX5_arrive_22 : decode cX5_arrive 22 = .ok (.invokevirtual 93, 3) := by decide +kernel
theorem dX5_arrive_25 : decode cX5_arrive 25 = .ok (.aload_n 0, 1) := by decide +kernel
theorem dX5_arrive_26 : decode cX5_arrive 26 = .ok (.aload_n 2, 1) := by decide +kernel
theorem dX5_arrive_27 : decode cX5_arrive 27 = .ok (.iload 4, 2) := by decide +kernel
theorem dX5_arrive_29 : decode cX5_arrive 29 = .ok (.aload_n 0, 1) := by decide +kernel
theorem dX5_arrive_30 : decode cX5_arrive 30 = .ok (.aload_n 2, 1) := by decide +kernel
theorem dX5_arrive_31 : decode cX5_arrive 31 = .ok (.aload_n 1, 1) := by decide +kernel
theorem dX5_arrive_32 : decode cX5_arrive 32 = .ok (.getfield 84, 3) := by decide +kernel
theorem dX5_arrive_35 : decode cX5_arrive 35 = .ok (.iload 4, 2) := by decide +kernel
theorem dX5_arrive_37 : decode cX5_arrive 37 = .ok (.aaload, 1) := by decide +kernel
theorem dX5_arrive_38 : decode cX5_arrive 38 = .ok (.iconst 0, 1) := by decide +kernel
theorem dX5_arrive_39 : decode cX5_arrive 39 = .ok (.iaload, 1) := by decide +kernel
theorem dX5_arrive_40 : decode cX5_arrive 40 = .ok (.iconst 0, 1) := by decide +kernel
theorem dX5_arrive_41 : decode cX5_arrive 41 = .ok (.invokevirtual 97, 3) := by decide +kernel
theorem dX5_arrive_44 : decode cX5_arrive 44 = .ok (.iconst 1, 1) := by decide +kernel
theorem dX5_arrive_45 : decode cX5_arrive 45 = .ok (.invokevirtual 101, 3) := by decide +kernel
theorem dX5_arrive_48 : decode cX5_arrive 48 = .ok (.iinc 5 1, 3) := by decide +kernel
theorem dX5_arrive_51 : decode cX5_arrive 51 = .ok (.goto (-48), 3) := by decide +kernel
theorem dX5_arrive_54 : decode cX5_arrive 54 = .ok (.return_, 1) := by decide +kernel
theorem dX5_step_0 : decode cX5_step 0 = .ok (.iconst 0, 1) := by decide +kernel
theorem dX5_step_1 : decode cX5_step 1 = .ok (.istore 4, 2) := by decide +kernel
theorem dX5_step_3 : decode cX5_step 3 = .ok (.iload 4, 2) := by decide +kernel
theorem dX5_step_5 : decode cX5_step 5 = .ok (.iconst 3, 1) := by decide +kernel
theorem dX5_step_6 : decode cX5_step 6 = .ok (.if_icmp .ge 41, 3) := by decide +kernel
theorem dX5_step_9 : decode cX5_step 9 = .ok (.aload_n 1, 1) := by decide +kernel
theorem dX5_step_10 : decode cX5_step 10 = .ok (.getfield 84, 3) := by decide +kernel
theorem dX5_step_13 : decode cX5_step 13 = .ok (.iload 4, 2) := by decide +kernel
theorem dX5_step_15 : decode cX5_step 15 = .ok (.aaload, 1) := by decide +kernel
theorem dX5_step_16 : decode cX5_step 16 = .ok (.iconst 1, 1) := by decide +kernel
theorem dX5_step_17 : decode cX5_step 17 = .ok (.iaload, 1) := by decide +kernel
theorem dX5_step_18 : decode cX5_step 18 = .ok (.ifCond .le 23, 3) := by decide +kernel
theorem dX5_step_21 : decode cX5_step 21 = .ok (.aload_n 0, 1) := by decide +kernel
theorem dX5_step_22 : decode cX5_step 22 = .ok (.aload_n 1, 1) := by decide +kernel
theorem dX5_step_23 : decode cX5_step 23 = .ok (.iload_n 3, 1) := by decide +kernel
theorem dX5_step_24 : decode cX5_step 24 = .ok (.iload 4, 2) := by decide +kernel
theorem dX5_step_26 : decode cX5_step 26 = .ok (.invokevirtual 93, 3) := by decide +kernel
theorem dX5_step_29 : decode cX5_step 29 = .ok (.aload_n 0, 1) := by decide +kernel
theorem dX5_step_30 : decode cX5_step 30 = .ok (.iload 4, 2) := by decide +kernel
theorem dX5_step_32 : decode cX5_step 32 = .ok (.aload_n 2, 1) := by decide +kernel
theorem dX5_step_33 : decode cX5_step 33 = .ok (.invokevirtual 105, 3) := by decide +kernel
theorem dX5_step_36 : decode cX5_step 36 = .ok (.ifCond .eq 5, 3) := by decide +kernel
theorem dX5_step_39 : decode cX5_step 39 = .ok (.iconst 1, 1) := by decide +kernel
theorem dX5_step_40 : decode cX5_step 40 = .ok (.ireturn, 1) := by decide +kernel
theorem dX5_step_41 : decode cX5_step 41 = .ok (.iinc 4 1, 3) := by decide +kernel
theorem dX5_step_44 : decode cX5_step 44 = .ok (.goto (-41), 3) := by decide +kernel
theorem dX5_step_47 : decode cX5_step 47 = .ok (.iconst 0, 1) := by decide +kernel
theorem dX5_step_48 : decode cX5_step 48 = .ok (.ireturn, 1) := by decide +kernel
theorem dX5_stepOf_0 : decode cX5_stepOf 0 = .ok (.iconst 1, 1) := by decide +kernel
theorem dX5_stepOf_1 : decode cX5_stepOf 1 = .ok (.istore_n 3, 1) := by decide +kernel
theorem dX5_stepOf_2 : decode cX5_stepOf 2 = .ok (.iload_n 3, 1) := by decide +kernel
theorem dX5_stepOf_3 : decode cX5_stepOf 3 = .ok (.aload_n 2, 1) := by decide +kernel
theorem dX5_stepOf_4 : decode cX5_stepOf 4 = .ok (.getfield 109, 3) := by decide +kernel
theorem dX5_stepOf_7 : decode cX5_stepOf 7 = .ok (.if_icmp .ge 80, 3) := by decide +kernel
theorem dX5_stepOf_10 : decode cX5_stepOf 10 = .ok (.aload_n 0, 1) := by decide +kernel
theorem dX5_stepOf_11 : decode cX5_stepOf 11 = .ok (.getfield 17, 3) := by decide +kernel
theorem dX5_stepOf_14 : decode cX5_stepOf 14 = .ok (.iload_n 1, 1) := by decide +kernel
theorem dX5_stepOf_15 : decode cX5_stepOf 15 = .ok (.aaload, 1) := by decide +kernel
theorem dX5_stepOf_16 : decode cX5_stepOf 16 = .ok (.iload_n 3, 1) := by decide +kernel
theorem dX5_stepOf_17 : decode cX5_stepOf 17 = .ok (.iaload, 1) := by decide +kernel
theorem dX5_stepOf_18 : decode cX5_stepOf 18 = .ok (.ifCond .le 63, 3) := by decide +kernel
theorem dX5_stepOf_21 : decode cX5_stepOf 21 = .ok (.aload_n 0, 1) := by decide +kernel
theorem dX5_stepOf_22 : decode cX5_stepOf 22 = .ok (.aload_n 2, 1) := by decide +kernel
theorem dX5_stepOf_23 : decode cX5_stepOf 23 = .ok (.aload_n 2, 1) := by decide +kernel
theorem dX5_stepOf_24 : decode cX5_stepOf 24 = .ok (.getfield 112, 3) := by decide +kernel
theorem dX5_stepOf_27 : decode cX5_stepOf 27 = .ok (.iload_n 3, 1) := by decide +kernel
theorem dX5_stepOf_28 : decode cX5_stepOf 28 = .ok (.iaload, 1) := by decide +kernel
theorem dX5_stepOf_29 : decode cX5_stepOf 29 = .ok (.aload_n 2, 1) := by decide +kernel
theorem dX5_stepOf_30 : decode cX5_stepOf 30 = .ok (.getfield 115, 3) := by decide +kernel
theorem dX5_stepOf_33 : decode cX5_stepOf 33 = .ok (.iload_n 3, 1) := by decide +kernel
theorem dX5_stepOf_34 : decode cX5_stepOf 34 = .ok (.iaload, 1) := by decide +kernel
theorem dX5_stepOf_35 : decode cX5_stepOf 35 = .ok (.invokevirtual 97, 3) := by decide +kernel
theorem dX5_stepOf_38 : decode cX5_stepOf 38 = .ok (.istore 4, 2) := by decide +kernel
theorem dX5_stepOf_40 : decode cX5_stepOf 40 = .ok (.iload 4, 2) := by decide +kernel
theorem dX5_stepOf_42 : decode cX5_stepOf 42 = .ok (.ifCond .le 39, 3) := by decide +kernel
theorem dX5_stepOf_45 : decode cX5_stepOf 45 = .ok (.aload_n 0, 1) := by decide +kernel
theorem dX5_stepOf_46 : decode cX5_stepOf 46 = .ok (.getfield 42, 3) := by decide +kernel
theorem dX5_stepOf_49 : decode cX5_stepOf 49 = .ok (.iload 4, 2) := by decide +kernel
theorem dX5_stepOf_51 : decode cX5_stepOf 51 = .ok (.laload, 1) := by decide +kernel
theorem dX5_stepOf_52 : decode cX5_stepOf 52 = .ok (.aload_n 0, 1) := by decide +kernel
theorem dX5_stepOf_53 : decode cX5_stepOf 53 = .ok (.getfield 42, 3) := by decide +kernel
theorem dX5_stepOf_56 : decode cX5_stepOf 56 = .ok (.iload_n 3, 1) := by decide +kernel
theorem dX5_stepOf_57 : decode cX5_stepOf 57 = .ok (.laload, 1) := by decide +kernel
theorem dX5_stepOf_58 : decode cX5_stepOf 58 = .ok (.lcmp, 1) := by decide +kernel
theorem dX5_stepOf_59 : decode cX5_stepOf 59 = .ok (.ifCond .ge 22, 3) := by decide +kernel
theorem dX5_stepOf_62 : decode cX5_stepOf 62 = .ok (.aload_n 0, 1) := by decide +kernel
theorem dX5_stepOf_63 : decode cX5_stepOf 63 = .ok (.aload_n 2, 1) := by decide +kernel
theorem dX5_stepOf_64 : decode cX5_stepOf 64 = .ok (.iload_n 1, 1) := by decide +kernel
theorem dX5_stepOf_65 : decode cX5_stepOf 65 = .ok (.iload_n 3, 1) := by decide +kernel
theorem dX5_stepOf_66 : decode cX5_stepOf 66 = .ok (.iconst (-1), 1) := by decide +kernel
theorem dX5_stepOf_67 : decode cX5_stepOf 67 = .ok (.invokevirtual 101, 3) := by decide +kernel
theorem dX5_stepOf_70 : decode cX5_stepOf 70 = .ok (.aload_n 0, 1) := by decide +kernel
theorem dX5_stepOf_71 : decode cX5_stepOf 71 = .ok (.aload_n 2, 1) := by decide +kernel
theorem dX5_stepOf_72 : decode cX5_stepOf 72 = .ok (.iload_n 1, 1) := by decide +kernel
theorem dX5_stepOf_73 : decode cX5_stepOf 73 = .ok (.iload 4, 2) := by decide +kernel
theorem dX5_stepOf_75 : decode cX5_stepOf 75 = .ok (.iconst 1, 1) := by decide +kernel
theorem dX5_stepOf_76 : decode cX5_stepOf 76 = .ok (.invokevirtual 101, 3) := by decide +kernel
theorem dX5_stepOf_79 : decode cX5_stepOf 79 = .ok (.iconst 1, 1) := by decide +kernel
theorem dX5_stepOf_80 : decode cX5_stepOf 80 = .ok (.ireturn, 1) := by decide +kernel
theorem dX5_stepOf_81 : decode cX5_stepOf 81 = .ok (.iinc 3 1, 3) := by decide +kernel
theorem dX5_stepOf_84 : decode cX5_stepOf 84 = .ok (.goto (-82), 3) := by decide +kernel
theorem dX5_stepOf_87 : decode cX5_stepOf 87 = .ok (.iconst 0, 1) := by decide +kernel
theorem dX5_stepOf_88 : decode cX5_stepOf 88 = .ok (.ireturn, 1) := by decide +kernel
theorem dX5_tellPrices_0 : decode cX5_tellPrices 0 = .ok (.iconst 0, 1) := by decide +kernel
theorem dX5_tellPrices_1 : decode cX5_tellPrices 1 = .ok (.istore 4, 2) := by decide +kernel
theorem dX5_tellPrices_3 : decode cX5_tellPrices 3 = .ok (.iload 4, 2) := by decide +kernel
theorem dX5_tellPrices_5 : decode cX5_tellPrices 5 = .ok (.aload_n 1, 1) := by decide +kernel
theorem dX5_tellPrices_6 : decode cX5_tellPrices 6 = .ok (.getfield 118, 3) := by decide +kernel
theorem dX5_tellPrices_9 : decode cX5_tellPrices 9 = .ok (.if_icmp .ge 59, 3) := by decide +kernel
theorem dX5_tellPrices_12 : decode cX5_tellPrices 12 = .ok (.aload_n 0, 1) := by decide +kernel
theorem dX5_tellPrices_13 : decode cX5_tellPrices 13 = .ok (.getfield 35, 3) := by decide +kernel
theorem dX5_tellPrices_16 : decode cX5_tellPrices 16 = .ok (.iload 4, 2) := by decide +kernel
theorem dX5_tellPrices_18 : decode cX5_tellPrices 18 = .ok (.aload_n 1, 1) := by decide +kernel
theorem dX5_tellPrices_19 : decode cX5_tellPrices 19 = .ok (.iload_n 2, 1) := by decide +kernel
theorem dX5_tellPrices_20 : decode cX5_tellPrices 20 = .ok (.iload_n 3, 1) := by decide +kernel
theorem dX5_tellPrices_21 : decode cX5_tellPrices 21 = .ok (.iload 4, 2) := by decide +kernel
theorem dX5_tellPrices_23 : decode cX5_tellPrices 23 = .ok (.iconst 1, 1) := by decide +kernel
theorem dX5_tellPrices_24 : decode cX5_tellPrices 24 = .ok (.aload_n 0, 1) := by decide +kernel
theorem dX5_tellPrices_25 : decode cX5_tellPrices 25 = .ok (.getfield 9, 3) := by decide +kernel
theorem dX5_tellPrices_28 : decode cX5_tellPrices 28 = .ok (.iload 4, 2) := by decide +kernel
theorem dX5_tellPrices_30 : decode cX5_tellPrices 30 = .ok (.iaload, 1) := by decide +kernel
theorem dX5_tellPrices_31 : decode cX5_tellPrices 31 = .ok (.invokestatic 121, 3) := by decide +kernel
theorem dX5_tellPrices_34 : decode cX5_tellPrices 34 = .ok (.invokevirtual 127, 3) := by decide +kernel
theorem dX5_tellPrices_37 : decode cX5_tellPrices 37 = .ok (.lastore, 1) := by decide +kernel
theorem dX5_tellPrices_38 : decode cX5_tellPrices 38 = .ok (.aload_n 0, 1) := by decide +kernel
theorem dX5_tellPrices_39 : decode cX5_tellPrices 39 = .ok (.getfield 39, 3) := by decide +kernel
theorem dX5_tellPrices_42 : decode cX5_tellPrices 42 = .ok (.iload 4, 2) := by decide +kernel
theorem dX5_tellPrices_44 : decode cX5_tellPrices 44 = .ok (.aload_n 1, 1) := by decide +kernel
theorem dX5_tellPrices_45 : decode cX5_tellPrices 45 = .ok (.iload_n 2, 1) := by decide +kernel
theorem dX5_tellPrices_46 : decode cX5_tellPrices 46 = .ok (.iload_n 3, 1) := by decide +kernel
theorem dX5_tellPrices_47 : decode cX5_tellPrices 47 = .ok (.iload 4, 2) := by decide +kernel
theorem dX5_tellPrices_49 : decode cX5_tellPrices 49 = .ok (.aload_n 0, 1) := by decide +kernel
theorem dX5_tellPrices_50 : decode cX5_tellPrices 50 = .ok (.getfield 9, 3) := by decide +kernel
theorem dX5_tellPrices_53 : decode cX5_tellPrices 53 = .ok (.iload 4, 2) := by decide +kernel
theorem dX5_tellPrices_55 : decode cX5_tellPrices 55 = .ok (.iaload, 1) := by decide +kernel
theorem dX5_tellPrices_56 : decode cX5_tellPrices 56 = .ok (.iconst 1, 1) := by decide +kernel
theorem dX5_tellPrices_57 : decode cX5_tellPrices 57 = .ok (.iadd, 1) := by decide +kernel
theorem dX5_tellPrices_58 : decode cX5_tellPrices 58 = .ok (.invokevirtual 127, 3) := by decide +kernel
theorem dX5_tellPrices_61 : decode cX5_tellPrices 61 = .ok (.lastore, 1) := by decide +kernel
theorem dX5_tellPrices_62 : decode cX5_tellPrices 62 = .ok (.iinc 4 1, 3) := by decide +kernel
theorem dX5_tellPrices_65 : decode cX5_tellPrices 65 = .ok (.goto (-62), 3) := by decide +kernel
theorem dX5_tellPrices_68 : decode cX5_tellPrices 68 = .ok (.return_, 1) := by decide +kernel
theorem dX5_leastRow_0 : decode cX5_leastRow 0 = .ok (.iconst (-1), 1) := by decide +kernel
theorem dX5_leastRow_1 : decode cX5_leastRow 1 = .ok (.istore 4, 2) := by decide +kernel
theorem dX5_leastRow_3 : decode cX5_leastRow 3 = .ok (.iconst 1, 1) := by decide +kernel
theorem dX5_leastRow_4 : decode cX5_leastRow 4 = .ok (.istore 5, 2) := by decide +kernel
theorem dX5_leastRow_6 : decode cX5_leastRow 6 = .ok (.iload 5, 2) := by decide +kernel
theorem dX5_leastRow_8 : decode cX5_leastRow 8 = .ok (.aload_n 1, 1) := by decide +kernel
theorem dX5_leastRow_9 : decode cX5_leastRow 9 = .ok (.getfield 109, 3) := by decide +kernel
theorem dX5_leastRow_12 : decode cX5_leastRow 12 = .ok (.if_icmp .ge 107, 3) := by decide +kernel
theorem dX5_leastRow_15 : decode cX5_leastRow 15 = .ok (.aload_n 1, 1) := by decide +kernel
theorem dX5_leastRow_16 : decode cX5_leastRow 16 = .ok (.getfield 131, 3) := by decide +kernel
theorem dX5_leastRow_19 : decode cX5_leastRow 19 = .ok (.iload 5, 2) := by decide +kernel
theorem dX5_leastRow_21 : decode cX5_leastRow 21 = .ok (.iaload, 1) := by decide +kernel
theorem dX5_leastRow_22 : decode cX5_leastRow 22 = .ok (.istore 6, 2) := by decide +kernel
theorem dX5_leastRow_24 : decode cX5_leastRow 24 = .ok (.iload_n 3, 1) := by decide +kernel
theorem dX5_leastRow_25 : decode cX5_leastRow 25 = .ok (.iload 6, 2) := by decide +kernel
theorem dX5_leastRow_27 : decode cX5_leastRow 27 = .ok (.ishr, 1) := by decide +kernel
theorem dX5_leastRow_28 : decode cX5_leastRow 28 = .ok (.iconst 1, 1) := by decide +kernel
theorem dX5_leastRow_29 : decode cX5_leastRow 29 = .ok (.iand, 1) := by decide +kernel
theorem dX5_leastRow_30 : decode cX5_leastRow 30 = .ok (.iconst 1, 1) := by decide +kernel
theorem dX5_leastRow_31 : decode cX5_leastRow 31 = .ok (.if_icmp .ne 13, 3) := by decide +kernel
theorem dX5_leastRow_34 : decode cX5_leastRow 34 = .ok (.aload_n 0, 1) := by decide +kernel
theorem dX5_leastRow_35 : decode cX5_leastRow 35 = .ok (.getfield 35, 3) := by decide +kernel
theorem dX5_leastRow_38 : decode cX5_leastRow 38 = .ok (.iload 6, 2) := by decide +kernel
theorem dX5_leastRow_40 : decode cX5_leastRow 40 = .ok (.laload, 1) := by decide +kernel
theorem dX5_leastRow_41 : decode cX5_leastRow 41 = .ok (.goto 10, 3) := by decide +kernel
theorem dX5_leastRow_44 : decode cX5_leastRow 44 = .ok (.aload_n 0, 1) := by decide +kernel
theorem dX5_leastRow_45 : decode cX5_leastRow 45 = .ok (.getfield 39, 3) := by decide +kernel
theorem dX5_leastRow_48 : decode cX5_leastRow 48 = .ok (.iload 6, 2) := by decide +kernel
theorem dX5_leastRow_50 : decode cX5_leastRow 50 = .ok (.laload, 1) := by decide +kernel
theorem dX5_leastRow_51 : decode cX5_leastRow 51 = .ok (.lstore 7, 2) := by decide +kernel
theorem dX5_leastRow_53 : decode cX5_leastRow 53 = .ok (.aload_n 0, 1) := by decide +kernel
theorem dX5_leastRow_54 : decode cX5_leastRow 54 = .ok (.getfield 42, 3) := by decide +kernel
theorem dX5_leastRow_57 : decode cX5_leastRow 57 = .ok (.iload 5, 2) := by decide +kernel
theorem dX5_leastRow_59 : decode cX5_leastRow 59 = .ok (.aload_n 0, 1) := by decide +kernel
theorem dX5_leastRow_60 : decode cX5_leastRow 60 = .ok (.getfield 42, 3) := by decide +kernel
theorem dX5_leastRow_63 : decode cX5_leastRow 63 = .ok (.aload_n 1, 1) := by decide +kernel
theorem dX5_leastRow_64 : decode cX5_leastRow 64 = .ok (.getfield 134, 3) := by decide +kernel
theorem dX5_leastRow_67 : decode cX5_leastRow 67 = .ok (.iload 5, 2) := by decide +kernel
theorem dX5_leastRow_69 : decode cX5_leastRow 69 = .ok (.iaload, 1) := by decide +kernel
theorem dX5_leastRow_70 : decode cX5_leastRow 70 = .ok (.laload, 1) := by decide +kernel
theorem dX5_leastRow_71 : decode cX5_leastRow 71 = .ok (.lload 7, 2) := by decide +kernel
theorem dX5_leastRow_73 : decode cX5_leastRow 73 = .ok (.ladd, 1) := by decide +kernel
theorem dX5_leastRow_74 : decode cX5_leastRow 74 = .ok (.lastore, 1) := by decide +kernel
theorem dX5_leastRow_75 : decode cX5_leastRow 75 = .ok (.aload_n 1, 1) := by decide +kernel
theorem dX5_leastRow_76 : decode cX5_leastRow 76 = .ok (.getfield 112, 3) := by decide +kernel
theorem dX5_leastRow_79 : decode cX5_leastRow 79 = .ok (.iload 5, 2) := by decide +kernel
theorem dX5_leastRow_81 : decode cX5_leastRow 81 = .ok (.iaload, 1) := by decide +kernel
theorem dX5_leastRow_82 : decode cX5_leastRow 82 = .ok (.iload_n 2, 1) := by decide +kernel
theorem dX5_leastRow_83 : decode cX5_leastRow 83 = .ok (.if_icmp .ne 30, 3) := by decide +kernel
theorem dX5_leastRow_86 : decode cX5_leastRow 86 = .ok (.iload 4, 2) := by decide +kernel
theorem dX5_leastRow_88 : decode cX5_leastRow 88 = .ok (.ifCond .lt 21, 3) := by decide +kernel
theorem dX5_leastRow_91 : decode cX5_leastRow 91 = .ok (.aload_n 0, 1) := by decide +kernel
theorem dX5_leastRow_92 : decode cX5_leastRow 92 = .ok (.getfield 42, 3) := by decide +kernel
theorem dX5_leastRow_95 : decode cX5_leastRow 95 = .ok (.iload 5, 2) := by decide +kernel
theorem dX5_leastRow_97 : decode cX5_leastRow 97 = .ok (.laload, 1) := by decide +kernel
theorem dX5_leastRow_98 : decode cX5_leastRow 98 = .ok (.aload_n 0, 1) := by decide +kernel
theorem dX5_leastRow_99 : decode cX5_leastRow 99 = .ok (.getfield 42, 3) := by decide +kernel
theorem dX5_leastRow_102 : decode cX5_leastRow 102 = .ok (.iload 4, 2) := by decide +kernel
theorem dX5_leastRow_104 : decode cX5_leastRow 104 = .ok (.laload, 1) := by decide +kernel
theorem dX5_leastRow_105 : decode cX5_leastRow 105 = .ok (.lcmp, 1) := by decide +kernel
theorem dX5_leastRow_106 : decode cX5_leastRow 106 = .ok (.ifCond .ge 7, 3) := by decide +kernel
theorem dX5_leastRow_109 : decode cX5_leastRow 109 = .ok (.iload 5, 2) := by decide +kernel
theorem dX5_leastRow_111 : decode cX5_leastRow 111 = .ok (.istore 4, 2) := by decide +kernel
theorem dX5_leastRow_113 : decode cX5_leastRow 113 = .ok (.iinc 5 1, 3) := by decide +kernel
theorem dX5_leastRow_116 : decode cX5_leastRow 116 = .ok (.goto (-110), 3) := by decide +kernel
theorem dX5_leastRow_119 : decode cX5_leastRow 119 = .ok (.iload 4, 2) := by decide +kernel
theorem dX5_leastRow_121 : decode cX5_leastRow 121 = .ok (.ireturn, 1) := by decide +kernel
theorem dX5_move_0 : decode cX5_move 0 = .ok (.iload_n 3, 1) := by decide +kernel
theorem dX5_move_1 : decode cX5_move 1 = .ok (.ifCond .ge 4, 3) := by decide +kernel
theorem dX5_move_4 : decode cX5_move 4 = .ok (.return_, 1) := by decide +kernel
theorem dX5_move_5 : decode cX5_move 5 = .ok (.aload_n 0, 1) := by decide +kernel
theorem dX5_move_6 : decode cX5_move 6 = .ok (.getfield 17, 3) := by decide +kernel
theorem dX5_move_9 : decode cX5_move 9 = .ok (.iload_n 2, 1) := by decide +kernel
theorem dX5_move_10 : decode cX5_move 10 = .ok (.aaload, 1) := by decide +kernel
theorem dX5_move_11 : decode cX5_move 11 = .ok (.iload_n 3, 1) := by decide +kernel
theorem dX5_move_12 : decode cX5_move 12 = .ok (.dup2, 1) := by decide +kernel
theorem dX5_move_13 : decode cX5_move 13 = .ok (.iaload, 1) := by decide +kernel
theorem dX5_move_14 : decode cX5_move 14 = .ok (.iload 4, 2) := by decide +kernel
theorem dX5_move_16 : decode cX5_move 16 = .ok (.iadd, 1) := by decide +kernel
theorem dX5_move_17 : decode cX5_move 17 = .ok (.iastore, 1) := by decide +kernel
theorem dX5_move_18 : decode cX5_move 18 = .ok (.iconst 0, 1) := by decide +kernel
theorem dX5_move_19 : decode cX5_move 19 = .ok (.istore 5, 2) := by decide +kernel
theorem dX5_move_21 : decode cX5_move 21 = .ok (.iload 5, 2) := by decide +kernel
theorem dX5_move_23 : decode cX5_move 23 = .ok (.bipush 13, 2) := by decide +kernel
theorem dX5_move_25 : decode cX5_move 25 = .ok (.if_icmp .ge 35, 3) := by decide +kernel
theorem dX5_move_28 : decode cX5_move 28 = .ok (.aload_n 0, 1) := by decide +kernel
theorem dX5_move_29 : decode cX5_move 29 = .ok (.getfield 9, 3) := by decide +kernel
theorem dX5_move_32 : decode cX5_move 32 = .ok (.iload 5, 2) := by decide +kernel
theorem dX5_move_34 : decode cX5_move 34 = .ok (.dup2, 1) := by decide +kernel
theorem dX5_move_35 : decode cX5_move 35 = .ok (.iaload, 1) := by decide +kernel
theorem dX5_move_36 : decode cX5_move 36 = .ok (.aload_n 1, 1) := by decide +kernel
theorem dX5_move_37 : decode cX5_move 37 = .ok (.iload_n 3, 1) := by decide +kernel
theorem dX5_move_38 : decode cX5_move 38 = .ok (.iload 5, 2) := by decide +kernel
theorem dX5_move_40 : decode cX5_move 40 = .ok (.invokevirtual 137, 3) := by decide +kernel
theorem dX5_move_43 : decode cX5_move 43 = .ok (.ifCond .eq 8, 3) := by decide +kernel
theorem dX5_move_46 : decode cX5_move 46 = .ok (.iload 4, 2) := by decide +kernel
theorem dX5_move_48 : decode cX5_move 48 = .ok (.goto 4, 3) := by decide +kernel
theorem dX5_move_51 : decode cX5_move 51 = .ok (.iconst 0, 1) := by decide +kernel
theorem dX5_move_52 : decode cX5_move 52 = .ok (.iadd, 1) := by decide +kernel
theorem dX5_move_53 : decode cX5_move 53 = .ok (.iastore, 1) := by decide +kernel
theorem dX5_move_54 : decode cX5_move 54 = .ok (.iinc 5 1, 3) := by decide +kernel
theorem dX5_move_57 : decode cX5_move 57 = .ok (.goto (-36), 3) := by decide +kernel
theorem dX5_move_60 : decode cX5_move 60 = .ok (.return_, 1) := by decide +kernel
theorem dX6_init_0 : decode cX6_init 0 = .ok (.aload_n 0, 1) := by decide +kernel
theorem dX6_init_1 : decode cX6_init 1 = .ok (.invokespecial 1, 3) := by decide +kernel
theorem dX6_init_4 : decode cX6_init 4 = .ok (.aload_n 0, 1) := by decide +kernel
theorem dX6_init_5 : decode cX6_init 5 = .ok (.lconst 0, 1) := by decide +kernel
theorem dX6_init_6 : decode cX6_init 6 = .ok (.putfield 7, 3) := by decide +kernel
theorem dX6_init_9 : decode cX6_init 9 = .ok (.aload_n 0, 1) := by decide +kernel
theorem dX6_init_10 : decode cX6_init 10 = .ok (.iconst 0, 1) := by decide +kernel
theorem dX6_init_11 : decode cX6_init 11 = .ok (.putfield 13, 3) := by decide +kernel
theorem dX6_init_14 : decode cX6_init 14 = .ok (.return_, 1) := by decide +kernel
theorem dX6_reset_0 : decode cX6_reset 0 = .ok (.aload_n 0, 1) := by decide +kernel
theorem dX6_reset_1 : decode cX6_reset 1 = .ok (.lconst 0, 1) := by decide +kernel
theorem dX6_reset_2 : decode cX6_reset 2 = .ok (.putfield 7, 3) := by decide +kernel
theorem dX6_reset_5 : decode cX6_reset 5 = .ok (.aload_n 0, 1) := by decide +kernel
theorem dX6_reset_6 : decode cX6_reset 6 = .ok (.iconst 0, 1) := by decide +kernel
theorem dX6_reset_7 : decode cX6_reset 7 = .ok (.putfield 13, 3) := by decide +kernel
theorem dX6_reset_10 : decode cX6_reset 10 = .ok (.return_, 1) := by decide +kernel
theorem dX6_add_0 : decode cX6_add 0 = .ok (.lload_n 1, 1) := by decide +kernel
theorem dX6_add_1 : decode cX6_add 1 = .ok (.lconst 0, 1) := by decide +kernel
theorem dX6_add_2 : decode cX6_add 2 = .ok (.lcmp, 1) := by decide +kernel
theorem dX6_add_3 : decode cX6_add 3 = .ok (.ifCond .le 9, 3) := by decide +kernel
theorem dX6_add_6 : decode cX6_add 6 = .ok (.lload_n 3, 1) := by decide +kernel
theorem dX6_add_7 : decode cX6_add 7 = .ok (.lconst 0, 1) := by decide +kernel
theorem dX6_add_8 : decode cX6_add 8 = .ok (.lcmp, 1) := by decide +kernel
theorem dX6_add_9 : decode cX6_add 9 = .ok (.ifCond .gt 4, 3) := by decide +kernel
theorem dX6_add_12 : decode cX6_add 12 = .ok (.return_, 1) := by decide +kernel
theorem dX6_add_13 : decode cX6_add 13 = .ok (.lload_n 1, 1) := by decide +kernel
theorem dX6_add_14 : decode cX6_add 14 = .ok (.ldc2_w 19, 3) := by decide +kernel
theorem dX6_add_17 : decode cX6_add 17 = .ok (.aload_n 0, 1) := by decide +kernel
theorem dX6_add_18 : decode cX6_add 18 = .ok (.getfield 7, 3) := by decide +kernel
theorem dX6_add_21 : decode cX6_add 21 = .ok (.lsub, 1) := by decide +kernel
theorem dX6_add_22 : decode cX6_add 22 = .ok (.lload_n 3, 1) := by decide +kernel
theorem dX6_add_23 : decode cX6_add 23 = .ok (.ldiv, 1) := by decide +kernel
theorem dX6_add_24 : decode cX6_add 24 = .ok (.lcmp, 1) := by decide +kernel
theorem dX6_add_25 : decode cX6_add 25 = .ok (.ifCond .le 8, 3) := by decide +kernel
theorem dX6_add_28 : decode cX6_add 28 = .ok (.aload_n 0, 1) := by decide +kernel
theorem dX6_add_29 : decode cX6_add 29 = .ok (.iconst 1, 1) := by decide +kernel
theorem dX6_add_30 : decode cX6_add 30 = .ok (.putfield 13, 3) := by decide +kernel
theorem dX6_add_33 : decode cX6_add 33 = .ok (.aload_n 0, 1) := by decide +kernel
theorem dX6_add_34 : decode cX6_add 34 = .ok (.getfield 13, 3) := by decide +kernel
theorem dX6_add_37 : decode cX6_add 37 = .ok (.ifCond .ne 15, 3) := by decide +kernel
theorem dX6_add_40 : decode cX6_add 40 = .ok (.aload_n 0, 1) := by decide +kernel
theorem dX6_add_41 : decode cX6_add 41 = .ok (.dup, 1) := by decide +kernel
theorem dX6_add_42 : decode cX6_add 42 = .ok (.getfield 7, 3) := by decide +kernel
theorem dX6_add_45 : decode cX6_add 45 = .ok (.lload_n 1, 1) := by decide +kernel
theorem dX6_add_46 : decode cX6_add 46 = .ok (.lload_n 3, 1) := by decide +kernel
theorem dX6_add_47 : decode cX6_add 47 = .ok (.lmul, 1) := by decide +kernel
theorem dX6_add_48 : decode cX6_add 48 = .ok (.ladd, 1) := by decide +kernel
theorem dX6_add_49 : decode cX6_add 49 = .ok (.putfield 7, 3) := by decide +kernel
theorem dX6_add_52 : decode cX6_add 52 = .ok (.return_, 1) := by decide +kernel
theorem dX7_init_0 : decode cX7_init 0 = .ok (.aload_n 0, 1) := by decide +kernel
theorem dX7_init_1 : decode cX7_init 1 = .ok (.invokespecial 3, 3) := by decide +kernel
theorem dX7_init_4 : decode cX7_init 4 = .ok (.aload_n 0, 1) := by decide +kernel
theorem dX7_init_5 : decode cX7_init 5 = .ok (.iconst 0, 1) := by decide +kernel
theorem dX7_init_6 : decode cX7_init 6 = .ok (.putfield 9, 3) := by decide +kernel
theorem dX7_init_9 : decode cX7_init 9 = .ok (.aload_n 0, 1) := by decide +kernel
theorem dX7_init_10 : decode cX7_init 10 = .ok (.bipush 100, 2) := by decide +kernel
theorem dX7_init_12 : decode cX7_init 12 = .ok (.newarray .int, 2) := by decide +kernel
theorem dX7_init_14 : decode cX7_init 14 = .ok (.putfield 15, 3) := by decide +kernel
theorem dX7_init_17 : decode cX7_init 17 = .ok (.aload_n 0, 1) := by decide +kernel
theorem dX7_init_18 : decode cX7_init 18 = .ok (.iconst 0, 1) := by decide +kernel
theorem dX7_init_19 : decode cX7_init 19 = .ok (.putfield 19, 3) := by decide +kernel
theorem dX7_init_22 : decode cX7_init 22 = .ok (.aload_n 0, 1) := by decide +kernel
theorem dX7_init_23 : decode cX7_init 23 = .ok (.iconst 0, 1) := by decide +kernel
theorem dX7_init_24 : decode cX7_init 24 = .ok (.putfield 22, 3) := by decide +kernel
theorem dX7_init_27 : decode cX7_init 27 = .ok (.return_, 1) := by decide +kernel
theorem dX7_push_0 : decode cX7_push 0 = .ok (.aload_n 0, 1) := by decide +kernel
