theorem dX10_toll_46 : decode cX10_toll 46 = .ok (.bipush 7, 2) := by decide +kernel
theorem dX10_toll_48 : decode cX10_toll 48 = .ok (.iadd, 1) := by decide +kernel
theorem dX10_toll_49 : decode cX10_toll 49 = .ok (.lload_n 2, 1) := by decide +kernel
theorem dX10_toll_50 : decode cX10_toll 50 = .ok (.lastore, 1) := by decide +kernel
theorem dX10_toll_51 : decode cX10_toll 51 = .ok (.lload 4, 2) := by decide +kernel
theorem dX10_toll_53 : decode cX10_toll 53 = .ok (.lreturn, 1) := by decide +kernel
theorem dX10_of_0 : decode cX10_of 0 = .ok (.aload_n 0, 1) := by decide +kernel
theorem dX10_of_1 : decode cX10_of 1 = .ok (.iload_n 1, 1) := by decide +kernel
theorem dX10_of_2 : decode cX10_of 2 = .ok (.invokevirtual 115, 3) := by decide +kernel
theorem dX10_of_5 : decode cX10_of 5 = .ok (.ifCond .eq 24, 3) := by decide +kernel
theorem dX10_of_8 : decode cX10_of 8 = .ok (.iload_n 2, 1) := by decide +kernel
theorem dX10_of_9 : decode cX10_of 9 = .ok (.i2l, 1) := by decide +kernel
theorem dX10_of_10 : decode cX10_of 10 = .ok (.lconst 0, 1) := by decide +kernel
theorem dX10_of_11 : decode cX10_of 11 = .ok (.ldc2_w 132, 3) := by decide +kernel
theorem dX10_of_14 : decode cX10_of 14 = .ok (.invokestatic 89, 3) := by decide +kernel
theorem dX10_of_17 : decode cX10_of 17 = .ok (.ifCond .eq 12, 3) := by decide +kernel
theorem dX10_of_20 : decode cX10_of 20 = .ok (.aload_n 0, 1) := by decide +kernel
theorem dX10_of_21 : decode cX10_of 21 = .ok (.iload_n 1, 1) := by decide +kernel
theorem dX10_of_22 : decode cX10_of 22 = .ok (.iload_n 2, 1) := by decide +kernel
theorem dX10_of_23 : decode cX10_of 23 = .ok (.invokevirtual 128, 3) := by decide +kernel
theorem dX10_of_26 : decode cX10_of 26 = .ok (.goto 6, 3) := by decide +kernel
theorem dX10_of_29 : decode cX10_of 29 = .ok (.ldc2_w 134, 3) := by decide +kernel
theorem dX10_of_32 : decode cX10_of 32 = .ok (.lreturn, 1) := by decide +kernel
theorem dX10_costBy_0 : decode cX10_costBy 0 = .ok (.aload_n 0, 1) := by decide +kernel
theorem dX10_costBy_1 : decode cX10_costBy 1 = .ok (.iload_n 1, 1) := by decide +kernel
theorem dX10_costBy_2 : decode cX10_costBy 2 = .ok (.iconst 2, 1) := by decide +kernel
theorem dX10_costBy_3 : decode cX10_costBy 3 = .ok (.invokevirtual 128, 3) := by decide +kernel
theorem dX10_costBy_6 : decode cX10_costBy 6 = .ok (.lstore_n 3, 1) := by decide +kernel
theorem dX10_costBy_7 : decode cX10_costBy 7 = .ok (.aload_n 0, 1) := by decide +kernel
theorem dX10_costBy_8 : decode cX10_costBy 8 = .ok (.iload_n 1, 1) := by decide +kernel
theorem dX10_costBy_9 : decode cX10_costBy 9 = .ok (.iconst 3, 1) := by decide +kernel
theorem dX10_costBy_10 : decode cX10_costBy 10 = .ok (.invokevirtual 128, 3) := by decide +kernel
theorem dX10_costBy_13 : decode cX10_costBy 13 = .ok (.lstore 5, 2) := by decide +kernel
theorem dX10_costBy_15 : decode cX10_costBy 15 = .ok (.lload 5, 2) := by decide +kernel
theorem dX10_costBy_17 : decode cX10_costBy 17 = .ok (.lload_n 3, 1) := by decide +kernel
theorem dX10_costBy_18 : decode cX10_costBy 18 = .ok (.lconst 0, 1) := by decide +kernel
theorem dX10_costBy_19 : decode cX10_costBy 19 = .ok (.lcmp, 1) := by decide +kernel
theorem dX10_costBy_20 : decode cX10_costBy 20 = .ok (.ifCond .le 15, 3) := by decide +kernel
theorem dX10_costBy_23 : decode cX10_costBy 23 = .ok (.aload_n 0, 1) := by decide +kernel
theorem dX10_costBy_24 : decode cX10_costBy 24 = .ok (.iload_n 1, 1) := by decide +kernel
theorem dX10_costBy_25 : decode cX10_costBy 25 = .ok (.iconst 4, 1) := by decide +kernel
theorem dX10_costBy_26 : decode cX10_costBy 26 = .ok (.invokevirtual 128, 3) := by decide +kernel
theorem dX10_costBy_29 : decode cX10_costBy 29 = .ok (.iload_n 2, 1) := by decide +kernel
theorem dX10_costBy_30 : decode cX10_costBy 30 = .ok (.i2l, 1) := by decide +kernel
theorem dX10_costBy_31 : decode cX10_costBy 31 = .ok (.lmul, 1) := by decide +kernel
theorem dX10_costBy_32 : decode cX10_costBy 32 = .ok (.goto 4, 3) := by decide +kernel
theorem dX10_costBy_35 : decode cX10_costBy 35 = .ok (.lconst 0, 1) := by decide +kernel
theorem dX10_costBy_36 : decode cX10_costBy 36 = .ok (.ladd, 1) := by decide +kernel
theorem dX10_costBy_37 : decode cX10_costBy 37 = .ok (.lstore 5, 2) := by decide +kernel
theorem dX10_costBy_39 : decode cX10_costBy 39 = .ok (.iload_n 2, 1) := by decide +kernel
theorem dX10_costBy_40 : decode cX10_costBy 40 = .ok (.i2l, 1) := by decide +kernel
theorem dX10_costBy_41 : decode cX10_costBy 41 = .ok (.aload_n 0, 1) := by decide +kernel
theorem dX10_costBy_42 : decode cX10_costBy 42 = .ok (.iload_n 1, 1) := by decide +kernel
theorem dX10_costBy_43 : decode cX10_costBy 43 = .ok (.bipush 6, 2) := by decide +kernel
theorem dX10_costBy_45 : decode cX10_costBy 45 = .ok (.invokevirtual 128, 3) := by decide +kernel
theorem dX10_costBy_48 : decode cX10_costBy 48 = .ok (.lsub, 1) := by decide +kernel
theorem dX10_costBy_49 : decode cX10_costBy 49 = .ok (.lstore 7, 2) := by decide +kernel
theorem dX10_costBy_51 : decode cX10_costBy 51 = .ok (.lload 5, 2) := by decide +kernel
theorem dX10_costBy_53 : decode cX10_costBy 53 = .ok (.lload_n 3, 1) := by decide +kernel
theorem dX10_costBy_54 : decode cX10_costBy 54 = .ok (.lconst 1, 1) := by decide +kernel
theorem dX10_costBy_55 : decode cX10_costBy 55 = .ok (.lcmp, 1) := by decide +kernel
theorem dX10_costBy_56 : decode cX10_costBy 56 = .ok (.ifCond .le 22, 3) := by decide +kernel
theorem dX10_costBy_59 : decode cX10_costBy 59 = .ok (.lload 7, 2) := by decide +kernel
theorem dX10_costBy_61 : decode cX10_costBy 61 = .ok (.lconst 0, 1) := by decide +kernel
theorem dX10_costBy_62 : decode cX10_costBy 62 = .ok (.lcmp, 1) := by decide +kernel
theorem dX10_costBy_63 : decode cX10_costBy 63 = .ok (.ifCond .le 15, 3) := by decide +kernel
theorem dX10_costBy_66 : decode cX10_costBy 66 = .ok (.aload_n 0, 1) := by decide +kernel
theorem dX10_costBy_67 : decode cX10_costBy 67 = .ok (.iload_n 1, 1) := by decide +kernel
theorem dX10_costBy_68 : decode cX10_costBy 68 = .ok (.iconst 5, 1) := by decide +kernel
theorem dX10_costBy_69 : decode cX10_costBy 69 = .ok (.invokevirtual 128, 3) := by decide +kernel
theorem dX10_costBy_72 : decode cX10_costBy 72 = .ok (.lload 7, 2) := by decide +kernel
theorem dX10_costBy_74 : decode cX10_costBy 74 = .ok (.lmul, 1) := by decide +kernel
theorem dX10_costBy_75 : decode cX10_costBy 75 = .ok (.goto 4, 3) := by decide +kernel
theorem dX10_costBy_78 : decode cX10_costBy 78 = .ok (.lconst 0, 1) := by decide +kernel
theorem dX10_costBy_79 : decode cX10_costBy 79 = .ok (.ladd, 1) := by decide +kernel
theorem dX10_costBy_80 : decode cX10_costBy 80 = .ok (.lstore 5, 2) := by decide +kernel
theorem dX10_costBy_82 : decode cX10_costBy 82 = .ok (.lload 5, 2) := by decide +kernel
theorem dX10_costBy_84 : decode cX10_costBy 84 = .ok (.lreturn, 1) := by decide +kernel
theorem dX10_lossBy_0 : decode cX10_lossBy 0 = .ok (.iload_n 2, 1) := by decide +kernel
theorem dX10_lossBy_1 : decode cX10_lossBy 1 = .ok (.iconst 1, 1) := by decide +kernel
theorem dX10_lossBy_2 : decode cX10_lossBy 2 = .ok (.if_icmp .gt 7, 3) := by decide +kernel
theorem dX10_lossBy_5 : decode cX10_lossBy 5 = .ok (.lconst 0, 1) := by decide +kernel
theorem dX10_lossBy_6 : decode cX10_lossBy 6 = .ok (.goto 23, 3) := by decide +kernel
theorem dX10_lossBy_9 : decode cX10_lossBy 9 = .ok (.iload_n 2, 1) := by decide +kernel
theorem dX10_lossBy_10 : decode cX10_lossBy 10 = .ok (.i2l, 1) := by decide +kernel
theorem dX10_lossBy_11 : decode cX10_lossBy 11 = .ok (.lconst 1, 1) := by decide +kernel
theorem dX10_lossBy_12 : decode cX10_lossBy 12 = .ok (.lsub, 1) := by decide +kernel
theorem dX10_lossBy_13 : decode cX10_lossBy 13 = .ok (.aload_n 0, 1) := by decide +kernel
theorem dX10_lossBy_14 : decode cX10_lossBy 14 = .ok (.iload_n 1, 1) := by decide +kernel
theorem dX10_lossBy_15 : decode cX10_lossBy 15 = .ok (.iload_n 2, 1) := by decide +kernel
theorem dX10_lossBy_16 : decode cX10_lossBy 16 = .ok (.invokevirtual 136, 3) := by decide +kernel
theorem dX10_lossBy_19 : decode cX10_lossBy 19 = .ok (.aload_n 0, 1) := by decide +kernel
theorem dX10_lossBy_20 : decode cX10_lossBy 20 = .ok (.iload_n 1, 1) := by decide +kernel
theorem dX10_lossBy_21 : decode cX10_lossBy 21 = .ok (.iload_n 2, 1) := by decide +kernel
theorem dX10_lossBy_22 : decode cX10_lossBy 22 = .ok (.iconst 1, 1) := by decide +kernel
theorem dX10_lossBy_23 : decode cX10_lossBy 23 = .ok (.isub, 1) := by decide +kernel
theorem dX10_lossBy_24 : decode cX10_lossBy 24 = .ok (.invokevirtual 136, 3) := by decide +kernel
theorem dX10_lossBy_27 : decode cX10_lossBy 27 = .ok (.lsub, 1) := by decide +kernel
theorem dX10_lossBy_28 : decode cX10_lossBy 28 = .ok (.lmul, 1) := by decide +kernel
theorem dX10_lossBy_29 : decode cX10_lossBy 29 = .ok (.lreturn, 1) := by decide +kernel
theorem dX10_cost_0 : decode cX10_cost 0 = .ok (.aload_n 0, 1) := by decide +kernel
theorem dX10_cost_1 : decode cX10_cost 1 = .ok (.iload_n 1, 1) := by decide +kernel
theorem dX10_cost_2 : decode cX10_cost 2 = .ok (.invokevirtual 115, 3) := by decide +kernel
theorem dX10_cost_5 : decode cX10_cost 5 = .ok (.ifCond .eq 25, 3) := by decide +kernel
theorem dX10_cost_8 : decode cX10_cost 8 = .ok (.iload_n 2, 1) := by decide +kernel
theorem dX10_cost_9 : decode cX10_cost 9 = .ok (.i2l, 1) := by decide +kernel
theorem dX10_cost_10 : decode cX10_cost 10 = .ok (.lconst 1, 1) := by decide +kernel
theorem dX10_cost_11 : decode cX10_cost 11 = .ok (.ldc2_w 107, 3) := by decide +kernel
theorem dX10_cost_14 : decode cX10_cost 14 = .ok (.invokestatic 89, 3) := by decide +kernel
theorem dX10_cost_17 : decode cX10_cost 17 = .ok (.ifCond .eq 13, 3) := by decide +kernel
theorem dX10_cost_20 : decode cX10_cost 20 = .ok (.iload_n 3, 1) := by decide +kernel
theorem dX10_cost_21 : decode cX10_cost 21 = .ok (.i2l, 1) := by decide +kernel
theorem dX10_cost_22 : decode cX10_cost 22 = .ok (.lconst 0, 1) := by decide +kernel
theorem dX10_cost_23 : decode cX10_cost 23 = .ok (.lconst 1, 1) := by decide +kernel
theorem dX10_cost_24 : decode cX10_cost 24 = .ok (.invokestatic 89, 3) := by decide +kernel
theorem dX10_cost_27 : decode cX10_cost 27 = .ok (.ifCond .ne 7, 3) := by decide +kernel
theorem dX10_cost_30 : decode cX10_cost 30 = .ok (.ldc2_w 134, 3) := by decide +kernel
theorem dX10_cost_33 : decode cX10_cost 33 = .ok (.lreturn, 1) := by decide +kernel
theorem dX10_cost_34 : decode cX10_cost 34 = .ok (.iload_n 3, 1) := by decide +kernel
theorem dX10_cost_35 : decode cX10_cost 35 = .ok (.ifCond .ne 12, 3) := by decide +kernel
theorem dX10_cost_38 : decode cX10_cost 38 = .ok (.aload_n 0, 1) := by decide +kernel
theorem dX10_cost_39 : decode cX10_cost 39 = .ok (.iload_n 1, 1) := by decide +kernel
theorem dX10_cost_40 : decode cX10_cost 40 = .ok (.iload_n 2, 1) := by decide +kernel
theorem dX10_cost_41 : decode cX10_cost 41 = .ok (.invokevirtual 136, 3) := by decide +kernel
theorem dX10_cost_44 : decode cX10_cost 44 = .ok (.goto 9, 3) := by decide +kernel
theorem dX10_cost_47 : decode cX10_cost 47 = .ok (.aload_n 0, 1) := by decide +kernel
theorem dX10_cost_48 : decode cX10_cost 48 = .ok (.iload_n 1, 1) := by decide +kernel
theorem dX10_cost_49 : decode cX10_cost 49 = .ok (.iload_n 2, 1) := by decide +kernel
theorem dX10_cost_50 : decode cX10_cost 50 = .ok (.invokevirtual 139, 3) := by decide +kernel
theorem dX10_cost_53 : decode cX10_cost 53 = .ok (.lreturn, 1) := by decide +kernel
theorem dX10_isGood_0 : decode cX10_isGood 0 = .ok (.iload_n 0, 1) := by decide +kernel
theorem dX10_isGood_1 : decode cX10_isGood 1 = .ok (.tableswitch 57 0 2 #[27, 37, 47], 27) := by decide +kernel
theorem dX10_isGood_28 : decode cX10_isGood 28 = .ok (.iload_n 1, 1) := by decide +kernel
theorem dX10_isGood_29 : decode cX10_isGood 29 = .ok (.i2l, 1) := by decide +kernel
theorem dX10_isGood_30 : decode cX10_isGood 30 = .ok (.lconst 1, 1) := by decide +kernel
theorem dX10_isGood_31 : decode cX10_isGood 31 = .ok (.ldc2_w 142, 3) := by decide +kernel
theorem dX10_isGood_34 : decode cX10_isGood 34 = .ok (.invokestatic 89, 3) := by decide +kernel
theorem dX10_isGood_37 : decode cX10_isGood 37 = .ok (.ireturn, 1) := by decide +kernel
theorem dX10_isGood_38 : decode cX10_isGood 38 = .ok (.iload_n 1, 1) := by decide +kernel
theorem dX10_isGood_39 : decode cX10_isGood 39 = .ok (.i2l, 1) := by decide +kernel
theorem dX10_isGood_40 : decode cX10_isGood 40 = .ok (.lconst 0, 1) := by decide +kernel
theorem dX10_isGood_41 : decode cX10_isGood 41 = .ok (.ldc2_w 109, 3) := by decide +kernel
theorem dX10_isGood_44 : decode cX10_isGood 44 = .ok (.invokestatic 89, 3) := by decide +kernel
theorem dX10_isGood_47 : decode cX10_isGood 47 = .ok (.ireturn, 1) := by decide +kernel
theorem dX10_isGood_48 : decode cX10_isGood 48 = .ok (.iload_n 1, 1) := by decide +kernel
theorem dX10_isGood_49 : decode cX10_isGood 49 = .ok (.i2l, 1) := by decide +kernel
theorem dX10_isGood_50 : decode cX10_isGood 50 = .ok (.lconst 1, 1) := by decide +kernel
theorem dX10_isGood_51 : decode cX10_isGood 51 = .ok (.ldc2_w 144, 3) := by decide +kernel
theorem dX10_isGood_54 : decode cX10_isGood 54 = .ok (.invokestatic 89, 3) := by decide +kernel
theorem dX10_isGood_57 : decode cX10_isGood 57 = .ok (.ireturn, 1) := by decide +kernel
theorem dX10_isGood_58 : decode cX10_isGood 58 = .ok (.iload_n 1, 1) := by decide +kernel
theorem dX10_isGood_59 : decode cX10_isGood 59 = .ok (.i2l, 1) := by decide +kernel
theorem dX10_isGood_60 : decode cX10_isGood 60 = .ok (.lconst 0, 1) := by decide +kernel
theorem dX10_isGood_61 : decode cX10_isGood 61 = .ok (.ldc2_w 144, 3) := by decide +kernel
theorem dX10_isGood_64 : decode cX10_isGood 64 = .ok (.invokestatic 89, 3) := by decide +kernel
theorem dX10_isGood_67 : decode cX10_isGood 67 = .ok (.ireturn, 1) := by decide +kernel
theorem dX10_drivers_0 : decode cX10_drivers 0 = .ok (.iload_n 1, 1) := by decide +kernel
theorem dX10_drivers_1 : decode cX10_drivers 1 = .ok (.invokestatic 146, 3) := by decide +kernel
theorem dX10_drivers_4 : decode cX10_drivers 4 = .ok (.ifCond .eq 15, 3) := by decide +kernel
theorem dX10_drivers_7 : decode cX10_drivers 7 = .ok (.iload_n 2, 1) := by decide +kernel
theorem dX10_drivers_8 : decode cX10_drivers 8 = .ok (.i2l, 1) := by decide +kernel
theorem dX10_drivers_9 : decode cX10_drivers 9 = .ok (.lconst 0, 1) := by decide +kernel
theorem dX10_drivers_10 : decode cX10_drivers 10 = .ok (.ldc2_w 149, 3) := by decide +kernel
theorem dX10_drivers_13 : decode cX10_drivers 13 = .ok (.invokestatic 89, 3) := by decide +kernel
theorem dX10_drivers_16 : decode cX10_drivers 16 = .ok (.ifCond .ne 5, 3) := by decide +kernel
theorem dX10_drivers_19 : decode cX10_drivers 19 = .ok (.iconst (-1), 1) := by decide +kernel
theorem dX10_drivers_20 : decode cX10_drivers 20 = .ok (.ireturn, 1) := by decide +kernel
theorem dX10_drivers_21 : decode cX10_drivers 21 = .ok (.iload_n 2, 1) := by decide +kernel
theorem dX10_drivers_22 : decode cX10_drivers 22 = .ok (.iload_n 3, 1) := by decide +kernel
theorem dX10_drivers_23 : decode cX10_drivers 23 = .ok (.invokestatic 151, 3) := by decide +kernel
theorem dX10_drivers_26 : decode cX10_drivers 26 = .ok (.ifCond .ne 6, 3) := by decide +kernel
theorem dX10_drivers_29 : decode cX10_drivers 29 = .ok (.bipush (-2), 2) := by decide +kernel
theorem dX10_drivers_31 : decode cX10_drivers 31 = .ok (.ireturn, 1) := by decide +kernel
theorem dX10_drivers_32 : decode cX10_drivers 32 = .ok (.aload_n 0, 1) := by decide +kernel
theorem dX10_drivers_33 : decode cX10_drivers 33 = .ok (.iload_n 1, 1) := by decide +kernel
theorem dX10_drivers_34 : decode cX10_drivers 34 = .ok (.iload_n 2, 1) := by decide +kernel
theorem dX10_drivers_35 : decode cX10_drivers 35 = .ok (.invokevirtual 154, 3) := by decide +kernel
theorem dX10_drivers_38 : decode cX10_drivers 38 = .ok (.l2i, 1) := by decide +kernel
theorem dX10_drivers_39 : decode cX10_drivers 39 = .ok (.istore 4, 2) := by decide +kernel
theorem dX10_drivers_41 : decode cX10_drivers 41 = .ok (.aload_n 0, 1) := by decide +kernel
theorem dX10_drivers_42 : decode cX10_drivers 42 = .ok (.getfield 9, 3) := by decide +kernel
theorem dX10_drivers_45 : decode cX10_drivers 45 = .ok (.bipush 106, 2) := by decide +kernel
theorem dX10_drivers_47 : decode cX10_drivers 47 = .ok (.iconst 4, 1) := by decide +kernel
theorem dX10_drivers_48 : decode cX10_drivers 48 = .ok (.iload_n 1, 1) := by decide +kernel
theorem dX10_drivers_49 : decode cX10_drivers 49 = .ok (.imul, 1) := by decide +kernel
theorem dX10_drivers_50 : decode cX10_drivers 50 = .ok (.iadd, 1) := by decide +kernel
theorem dX10_drivers_51 : decode cX10_drivers 51 = .ok (.iload_n 2, 1) := by decide +kernel
theorem dX10_drivers_52 : decode cX10_drivers 52 = .ok (.iadd, 1) := by decide +kernel
theorem dX10_drivers_53 : decode cX10_drivers 53 = .ok (.iload_n 3, 1) := by decide +kernel
theorem dX10_drivers_54 : decode cX10_drivers 54 = .ok (.i2l, 1) := by decide +kernel
theorem dX10_drivers_55 : decode cX10_drivers 55 = .ok (.lastore, 1) := by decide +kernel
theorem dX10_drivers_56 : decode cX10_drivers 56 = .ok (.iload 4, 2) := by decide +kernel
theorem dX10_drivers_58 : decode cX10_drivers 58 = .ok (.ireturn, 1) := by decide +kernel
theorem dX10_driversOf_0 : decode cX10_driversOf 0 = .ok (.iload_n 1, 1) := by decide +kernel
theorem dX10_driversOf_1 : decode cX10_driversOf 1 = .ok (.invokestatic 146, 3) := by decide +kernel
theorem dX10_driversOf_4 : decode cX10_driversOf 4 = .ok (.ifCond .eq 25, 3) := by decide +kernel
theorem dX10_driversOf_7 : decode cX10_driversOf 7 = .ok (.iload_n 2, 1) := by decide +kernel
theorem dX10_driversOf_8 : decode cX10_driversOf 8 = .ok (.i2l, 1) := by decide +kernel
theorem dX10_driversOf_9 : decode cX10_driversOf 9 = .ok (.lconst 0, 1) := by decide +kernel
theorem dX10_driversOf_10 : decode cX10_driversOf 10 = .ok (.ldc2_w 149, 3) := by decide +kernel
theorem dX10_driversOf_13 : decode cX10_driversOf 13 = .ok (.invokestatic 89, 3) := by decide +kernel
theorem dX10_driversOf_16 : decode cX10_driversOf 16 = .ok (.ifCond .eq 13, 3) := by decide +kernel
theorem dX10_driversOf_19 : decode cX10_driversOf 19 = .ok (.aload_n 0, 1) := by decide +kernel
theorem dX10_driversOf_20 : decode cX10_driversOf 20 = .ok (.iload_n 1, 1) := by decide +kernel
theorem dX10_driversOf_21 : decode cX10_driversOf 21 = .ok (.iload_n 2, 1) := by decide +kernel
theorem dX10_driversOf_22 : decode cX10_driversOf 22 = .ok (.invokevirtual 154, 3) := by decide +kernel
theorem dX10_driversOf_25 : decode cX10_driversOf 25 = .ok (.l2i, 1) := by decide +kernel
theorem dX10_driversOf_26 : decode cX10_driversOf 26 = .ok (.goto 4, 3) := by decide +kernel
theorem dX10_driversOf_29 : decode cX10_driversOf 29 = .ok (.iconst (-1), 1) := by decide +kernel
theorem dX10_driversOf_30 : decode cX10_driversOf 30 = .ok (.ireturn, 1) := by decide +kernel
theorem dX10_feed_0 : decode cX10_feed 0 = .ok (.iload_n 1, 1) := by decide +kernel
theorem dX10_feed_1 : decode cX10_feed 1 = .ok (.i2l, 1) := by decide +kernel
theorem dX10_feed_2 : decode cX10_feed 2 = .ok (.lconst 1, 1) := by decide +kernel
theorem dX10_feed_3 : decode cX10_feed 3 = .ok (.ldc2_w 157, 3) := by decide +kernel
theorem dX10_feed_6 : decode cX10_feed 6 = .ok (.invokestatic 89, 3) := by decide +kernel
theorem dX10_feed_9 : decode cX10_feed 9 = .ok (.ifCond .ne 6, 3) := by decide +kernel
theorem dX10_feed_12 : decode cX10_feed 12 = .ok (.bipush (-2), 2) := by decide +kernel
theorem dX10_feed_14 : decode cX10_feed 14 = .ok (.ireturn, 1) := by decide +kernel
theorem dX10_feed_15 : decode cX10_feed 15 = .ok (.aload_n 0, 1) := by decide +kernel
theorem dX10_feed_16 : decode cX10_feed 16 = .ok (.getfield 159, 3) := by decide +kernel
theorem dX10_feed_19 : decode cX10_feed 19 = .ok (.bipush 100, 2) := by decide +kernel
theorem dX10_feed_21 : decode cX10_feed 21 = .ok (.if_icmp .ne 6, 3) := by decide +kernel
theorem dX10_feed_24 : decode cX10_feed 24 = .ok (.bipush (-4), 2) := by decide +kernel
theorem dX10_feed_26 : decode cX10_feed 26 = .ok (.ireturn, 1) := by decide +kernel
theorem dX10_feed_27 : decode cX10_feed 27 = .ok (.aload_n 0, 1) := by decide +kernel
theorem dX10_feed_28 : decode cX10_feed 28 = .ok (.getfield 21, 3) := by decide +kernel
theorem dX10_feed_31 : decode cX10_feed 31 = .ok (.aload_n 0, 1) := by decide +kernel
theorem dX10_feed_32 : decode cX10_feed 32 = .ok (.getfield 159, 3) := by decide +kernel
theorem dX10_feed_35 : decode cX10_feed 35 = .ok (.iload_n 1, 1) := by decide +kernel
theorem dX10_feed_36 : decode cX10_feed 36 = .ok (.iastore, 1) := by decide +kernel
theorem dX10_feed_37 : decode cX10_feed 37 = .ok (.aload_n 0, 1) := by decide +kernel
theorem dX10_feed_38 : decode cX10_feed 38 = .ok (.dup, 1) := by decide +kernel
theorem dX10_feed_39 : decode cX10_feed 39 = .ok (.getfield 159, 3) := by decide +kernel
theorem dX10_feed_42 : decode cX10_feed 42 = .ok (.iconst 1, 1) := by decide +kernel
theorem dX10_feed_43 : decode cX10_feed 43 = .ok (.iadd, 1) := by decide +kernel
theorem dX10_feed_44 : decode cX10_feed 44 = .ok (.putfield 159, 3) := by decide +kernel
theorem dX10_feed_47 : decode cX10_feed 47 = .ok (.aload_n 0, 1) := by decide +kernel
theorem dX10_feed_48 : decode cX10_feed 48 = .ok (.getfield 159, 3) := by decide +kernel
theorem dX10_feed_51 : decode cX10_feed 51 = .ok (.ireturn, 1) := by decide +kernel
theorem dX10_clear_0 : decode cX10_clear 0 = .ok (.aload_n 0, 1) := by decide +kernel
theorem dX10_clear_1 : decode cX10_clear 1 = .ok (.getfield 159, 3) := by decide +kernel
theorem dX10_clear_4 : decode cX10_clear 4 = .ok (.istore_n 1, 1) := by decide +kernel
theorem dX10_clear_5 : decode cX10_clear 5 = .ok (.aload_n 0, 1) := by decide +kernel
theorem dX10_clear_6 : decode cX10_clear 6 = .ok (.iconst 0, 1) := by decide +kernel
theorem dX10_clear_7 : decode cX10_clear 7 = .ok (.putfield 159, 3) := by decide +kernel
theorem dX10_clear_10 : decode cX10_clear 10 = .ok (.iload_n 1, 1) := by decide +kernel
theorem dX10_clear_11 : decode cX10_clear 11 = .ok (.ireturn, 1) := by decide +kernel
theorem dX10_here_0 : decode cX10_here 0 = .ok (.aload_n 0, 1) := by decide +kernel
theorem dX10_here_1 : decode cX10_here 1 = .ok (.getfield 163, 3) := by decide +kernel
theorem dX10_here_4 : decode cX10_here 4 = .ok (.aload_n 0, 1) := by decide +kernel
theorem dX10_here_5 : decode cX10_here 5 = .ok (.getfield 159, 3) := by decide +kernel
theorem dX10_here_8 : decode cX10_here 8 = .ok (.if_icmp .ge 15, 3) := by decide +kernel
theorem dX10_here_11 : decode cX10_here 11 = .ok (.aload_n 0, 1) := by decide +kernel
theorem dX10_here_12 : decode cX10_here 12 = .ok (.getfield 21, 3) := by decide +kernel
theorem dX10_here_15 : decode cX10_here 15 = .ok (.aload_n 0, 1) := by decide +kernel
theorem dX10_here_16 : decode cX10_here 16 = .ok (.getfield 163, 3) := by decide +kernel
theorem dX10_here_19 : decode cX10_here 19 = .ok (.iaload, 1) := by decide +kernel
theorem dX10_here_20 : decode cX10_here 20 = .ok (.goto 4, 3) := by decide +kernel
theorem dX10_here_23 : decode cX10_here 23 = .ok (.iconst (-1), 1) := by decide +kernel
theorem dX10_here_24 : decode cX10_here 24 = .ok (.ireturn, 1) := by decide +kernel
theorem dX10_wants_0 : decode cX10_wants 0 = .ok (.aload_n 0, 1) := by decide +kernel
theorem dX10_wants_1 : decode cX10_wants 1 = .ok (.aload_n 0, 1) := by decide +kernel
theorem dX10_wants_2 : decode cX10_wants 2 = .ok (.getfield 166, 3) := by decide +kernel
theorem dX10_wants_5 : decode cX10_wants 5 = .ok (.ifCond .ne 11, 3) := by decide +kernel
theorem dX10_wants_8 : decode cX10_wants 8 = .ok (.aload_n 0, 1) := by decide +kernel
theorem dX10_wants_9 : decode cX10_wants 9 = .ok (.invokevirtual 170, 3) := by decide +kernel
theorem dX10_wants_12 : decode cX10_wants 12 = .ok (.iload_n 1, 1) := by decide +kernel
theorem dX10_wants_13 : decode cX10_wants 13 = .ok (.if_icmp .eq 7, 3) := by decide +kernel
theorem dX10_wants_16 : decode cX10_wants 16 = .ok (.iconst 1, 1) := by decide +kernel
theorem dX10_wants_17 : decode cX10_wants 17 = .ok (.goto 4, 3) := by decide +kernel
theorem dX10_wants_20 : decode cX10_wants 20 = .ok (.iconst 0, 1) := by decide +kernel
theorem dX10_wants_21 : decode cX10_wants 21 = .ok (.putfield 166, 3) := by decide +kernel
theorem dX10_wants_24 : decode cX10_wants 24 = .ok (.aload_n 0, 1) := by decide +kernel
theorem dX10_wants_25 : decode cX10_wants 25 = .ok (.dup, 1) := by decide +kernel
theorem dX10_wants_26 : decode cX10_wants 26 = .ok (.getfield 163, 3) := by decide +kernel
theorem dX10_wants_29 : decode cX10_wants 29 = .ok (.aload_n 0, 1) := by decide +kernel
theorem dX10_wants_30 : decode cX10_wants 30 = .ok (.getfield 166, 3) := by decide +kernel
theorem dX10_wants_33 : decode cX10_wants 33 = .ok (.ifCond .eq 7, 3) := by decide +kernel
theorem dX10_wants_36 : decode cX10_wants 36 = .ok (.iconst 0, 1) := by decide +kernel
theorem dX10_wants_37 : decode cX10_wants 37 = .ok (.goto 4, 3) := by decide +kernel
theorem dX10_wants_40 : decode cX10_wants 40 = .ok (.iconst 1, 1) := by decide +kernel
theorem dX10_wants_41 : decode cX10_wants 41 = .ok (.iadd, 1) := by decide +kernel
theorem dX10_wants_42 : decode cX10_wants 42 = .ok (.putfield 163, 3) := by decide +kernel
theorem dX10_wants_45 : decode cX10_wants 45 = .ok (.return_, 1) := by decide +kernel
theorem dX10_readNumber_0 : decode cX10_readNumber 0 = .ok (.aload_n 0, 1) := by decide +kernel
theorem dX10_readNumber_1 : decode cX10_readNumber 1 = .ok (.getfield 163, 3) := by decide +kernel
theorem dX10_readNumber_4 : decode cX10_readNumber 4 = .ok (.istore_n 3, 1) := by decide +kernel
theorem dX10_readNumber_5 : decode cX10_readNumber 5 = .ok (.iconst 0, 1) := by decide +kernel
theorem dX10_readNumber_6 : decode cX10_readNumber 6 = .ok (.istore 4, 2) := by decide +kernel
theorem dX10_readNumber_8 : decode cX10_readNumber 8 = .ok (.aload_n 0, 1) := by decide +kernel
theorem dX10_readNumber_9 : decode cX10_readNumber 9 = .ok (.aload_n 0, 1) := by decide +kernel
theorem dX10_readNumber_10 : decode cX10_readNumber 10 = .ok (.getfield 166, 3) := by decide +kernel
theorem dX10_readNumber_13 : decode cX10_readNumber 13 = .ok (.ifCond .ne 20, 3) := by decide +kernel
theorem dX10_readNumber_16 : decode cX10_readNumber 16 = .ok (.aload_n 0, 1) := by decide +kernel
theorem dX10_readNumber_17 : decode cX10_readNumber 17 = .ok (.invokevirtual 170, 3) := by decide +kernel
theorem dX10_readNumber_20 : decode cX10_readNumber 20 = .ok (.i2l, 1) := by decide +kernel
theorem dX10_readNumber_21 : decode cX10_readNumber 21 = .ok (.ldc2_w 173, 3) := by decide +kernel
theorem dX10_readNumber_24 : decode cX10_readNumber 24 = .ok (.ldc2_w 175, 3) := by decide +kernel
theorem dX10_readNumber_27 : decode cX10_readNumber 27 = .ok (.invokestatic 89, 3) := by decide +kernel
theorem dX10_readNumber_30 : decode cX10_readNumber 30 = .ok (.ifCond .ne 7, 3) := by decide +kernel
theorem dX10_readNumber_33 : decode cX10_readNumber 33 = .ok (.iconst 1, 1) := by decide +kernel
theorem dX10_readNumber_34 : decode cX10_readNumber 34 = .ok (.goto 4, 3) := by decide +kernel
theorem dX10_readNumber_37 : decode cX10_readNumber 37 = .ok (.iconst 0, 1) := by decide +kernel
theorem dX10_readNumber_38 : decode cX10_readNumber 38 = .ok (.putfield 166, 3) := by decide +kernel
theorem dX10_readNumber_41 : decode cX10_readNumber 41 = .ok (.iconst 0, 1) := by decide +kernel
theorem dX10_readNumber_42 : decode cX10_readNumber 42 = .ok (.istore 5, 2) := by decide +kernel
theorem dX10_readNumber_44 : decode cX10_readNumber 44 = .ok (.iload 5, 2) := by decide +kernel
theorem dX10_readNumber_46 : decode cX10_readNumber 46 = .ok (.iload_n 1, 1) := by decide +kernel
theorem dX10_readNumber_47 : decode cX10_readNumber 47 = .ok (.if_icmp .ge 58, 3) := by decide +kernel
theorem dX10_readNumber_50 : decode cX10_readNumber 50 = .ok (.aload_n 0, 1) := by decide +kernel
theorem dX10_readNumber_51 : decode cX10_readNumber 51 = .ok (.getfield 166, 3) := by decide +kernel
theorem dX10_readNumber_54 : decode cX10_readNumber 54 = .ok (.ifCond .ne 51, 3) := by decide +kernel
theorem dX10_readNumber_57 : decode cX10_readNumber 57 = .ok (.aload_n 0, 1) := by decide +kernel
theorem dX10_readNumber_58 : decode cX10_readNumber 58 = .ok (.invokevirtual 170, 3) := by decide +kernel
theorem dX10_readNumber_61 : decode cX10_readNumber 61 = .ok (.i2l, 1) := by decide +kernel
theorem dX10_readNumber_62 : decode cX10_readNumber 62 = .ok (.ldc2_w 173, 3) := by decide +kernel
theorem dX10_readNumber_65 : decode cX10_readNumber 65 = .ok (.ldc2_w 175, 3) := by decide +kernel
theorem dX10_readNumber_68 : decode cX10_readNumber 68 = .ok (.invokestatic 89, 3) := by decide +kernel
theorem dX10_readNumber_71 : decode cX10_readNumber 71 = .ok (.ifCond .eq 34, 3) := by decide +kernel
theorem dX10_readNumber_74 : decode cX10_readNumber 74 = .ok (.bipush 10, 2) := by decide +kernel
theorem dX10_readNumber_76 : decode cX10_readNumber 76 = .ok (.iload 4, 2) := by decide +kernel
theorem dX10_readNumber_78 : decode cX10_readNumber 78 = .ok (.imul, 1) := by decide +kernel
theorem dX10_readNumber_79 : decode cX10_readNumber 79 = .ok (.aload_n 0, 1) := by decide +kernel
theorem dX10_readNumber_80 : decode cX10_readNumber 80 = .ok (.invokevirtual 170, 3) := by decide +kernel
theorem dX10_readNumber_83 : decode cX10_readNumber 83 = .ok (.iadd, 1) := by decide +kernel
theorem dX10_readNumber_84 : decode cX10_readNumber 84 = .ok (.bipush 48, 2) := by decide +kernel
theorem dX10_readNumber_86 : decode cX10_readNumber 86 = .ok (.isub, 1) := by decide +kernel
theorem dX10_readNumber_87 : decode cX10_readNumber 87 = .ok (.istore 4, 2) := by decide +kernel
theorem dX10_readNumber_89 : decode cX10_readNumber 89 = .ok (.aload_n 0, 1) := by decide +kernel
theorem dX10_readNumber_90 : decode cX10_readNumber 90 = .ok (.dup, 1) := by decide +kernel
theorem dX10_readNumber_91 : decode cX10_readNumber 91 = .ok (.getfield 163, 3) := by decide +kernel
theorem dX10_readNumber_94 : decode cX10_readNumber 94 = .ok (.iconst 1, 1) := by decide +kernel
theorem dX10_readNumber_95 : decode cX10_readNumber 95 = .ok (.iadd, 1) := by decide +kernel
theorem dX10_readNumber_96 : decode cX10_readNumber 96 = .ok (.putfield 163, 3) := by decide +kernel
theorem dX10_readNumber_99 : decode cX10_readNumber 99 = .ok (.iinc 5 1, 3) := by decide +kernel
theorem dX10_readNumber_102 : decode cX10_readNumber 102 = .ok (.goto (-58), 3) := by decide +kernel
theorem dX10_readNumber_105 : decode cX10_readNumber 105 = .ok (.aload_n 0, 1) := by decide +kernel
theorem dX10_readNumber_106 : decode cX10_readNumber 106 = .ok (.getfield 166, 3) := by decide +kernel
theorem dX10_readNumber_109 : decode cX10_readNumber 109 = .ok (.ifCond .ne 19, 3) := by decide +kernel
theorem dX10_readNumber_112 : decode cX10_readNumber 112 = .ok (.iload 4, 2) := by decide +kernel
theorem dX10_readNumber_114 : decode cX10_readNumber 114 = .ok (.iload_n 2, 1) := by decide +kernel
theorem dX10_readNumber_115 : decode cX10_readNumber 115 = .ok (.if_icmp .le 13, 3) := by decide +kernel
theorem dX10_readNumber_118 : decode cX10_readNumber 118 = .ok (.aload_n 0, 1) := by decide +kernel
theorem dX10_readNumber_119 : decode cX10_readNumber 119 = .ok (.iconst 1, 1) := by decide +kernel
theorem dX10_readNumber_120 : decode cX10_readNumber 120 = .ok (.putfield 166, 3) := by decide +kernel
theorem dX10_readNumber_123 : decode cX10_readNumber 123 = .ok (.aload_n 0, 1) := by decide +kernel
theorem dX10_readNumber_124 : decode cX10_readNumber 124 = .ok (.iload_n 3, 1) := by decide +kernel
theorem dX10_readNumber_125 : decode cX10_readNumber 125 = .ok (.putfield 163, 3) := by decide +kernel
theorem dX10_readNumber_128 : decode cX10_readNumber 128 = .ok (.iload 4, 2) := by decide +kernel
theorem dX10_readNumber_130 : decode cX10_readNumber 130 = .ok (.ireturn, 1) := by decide +kernel
theorem dX10_goesOn_0 : decode cX10_goesOn 0 = .ok (.aload_n 0, 1) := by decide +kernel
theorem dX10_goesOn_1 : decode cX10_goesOn 1 = .ok (.getfield 166, 3) := by decide +kernel
theorem dX10_goesOn_4 : decode cX10_goesOn 4 = .ok (.ifCond .ne 15, 3) := by decide +kernel
theorem dX10_goesOn_7 : decode cX10_goesOn 7 = .ok (.aload_n 0, 1) := by decide +kernel
theorem dX10_goesOn_8 : decode cX10_goesOn 8 = .ok (.invokevirtual 170, 3) := by decide +kernel
theorem dX10_goesOn_11 : decode cX10_goesOn 11 = .ok (.iload_n 1, 1) := by decide +kernel
theorem dX10_goesOn_12 : decode cX10_goesOn 12 = .ok (.if_icmp .ne 7, 3) := by decide +kernel
theorem dX10_goesOn_15 : decode cX10_goesOn 15 = .ok (.iconst 1, 1) := by decide +kernel
theorem dX10_goesOn_16 : decode cX10_goesOn 16 = .ok (.goto 4, 3) := by decide +kernel
theorem dX10_goesOn_19 : decode cX10_goesOn 19 = .ok (.iconst 0, 1) := by decide +kernel
theorem dX10_goesOn_20 : decode cX10_goesOn 20 = .ok (.istore_n 2, 1) := by decide +kernel
theorem dX10_goesOn_21 : decode cX10_goesOn 21 = .ok (.aload_n 0, 1) := by decide +kernel
theorem dX10_goesOn_22 : decode cX10_goesOn 22 = .ok (.dup, 1) := by decide +kernel
theorem dX10_goesOn_23 : decode cX10_goesOn 23 = .ok (.getfield 163, 3) := by decide +kernel
theorem dX10_goesOn_26 : decode cX10_goesOn 26 = .ok (.iload_n 2, 1) := by decide +kernel
theorem dX10_goesOn_27 : decode cX10_goesOn 27 = .ok (.ifCond .eq 7, 3) := by decide +kernel
theorem dX10_goesOn_30 : decode cX10_goesOn 30 = .ok (.iconst 1, 1) := by decide +kernel
theorem dX10_goesOn_31 : decode cX10_goesOn 31 = .ok (.goto 4, 3) := by decide +kernel
theorem dX10_goesOn_34 : decode cX10_goesOn 34 = .ok (.iconst 0, 1) := by decide +kernel
theorem dX10_goesOn_35 : decode cX10_goesOn 35 = .ok (.iadd, 1) := by decide +kernel
theorem dX10_goesOn_36 : decode cX10_goesOn 36 = .ok (.putfield 163, 3) := by decide +kernel
theorem dX10_goesOn_39 : decode cX10_goesOn 39 = .ok (.iload_n 2, 1) := by decide +kernel
theorem dX10_goesOn_40 : decode cX10_goesOn 40 = .ok (.ireturn, 1) := by decide +kernel
theorem dX10_readRoad_0 : decode cX10_readRoad 0 = .ok (.bipush 7, 2) := by decide +kernel
theorem dX10_readRoad_2 : decode cX10_readRoad 2 = .ok (.aload_n 0, 1) := by decide +kernel
theorem dX10_readRoad_3 : decode cX10_readRoad 3 = .ok (.getfield 177, 3) := by decide +kernel
theorem dX10_readRoad_6 : decode cX10_readRoad 6 = .ok (.imul, 1) := by decide +kernel
theorem dX10_readRoad_7 : decode cX10_readRoad 7 = .ok (.istore_n 1, 1) := by decide +kernel
theorem dX10_readRoad_8 : decode cX10_readRoad 8 = .ok (.aload_n 0, 1) := by decide +kernel
theorem dX10_readRoad_9 : decode cX10_readRoad 9 = .ok (.invokevirtual 85, 3) := by decide +kernel
theorem dX10_readRoad_12 : decode cX10_readRoad 12 = .ok (.aload_n 0, 1) := by decide +kernel
theorem dX10_readRoad_13 : decode cX10_readRoad 13 = .ok (.getfield 177, 3) := by decide +kernel
theorem dX10_readRoad_16 : decode cX10_readRoad 16 = .ok (.iadd, 1) := by decide +kernel
theorem dX10_readRoad_17 : decode cX10_readRoad 17 = .ok (.bipush 12, 2) := by decide +kernel
theorem dX10_readRoad_19 : decode cX10_readRoad 19 = .ok (.if_icmp .ne 9, 3) := by decide +kernel
theorem dX10_readRoad_22 : decode cX10_readRoad 22 = .ok (.aload_n 0, 1) := by decide +kernel
theorem dX10_readRoad_23 : decode cX10_readRoad 23 = .ok (.iconst 1, 1) := by decide +kernel
theorem dX10_readRoad_24 : decode cX10_readRoad 24 = .ok (.putfield 166, 3) := by decide +kernel
theorem dX10_readRoad_27 : decode cX10_readRoad 27 = .ok (.return_, 1) := by decide +kernel
theorem dX10_readRoad_28 : decode cX10_readRoad 28 = .ok (.aload_n 0, 1) := by decide +kernel
theorem dX10_readRoad_29 : decode cX10_readRoad 29 = .ok (.getfield 9, 3) := by decide +kernel
theorem dX10_readRoad_32 : decode cX10_readRoad 32 = .ok (.iconst 0, 1) := by decide +kernel
theorem dX10_readRoad_33 : decode cX10_readRoad 33 = .ok (.laload, 1) := by decide +kernel
theorem dX10_readRoad_34 : decode cX10_readRoad 34 = .ok (.l2i, 1) := by decide +kernel
theorem dX10_readRoad_35 : decode cX10_readRoad 35 = .ok (.iconst 1, 1) := by decide +kernel
theorem dX10_readRoad_36 : decode cX10_readRoad 36 = .ok (.isub, 1) := by decide +kernel
theorem dX10_readRoad_37 : decode cX10_readRoad 37 = .ok (.istore_n 2, 1) := by decide +kernel
theorem dX10_readRoad_38 : decode cX10_readRoad 38 = .ok (.aload_n 0, 1) := by decide +kernel
theorem dX10_readRoad_39 : decode cX10_readRoad 39 = .ok (.getfield 25, 3) := by decide +kernel
theorem dX10_readRoad_42 : decode cX10_readRoad 42 = .ok (.iload_n 1, 1) := by decide +kernel
theorem dX10_readRoad_43 : decode cX10_readRoad 43 = .ok (.aload_n 0, 1) := by decide +kernel
theorem dX10_readRoad_44 : decode cX10_readRoad 44 = .ok (.iconst 1, 1) := by decide +kernel
theorem dX10_readRoad_45 : decode cX10_readRoad 45 = .ok (.iload_n 2, 1) := by decide +kernel
theorem dX10_readRoad_46 : decode cX10_readRoad 46 = .ok (.invokevirtual 180, 3) := by decide +kernel
theorem dX10_readRoad_49 : decode cX10_readRoad 49 = .ok (.iastore, 1) := by decide +kernel
theorem dX10_readRoad_50 : decode cX10_readRoad 50 = .ok (.aload_n 0, 1) := by decide +kernel
theorem dX10_readRoad_51 : decode cX10_readRoad 51 = .ok (.bipush 62, 2) := by decide +kernel
theorem dX10_readRoad_53 : decode cX10_readRoad 53 = .ok (.invokevirtual 184, 3) := by decide +kernel
theorem dX10_readRoad_56 : decode cX10_readRoad 56 = .ok (.aload_n 0, 1) := by decide +kernel
theorem dX10_readRoad_57 : decode cX10_readRoad 57 = .ok (.getfield 25, 3) := by decide +kernel
theorem dX10_readRoad_60 : decode cX10_readRoad 60 = .ok (.iload_n 1, 1) := by decide +kernel
theorem dX10_readRoad_61 : decode cX10_readRoad 61 = .ok (.iconst 1, 1) := by decide +kernel
theorem dX10_readRoad_62 : decode cX10_readRoad 62 = .ok (.iadd, 1) := by decide +kernel
theorem dX10_readRoad_63 : decode cX10_readRoad 63 = .ok (.aload_n 0, 1) := by decide +kernel
theorem dX10_readRoad_64 : decode cX10_readRoad 64 = .ok (.iconst 1, 1) := by decide +kernel
theorem dX10_readRoad_65 : decode cX10_readRoad 65 = .ok (.iload_n 2, 1) := by decide +kernel
theorem dX10_readRoad_66 : decode cX10_readRoad 66 = .ok (.invokevirtual 180, 3) := by decide +kernel
theorem dX10_readRoad_69 : decode cX10_readRoad 69 = .ok (.iastore, 1) := by decide +kernel
theorem dX10_readRoad_70 : decode cX10_readRoad 70 = .ok (.aload_n 0, 1) := by decide +kernel
theorem dX10_readRoad_71 : decode cX10_readRoad 71 = .ok (.getfield 166, 3) := by decide +kernel
theorem dX10_readRoad_74 : decode cX10_readRoad 74 = .ok (.ifCond .ne 35, 3) := by decide +kernel
theorem dX10_readRoad_77 : decode cX10_readRoad 77 = .ok (.aload_n 0, 1) := by decide +kernel
theorem dX10_readRoad_78 : decode cX10_readRoad 78 = .ok (.getfield 25, 3) := by decide +kernel
theorem dX10_readRoad_81 : decode cX10_readRoad 81 = .ok (.iload_n 1, 1) := by decide +kernel
theorem dX10_readRoad_82 : decode cX10_readRoad 82 = .ok (.iconst 1, 1) := by decide +kernel
theorem dX10_readRoad_83 : decode cX10_readRoad 83 = .ok (.iadd, 1) := by decide +kernel
theorem dX10_readRoad_84 : decode cX10_readRoad 84 = .ok (.iaload, 1) := by decide +kernel
theorem dX10_readRoad_85 : decode cX10_readRoad 85 = .ok (.aload_n 0, 1) := by decide +kernel
theorem dX10_readRoad_86 : decode cX10_readRoad 86 = .ok (.getfield 25, 3) := by decide +kernel
theorem dX10_readRoad_89 : decode cX10_readRoad 89 = .ok (.iload_n 1, 1) := by decide +kernel
theorem dX10_readRoad_90 : decode cX10_readRoad 90 = .ok (.iaload, 1) := by decide +kernel
theorem dX10_readRoad_91 : decode cX10_readRoad 91 = .ok (.if_icmp .ne 18, 3) := by decide +kernel
theorem dX10_readRoad_94 : decode cX10_readRoad 94 = .ok (.aload_n 0, 1) := by decide +kernel
theorem dX10_readRoad_95 : decode cX10_readRoad 95 = .ok (.iconst 1, 1) := by decide +kernel
theorem dX10_readRoad_96 : decode cX10_readRoad 96 = .ok (.putfield 166, 3) := by decide +kernel
theorem dX10_readRoad_99 : decode cX10_readRoad 99 = .ok (.aload_n 0, 1) := by decide +kernel
theorem dX10_readRoad_100 : decode cX10_readRoad 100 = .ok (.dup, 1) := by decide +kernel
theorem dX10_readRoad_101 : decode cX10_readRoad 101 = .ok (.getfield 163, 3) := by decide +kernel
theorem dX10_readRoad_104 : decode cX10_readRoad 104 = .ok (.iconst 1, 1) := by decide +kernel
theorem dX10_readRoad_105 : decode cX10_readRoad 105 = .ok (.isub, 1) := by decide +kernel
theorem dX10_readRoad_106 : decode cX10_readRoad 106 = .ok (.putfield 163, 3) := by decide +kernel
theorem dX10_readRoad_109 : decode cX10_readRoad 109 = .ok (.aload_n 0, 1) := by decide +kernel
theorem dX10_readRoad_110 : decode cX10_readRoad 110 = .ok (.bipush 61, 2) := by decide +kernel
theorem dX10_readRoad_112 : decode cX10_readRoad 112 = .ok (.invokevirtual 184, 3) := by decide +kernel
theorem dX10_readRoad_115 : decode cX10_readRoad 115 = .ok (.aload_n 0, 1) := by decide +kernel
theorem dX10_readRoad_116 : decode cX10_readRoad 116 = .ok (.getfield 25, 3) := by decide +kernel
theorem dX10_readRoad_119 : decode cX10_readRoad 119 = .ok (.iload_n 1, 1) := by decide +kernel
theorem dX10_readRoad_120 : decode cX10_readRoad 120 = .ok (.iconst 3, 1) := by decide +kernel
theorem dX10_readRoad_121 : decode cX10_readRoad 121 = .ok (.iadd, 1) := by decide +kernel
theorem dX10_readRoad_122 : decode cX10_readRoad 122 = .ok (.aload_n 0, 1) := by decide +kernel
theorem dX10_readRoad_123 : decode cX10_readRoad 123 = .ok (.bipush 6, 2) := by decide +kernel
theorem dX10_readRoad_125 : decode cX10_readRoad 125 = .ok (.ldc 187, 2) := by decide +kernel
theorem dX10_readRoad_127 : decode cX10_readRoad 127 = .ok (.invokevirtual 180, 3) := by decide +kernel
theorem dX10_readRoad_130 : decode cX10_readRoad 130 = .ok (.iastore, 1) := by decide +kernel
theorem dX10_readRoad_131 : decode cX10_readRoad 131 = .ok (.aload_n 0, 1) := by decide +kernel
theorem dX10_readRoad_132 : decode cX10_readRoad 132 = .ok (.getfield 25, 3) := by decide +kernel
theorem dX10_readRoad_135 : decode cX10_readRoad 135 = .ok (.iload_n 1, 1) := by decide +kernel
theorem dX10_readRoad_136 : decode cX10_readRoad 136 = .ok (.iconst 2, 1) := by decide +kernel
theorem dX10_readRoad_137 : decode cX10_readRoad 137 = .ok (.iadd, 1) := by decide +kernel
theorem dX10_readRoad_138 : decode cX10_readRoad 138 = .ok (.iconst 0, 1) := by decide +kernel
theorem dX10_readRoad_139 : decode cX10_readRoad 139 = .ok (.iastore, 1) := by decide +kernel
theorem dX10_readRoad_140 : decode cX10_readRoad 140 = .ok (.aload_n 0, 1) := by decide +kernel
theorem dX10_readRoad_141 : decode cX10_readRoad 141 = .ok (.getfield 25, 3) := by decide +kernel
theorem dX10_readRoad_144 : decode cX10_readRoad 144 = .ok (.iload_n 1, 1) := by decide +kernel
theorem dX10_readRoad_145 : decode cX10_readRoad 145 = .ok (.iconst 4, 1) := by decide +kernel
theorem dX10_readRoad_146 : decode cX10_readRoad 146 = .ok (.iadd, 1) := by decide +kernel
theorem dX10_readRoad_147 : decode cX10_readRoad 147 = .ok (.iconst 0, 1) := by decide +kernel
theorem dX10_readRoad_148 : decode cX10_readRoad 148 = .ok (.iastore, 1) := by decide +kernel
theorem dX10_readRoad_149 : decode cX10_readRoad 149 = .ok (.aload_n 0, 1) := by decide +kernel
theorem dX10_readRoad_150 : decode cX10_readRoad 150 = .ok (.getfield 25, 3) := by decide +kernel
theorem dX10_readRoad_153 : decode cX10_readRoad 153 = .ok (.iload_n 1, 1) := by decide +kernel
theorem dX10_readRoad_154 : decode cX10_readRoad 154 = .ok (.iconst 5, 1) := by decide +kernel
theorem dX10_readRoad_155 : decode cX10_readRoad 155 = .ok (.iadd, 1) := by decide +kernel
theorem dX10_readRoad_156 : decode cX10_readRoad 156 = .ok (.iconst 0, 1) := by decide +kernel
theorem dX10_readRoad_157 : decode cX10_readRoad 157 = .ok (.iastore, 1) := by decide +kernel
theorem dX10_readRoad_158 : decode cX10_readRoad 158 = .ok (.aload_n 0, 1) := by decide +kernel
theorem dX10_readRoad_159 : decode cX10_readRoad 159 = .ok (.getfield 25, 3) := by decide +kernel
theorem dX10_readRoad_162 : decode cX10_readRoad 162 = .ok (.iload_n 1, 1) := by decide +kernel
theorem dX10_readRoad_163 : decode cX10_readRoad 163 = .ok (.bipush 6, 2) := by decide +kernel
theorem dX10_readRoad_165 : decode cX10_readRoad 165 = .ok (.iadd, 1) := by decide +kernel
theorem dX10_readRoad_166 : decode cX10_readRoad 166 = .ok (.iconst 0, 1) := by decide +kernel
theorem dX10_readRoad_167 : decode cX10_readRoad 167 = .ok (.iastore, 1) := by decide +kernel
theorem dX10_readRoad_168 : decode cX10_readRoad 168 = .ok (.aload_n 0, 1) := by decide +kernel
theorem dX10_readRoad_169 : decode cX10_readRoad 169 = .ok (.bipush 43, 2) := by decide +kernel
theorem dX10_readRoad_171 : decode cX10_readRoad 171 = .ok (.invokevirtual 188, 3) := by decide +kernel
theorem dX10_readRoad_174 : decode cX10_readRoad 174 = .ok (.ifCond .eq 84, 3) := by decide +kernel
theorem dX10_readRoad_177 : decode cX10_readRoad 177 = .ok (.aload_n 0, 1) := by decide +kernel
theorem dX10_readRoad_178 : decode cX10_readRoad 178 = .ok (.getfield 25, 3) := by decide +kernel
theorem dX10_readRoad_181 : decode cX10_readRoad 181 = .ok (.iload_n 1, 1) := by decide +kernel
theorem dX10_readRoad_182 : decode cX10_readRoad 182 = .ok (.iconst 2, 1) := by decide +kernel
theorem dX10_readRoad_183 : decode cX10_readRoad 183 = .ok (.iadd, 1) := by decide +kernel
theorem dX10_readRoad_184 : decode cX10_readRoad 184 = .ok (.iconst 1, 1) := by decide +kernel
theorem dX10_readRoad_185 : decode cX10_readRoad 185 = .ok (.iastore, 1) := by decide +kernel
theorem dX10_readRoad_186 : decode cX10_readRoad 186 = .ok (.aload_n 0, 1) := by decide +kernel
theorem dX10_readRoad_187 : decode cX10_readRoad 187 = .ok (.getfield 25, 3) := by decide +kernel
theorem dX10_readRoad_190 : decode cX10_readRoad 190 = .ok (.iload_n 1, 1) := by decide +kernel
theorem dX10_readRoad_191 : decode cX10_readRoad 191 = .ok (.iconst 4, 1) := by decide +kernel
theorem dX10_readRoad_192 : decode cX10_readRoad 192 = .ok (.iadd, 1) := by decide +kernel
theorem dX10_readRoad_193 : decode cX10_readRoad 193 = .ok (.aload_n 0, 1) := by decide +kernel
theorem dX10_readRoad_194 : decode cX10_readRoad 194 = .ok (.bipush 6, 2) := by decide +kernel
theorem dX10_readRoad_196 : decode cX10_readRoad 196 = .ok (.ldc 187, 2) := by decide +kernel
theorem dX10_readRoad_198 : decode cX10_readRoad 198 = .ok (.invokevirtual 180, 3) := by decide +kernel
theorem dX10_readRoad_201 : decode cX10_readRoad 201 = .ok (.iastore, 1) := by decide +kernel
theorem dX10_readRoad_202 : decode cX10_readRoad 202 = .ok (.aload_n 0, 1) := by decide +kernel
theorem dX10_readRoad_203 : decode cX10_readRoad 203 = .ok (.bipush 94, 2) := by decide +kernel
theorem dX10_readRoad_205 : decode cX10_readRoad 205 = .ok (.invokevirtual 188, 3) := by decide +kernel
theorem dX10_readRoad_208 : decode cX10_readRoad 208 = .ok (.ifCond .eq 50, 3) := by decide +kernel
theorem dX10_readRoad_211 : decode cX10_readRoad 211 = .ok (.aload_n 0, 1) := by decide +kernel
theorem dX10_readRoad_212 : decode cX10_readRoad 212 = .ok (.getfield 25, 3) := by decide +kernel
theorem dX10_readRoad_215 : decode cX10_readRoad 215 = .ok (.iload_n 1, 1) := by decide +kernel
theorem dX10_readRoad_216 : decode cX10_readRoad 216 = .ok (.iconst 2, 1) := by decide +kernel
theorem dX10_readRoad_217 : decode cX10_readRoad 217 = .ok (.iadd, 1) := by decide +kernel
theorem dX10_readRoad_218 : decode cX10_readRoad 218 = .ok (.iconst 2, 1) := by decide +kernel
theorem dX10_readRoad_219 : decode cX10_readRoad 219 = .ok (.iastore, 1) := by decide +kernel
theorem dX10_readRoad_220 : decode cX10_readRoad 220 = .ok (.aload_n 0, 1) := by decide +kernel
theorem dX10_readRoad_221 : decode cX10_readRoad 221 = .ok (.getfield 25, 3) := by decide +kernel
theorem dX10_readRoad_224 : decode cX10_readRoad 224 = .ok (.iload_n 1, 1) := by decide +kernel
theorem dX10_readRoad_225 : decode cX10_readRoad 225 = .ok (.bipush 6, 2) := by decide +kernel
theorem dX10_readRoad_227 : decode cX10_readRoad 227 = .ok (.iadd, 1) := by decide +kernel
theorem dX10_readRoad_228 : decode cX10_readRoad 228 = .ok (.aload_n 0, 1) := by decide +kernel
theorem dX10_readRoad_229 : decode cX10_readRoad 229 = .ok (.iconst 2, 1) := by decide +kernel
theorem dX10_readRoad_230 : decode cX10_readRoad 230 = .ok (.bipush 36, 2) := by decide +kernel
theorem dX10_readRoad_232 : decode cX10_readRoad 232 = .ok (.invokevirtual 180, 3) := by decide +kernel
theorem dX10_readRoad_235 : decode cX10_readRoad 235 = .ok (.iastore, 1) := by decide +kernel
theorem dX10_readRoad_236 : decode cX10_readRoad 236 = .ok (.aload_n 0, 1) := by decide +kernel
theorem dX10_readRoad_237 : decode cX10_readRoad 237 = .ok (.bipush 58, 2) := by decide +kernel
theorem dX10_readRoad_239 : decode cX10_readRoad 239 = .ok (.invokevirtual 184, 3) := by decide +kernel
theorem dX10_readRoad_242 : decode cX10_readRoad 242 = .ok (.aload_n 0, 1) := by decide +kernel
theorem dX10_readRoad_243 : decode cX10_readRoad 243 = .ok (.getfield 25, 3) := by decide +kernel
theorem dX10_readRoad_246 : decode cX10_readRoad 246 = .ok (.iload_n 1, 1) := by decide +kernel
theorem dX10_readRoad_247 : decode cX10_readRoad 247 = .ok (.iconst 5, 1) := by decide +kernel
theorem dX10_readRoad_248 : decode cX10_readRoad 248 = .ok (.iadd, 1) := by decide +kernel
theorem dX10_readRoad_249 : decode cX10_readRoad 249 = .ok (.aload_n 0, 1) := by decide +kernel
theorem dX10_readRoad_250 : decode cX10_readRoad 250 = .ok (.bipush 6, 2) := by decide +kernel
theorem dX10_readRoad_252 : decode cX10_readRoad 252 = .ok (.ldc 187, 2) := by decide +kernel
theorem dX10_readRoad_254 : decode cX10_readRoad 254 = .ok (.invokevirtual 180, 3) := by decide +kernel
theorem dX10_readRoad_257 : decode cX10_readRoad 257 = .ok (.iastore, 1) := by decide +kernel
theorem dX10_readRoad_258 : decode cX10_readRoad 258 = .ok (.aload_n 0, 1) := by decide +kernel
theorem dX10_readRoad_259 : decode cX10_readRoad 259 = .ok (.dup, 1) := by decide +kernel
theorem dX10_readRoad_260 : decode cX10_readRoad 260 = .ok (.getfield 177, 3) := by decide +kernel
theorem dX10_readRoad_263 : decode cX10_readRoad 263 = .ok (.iconst 1, 1) := by decide +kernel
theorem dX10_readRoad_264 : decode cX10_readRoad 264 = .ok (.iadd, 1) := by decide +kernel
theorem dX10_readRoad_265 : decode cX10_readRoad 265 = .ok (.putfield 177, 3) := by decide +kernel
theorem dX10_readRoad_268 : decode cX10_readRoad 268 = .ok (.return_, 1) := by decide +kernel
theorem dX10_roads_0 : decode cX10_roads 0 = .ok (.aload_n 0, 1) := by decide +kernel
theorem dX10_roads_1 : decode cX10_roads 1 = .ok (.iconst 0, 1) := by decide +kernel
theorem dX10_roads_2 : decode cX10_roads 2 = .ok (.putfield 163, 3) := by decide +kernel
theorem dX10_roads_5 : decode cX10_roads 5 = .ok (.aload_n 0, 1) := by decide +kernel
theorem dX10_roads_6 : decode cX10_roads 6 = .ok (.iconst 0, 1) := by decide +kernel
theorem dX10_roads_7 : decode cX10_roads 7 = .ok (.putfield 166, 3) := by decide +kernel
theorem dX10_roads_10 : decode cX10_roads 10 = .ok (.aload_n 0, 1) := by decide +kernel
theorem dX10_roads_11 : decode cX10_roads 11 = .ok (.iconst 0, 1) := by decide +kernel
theorem dX10_roads_12 : decode cX10_roads 12 = .ok (.putfield 177, 3) := by decide +kernel
theorem dX10_roads_15 : decode cX10_roads 15 = .ok (.aload_n 0, 1) := by decide +kernel
theorem dX10_roads_16 : decode cX10_roads 16 = .ok (.invokevirtual 191, 3) := by decide +kernel
theorem dX10_roads_19 : decode cX10_roads 19 = .ok (.aload_n 0, 1) := by decide +kernel
theorem dX10_roads_20 : decode cX10_roads 20 = .ok (.bipush 59, 2) := by decide +kernel
theorem dX10_roads_22 : decode cX10_roads 22 = .ok (.invokevirtual 188, 3) := by decide +kernel
theorem dX10_roads_25 : decode cX10_roads 25 = .ok (.ifCond .eq 10, 3) := by decide +kernel
theorem dX10_roads_28 : decode cX10_roads 28 = .ok (.aload_n 0, 1) := by decide +kernel
theorem dX10_roads_29 : decode cX10_roads 29 = .ok (.invokevirtual 191, 3) := by decide +kernel
theorem dX10_roads_32 : decode cX10_roads 32 = .ok (.goto (-13), 3) := by decide +kernel
theorem dX10_roads_35 : decode cX10_roads 35 = .ok (.aload_n 0, 1) := by decide +kernel
theorem dX10_roads_36 : decode cX10_roads 36 = .ok (.aload_n 0, 1) := by decide +kernel
theorem dX10_roads_37 : decode cX10_roads 37 = .ok (.getfield 166, 3) := by decide +kernel
theorem dX10_roads_40 : decode cX10_roads 40 = .ok (.ifCond .ne 14, 3) := by decide +kernel
theorem dX10_roads_43 : decode cX10_roads 43 = .ok (.aload_n 0, 1) := by decide +kernel
theorem dX10_roads_44 : decode cX10_roads 44 = .ok (.getfield 163, 3) := by decide +kernel
theorem dX10_roads_47 : decode cX10_roads 47 = .ok (.aload_n 0, 1) := by decide +kernel
theorem dX10_roads_48 : decode cX10_roads 48 = .ok (.getfield 159, 3) := by decide +kernel
theorem dX10_roads_51 : decode cX10_roads 51 = .ok (.if_icmp .ge 7, 3) := by decide +kernel
theorem dX10_roads_54 : decode cX10_roads 54 = .ok (.iconst 1, 1) := by decide +kernel
theorem dX10_roads_55 : decode cX10_roads 55 = .ok (.goto 4, 3) := by decide +kernel
theorem dX10_roads_58 : decode cX10_roads 58 = .ok (.iconst 0, 1) := by decide +kernel
theorem dX10_roads_59 : decode cX10_roads 59 = .ok (.putfield 166, 3) := by decide +kernel
theorem dX10_roads_62 : decode cX10_roads 62 = .ok (.aload_n 0, 1) := by decide +kernel
theorem dX10_roads_63 : decode cX10_roads 63 = .ok (.iconst 0, 1) := by decide +kernel
theorem dX10_roads_64 : decode cX10_roads 64 = .ok (.putfield 159, 3) := by decide +kernel
theorem dX10_roads_67 : decode cX10_roads 67 = .ok (.aload_n 0, 1) := by decide +kernel
theorem dX10_roads_68 : decode cX10_roads 68 = .ok (.getfield 166, 3) := by decide +kernel
theorem dX10_roads_71 : decode cX10_roads 71 = .ok (.ifCond .eq 11, 3) := by decide +kernel
theorem dX10_roads_74 : decode cX10_roads 74 = .ok (.bipush (-100), 2) := by decide +kernel
theorem dX10_roads_76 : decode cX10_roads 76 = .ok (.aload_n 0, 1) := by decide +kernel
theorem dX10_roads_77 : decode cX10_roads 77 = .ok (.getfield 163, 3) := by decide +kernel
theorem dX10_roads_80 : decode cX10_roads 80 = .ok (.isub, 1) := by decide +kernel
theorem dX10_roads_81 : decode cX10_roads 81 = .ok (.ireturn, 1) := by decide +kernel
theorem dX10_roads_82 : decode cX10_roads 82 = .ok (.iconst 0, 1) := by decide +kernel
theorem dX10_roads_83 : decode cX10_roads 83 = .ok (.istore_n 1, 1) := by decide +kernel
theorem dX10_roads_84 : decode cX10_roads 84 = .ok (.iload_n 1, 1) := by decide +kernel
theorem dX10_roads_85 : decode cX10_roads 85 = .ok (.bipush 7, 2) := by decide +kernel
theorem dX10_roads_87 : decode cX10_roads 87 = .ok (.aload_n 0, 1) := by decide +kernel
theorem dX10_roads_88 : decode cX10_roads 88 = .ok (.getfield 177, 3) := by decide +kernel
theorem dX10_roads_91 : decode cX10_roads 91 = .ok (.imul, 1) := by decide +kernel
theorem dX10_roads_92 : decode cX10_roads 92 = .ok (.if_icmp .ge 71, 3) := by decide +kernel
theorem dX10_roads_95 : decode cX10_roads 95 = .ok (.aload_n 0, 1) := by decide +kernel
theorem dX10_roads_96 : decode cX10_roads 96 = .ok (.aload_n 0, 1) := by decide +kernel
theorem dX10_roads_97 : decode cX10_roads 97 = .ok (.getfield 25, 3) := by decide +kernel
theorem dX10_roads_100 : decode cX10_roads 100 = .ok (.iload_n 1, 1) := by decide +kernel
theorem dX10_roads_101 : decode cX10_roads 101 = .ok (.iaload, 1) := by decide +kernel
theorem dX10_roads_102 : decode cX10_roads 102 = .ok (.aload_n 0, 1) := by decide +kernel
theorem dX10_roads_103 : decode cX10_roads 103 = .ok (.getfield 25, 3) := by decide +kernel
theorem dX10_roads_106 : decode cX10_roads 106 = .ok (.iload_n 1, 1) := by decide +kernel
theorem dX10_roads_107 : decode cX10_roads 107 = .ok (.iconst 1, 1) := by decide +kernel
theorem dX10_roads_108 : decode cX10_roads 108 = .ok (.iadd, 1) := by decide +kernel
theorem dX10_roads_109 : decode cX10_roads 109 = .ok (.iaload, 1) := by decide +kernel
theorem dX10_roads_110 : decode cX10_roads 110 = .ok (.aload_n 0, 1) := by decide +kernel
theorem dX10_roads_111 : decode cX10_roads 111 = .ok (.getfield 25, 3) := by decide +kernel
theorem dX10_roads_114 : decode cX10_roads 114 = .ok (.iload_n 1, 1) := by decide +kernel
theorem dX10_roads_115 : decode cX10_roads 115 = .ok (.iconst 2, 1) := by decide +kernel
theorem dX10_roads_116 : decode cX10_roads 116 = .ok (.iadd, 1) := by decide +kernel
theorem dX10_roads_117 : decode cX10_roads 117 = .ok (.iaload, 1) := by decide +kernel
theorem dX10_roads_118 : decode cX10_roads 118 = .ok (.aload_n 0, 1) := by decide +kernel
theorem dX10_roads_119 : decode cX10_roads 119 = .ok (.getfield 25, 3) := by decide +kernel
theorem dX10_roads_122 : decode cX10_roads 122 = .ok (.iload_n 1, 1) := by decide +kernel
theorem dX10_roads_123 : decode cX10_roads 123 = .ok (.iconst 3, 1) := by decide +kernel
theorem dX10_roads_124 : decode cX10_roads 124 = .ok (.iadd, 1) := by decide +kernel
theorem dX10_roads_125 : decode cX10_roads 125 = .ok (.iaload, 1) := by decide +kernel
theorem dX10_roads_126 : decode cX10_roads 126 = .ok (.i2l, 1) := by decide +kernel
theorem dX10_roads_127 : decode cX10_roads 127 = .ok (.aload_n 0, 1) := by decide +kernel
theorem dX10_roads_128 : decode cX10_roads 128 = .ok (.getfield 25, 3) := by decide +kernel
theorem dX10_roads_131 : decode cX10_roads 131 = .ok (.iload_n 1, 1) := by decide +kernel
theorem dX10_roads_132 : decode cX10_roads 132 = .ok (.iconst 4, 1) := by decide +kernel
theorem dX10_roads_133 : decode cX10_roads 133 = .ok (.iadd, 1) := by decide +kernel
theorem dX10_roads_134 : decode cX10_roads 134 = .ok (.iaload, 1) := by decide +kernel
theorem dX10_roads_135 : decode cX10_roads 135 = .ok (.i2l, 1) := by decide +kernel
theorem dX10_roads_136 : decode cX10_roads 136 = .ok (.aload_n 0, 1) := by decide +kernel
theorem dX10_roads_137 : decode cX10_roads 137 = .ok (.getfield 25, 3) := by decide +kernel
theorem dX10_roads_140 : decode cX10_roads 140 = .ok (.iload_n 1, 1) := by decide +kernel
theorem dX10_roads_141 : decode cX10_roads 141 = .ok (.iconst 5, 1) := by decide +kernel
theorem dX10_roads_142 : decode cX10_roads 142 = .ok (.iadd, 1) := by decide +kernel
theorem dX10_roads_143 : decode cX10_roads 143 = .ok (.iaload, 1) := by decide +kernel
theorem dX10_roads_144 : decode cX10_roads 144 = .ok (.i2l, 1) := by decide +kernel
theorem dX10_roads_145 : decode cX10_roads 145 = .ok (.aload_n 0, 1) := by decide +kernel
theorem dX10_roads_146 : decode cX10_roads 146 = .ok (.getfield 25, 3) := by decide +kernel
theorem dX10_roads_149 : decode cX10_roads 149 = .ok (.iload_n 1, 1) := by decide +kernel
theorem dX10_roads_150 : decode cX10_roads 150 = .ok (.bipush 6, 2) := by decide +kernel
theorem dX10_roads_152 : decode cX10_roads 152 = .ok (.iadd, 1) := by decide +kernel
theorem dX10_roads_153 : decode cX10_roads 153 = .ok (.iaload, 1) := by decide +kernel
theorem dX10_roads_154 : decode cX10_roads 154 = .ok (.invokevirtual 111, 3) := by decide +kernel
theorem dX10_roads_157 : decode cX10_roads 157 = .ok (.iinc 1 7, 3) := by decide +kernel
theorem dX10_roads_160 : decode cX10_roads 160 = .ok (.goto (-76), 3) := by decide +kernel
theorem dX10_roads_163 : decode cX10_roads 163 = .ok (.aload_n 0, 1) := by decide +kernel
theorem dX10_roads_164 : decode cX10_roads 164 = .ok (.getfield 177, 3) := by decide +kernel
theorem dX10_roads_167 : decode cX10_roads 167 = .ok (.ireturn, 1) := by decide +kernel
theorem dX10_keepsWay_0 : decode cX10_keepsWay 0 = .ok (.sipush 256, 3) := by decide +kernel
theorem dX10_keepsWay_3 : decode cX10_keepsWay 3 = .ok (.iload_n 1, 1) := by decide +kernel
theorem dX10_keepsWay_4 : decode cX10_keepsWay 4 = .ok (.imul, 1) := by decide +kernel
theorem dX10_keepsWay_5 : decode cX10_keepsWay 5 = .ok (.aload_n 0, 1) := by decide +kernel
theorem dX10_keepsWay_6 : decode cX10_keepsWay 6 = .ok (.getfield 28, 3) := by decide +kernel
theorem dX10_keepsWay_9 : decode cX10_keepsWay 9 = .ok (.iload_n 1, 1) := by decide +kernel
theorem dX10_keepsWay_10 : decode cX10_keepsWay 10 = .ok (.iaload, 1) := by decide +kernel
theorem dX10_keepsWay_11 : decode cX10_keepsWay 11 = .ok (.iadd, 1) := by decide +kernel
theorem dX10_keepsWay_12 : decode cX10_keepsWay 12 = .ok (.istore 4, 2) := by decide +kernel
theorem dX10_keepsWay_14 : decode cX10_keepsWay 14 = .ok (.aload_n 0, 1) := by decide +kernel
theorem dX10_keepsWay_15 : decode cX10_keepsWay 15 = .ok (.getfield 31, 3) := by decide +kernel
theorem dX10_keepsWay_18 : decode cX10_keepsWay 18 = .ok (.iload 4, 2) := by decide +kernel
theorem dX10_keepsWay_20 : decode cX10_keepsWay 20 = .ok (.iload_n 3, 1) := by decide +kernel
theorem dX10_keepsWay_21 : decode cX10_keepsWay 21 = .ok (.iastore, 1) := by decide +kernel
theorem dX10_keepsWay_22 : decode cX10_keepsWay 22 = .ok (.iconst 0, 1) := by decide +kernel
theorem dX10_keepsWay_23 : decode cX10_keepsWay 23 = .ok (.istore 5, 2) := by decide +kernel
theorem dX10_keepsWay_25 : decode cX10_keepsWay 25 = .ok (.iload 5, 2) := by decide +kernel
theorem dX10_keepsWay_27 : decode cX10_keepsWay 27 = .ok (.iload_n 3, 1) := by decide +kernel
theorem dX10_keepsWay_28 : decode cX10_keepsWay 28 = .ok (.if_icmp .ge 32, 3) := by decide +kernel
theorem dX10_keepsWay_31 : decode cX10_keepsWay 31 = .ok (.aload_n 0, 1) := by decide +kernel
theorem dX10_keepsWay_32 : decode cX10_keepsWay 32 = .ok (.getfield 34, 3) := by decide +kernel
theorem dX10_keepsWay_35 : decode cX10_keepsWay 35 = .ok (.iconst 5, 1) := by decide +kernel
theorem dX10_keepsWay_36 : decode cX10_keepsWay 36 = .ok (.iload 4, 2) := by decide +kernel
theorem dX10_keepsWay_38 : decode cX10_keepsWay 38 = .ok (.imul, 1) := by decide +kernel
theorem dX10_keepsWay_39 : decode cX10_keepsWay 39 = .ok (.iload 5, 2) := by decide +kernel
theorem dX10_keepsWay_41 : decode cX10_keepsWay 41 = .ok (.iadd, 1) := by decide +kernel
theorem dX10_keepsWay_42 : decode cX10_keepsWay 42 = .ok (.aload_n 0, 1) := by decide +kernel
theorem dX10_keepsWay_43 : decode cX10_keepsWay 43 = .ok (.getfield 37, 3) := by decide +kernel
theorem dX10_keepsWay_46 : decode cX10_keepsWay 46 = .ok (.iconst 5, 1) := by decide +kernel
theorem dX10_keepsWay_47 : decode cX10_keepsWay 47 = .ok (.iload_n 2, 1) := by decide +kernel
theorem dX10_keepsWay_48 : decode cX10_keepsWay 48 = .ok (.imul, 1) := by decide +kernel
theorem dX10_keepsWay_49 : decode cX10_keepsWay 49 = .ok (.iload 5, 2) := by decide +kernel
theorem dX10_keepsWay_51 : decode cX10_keepsWay 51 = .ok (.iadd, 1) := by decide +kernel
theorem dX10_keepsWay_52 : decode cX10_keepsWay 52 = .ok (.iaload, 1) := by decide +kernel
theorem dX10_keepsWay_53 : decode cX10_keepsWay 53 = .ok (.iastore, 1) := by decide +kernel
theorem dX10_keepsWay_54 : decode cX10_keepsWay 54 = .ok (.iinc 5 1, 3) := by decide +kernel
theorem dX10_keepsWay_57 : decode cX10_keepsWay 57 = .ok (.goto (-32), 3) := by decide +kernel
theorem dX10_keepsWay_60 : decode cX10_keepsWay 60 = .ok (.aload_n 0, 1) := by decide +kernel
theorem dX10_keepsWay_61 : decode cX10_keepsWay 61 = .ok (.getfield 28, 3) := by decide +kernel
theorem dX10_keepsWay_64 : decode cX10_keepsWay 64 = .ok (.iload_n 1, 1) := by decide +kernel
theorem dX10_keepsWay_65 : decode cX10_keepsWay 65 = .ok (.dup2, 1) := by decide +kernel
theorem dX10_keepsWay_66 : decode cX10_keepsWay 66 = .ok (.iaload, 1) := by decide +kernel
theorem dX10_keepsWay_67 : decode cX10_keepsWay 67 = .ok (.iconst 1, 1) := by decide +kernel
theorem dX10_keepsWay_68 : decode cX10_keepsWay 68 = .ok (.iadd, 1) := by decide +kernel
theorem dX10_keepsWay_69 : decode cX10_keepsWay 69 = .ok (.iastore, 1) := by decide +kernel
theorem dX10_keepsWay_70 : decode cX10_keepsWay 70 = .ok (.return_, 1) := by decide +kernel
theorem dX10_longer_0 : decode cX10_longer 0 = .ok (.sipush 256, 3) := by decide +kernel
theorem dX10_longer_3 : decode cX10_longer 3 = .ok (.iload_n 2, 1) := by decide +kernel
theorem dX10_longer_4 : decode cX10_longer 4 = .ok (.isub, 1) := by decide +kernel
theorem dX10_longer_5 : decode cX10_longer 5 = .ok (.istore 5, 2) := by decide +kernel
theorem dX10_longer_7 : decode cX10_longer 7 = .ok (.iconst 0, 1) := by decide +kernel
theorem dX10_longer_8 : decode cX10_longer 8 = .ok (.istore 6, 2) := by decide +kernel
theorem dX10_longer_10 : decode cX10_longer 10 = .ok (.iload_n 2, 1) := by decide +kernel
theorem dX10_longer_11 : decode cX10_longer 11 = .ok (.istore 7, 2) := by decide +kernel
theorem dX10_longer_13 : decode cX10_longer 13 = .ok (.iload 7, 2) := by decide +kernel
theorem dX10_longer_15 : decode cX10_longer 15 = .ok (.iload_n 2, 1) := by decide +kernel
theorem dX10_longer_16 : decode cX10_longer 16 = .ok (.iload_n 3, 1) := by decide +kernel
theorem dX10_longer_17 : decode cX10_longer 17 = .ok (.iadd, 1) := by decide +kernel
theorem dX10_longer_18 : decode cX10_longer 18 = .ok (.if_icmp .ge 190, 3) := by decide +kernel
theorem dX10_longer_21 : decode cX10_longer 21 = .ok (.iconst 0, 1) := by decide +kernel
theorem dX10_longer_22 : decode cX10_longer 22 = .ok (.istore 8, 2) := by decide +kernel
theorem dX10_longer_24 : decode cX10_longer 24 = .ok (.iload 8, 2) := by decide +kernel
theorem dX10_longer_26 : decode cX10_longer 26 = .ok (.aload_n 0, 1) := by decide +kernel
theorem dX10_longer_27 : decode cX10_longer 27 = .ok (.invokevirtual 85, 3) := by decide +kernel
theorem dX10_longer_30 : decode cX10_longer 30 = .ok (.if_icmp .ge 172, 3) := by decide +kernel
theorem dX10_longer_33 : decode cX10_longer 33 = .ok (.aload_n 0, 1) := by decide +kernel
theorem dX10_longer_34 : decode cX10_longer 34 = .ok (.iload 8, 2) := by decide +kernel
theorem dX10_longer_36 : decode cX10_longer 36 = .ok (.iconst 1, 1) := by decide +kernel
theorem dX10_longer_37 : decode cX10_longer 37 = .ok (.invokevirtual 128, 3) := by decide +kernel
theorem dX10_longer_40 : decode cX10_longer 40 = .ok (.l2i, 1) := by decide +kernel
theorem dX10_longer_41 : decode cX10_longer 41 = .ok (.istore 9, 2) := by decide +kernel
theorem dX10_longer_43 : decode cX10_longer 43 = .ok (.aload_n 0, 1) := by decide +kernel
theorem dX10_longer_44 : decode cX10_longer 44 = .ok (.iload 8, 2) := by decide +kernel
theorem dX10_longer_46 : decode cX10_longer 46 = .ok (.iconst 0, 1) := by decide +kernel
theorem dX10_longer_47 : decode cX10_longer 47 = .ok (.invokevirtual 128, 3) := by decide +kernel
theorem dX10_longer_50 : decode cX10_longer 50 = .ok (.aload_n 0, 1) := by decide +kernel
theorem dX10_longer_51 : decode cX10_longer 51 = .ok (.getfield 43, 3) := by decide +kernel
theorem dX10_longer_54 : decode cX10_longer 54 = .ok (.iload 7, 2) := by decide +kernel
theorem dX10_longer_56 : decode cX10_longer 56 = .ok (.iaload, 1) := by decide +kernel
theorem dX10_longer_57 : decode cX10_longer 57 = .ok (.i2l, 1) := by decide +kernel
theorem dX10_longer_58 : decode cX10_longer 58 = .ok (.lcmp, 1) := by decide +kernel
theorem dX10_longer_59 : decode cX10_longer 59 = .ok (.ifCond .ne 137, 3) := by decide +kernel
theorem dX10_longer_62 : decode cX10_longer 62 = .ok (.aload_n 0, 1) := by decide +kernel
theorem dX10_longer_63 : decode cX10_longer 63 = .ok (.getfield 40, 3) := by decide +kernel
theorem dX10_longer_66 : decode cX10_longer 66 = .ok (.iload 7, 2) := by decide +kernel
theorem dX10_longer_68 : decode cX10_longer 68 = .ok (.iaload, 1) := by decide +kernel
theorem dX10_longer_69 : decode cX10_longer 69 = .ok (.iload 9, 2) := by decide +kernel
theorem dX10_longer_71 : decode cX10_longer 71 = .ok (.ishr, 1) := by decide +kernel
theorem dX10_longer_72 : decode cX10_longer 72 = .ok (.iconst 1, 1) := by decide +kernel
theorem dX10_longer_73 : decode cX10_longer 73 = .ok (.iand, 1) := by decide +kernel
theorem dX10_longer_74 : decode cX10_longer 74 = .ok (.ifCond .ne 122, 3) := by decide +kernel
theorem dX10_longer_77 : decode cX10_longer 77 = .ok (.iload 5, 2) := by decide +kernel
theorem dX10_longer_79 : decode cX10_longer 79 = .ok (.iload 6, 2) := by decide +kernel
theorem dX10_longer_81 : decode cX10_longer 81 = .ok (.iadd, 1) := by decide +kernel
theorem dX10_longer_82 : decode cX10_longer 82 = .ok (.istore 10, 2) := by decide +kernel
theorem dX10_longer_84 : decode cX10_longer 84 = .ok (.iconst 0, 1) := by decide +kernel
theorem dX10_longer_85 : decode cX10_longer 85 = .ok (.istore 11, 2) := by decide +kernel
theorem dX10_longer_87 : decode cX10_longer 87 = .ok (.iload 11, 2) := by decide +kernel
theorem dX10_longer_89 : decode cX10_longer 89 = .ok (.iload 4, 2) := by decide +kernel
theorem dX10_longer_91 : decode cX10_longer 91 = .ok (.if_icmp .ge 33, 3) := by decide +kernel
theorem dX10_longer_94 : decode cX10_longer 94 = .ok (.aload_n 0, 1) := by decide +kernel
theorem dX10_longer_95 : decode cX10_longer 95 = .ok (.getfield 37, 3) := by decide +kernel
theorem dX10_longer_98 : decode cX10_longer 98 = .ok (.iconst 5, 1) := by decide +kernel
theorem dX10_longer_99 : decode cX10_longer 99 = .ok (.iload 10, 2) := by decide +kernel
theorem dX10_longer_101 : decode cX10_longer 101 = .ok (.imul, 1) := by decide +kernel
theorem dX10_longer_102 : decode cX10_longer 102 = .ok (.iload 11, 2) := by decide +kernel
theorem dX10_longer_104 : decode cX10_longer 104 = .ok (.iadd, 1) := by decide +kernel
theorem dX10_longer_105 : decode cX10_longer 105 = .ok (.aload_n 0, 1) := by decide +kernel
theorem dX10_longer_106 : decode cX10_longer 106 = .ok (.getfield 37, 3) := by decide +kernel
theorem dX10_longer_109 : decode cX10_longer 109 = .ok (.iconst 5, 1) := by decide +kernel
theorem dX10_longer_110 : decode cX10_longer 110 = .ok (.iload 7, 2) := by decide +kernel
theorem dX10_longer_112 : decode cX10_longer 112 = .ok (.imul, 1) := by decide +kernel
theorem dX10_longer_113 : decode cX10_longer 113 = .ok (.iload 11, 2) := by decide +kernel
theorem dX10_longer_115 : decode cX10_longer 115 = .ok (.iadd, 1) := by decide +kernel
theorem dX10_longer_116 : decode cX10_longer 116 = .ok (.iaload, 1) := by decide +kernel
theorem dX10_longer_117 : decode cX10_longer 117 = .ok (.iastore, 1) := by decide +kernel
theorem dX10_longer_118 : decode cX10_longer 118 = .ok (.iinc 11 1, 3) := by decide +kernel
theorem dX10_longer_121 : decode cX10_longer 121 = .ok (.goto (-34), 3) := by decide +kernel
theorem dX10_longer_124 : decode cX10_longer 124 = .ok (.aload_n 0, 1) := by decide +kernel
theorem dX10_longer_125 : decode cX10_longer 125 = .ok (.getfield 37, 3) := by decide +kernel
theorem dX10_longer_128 : decode cX10_longer 128 = .ok (.iconst 5, 1) := by decide +kernel
theorem dX10_longer_129 : decode cX10_longer 129 = .ok (.iload 10, 2) := by decide +kernel
theorem dX10_longer_131 : decode cX10_longer 131 = .ok (.imul, 1) := by decide +kernel
theorem dX10_longer_132 : decode cX10_longer 132 = .ok (.iload 4, 2) := by decide +kernel
theorem dX10_longer_134 : decode cX10_longer 134 = .ok (.iadd, 1) := by decide +kernel
theorem dX10_longer_135 : decode cX10_longer 135 = .ok (.iload 8, 2) := by decide +kernel
theorem dX10_longer_137 : decode cX10_longer 137 = .ok (.iastore, 1) := by decide +kernel
theorem dX10_longer_138 : decode cX10_longer 138 = .ok (.aload_n 0, 1) := by decide +kernel
theorem dX10_longer_139 : decode cX10_longer 139 = .ok (.getfield 40, 3) := by decide +kernel
theorem dX10_longer_142 : decode cX10_longer 142 = .ok (.iload 10, 2) := by decide +kernel
theorem dX10_longer_144 : decode cX10_longer 144 = .ok (.aload_n 0, 1) := by decide +kernel
theorem dX10_longer_145 : decode cX10_longer 145 = .ok (.getfield 40, 3) := by decide +kernel
theorem dX10_longer_148 : decode cX10_longer 148 = .ok (.iload 7, 2) := by decide +kernel
theorem dX10_longer_150 : decode cX10_longer 150 = .ok (.iaload, 1) := by decide +kernel
theorem dX10_longer_151 : decode cX10_longer 151 = .ok (.iconst 1, 1) := by decide +kernel
theorem dX10_longer_152 : decode cX10_longer 152 = .ok (.iload 9, 2) := by decide +kernel
theorem dX10_longer_154 : decode cX10_longer 154 = .ok (.ishl, 1) := by decide +kernel
theorem dX10_longer_155 : decode cX10_longer 155 = .ok (.ior, 1) := by decide +kernel
theorem dX10_longer_156 : decode cX10_longer 156 = .ok (.iastore, 1) := by decide +kernel
theorem dX10_longer_157 : decode cX10_longer 157 = .ok (.aload_n 0, 1) := by decide +kernel
theorem dX10_longer_158 : decode cX10_longer 158 = .ok (.getfield 43, 3) := by decide +kernel
theorem dX10_longer_161 : decode cX10_longer 161 = .ok (.iload 10, 2) := by decide +kernel
theorem dX10_longer_163 : decode cX10_longer 163 = .ok (.iload 9, 2) := by decide +kernel
theorem dX10_longer_165 : decode cX10_longer 165 = .ok (.iastore, 1) := by decide +kernel
theorem dX10_longer_166 : decode cX10_longer 166 = .ok (.iload 9, 2) := by decide +kernel
theorem dX10_longer_168 : decode cX10_longer 168 = .ok (.i2l, 1) := by decide +kernel
theorem dX10_longer_169 : decode cX10_longer 169 = .ok (.aload_n 0, 1) := by decide +kernel
theorem dX10_longer_170 : decode cX10_longer 170 = .ok (.iload_n 1, 1) := by decide +kernel
theorem dX10_longer_171 : decode cX10_longer 171 = .ok (.iconst 0, 1) := by decide +kernel
theorem dX10_longer_172 : decode cX10_longer 172 = .ok (.invokevirtual 154, 3) := by decide +kernel
theorem dX10_longer_175 : decode cX10_longer 175 = .ok (.lcmp, 1) := by decide +kernel
theorem dX10_longer_176 : decode cX10_longer 176 = .ok (.ifCond .ne 17, 3) := by decide +kernel
theorem dX10_longer_179 : decode cX10_longer 179 = .ok (.aload_n 0, 1) := by decide +kernel
theorem dX10_longer_180 : decode cX10_longer 180 = .ok (.iload_n 1, 1) := by decide +kernel
theorem dX10_longer_181 : decode cX10_longer 181 = .ok (.iload 10, 2) := by decide +kernel
theorem dX10_longer_183 : decode cX10_longer 183 = .ok (.iload 4, 2) := by decide +kernel
theorem dX10_longer_185 : decode cX10_longer 185 = .ok (.iconst 1, 1) := by decide +kernel
theorem dX10_longer_186 : decode cX10_longer 186 = .ok (.iadd, 1) := by decide +kernel
theorem dX10_longer_187 : decode cX10_longer 187 = .ok (.invokevirtual 194, 3) := by decide +kernel
theorem dX10_longer_190 : decode cX10_longer 190 = .ok (.goto 6, 3) := by decide +kernel
theorem dX10_longer_193 : decode cX10_longer 193 = .ok (.iinc 6 1, 3) := by decide +kernel
theorem dX10_longer_196 : decode cX10_longer 196 = .ok (.iinc 8 1, 3) := by decide +kernel
theorem dX10_longer_199 : decode cX10_longer 199 = .ok (.goto (-175), 3) := by decide +kernel
theorem dX10_longer_202 : decode cX10_longer 202 = .ok (.iinc 7 1, 3) := by decide +kernel
theorem dX10_longer_205 : decode cX10_longer 205 = .ok (.goto (-192), 3) := by decide +kernel
theorem dX10_longer_208 : decode cX10_longer 208 = .ok (.iload 6, 2) := by decide +kernel
theorem dX10_longer_210 : decode cX10_longer 210 = .ok (.ireturn, 1) := by decide +kernel
theorem dX10_layWays_0 : decode cX10_layWays 0 = .ok (.aload_n 0, 1) := by decide +kernel
theorem dX10_layWays_1 : decode cX10_layWays 1 = .ok (.getfield 28, 3) := by decide +kernel
theorem dX10_layWays_4 : decode cX10_layWays 4 = .ok (.iload_n 1, 1) := by decide +kernel
theorem dX10_layWays_5 : decode cX10_layWays 5 = .ok (.iconst 0, 1) := by decide +kernel
theorem dX10_layWays_6 : decode cX10_layWays 6 = .ok (.iastore, 1) := by decide +kernel
theorem dX10_layWays_7 : decode cX10_layWays 7 = .ok (.aload_n 0, 1) := by decide +kernel
theorem dX10_layWays_8 : decode cX10_layWays 8 = .ok (.getfield 40, 3) := by decide +kernel
theorem dX10_layWays_11 : decode cX10_layWays 11 = .ok (.iconst 0, 1) := by decide +kernel
theorem dX10_layWays_12 : decode cX10_layWays 12 = .ok (.iconst 1, 1) := by decide +kernel
theorem dX10_layWays_13 : decode cX10_layWays 13 = .ok (.iastore, 1) := by decide +kernel
theorem dX10_layWays_14 : decode cX10_layWays 14 = .ok (.aload_n 0, 1) := by decide +kernel
theorem dX10_layWays_15 : decode cX10_layWays 15 = .ok (.getfield 43, 3) := by decide +kernel
theorem dX10_layWays_18 : decode cX10_layWays 18 = .ok (.iconst 0, 1) := by decide +kernel
theorem dX10_layWays_19 : decode cX10_layWays 19 = .ok (.iconst 0, 1) := by decide +kernel
theorem dX10_layWays_20 : decode cX10_layWays 20 = .ok (.iastore, 1) := by decide +kernel
theorem dX10_layWays_21 : decode cX10_layWays 21 = .ok (.iconst 0, 1) := by decide +kernel
theorem dX10_layWays_22 : decode cX10_layWays 22 = .ok (.istore_n 2, 1) := by decide +kernel
theorem dX10_layWays_23 : decode cX10_layWays 23 = .ok (.iconst 1, 1) := by decide +kernel
theorem dX10_layWays_24 : decode cX10_layWays 24 = .ok (.istore_n 3, 1) := by decide +kernel
theorem dX10_layWays_25 : decode cX10_layWays 25 = .ok (.iconst 0, 1) := by decide +kernel
theorem dX10_layWays_26 : decode cX10_layWays 26 = .ok (.istore 4, 2) := by decide +kernel
theorem dX10_layWays_28 : decode cX10_layWays 28 = .ok (.iload 4, 2) := by decide +kernel
theorem dX10_layWays_30 : decode cX10_layWays 30 = .ok (.iconst 5, 1) := by decide +kernel
theorem dX10_layWays_31 : decode cX10_layWays 31 = .ok (.if_icmp .ge 29, 3) := by decide +kernel
theorem dX10_layWays_34 : decode cX10_layWays 34 = .ok (.iload_n 3, 1) := by decide +kernel
theorem dX10_layWays_35 : decode cX10_layWays 35 = .ok (.ifCond .le 25, 3) := by decide +kernel
theorem dX10_layWays_38 : decode cX10_layWays 38 = .ok (.aload_n 0, 1) := by decide +kernel
theorem dX10_layWays_39 : decode cX10_layWays 39 = .ok (.iload_n 1, 1) := by decide +kernel
theorem dX10_layWays_40 : decode cX10_layWays 40 = .ok (.iload_n 2, 1) := by decide +kernel
theorem dX10_layWays_41 : decode cX10_layWays 41 = .ok (.iload_n 3, 1) := by decide +kernel
theorem dX10_layWays_42 : decode cX10_layWays 42 = .ok (.iload 4, 2) := by decide +kernel
theorem dX10_layWays_44 : decode cX10_layWays 44 = .ok (.invokevirtual 198, 3) := by decide +kernel
theorem dX10_layWays_47 : decode cX10_layWays 47 = .ok (.istore_n 3, 1) := by decide +kernel
theorem dX10_layWays_48 : decode cX10_layWays 48 = .ok (.sipush 256, 3) := by decide +kernel
theorem dX10_layWays_51 : decode cX10_layWays 51 = .ok (.iload_n 2, 1) := by decide +kernel
theorem dX10_layWays_52 : decode cX10_layWays 52 = .ok (.isub, 1) := by decide +kernel
theorem dX10_layWays_53 : decode cX10_layWays 53 = .ok (.istore_n 2, 1) := by decide +kernel
theorem dX10_layWays_54 : decode cX10_layWays 54 = .ok (.iinc 4 1, 3) := by decide +kernel
theorem dX10_layWays_57 : decode cX10_layWays 57 = .ok (.goto (-29), 3) := by decide +kernel
theorem dX10_layWays_60 : decode cX10_layWays 60 = .ok (.return_, 1) := by decide +kernel
theorem dX10_layAllWays_0 : decode cX10_layAllWays 0 = .ok (.iconst 0, 1) := by decide +kernel
theorem dX10_layAllWays_1 : decode cX10_layAllWays 1 = .ok (.istore_n 1, 1) := by decide +kernel
theorem dX10_layAllWays_2 : decode cX10_layAllWays 2 = .ok (.iload_n 1, 1) := by decide +kernel
theorem dX10_layAllWays_3 : decode cX10_layAllWays 3 = .ok (.iconst 3, 1) := by decide +kernel
theorem dX10_layAllWays_4 : decode cX10_layAllWays 4 = .ok (.if_icmp .ge 14, 3) := by decide +kernel
theorem dX10_layAllWays_7 : decode cX10_layAllWays 7 = .ok (.aload_n 0, 1) := by decide +kernel
theorem dX10_layAllWays_8 : decode cX10_layAllWays 8 = .ok (.iload_n 1, 1) := by decide +kernel
theorem dX10_layAllWays_9 : decode cX10_layAllWays 9 = .ok (.invokevirtual 202, 3) := by decide +kernel
theorem dX10_layAllWays_12 : decode cX10_layAllWays 12 = .ok (.iinc 1 1, 3) := by decide +kernel
theorem dX10_layAllWays_15 : decode cX10_layAllWays 15 = .ok (.goto (-13), 3) := by decide +kernel
theorem dX10_layAllWays_18 : decode cX10_layAllWays 18 = .ok (.return_, 1) := by decide +kernel
theorem dX10_ways_0 : decode cX10_ways 0 = .ok (.iload_n 1, 1) := by decide +kernel
theorem dX10_ways_1 : decode cX10_ways 1 = .ok (.invokestatic 146, 3) := by decide +kernel
theorem dX10_ways_4 : decode cX10_ways 4 = .ok (.ifCond .ne 5, 3) := by decide +kernel
theorem dX10_ways_7 : decode cX10_ways 7 = .ok (.iconst (-1), 1) := by decide +kernel
theorem dX10_ways_8 : decode cX10_ways 8 = .ok (.ireturn, 1) := by decide +kernel
theorem dX10_ways_9 : decode cX10_ways 9 = .ok (.aload_n 0, 1) := by decide +kernel
theorem dX10_ways_10 : decode cX10_ways 10 = .ok (.iload_n 1, 1) := by decide +kernel
theorem dX10_ways_11 : decode cX10_ways 11 = .ok (.invokevirtual 202, 3) := by decide +kernel
theorem dX10_ways_14 : decode cX10_ways 14 = .ok (.aload_n 0, 1) := by decide +kernel
theorem dX10_ways_15 : decode cX10_ways 15 = .ok (.getfield 28, 3) := by decide +kernel
theorem dX10_ways_18 : decode cX10_ways 18 = .ok (.iload_n 1, 1) := by decide +kernel
theorem dX10_ways_19 : decode cX10_ways 19 = .ok (.iaload, 1) := by decide +kernel
theorem dX10_ways_20 : decode cX10_ways 20 = .ok (.ireturn, 1) := by decide +kernel
theorem dX10_isWay_0 : decode cX10_isWay 0 = .ok (.iload_n 1, 1) := by decide +kernel
theorem dX10_isWay_1 : decode cX10_isWay 1 = .ok (.invokestatic 146, 3) := by decide +kernel
theorem dX10_isWay_4 : decode cX10_isWay 4 = .ok (.ifCond .ne 5, 3) := by decide +kernel
theorem dX10_isWay_7 : decode cX10_isWay 7 = .ok (.iconst 0, 1) := by decide +kernel
theorem dX10_isWay_8 : decode cX10_isWay 8 = .ok (.ireturn, 1) := by decide +kernel
theorem dX10_isWay_9 : decode cX10_isWay 9 = .ok (.aload_n 0, 1) := by decide +kernel
theorem dX10_isWay_10 : decode cX10_isWay 10 = .ok (.iload_n 1, 1) := by decide +kernel
theorem dX10_isWay_11 : decode cX10_isWay 11 = .ok (.invokevirtual 202, 3) := by decide +kernel
theorem dX10_isWay_14 : decode cX10_isWay 14 = .ok (.iload_n 2, 1) := by decide +kernel
theorem dX10_isWay_15 : decode cX10_isWay 15 = .ok (.i2l, 1) := by decide +kernel
theorem dX10_isWay_16 : decode cX10_isWay 16 = .ok (.lconst 0, 1) := by decide +kernel
theorem dX10_isWay_17 : decode cX10_isWay 17 = .ok (.aload_n 0, 1) := by decide +kernel
theorem dX10_isWay_18 : decode cX10_isWay 18 = .ok (.getfield 28, 3) := by decide +kernel
theorem dX10_isWay_21 : decode cX10_isWay 21 = .ok (.iload_n 1, 1) := by decide +kernel
theorem dX10_isWay_22 : decode cX10_isWay 22 = .ok (.iaload, 1) := by decide +kernel
theorem dX10_isWay_23 : decode cX10_isWay 23 = .ok (.iconst 1, 1) := by decide +kernel
theorem dX10_isWay_24 : decode cX10_isWay 24 = .ok (.isub, 1) := by decide +kernel
theorem dX10_isWay_25 : decode cX10_isWay 25 = .ok (.i2l, 1) := by decide +kernel
theorem dX10_isWay_26 : decode cX10_isWay 26 = .ok (.invokestatic 89, 3) := by decide +kernel
theorem dX10_isWay_29 : decode cX10_isWay 29 = .ok (.ireturn, 1) := by decide +kernel
theorem dX10_way_0 : decode cX10_way 0 = .ok (.aload_n 0, 1) := by decide +kernel
theorem dX10_way_1 : decode cX10_way 1 = .ok (.iload_n 1, 1) := by decide +kernel
theorem dX10_way_2 : decode cX10_way 2 = .ok (.iload_n 2, 1) := by decide +kernel
theorem dX10_way_3 : decode cX10_way 3 = .ok (.invokevirtual 205, 3) := by decide +kernel
theorem dX10_way_6 : decode cX10_way 6 = .ok (.ifCond .eq 29, 3) := by decide +kernel
theorem dX10_way_9 : decode cX10_way 9 = .ok (.iload_n 3, 1) := by decide +kernel
theorem dX10_way_10 : decode cX10_way 10 = .ok (.i2l, 1) := by decide +kernel
theorem dX10_way_11 : decode cX10_way 11 = .ok (.ldc2_w 122, 3) := by decide +kernel
theorem dX10_way_14 : decode cX10_way 14 = .ok (.aload_n 0, 1) := by decide +kernel
theorem dX10_way_15 : decode cX10_way 15 = .ok (.getfield 31, 3) := by decide +kernel
theorem dX10_way_18 : decode cX10_way 18 = .ok (.sipush 256, 3) := by decide +kernel
theorem dX10_way_21 : decode cX10_way 21 = .ok (.iload_n 1, 1) := by decide +kernel
theorem dX10_way_22 : decode cX10_way 22 = .ok (.imul, 1) := by decide +kernel
theorem dX10_way_23 : decode cX10_way 23 = .ok (.iload_n 2, 1) := by decide +kernel
theorem dX10_way_24 : decode cX10_way 24 = .ok (.iadd, 1) := by decide +kernel
theorem dX10_way_25 : decode cX10_way 25 = .ok (.iaload, 1) := by decide +kernel
theorem dX10_way_26 : decode cX10_way 26 = .ok (.iconst 1, 1) := by decide +kernel
theorem dX10_way_27 : decode cX10_way 27 = .ok (.isub, 1) := by decide +kernel
theorem dX10_way_28 : decode cX10_way 28 = .ok (.i2l, 1) := by decide +kernel
theorem dX10_way_29 : decode cX10_way 29 = .ok (.invokestatic 89, 3) := by decide +kernel
theorem dX10_way_32 : decode cX10_way 32 = .ok (.ifCond .ne 5, 3) := by decide +kernel
theorem dX10_way_35 : decode cX10_way 35 = .ok (.iconst (-1), 1) := by decide +kernel
theorem dX10_way_36 : decode cX10_way 36 = .ok (.ireturn, 1) := by decide +kernel
theorem dX10_way_37 : decode cX10_way 37 = .ok (.iload_n 3, 1) := by decide +kernel
theorem dX10_way_38 : decode cX10_way 38 = .ok (.ifCond .ge 18, 3) := by decide +kernel
theorem dX10_way_41 : decode cX10_way 41 = .ok (.aload_n 0, 1) := by decide +kernel
theorem dX10_way_42 : decode cX10_way 42 = .ok (.getfield 31, 3) := by decide +kernel
theorem dX10_way_45 : decode cX10_way 45 = .ok (.sipush 256, 3) := by decide +kernel
theorem dX10_way_48 : decode cX10_way 48 = .ok (.iload_n 1, 1) := by decide +kernel
theorem dX10_way_49 : decode cX10_way 49 = .ok (.imul, 1) := by decide +kernel
theorem dX10_way_50 : decode cX10_way 50 = .ok (.iload_n 2, 1) := by decide +kernel
theorem dX10_way_51 : decode cX10_way 51 = .ok (.iadd, 1) := by decide +kernel
theorem dX10_way_52 : decode cX10_way 52 = .ok (.iaload, 1) := by decide +kernel
theorem dX10_way_53 : decode cX10_way 53 = .ok (.goto 19, 3) := by decide +kernel
theorem dX10_way_56 : decode cX10_way 56 = .ok (.aload_n 0, 1) := by decide +kernel
theorem dX10_way_57 : decode cX10_way 57 = .ok (.getfield 34, 3) := by decide +kernel
theorem dX10_way_60 : decode cX10_way 60 = .ok (.iconst 5, 1) := by decide +kernel
theorem dX10_way_61 : decode cX10_way 61 = .ok (.sipush 256, 3) := by decide +kernel
theorem dX10_way_64 : decode cX10_way 64 = .ok (.iload_n 1, 1) := by decide +kernel
theorem dX10_way_65 : decode cX10_way 65 = .ok (.imul, 1) := by decide +kernel
theorem dX10_way_66 : decode cX10_way 66 = .ok (.iload_n 2, 1) := by decide +kernel
theorem dX10_way_67 : decode cX10_way 67 = .ok (.iadd, 1) := by decide +kernel
theorem dX10_way_68 : decode cX10_way 68 = .ok (.imul, 1) := by decide +kernel
theorem dX10_way_69 : decode cX10_way 69 = .ok (.iload_n 3, 1) := by decide +kernel
theorem dX10_way_70 : decode cX10_way 70 = .ok (.iadd, 1) := by decide +kernel
theorem dX10_way_71 : decode cX10_way 71 = .ok (.iaload, 1) := by decide +kernel
theorem dX10_way_72 : decode cX10_way 72 = .ok (.ireturn, 1) := by decide +kernel
theorem dX10_priceBy_0 : decode cX10_priceBy 0 = .ok (.aload_n 0, 1) := by decide +kernel
theorem dX10_priceBy_1 : decode cX10_priceBy 1 = .ok (.iload_n 2, 1) := by decide +kernel
theorem dX10_priceBy_2 : decode cX10_priceBy 2 = .ok (.iconst 2, 1) := by decide +kernel
theorem dX10_priceBy_3 : decode cX10_priceBy 3 = .ok (.invokevirtual 154, 3) := by decide +kernel
theorem dX10_priceBy_6 : decode cX10_priceBy 6 = .ok (.lstore 5, 2) := by decide +kernel
theorem dX10_priceBy_8 : decode cX10_priceBy 8 = .ok (.lload 5, 2) := by decide +kernel
theorem dX10_priceBy_10 : decode cX10_priceBy 10 = .ok (.aload_n 0, 1) := by decide +kernel
theorem dX10_priceBy_11 : decode cX10_priceBy 11 = .ok (.iload_n 3, 1) := by decide +kernel
theorem dX10_priceBy_12 : decode cX10_priceBy 12 = .ok (.iload 4, 2) := by decide +kernel
theorem dX10_priceBy_14 : decode cX10_priceBy 14 = .ok (.invokevirtual 136, 3) := by decide +kernel
theorem dX10_priceBy_17 : decode cX10_priceBy 17 = .ok (.lmul, 1) := by decide +kernel
theorem dX10_priceBy_18 : decode cX10_priceBy 18 = .ok (.lstore 7, 2) := by decide +kernel
theorem dX10_priceBy_20 : decode cX10_priceBy 20 = .ok (.lload 7, 2) := by decide +kernel
theorem dX10_priceBy_22 : decode cX10_priceBy 22 = .ok (.iload_n 1, 1) := by decide +kernel
theorem dX10_priceBy_23 : decode cX10_priceBy 23 = .ok (.iconst 1, 1) := by decide +kernel
theorem dX10_priceBy_24 : decode cX10_priceBy 24 = .ok (.if_icmp .ne 20, 3) := by decide +kernel
theorem dX10_priceBy_27 : decode cX10_priceBy 27 = .ok (.aload_n 0, 1) := by decide +kernel
theorem dX10_priceBy_28 : decode cX10_priceBy 28 = .ok (.iload_n 2, 1) := by decide +kernel
theorem dX10_priceBy_29 : decode cX10_priceBy 29 = .ok (.iconst 3, 1) := by decide +kernel
theorem dX10_priceBy_30 : decode cX10_priceBy 30 = .ok (.invokevirtual 154, 3) := by decide +kernel
theorem dX10_priceBy_33 : decode cX10_priceBy 33 = .ok (.aload_n 0, 1) := by decide +kernel
theorem dX10_priceBy_34 : decode cX10_priceBy 34 = .ok (.iload_n 3, 1) := by decide +kernel
theorem dX10_priceBy_35 : decode cX10_priceBy 35 = .ok (.bipush 7, 2) := by decide +kernel
theorem dX10_priceBy_37 : decode cX10_priceBy 37 = .ok (.invokevirtual 128, 3) := by decide +kernel
theorem dX10_priceBy_40 : decode cX10_priceBy 40 = .ok (.lmul, 1) := by decide +kernel
theorem dX10_priceBy_41 : decode cX10_priceBy 41 = .ok (.goto 4, 3) := by decide +kernel
theorem dX10_priceBy_44 : decode cX10_priceBy 44 = .ok (.lconst 0, 1) := by decide +kernel
theorem dX10_priceBy_45 : decode cX10_priceBy 45 = .ok (.ladd, 1) := by decide +kernel
theorem dX10_priceBy_46 : decode cX10_priceBy 46 = .ok (.lstore 7, 2) := by decide +kernel
theorem dX10_priceBy_48 : decode cX10_priceBy 48 = .ok (.lload 7, 2) := by decide +kernel
theorem dX10_priceBy_50 : decode cX10_priceBy 50 = .ok (.iload_n 1, 1) := by decide +kernel
theorem dX10_priceBy_51 : decode cX10_priceBy 51 = .ok (.iconst 2, 1) := by decide +kernel
theorem dX10_priceBy_52 : decode cX10_priceBy 52 = .ok (.if_icmp .ne 16, 3) := by decide +kernel
theorem dX10_priceBy_55 : decode cX10_priceBy 55 = .ok (.lload 5, 2) := by decide +kernel
theorem dX10_priceBy_57 : decode cX10_priceBy 57 = .ok (.aload_n 0, 1) := by decide +kernel
theorem dX10_priceBy_58 : decode cX10_priceBy 58 = .ok (.iload_n 3, 1) := by decide +kernel
theorem dX10_priceBy_59 : decode cX10_priceBy 59 = .ok (.iload 4, 2) := by decide +kernel
theorem dX10_priceBy_61 : decode cX10_priceBy 61 = .ok (.invokevirtual 139, 3) := by decide +kernel
theorem dX10_priceBy_64 : decode cX10_priceBy 64 = .ok (.lmul, 1) := by decide +kernel
theorem dX10_priceBy_65 : decode cX10_priceBy 65 = .ok (.goto 4, 3) := by decide +kernel
theorem dX10_priceBy_68 : decode cX10_priceBy 68 = .ok (.lconst 0, 1) := by decide +kernel
theorem dX10_priceBy_69 : decode cX10_priceBy 69 = .ok (.ladd, 1) := by decide +kernel
theorem dX10_priceBy_70 : decode cX10_priceBy 70 = .ok (.lreturn, 1) := by decide +kernel
theorem dX10_priceMore_0 : decode cX10_priceMore 0 = .ok (.lconst 0, 1) := by decide +kernel
theorem dX10_priceMore_1 : decode cX10_priceMore 1 = .ok (.lstore 4, 2) := by decide +kernel
theorem dX10_priceMore_3 : decode cX10_priceMore 3 = .ok (.sipush 256, 3) := by decide +kernel
theorem dX10_priceMore_6 : decode cX10_priceMore 6 = .ok (.iload_n 2, 1) := by decide +kernel
theorem dX10_priceMore_7 : decode cX10_priceMore 7 = .ok (.imul, 1) := by decide +kernel
theorem dX10_priceMore_8 : decode cX10_priceMore 8 = .ok (.iload_n 3, 1) := by decide +kernel
theorem dX10_priceMore_9 : decode cX10_priceMore 9 = .ok (.iadd, 1) := by decide +kernel
theorem dX10_priceMore_10 : decode cX10_priceMore 10 = .ok (.istore 6, 2) := by decide +kernel
theorem dX10_priceMore_12 : decode cX10_priceMore 12 = .ok (.iconst 0, 1) := by decide +kernel
theorem dX10_priceMore_13 : decode cX10_priceMore 13 = .ok (.istore 7, 2) := by decide +kernel
theorem dX10_priceMore_15 : decode cX10_priceMore 15 = .ok (.iload 7, 2) := by decide +kernel
theorem dX10_priceMore_17 : decode cX10_priceMore 17 = .ok (.aload_n 0, 1) := by decide +kernel
theorem dX10_priceMore_18 : decode cX10_priceMore 18 = .ok (.getfield 31, 3) := by decide +kernel
theorem dX10_priceMore_21 : decode cX10_priceMore 21 = .ok (.iload 6, 2) := by decide +kernel
theorem dX10_priceMore_23 : decode cX10_priceMore 23 = .ok (.iaload, 1) := by decide +kernel
theorem dX10_priceMore_24 : decode cX10_priceMore 24 = .ok (.if_icmp .ge 45, 3) := by decide +kernel
theorem dX10_priceMore_27 : decode cX10_priceMore 27 = .ok (.aload_n 0, 1) := by decide +kernel
theorem dX10_priceMore_28 : decode cX10_priceMore 28 = .ok (.getfield 34, 3) := by decide +kernel
theorem dX10_priceMore_31 : decode cX10_priceMore 31 = .ok (.iconst 5, 1) := by decide +kernel
theorem dX10_priceMore_32 : decode cX10_priceMore 32 = .ok (.iload 6, 2) := by decide +kernel
theorem dX10_priceMore_34 : decode cX10_priceMore 34 = .ok (.imul, 1) := by decide +kernel
theorem dX10_priceMore_35 : decode cX10_priceMore 35 = .ok (.iload 7, 2) := by decide +kernel
theorem dX10_priceMore_37 : decode cX10_priceMore 37 = .ok (.iadd, 1) := by decide +kernel
theorem dX10_priceMore_38 : decode cX10_priceMore 38 = .ok (.iaload, 1) := by decide +kernel
theorem dX10_priceMore_39 : decode cX10_priceMore 39 = .ok (.istore 8, 2) := by decide +kernel
theorem dX10_priceMore_41 : decode cX10_priceMore 41 = .ok (.lload 4, 2) := by decide +kernel
theorem dX10_priceMore_43 : decode cX10_priceMore 43 = .ok (.aload_n 0, 1) := by decide +kernel
theorem dX10_priceMore_44 : decode cX10_priceMore 44 = .ok (.iload_n 1, 1) := by decide +kernel
theorem dX10_priceMore_45 : decode cX10_priceMore 45 = .ok (.iload_n 2, 1) := by decide +kernel
theorem dX10_priceMore_46 : decode cX10_priceMore 46 = .ok (.iload 8, 2) := by decide +kernel
theorem dX10_priceMore_48 : decode cX10_priceMore 48 = .ok (.aload_n 0, 1) := by decide +kernel
theorem dX10_priceMore_49 : decode cX10_priceMore 49 = .ok (.getfield 46, 3) := by decide +kernel
theorem dX10_priceMore_52 : decode cX10_priceMore 52 = .ok (.iload 8, 2) := by decide +kernel
theorem dX10_priceMore_54 : decode cX10_priceMore 54 = .ok (.iaload, 1) := by decide +kernel
theorem dX10_priceMore_55 : decode cX10_priceMore 55 = .ok (.iconst 1, 1) := by decide +kernel
theorem dX10_priceMore_56 : decode cX10_priceMore 56 = .ok (.iadd, 1) := by decide +kernel
theorem dX10_priceMore_57 : decode cX10_priceMore 57 = .ok (.invokevirtual 208, 3) := by decide +kernel
theorem dX10_priceMore_60 : decode cX10_priceMore 60 = .ok (.ladd, 1) := by decide +kernel
theorem dX10_priceMore_61 : decode cX10_priceMore 61 = .ok (.lstore 4, 2) := by decide +kernel
theorem dX10_priceMore_63 : decode cX10_priceMore 63 = .ok (.iinc 7 1, 3) := by decide +kernel
theorem dX10_priceMore_66 : decode cX10_priceMore 66 = .ok (.goto (-51), 3) := by decide +kernel
theorem dX10_priceMore_69 : decode cX10_priceMore 69 = .ok (.lload 4, 2) := by decide +kernel
theorem dX10_priceMore_71 : decode cX10_priceMore 71 = .ok (.lreturn, 1) := by decide +kernel
theorem dX10_priceNow_0 : decode cX10_priceNow 0 = .ok (.lconst 0, 1) := by decide +kernel
theorem dX10_priceNow_1 : decode cX10_priceNow 1 = .ok (.lstore 4, 2) := by decide +kernel
theorem dX10_priceNow_3 : decode cX10_priceNow 3 = .ok (.sipush 256, 3) := by decide +kernel
theorem dX10_priceNow_6 : decode cX10_priceNow 6 = .ok (.iload_n 2, 1) := by decide +kernel
theorem dX10_priceNow_7 : decode cX10_priceNow 7 = .ok (.imul, 1) := by decide +kernel
theorem dX10_priceNow_8 : decode cX10_priceNow 8 = .ok (.iload_n 3, 1) := by decide +kernel
theorem dX10_priceNow_9 : decode cX10_priceNow 9 = .ok (.iadd, 1) := by decide +kernel
theorem dX10_priceNow_10 : decode cX10_priceNow 10 = .ok (.istore 6, 2) := by decide +kernel
theorem dX10_priceNow_12 : decode cX10_priceNow 12 = .ok (.iconst 0, 1) := by decide +kernel
theorem dX10_priceNow_13 : decode cX10_priceNow 13 = .ok (.istore 7, 2) := by decide +kernel
theorem dX10_priceNow_15 : decode cX10_priceNow 15 = .ok (.iload 7, 2) := by decide +kernel
theorem dX10_priceNow_17 : decode cX10_priceNow 17 = .ok (.aload_n 0, 1) := by decide +kernel
theorem dX10_priceNow_18 : decode cX10_priceNow 18 = .ok (.getfield 31, 3) := by decide +kernel
theorem dX10_priceNow_21 : decode cX10_priceNow 21 = .ok (.iload 6, 2) := by decide +kernel
theorem dX10_priceNow_23 : decode cX10_priceNow 23 = .ok (.iaload, 1) := by decide +kernel
theorem dX10_priceNow_24 : decode cX10_priceNow 24 = .ok (.if_icmp .ge 58, 3) := by decide +kernel
theorem dX10_priceNow_27 : decode cX10_priceNow 27 = .ok (.aload_n 0, 1) := by decide +kernel
theorem dX10_priceNow_28 : decode cX10_priceNow 28 = .ok (.getfield 34, 3) := by decide +kernel
theorem dX10_priceNow_31 : decode cX10_priceNow 31 = .ok (.iconst 5, 1) := by decide +kernel
theorem dX10_priceNow_32 : decode cX10_priceNow 32 = .ok (.iload 6, 2) := by decide +kernel
theorem dX10_priceNow_34 : decode cX10_priceNow 34 = .ok (.imul, 1) := by decide +kernel
theorem dX10_priceNow_35 : decode cX10_priceNow 35 = .ok (.iload 7, 2) := by decide +kernel
theorem dX10_priceNow_37 : decode cX10_priceNow 37 = .ok (.iadd, 1) := by decide +kernel
theorem dX10_priceNow_38 : decode cX10_priceNow 38 = .ok (.iaload, 1) := by decide +kernel
theorem dX10_priceNow_39 : decode cX10_priceNow 39 = .ok (.istore 8, 2) := by decide +kernel
theorem dX10_priceNow_41 : decode cX10_priceNow 41 = .ok (.lload 4, 2) := by decide +kernel
theorem dX10_priceNow_43 : decode cX10_priceNow 43 = .ok (.aload_n 0, 1) := by decide +kernel
theorem dX10_priceNow_44 : decode cX10_priceNow 44 = .ok (.iload_n 1, 1) := by decide +kernel
theorem dX10_priceNow_45 : decode cX10_priceNow 45 = .ok (.iload_n 2, 1) := by decide +kernel
theorem dX10_priceNow_46 : decode cX10_priceNow 46 = .ok (.iload 8, 2) := by decide +kernel
theorem dX10_priceNow_48 : decode cX10_priceNow 48 = .ok (.aload_n 0, 1) := by decide +kernel
theorem dX10_priceNow_49 : decode cX10_priceNow 49 = .ok (.getfield 46, 3) := by decide +kernel
theorem dX10_priceNow_52 : decode cX10_priceNow 52 = .ok (.iload 8, 2) := by decide +kernel
theorem dX10_priceNow_54 : decode cX10_priceNow 54 = .ok (.iaload, 1) := by decide +kernel
theorem dX10_priceNow_55 : decode cX10_priceNow 55 = .ok (.iconst 1, 1) := by decide +kernel
theorem dX10_priceNow_56 : decode cX10_priceNow 56 = .ok (.if_icmp .ge 7, 3) := by decide +kernel
theorem dX10_priceNow_59 : decode cX10_priceNow 59 = .ok (.iconst 1, 1) := by decide +kernel
theorem dX10_priceNow_60 : decode cX10_priceNow 60 = .ok (.goto 10, 3) := by decide +kernel
theorem dX10_priceNow_63 : decode cX10_priceNow 63 = .ok (.aload_n 0, 1) := by decide +kernel
theorem dX10_priceNow_64 : decode cX10_priceNow 64 = .ok (.getfield 46, 3) := by decide +kernel
theorem dX10_priceNow_67 : decode cX10_priceNow 67 = .ok (.iload 8, 2) := by decide +kernel
theorem dX10_priceNow_69 : decode cX10_priceNow 69 = .ok (.iaload, 1) := by decide +kernel
theorem dX10_priceNow_70 : decode cX10_priceNow 70 = .ok (.invokevirtual 208, 3) := by decide +kernel
theorem dX10_priceNow_73 : decode cX10_priceNow 73 = .ok (.ladd, 1) := by decide +kernel
theorem dX10_priceNow_74 : decode cX10_priceNow 74 = .ok (.lstore 4, 2) := by decide +kernel
theorem dX10_priceNow_76 : decode cX10_priceNow 76 = .ok (.iinc 7 1, 3) := by decide +kernel
theorem dX10_priceNow_79 : decode cX10_priceNow 79 = .ok (.goto (-64), 3) := by decide +kernel
theorem dX10_priceNow_82 : decode cX10_priceNow 82 = .ok (.lload 4, 2) := by decide +kernel
theorem dX10_priceNow_84 : decode cX10_priceNow 84 = .ok (.lreturn, 1) := by decide +kernel
theorem dX10_goes_0 : decode cX10_goes 0 = .ok (.sipush 256, 3) := by decide +kernel
theorem dX10_goes_3 : decode cX10_goes 3 = .ok (.iload_n 1, 1) := by decide +kernel
theorem dX10_goes_4 : decode cX10_goes 4 = .ok (.imul, 1) := by decide +kernel
theorem dX10_goes_5 : decode cX10_goes 5 = .ok (.iload_n 2, 1) := by decide +kernel
theorem dX10_goes_6 : decode cX10_goes 6 = .ok (.iadd, 1) := by decide +kernel
theorem dX10_goes_7 : decode cX10_goes 7 = .ok (.istore 4, 2) := by decide +kernel
theorem dX10_goes_9 : decode cX10_goes 9 = .ok (.aload_n 0, 1) := by decide +kernel
theorem dX10_goes_10 : decode cX10_goes 10 = .ok (.getfield 49, 3) := by decide +kernel
theorem dX10_goes_13 : decode cX10_goes 13 = .ok (.iload 4, 2) := by decide +kernel
theorem dX10_goes_15 : decode cX10_goes 15 = .ok (.dup2, 1) := by decide +kernel
theorem dX10_goes_16 : decode cX10_goes 16 = .ok (.iaload, 1) := by decide +kernel
theorem dX10_goes_17 : decode cX10_goes 17 = .ok (.iload_n 3, 1) := by decide +kernel
theorem dX10_goes_18 : decode cX10_goes 18 = .ok (.iadd, 1) := by decide +kernel
theorem dX10_goes_19 : decode cX10_goes 19 = .ok (.iastore, 1) := by decide +kernel
theorem dX10_goes_20 : decode cX10_goes 20 = .ok (.iconst 0, 1) := by decide +kernel
theorem dX10_goes_21 : decode cX10_goes 21 = .ok (.istore 5, 2) := by decide +kernel
theorem dX10_goes_23 : decode cX10_goes 23 = .ok (.iload 5, 2) := by decide +kernel
theorem dX10_goes_25 : decode cX10_goes 25 = .ok (.aload_n 0, 1) := by decide +kernel
theorem dX10_goes_26 : decode cX10_goes 26 = .ok (.getfield 31, 3) := by decide +kernel
theorem dX10_goes_29 : decode cX10_goes 29 = .ok (.iload 4, 2) := by decide +kernel
theorem dX10_goes_31 : decode cX10_goes 31 = .ok (.iaload, 1) := by decide +kernel
theorem dX10_goes_32 : decode cX10_goes 32 = .ok (.if_icmp .ge 30, 3) := by decide +kernel
theorem dX10_goes_35 : decode cX10_goes 35 = .ok (.aload_n 0, 1) := by decide +kernel
theorem dX10_goes_36 : decode cX10_goes 36 = .ok (.getfield 46, 3) := by decide +kernel
theorem dX10_goes_39 : decode cX10_goes 39 = .ok (.aload_n 0, 1) := by decide +kernel
theorem dX10_goes_40 : decode cX10_goes 40 = .ok (.getfield 34, 3) := by decide +kernel
theorem dX10_goes_43 : decode cX10_goes 43 = .ok (.iconst 5, 1) := by decide +kernel
theorem dX10_goes_44 : decode cX10_goes 44 = .ok (.iload 4, 2) := by decide +kernel
theorem dX10_goes_46 : decode cX10_goes 46 = .ok (.imul, 1) := by decide +kernel
theorem dX10_goes_47 : decode cX10_goes 47 = .ok (.iload 5, 2) := by decide +kernel
theorem dX10_goes_49 : decode cX10_goes 49 = .ok (.iadd, 1) := by decide +kernel
theorem dX10_goes_50 : decode cX10_goes 50 = .ok (.iaload, 1) := by decide +kernel
theorem dX10_goes_51 : decode cX10_goes 51 = .ok (.dup2, 1) := by decide +kernel
theorem dX10_goes_52 : decode cX10_goes 52 = .ok (.iaload, 1) := by decide +kernel
theorem dX10_goes_53 : decode cX10_goes 53 = .ok (.iload_n 3, 1) := by decide +kernel
theorem dX10_goes_54 : decode cX10_goes 54 = .ok (.iadd, 1) := by decide +kernel
theorem dX10_goes_55 : decode cX10_goes 55 = .ok (.iastore, 1) := by decide +kernel
theorem dX10_goes_56 : decode cX10_goes 56 = .ok (.iinc 5 1, 3) := by decide +kernel
theorem dX10_goes_59 : decode cX10_goes 59 = .ok (.goto (-36), 3) := by decide +kernel
theorem dX10_goes_62 : decode cX10_goes 62 = .ok (.return_, 1) := by decide +kernel
theorem dX10_cheapest_0 : decode cX10_cheapest 0 = .ok (.iconst (-1), 1) := by decide +kernel
theorem dX10_cheapest_1 : decode cX10_cheapest 1 = .ok (.istore 4, 2) := by decide +kernel
theorem dX10_cheapest_3 : decode cX10_cheapest 3 = .ok (.ldc2_w 212, 3) := by decide +kernel
theorem dX10_cheapest_6 : decode cX10_cheapest 6 = .ok (.lstore 5, 2) := by decide +kernel
theorem dX10_cheapest_8 : decode cX10_cheapest 8 = .ok (.iconst 0, 1) := by decide +kernel
theorem dX10_cheapest_9 : decode cX10_cheapest 9 = .ok (.istore 7, 2) := by decide +kernel
theorem dX10_cheapest_11 : decode cX10_cheapest 11 = .ok (.iload 7, 2) := by decide +kernel
theorem dX10_cheapest_13 : decode cX10_cheapest 13 = .ok (.aload_n 0, 1) := by decide +kernel
theorem dX10_cheapest_14 : decode cX10_cheapest 14 = .ok (.getfield 28, 3) := by decide +kernel
theorem dX10_cheapest_17 : decode cX10_cheapest 17 = .ok (.iload_n 2, 1) := by decide +kernel
theorem dX10_cheapest_18 : decode cX10_cheapest 18 = .ok (.iaload, 1) := by decide +kernel
theorem dX10_cheapest_19 : decode cX10_cheapest 19 = .ok (.if_icmp .ge 65, 3) := by decide +kernel
theorem dX10_cheapest_22 : decode cX10_cheapest 22 = .ok (.iload 7, 2) := by decide +kernel
theorem dX10_cheapest_24 : decode cX10_cheapest 24 = .ok (.iload_n 3, 1) := by decide +kernel
theorem dX10_cheapest_25 : decode cX10_cheapest 25 = .ok (.if_icmp .ne 9, 3) := by decide +kernel
theorem dX10_cheapest_28 : decode cX10_cheapest 28 = .ok (.ldc2_w 212, 3) := by decide +kernel
theorem dX10_cheapest_31 : decode cX10_cheapest 31 = .ok (.goto 11, 3) := by decide +kernel
theorem dX10_cheapest_34 : decode cX10_cheapest 34 = .ok (.aload_n 0, 1) := by decide +kernel
theorem dX10_cheapest_35 : decode cX10_cheapest 35 = .ok (.iload_n 1, 1) := by decide +kernel
theorem dX10_cheapest_36 : decode cX10_cheapest 36 = .ok (.iload_n 2, 1) := by decide +kernel
theorem dX10_cheapest_37 : decode cX10_cheapest 37 = .ok (.iload 7, 2) := by decide +kernel
theorem dX10_cheapest_39 : decode cX10_cheapest 39 = .ok (.invokevirtual 214, 3) := by decide +kernel
theorem dX10_cheapest_42 : decode cX10_cheapest 42 = .ok (.lstore 8, 2) := by decide +kernel
theorem dX10_cheapest_44 : decode cX10_cheapest 44 = .ok (.lload 8, 2) := by decide +kernel
theorem dX10_cheapest_46 : decode cX10_cheapest 46 = .ok (.lload 5, 2) := by decide +kernel
theorem dX10_cheapest_48 : decode cX10_cheapest 48 = .ok (.lcmp, 1) := by decide +kernel
theorem dX10_cheapest_49 : decode cX10_cheapest 49 = .ok (.ifCond .ge 8, 3) := by decide +kernel
theorem dX10_cheapest_52 : decode cX10_cheapest 52 = .ok (.iload 7, 2) := by decide +kernel
theorem dX10_cheapest_54 : decode cX10_cheapest 54 = .ok (.goto 5, 3) := by decide +kernel
theorem dX10_cheapest_57 : decode cX10_cheapest 57 = .ok (.iload 4, 2) := by decide +kernel
theorem dX10_cheapest_59 : decode cX10_cheapest 59 = .ok (.istore 4, 2) := by decide +kernel
theorem dX10_cheapest_61 : decode cX10_cheapest 61 = .ok (.lload 8, 2) := by decide +kernel
theorem dX10_cheapest_63 : decode cX10_cheapest 63 = .ok (.lload 5, 2) := by decide +kernel
theorem dX10_cheapest_65 : decode cX10_cheapest 65 = .ok (.lcmp, 1) := by decide +kernel
theorem dX10_cheapest_66 : decode cX10_cheapest 66 = .ok (.ifCond .ge 8, 3) := by decide +kernel
theorem dX10_cheapest_69 : decode cX10_cheapest 69 = .ok (.lload 8, 2) := by decide +kernel
theorem dX10_cheapest_71 : decode cX10_cheapest 71 = .ok (.goto 5, 3) := by decide +kernel
theorem dX10_cheapest_74 : decode cX10_cheapest 74 = .ok (.lload 5, 2) := by decide +kernel
theorem dX10_cheapest_76 : decode cX10_cheapest 76 = .ok (.lstore 5, 2) := by decide +kernel
theorem dX10_cheapest_78 : decode cX10_cheapest 78 = .ok (.iinc 7 1, 3) := by decide +kernel
theorem dX10_cheapest_81 : decode cX10_cheapest 81 = .ok (.goto (-70), 3) := by decide +kernel
theorem dX10_cheapest_84 : decode cX10_cheapest 84 = .ok (.iload 4, 2) := by decide +kernel
theorem dX10_cheapest_86 : decode cX10_cheapest 86 = .ok (.ireturn, 1) := by decide +kernel
theorem dX10_isLeft_0 : decode cX10_isLeft 0 = .ok (.aload_n 0, 1) := by decide +kernel
theorem dX10_isLeft_1 : decode cX10_isLeft 1 = .ok (.iload_n 2, 1) := by decide +kernel
theorem dX10_isLeft_2 : decode cX10_isLeft 2 = .ok (.iload_n 3, 1) := by decide +kernel
theorem dX10_isLeft_3 : decode cX10_isLeft 3 = .ok (.iconst (-1), 1) := by decide +kernel
theorem dX10_isLeft_4 : decode cX10_isLeft 4 = .ok (.invokevirtual 218, 3) := by decide +kernel
theorem dX10_isLeft_7 : decode cX10_isLeft 7 = .ok (.aload_n 0, 1) := by decide +kernel
theorem dX10_isLeft_8 : decode cX10_isLeft 8 = .ok (.iload_n 1, 1) := by decide +kernel
theorem dX10_isLeft_9 : decode cX10_isLeft 9 = .ok (.iload_n 2, 1) := by decide +kernel
theorem dX10_isLeft_10 : decode cX10_isLeft 10 = .ok (.iload_n 3, 1) := by decide +kernel
theorem dX10_isLeft_11 : decode cX10_isLeft 11 = .ok (.invokevirtual 214, 3) := by decide +kernel
theorem dX10_isLeft_14 : decode cX10_isLeft 14 = .ok (.lstore 4, 2) := by decide +kernel
theorem dX10_isLeft_16 : decode cX10_isLeft 16 = .ok (.aload_n 0, 1) := by decide +kernel
theorem dX10_isLeft_17 : decode cX10_isLeft 17 = .ok (.iload_n 1, 1) := by decide +kernel
theorem dX10_isLeft_18 : decode cX10_isLeft 18 = .ok (.iload_n 2, 1) := by decide +kernel
theorem dX10_isLeft_19 : decode cX10_isLeft 19 = .ok (.iload_n 3, 1) := by decide +kernel
theorem dX10_isLeft_20 : decode cX10_isLeft 20 = .ok (.invokevirtual 221, 3) := by decide +kernel
theorem dX10_isLeft_23 : decode cX10_isLeft 23 = .ok (.istore 6, 2) := by decide +kernel
theorem dX10_isLeft_25 : decode cX10_isLeft 25 = .ok (.iload 6, 2) := by decide +kernel
theorem dX10_isLeft_27 : decode cX10_isLeft 27 = .ok (.ifCond .lt 21, 3) := by decide +kernel
theorem dX10_isLeft_30 : decode cX10_isLeft 30 = .ok (.aload_n 0, 1) := by decide +kernel
theorem dX10_isLeft_31 : decode cX10_isLeft 31 = .ok (.iload_n 1, 1) := by decide +kernel
theorem dX10_isLeft_32 : decode cX10_isLeft 32 = .ok (.iload_n 2, 1) := by decide +kernel
theorem dX10_isLeft_33 : decode cX10_isLeft 33 = .ok (.iload 6, 2) := by decide +kernel
theorem dX10_isLeft_35 : decode cX10_isLeft 35 = .ok (.invokevirtual 214, 3) := by decide +kernel
theorem dX10_isLeft_38 : decode cX10_isLeft 38 = .ok (.lload 4, 2) := by decide +kernel
theorem dX10_isLeft_40 : decode cX10_isLeft 40 = .ok (.lcmp, 1) := by decide +kernel
theorem dX10_isLeft_41 : decode cX10_isLeft 41 = .ok (.ifCond .ge 7, 3) := by decide +kernel
theorem dX10_isLeft_44 : decode cX10_isLeft 44 = .ok (.iconst 1, 1) := by decide +kernel
theorem dX10_isLeft_45 : decode cX10_isLeft 45 = .ok (.goto 4, 3) := by decide +kernel
theorem dX10_isLeft_48 : decode cX10_isLeft 48 = .ok (.iconst 0, 1) := by decide +kernel
theorem dX10_isLeft_49 : decode cX10_isLeft 49 = .ok (.istore 7, 2) := by decide +kernel
theorem dX10_isLeft_51 : decode cX10_isLeft 51 = .ok (.aload_n 0, 1) := by decide +kernel
theorem dX10_isLeft_52 : decode cX10_isLeft 52 = .ok (.iload_n 2, 1) := by decide +kernel
theorem dX10_isLeft_53 : decode cX10_isLeft 53 = .ok (.iload 7, 2) := by decide +kernel
theorem dX10_isLeft_55 : decode cX10_isLeft 55 = .ok (.ifCond .eq 8, 3) := by decide +kernel
theorem dX10_isLeft_58 : decode cX10_isLeft 58 = .ok (.iload 6, 2) := by decide +kernel
theorem dX10_isLeft_60 : decode cX10_isLeft 60 = .ok (.goto 4, 3) := by decide +kernel
theorem dX10_isLeft_63 : decode cX10_isLeft 63 = .ok (.iload_n 3, 1) := by decide +kernel
theorem dX10_isLeft_64 : decode cX10_isLeft 64 = .ok (.iconst 1, 1) := by decide +kernel
theorem dX10_isLeft_65 : decode cX10_isLeft 65 = .ok (.invokevirtual 218, 3) := by decide +kernel
theorem dX10_isLeft_68 : decode cX10_isLeft 68 = .ok (.iload 7, 2) := by decide +kernel
theorem dX10_isLeft_70 : decode cX10_isLeft 70 = .ok (.ireturn, 1) := by decide +kernel
theorem dX10_stepsOn_0 : decode cX10_stepsOn 0 = .ok (.iconst 0, 1) := by decide +kernel
theorem dX10_stepsOn_1 : decode cX10_stepsOn 1 = .ok (.istore_n 2, 1) := by decide +kernel
theorem dX10_stepsOn_2 : decode cX10_stepsOn 2 = .ok (.iload_n 2, 1) := by decide +kernel
theorem dX10_stepsOn_3 : decode cX10_stepsOn 3 = .ok (.iconst 3, 1) := by decide +kernel
theorem dX10_stepsOn_4 : decode cX10_stepsOn 4 = .ok (.if_icmp .ge 54, 3) := by decide +kernel
theorem dX10_stepsOn_7 : decode cX10_stepsOn 7 = .ok (.iconst 0, 1) := by decide +kernel
theorem dX10_stepsOn_8 : decode cX10_stepsOn 8 = .ok (.istore_n 3, 1) := by decide +kernel
theorem dX10_stepsOn_9 : decode cX10_stepsOn 9 = .ok (.iload_n 3, 1) := by decide +kernel
theorem dX10_stepsOn_10 : decode cX10_stepsOn 10 = .ok (.aload_n 0, 1) := by decide +kernel
theorem dX10_stepsOn_11 : decode cX10_stepsOn 11 = .ok (.getfield 28, 3) := by decide +kernel
theorem dX10_stepsOn_14 : decode cX10_stepsOn 14 = .ok (.iload_n 2, 1) := by decide +kernel
theorem dX10_stepsOn_15 : decode cX10_stepsOn 15 = .ok (.iaload, 1) := by decide +kernel
theorem dX10_stepsOn_16 : decode cX10_stepsOn 16 = .ok (.if_icmp .ge 36, 3) := by decide +kernel
theorem dX10_stepsOn_19 : decode cX10_stepsOn 19 = .ok (.aload_n 0, 1) := by decide +kernel
theorem dX10_stepsOn_20 : decode cX10_stepsOn 20 = .ok (.getfield 49, 3) := by decide +kernel
theorem dX10_stepsOn_23 : decode cX10_stepsOn 23 = .ok (.sipush 256, 3) := by decide +kernel
theorem dX10_stepsOn_26 : decode cX10_stepsOn 26 = .ok (.iload_n 2, 1) := by decide +kernel
theorem dX10_stepsOn_27 : decode cX10_stepsOn 27 = .ok (.imul, 1) := by decide +kernel
theorem dX10_stepsOn_28 : decode cX10_stepsOn 28 = .ok (.iload_n 3, 1) := by decide +kernel
theorem dX10_stepsOn_29 : decode cX10_stepsOn 29 = .ok (.iadd, 1) := by decide +kernel
theorem dX10_stepsOn_30 : decode cX10_stepsOn 30 = .ok (.iaload, 1) := by decide +kernel
theorem dX10_stepsOn_31 : decode cX10_stepsOn 31 = .ok (.ifCond .le 15, 3) := by decide +kernel
theorem dX10_stepsOn_34 : decode cX10_stepsOn 34 = .ok (.aload_n 0, 1) := by decide +kernel
theorem dX10_stepsOn_35 : decode cX10_stepsOn 35 = .ok (.iload_n 1, 1) := by decide +kernel
theorem dX10_stepsOn_36 : decode cX10_stepsOn 36 = .ok (.iload_n 2, 1) := by decide +kernel
theorem dX10_stepsOn_37 : decode cX10_stepsOn 37 = .ok (.iload_n 3, 1) := by decide +kernel
theorem dX10_stepsOn_38 : decode cX10_stepsOn 38 = .ok (.invokevirtual 225, 3) := by decide +kernel
theorem dX10_stepsOn_41 : decode cX10_stepsOn 41 = .ok (.ifCond .eq 5, 3) := by decide +kernel
theorem dX10_stepsOn_44 : decode cX10_stepsOn 44 = .ok (.iconst 1, 1) := by decide +kernel
theorem dX10_stepsOn_45 : decode cX10_stepsOn 45 = .ok (.ireturn, 1) := by decide +kernel
theorem dX10_stepsOn_46 : decode cX10_stepsOn 46 = .ok (.iinc 3 1, 3) := by decide +kernel
theorem dX10_stepsOn_49 : decode cX10_stepsOn 49 = .ok (.goto (-40), 3) := by decide +kernel
theorem dX10_stepsOn_52 : decode cX10_stepsOn 52 = .ok (.iinc 2 1, 3) := by decide +kernel
theorem dX10_stepsOn_55 : decode cX10_stepsOn 55 = .ok (.goto (-53), 3) := by decide +kernel
theorem dX10_stepsOn_58 : decode cX10_stepsOn 58 = .ok (.iconst 0, 1) := by decide +kernel
theorem dX10_stepsOn_59 : decode cX10_stepsOn 59 = .ok (.ireturn, 1) := by decide +kernel
theorem dX10_steady_0 : decode cX10_steady 0 = .ok (.aload_n 0, 1) := by decide +kernel
theorem dX10_steady_1 : decode cX10_steady 1 = .ok (.invokevirtual 229, 3) := by decide +kernel
theorem dX10_steady_4 : decode cX10_steady 4 = .ok (.iconst 0, 1) := by decide +kernel
theorem dX10_steady_5 : decode cX10_steady 5 = .ok (.istore_n 2, 1) := by decide +kernel
theorem dX10_steady_6 : decode cX10_steady 6 = .ok (.iload_n 2, 1) := by decide +kernel
theorem dX10_steady_7 : decode cX10_steady 7 = .ok (.bipush 13, 2) := by decide +kernel
theorem dX10_steady_9 : decode cX10_steady 9 = .ok (.if_icmp .ge 16, 3) := by decide +kernel
theorem dX10_steady_12 : decode cX10_steady 12 = .ok (.aload_n 0, 1) := by decide +kernel
theorem dX10_steady_13 : decode cX10_steady 13 = .ok (.getfield 46, 3) := by decide +kernel
theorem dX10_steady_16 : decode cX10_steady 16 = .ok (.iload_n 2, 1) := by decide +kernel
theorem dX10_steady_17 : decode cX10_steady 17 = .ok (.iconst 0, 1) := by decide +kernel
theorem dX10_steady_18 : decode cX10_steady 18 = .ok (.iastore, 1) := by decide +kernel
theorem dX10_steady_19 : decode cX10_steady 19 = .ok (.iinc 2 1, 3) := by decide +kernel
theorem dX10_steady_22 : decode cX10_steady 22 = .ok (.goto (-16), 3) := by decide +kernel
theorem dX10_steady_25 : decode cX10_steady 25 = .ok (.iconst 0, 1) := by decide +kernel
theorem dX10_steady_26 : decode cX10_steady 26 = .ok (.istore_n 2, 1) := by decide +kernel
theorem dX10_steady_27 : decode cX10_steady 27 = .ok (.iload_n 2, 1) := by decide +kernel
theorem dX10_steady_28 : decode cX10_steady 28 = .ok (.sipush 768, 3) := by decide +kernel
theorem dX10_steady_31 : decode cX10_steady 31 = .ok (.if_icmp .ge 16, 3) := by decide +kernel
theorem dX10_steady_34 : decode cX10_steady 34 = .ok (.aload_n 0, 1) := by decide +kernel
theorem dX10_steady_35 : decode cX10_steady 35 = .ok (.getfield 49, 3) := by decide +kernel
theorem dX10_steady_38 : decode cX10_steady 38 = .ok (.iload_n 2, 1) := by decide +kernel
theorem dX10_steady_39 : decode cX10_steady 39 = .ok (.iconst 0, 1) := by decide +kernel
theorem dX10_steady_40 : decode cX10_steady 40 = .ok (.iastore, 1) := by decide +kernel
theorem dX10_steady_41 : decode cX10_steady 41 = .ok (.iinc 2 1, 3) := by decide +kernel
theorem dX10_steady_44 : decode cX10_steady 44 = .ok (.goto (-17), 3) := by decide +kernel
theorem dX10_steady_47 : decode cX10_steady 47 = .ok (.aload_n 0, 1) := by decide +kernel
theorem dX10_steady_48 : decode cX10_steady 48 = .ok (.iconst 0, 1) := by decide +kernel
theorem dX10_steady_49 : decode cX10_steady 49 = .ok (.putfield 232, 3) := by decide +kernel
theorem dX10_steady_52 : decode cX10_steady 52 = .ok (.iconst 0, 1) := by decide +kernel
theorem dX10_steady_53 : decode cX10_steady 53 = .ok (.istore_n 2, 1) := by decide +kernel
theorem dX10_steady_54 : decode cX10_steady 54 = .ok (.iload_n 2, 1) := by decide +kernel
theorem dX10_steady_55 : decode cX10_steady 55 = .ok (.iconst 3, 1) := by decide +kernel
theorem dX10_steady_56 : decode cX10_steady 56 = .ok (.if_icmp .ge 31, 3) := by decide +kernel
theorem dX10_steady_59 : decode cX10_steady 59 = .ok (.aload_n 0, 1) := by decide +kernel
theorem dX10_steady_60 : decode cX10_steady 60 = .ok (.iload_n 2, 1) := by decide +kernel
theorem dX10_steady_61 : decode cX10_steady 61 = .ok (.iconst 1, 1) := by decide +kernel
theorem dX10_steady_62 : decode cX10_steady 62 = .ok (.invokevirtual 154, 3) := by decide +kernel
theorem dX10_steady_65 : decode cX10_steady 65 = .ok (.lconst 0, 1) := by decide +kernel
theorem dX10_steady_66 : decode cX10_steady 66 = .ok (.lcmp, 1) := by decide +kernel
theorem dX10_steady_67 : decode cX10_steady 67 = .ok (.ifCond .le 14, 3) := by decide +kernel
theorem dX10_steady_70 : decode cX10_steady 70 = .ok (.aload_n 0, 1) := by decide +kernel
theorem dX10_steady_71 : decode cX10_steady 71 = .ok (.getfield 28, 3) := by decide +kernel
theorem dX10_steady_74 : decode cX10_steady 74 = .ok (.iload_n 2, 1) := by decide +kernel
theorem dX10_steady_75 : decode cX10_steady 75 = .ok (.iaload, 1) := by decide +kernel
theorem dX10_steady_76 : decode cX10_steady 76 = .ok (.ifCond .ne 5, 3) := by decide +kernel
theorem dX10_steady_79 : decode cX10_steady 79 = .ok (.iconst 0, 1) := by decide +kernel
theorem dX10_steady_80 : decode cX10_steady 80 = .ok (.ireturn, 1) := by decide +kernel
theorem dX10_steady_81 : decode cX10_steady 81 = .ok (.iinc 2 1, 3) := by decide +kernel
theorem dX10_steady_84 : decode cX10_steady 84 = .ok (.goto (-30), 3) := by decide +kernel
theorem dX10_steady_87 : decode cX10_steady 87 = .ok (.iconst 0, 1) := by decide +kernel
theorem dX10_steady_88 : decode cX10_steady 88 = .ok (.istore_n 2, 1) := by decide +kernel
theorem dX10_steady_89 : decode cX10_steady 89 = .ok (.iload_n 2, 1) := by decide +kernel
theorem dX10_steady_90 : decode cX10_steady 90 = .ok (.iconst 3, 1) := by decide +kernel
theorem dX10_steady_91 : decode cX10_steady 91 = .ok (.if_icmp .ge 42, 3) := by decide +kernel
theorem dX10_steady_94 : decode cX10_steady 94 = .ok (.iconst 0, 1) := by decide +kernel
theorem dX10_steady_95 : decode cX10_steady 95 = .ok (.istore_n 3, 1) := by decide +kernel
theorem dX10_steady_96 : decode cX10_steady 96 = .ok (.iload_n 3, 1) := by decide +kernel
theorem dX10_steady_97 : decode cX10_steady 97 = .ok (.i2l, 1) := by decide +kernel
theorem dX10_steady_98 : decode cX10_steady 98 = .ok (.aload_n 0, 1) := by decide +kernel
theorem dX10_steady_99 : decode cX10_steady 99 = .ok (.iload_n 2, 1) := by decide +kernel
theorem dX10_steady_100 : decode cX10_steady 100 = .ok (.iconst 1, 1) := by decide +kernel
theorem dX10_steady_101 : decode cX10_steady 101 = .ok (.invokevirtual 154, 3) := by decide +kernel
theorem dX10_steady_104 : decode cX10_steady 104 = .ok (.lcmp, 1) := by decide +kernel
theorem dX10_steady_105 : decode cX10_steady 105 = .ok (.ifCond .ge 22, 3) := by decide +kernel
theorem dX10_steady_108 : decode cX10_steady 108 = .ok (.aload_n 0, 1) := by decide +kernel
theorem dX10_steady_109 : decode cX10_steady 109 = .ok (.iload_n 2, 1) := by decide +kernel
theorem dX10_steady_110 : decode cX10_steady 110 = .ok (.aload_n 0, 1) := by decide +kernel
theorem dX10_steady_111 : decode cX10_steady 111 = .ok (.iload_n 1, 1) := by decide +kernel
theorem dX10_steady_112 : decode cX10_steady 112 = .ok (.iload_n 2, 1) := by decide +kernel
theorem dX10_steady_113 : decode cX10_steady 113 = .ok (.iconst (-1), 1) := by decide +kernel
theorem dX10_steady_114 : decode cX10_steady 114 = .ok (.invokevirtual 221, 3) := by decide +kernel
theorem dX10_steady_117 : decode cX10_steady 117 = .ok (.iconst 1, 1) := by decide +kernel
theorem dX10_steady_118 : decode cX10_steady 118 = .ok (.invokevirtual 218, 3) := by decide +kernel
theorem dX10_steady_121 : decode cX10_steady 121 = .ok (.iinc 3 1, 3) := by decide +kernel
theorem dX10_steady_124 : decode cX10_steady 124 = .ok (.goto (-28), 3) := by decide +kernel
theorem dX10_steady_127 : decode cX10_steady 127 = .ok (.iinc 2 1, 3) := by decide +kernel
theorem dX10_steady_130 : decode cX10_steady 130 = .ok (.goto (-41), 3) := by decide +kernel
theorem dX10_steady_133 : decode cX10_steady 133 = .ok (.aload_n 0, 1) := by decide +kernel
theorem dX10_steady_134 : decode cX10_steady 134 = .ok (.getfield 232, 3) := by decide +kernel
theorem dX10_steady_137 : decode cX10_steady 137 = .ok (.sipush 400, 3) := by decide +kernel
theorem dX10_steady_140 : decode cX10_steady 140 = .ok (.if_icmp .ge 24, 3) := by decide +kernel
theorem dX10_steady_143 : decode cX10_steady 143 = .ok (.aload_n 0, 1) := by decide +kernel
theorem dX10_steady_144 : decode cX10_steady 144 = .ok (.iload_n 1, 1) := by decide +kernel
theorem dX10_steady_145 : decode cX10_steady 145 = .ok (.invokevirtual 235, 3) := by decide +kernel
theorem dX10_steady_148 : decode cX10_steady 148 = .ok (.ifCond .eq 16, 3) := by decide +kernel
theorem dX10_steady_151 : decode cX10_steady 151 = .ok (.aload_n 0, 1) := by decide +kernel
theorem dX10_steady_152 : decode cX10_steady 152 = .ok (.dup, 1) := by decide +kernel
theorem dX10_steady_153 : decode cX10_steady 153 = .ok (.getfield 232, 3) := by decide +kernel
theorem dX10_steady_156 : decode cX10_steady 156 = .ok (.iconst 1, 1) := by decide +kernel
theorem dX10_steady_157 : decode cX10_steady 157 = .ok (.iadd, 1) := by decide +kernel
theorem dX10_steady_158 : decode cX10_steady 158 = .ok (.putfield 232, 3) := by decide +kernel
theorem dX10_steady_161 : decode cX10_steady 161 = .ok (.goto (-28), 3) := by decide +kernel
theorem dX10_steady_164 : decode cX10_steady 164 = .ok (.iconst 1, 1) := by decide +kernel
theorem dX10_steady_165 : decode cX10_steady 165 = .ok (.ireturn, 1) := by decide +kernel
theorem dX10_begins_0 : decode cX10_begins 0 = .ok (.aload_n 0, 1) := by decide +kernel
theorem dX10_begins_1 : decode cX10_begins 1 = .ok (.iconst 0, 1) := by decide +kernel
theorem dX10_begins_2 : decode cX10_begins 2 = .ok (.putfield 238, 3) := by decide +kernel
theorem dX10_begins_5 : decode cX10_begins 5 = .ok (.aload_n 0, 1) := by decide +kernel
theorem dX10_begins_6 : decode cX10_begins 6 = .ok (.lconst 0, 1) := by decide +kernel
theorem dX10_begins_7 : decode cX10_begins 7 = .ok (.putfield 241, 3) := by decide +kernel
theorem dX10_begins_10 : decode cX10_begins 10 = .ok (.return_, 1) := by decide +kernel
theorem dX10_adds_0 : decode cX10_adds 0 = .ok (.aload_n 0, 1) := by decide +kernel
theorem dX10_adds_1 : decode cX10_adds 1 = .ok (.aload_n 0, 1) := by decide +kernel
theorem dX10_adds_2 : decode cX10_adds 2 = .ok (.getfield 238, 3) := by decide +kernel
theorem dX10_adds_5 : decode cX10_adds 5 = .ok (.ifCond .ne 16, 3) := by decide +kernel
theorem dX10_adds_8 : decode cX10_adds 8 = .ok (.lload_n 1, 1) := by decide +kernel
theorem dX10_adds_9 : decode cX10_adds 9 = .ok (.ldc2_w 212, 3) := by decide +kernel
theorem dX10_adds_12 : decode cX10_adds 12 = .ok (.aload_n 0, 1) := by decide +kernel
theorem dX10_adds_13 : decode cX10_adds 13 = .ok (.getfield 241, 3) := by decide +kernel
theorem dX10_adds_16 : decode cX10_adds 16 = .ok (.lsub, 1) := by decide +kernel
theorem dX10_adds_17 : decode cX10_adds 17 = .ok (.lcmp, 1) := by decide +kernel
theorem dX10_adds_18 : decode cX10_adds 18 = .ok (.ifCond .le 7, 3) := by decide +kernel
theorem dX10_adds_21 : decode cX10_adds 21 = .ok (.iconst 1, 1) := by decide +kernel
theorem dX10_adds_22 : decode cX10_adds 22 = .ok (.goto 4, 3) := by decide +kernel
theorem dX10_adds_25 : decode cX10_adds 25 = .ok (.iconst 0, 1) := by decide +kernel
theorem dX10_adds_26 : decode cX10_adds 26 = .ok (.putfield 238, 3) := by decide +kernel
theorem dX10_adds_29 : decode cX10_adds 29 = .ok (.aload_n 0, 1) := by decide +kernel
theorem dX10_adds_30 : decode cX10_adds 30 = .ok (.dup, 1) := by decide +kernel
theorem dX10_adds_31 : decode cX10_adds 31 = .ok (.getfield 241, 3) := by decide +kernel
theorem dX10_adds_34 : decode cX10_adds 34 = .ok (.aload_n 0, 1) := by decide +kernel
theorem dX10_adds_35 : decode cX10_adds 35 = .ok (.getfield 238, 3) := by decide +kernel
theorem dX10_adds_38 : decode cX10_adds 38 = .ok (.ifCond .eq 7, 3) := by decide +kernel
theorem dX10_adds_41 : decode cX10_adds 41 = .ok (.lconst 0, 1) := by decide +kernel
theorem dX10_adds_42 : decode cX10_adds 42 = .ok (.goto 4, 3) := by decide +kernel
theorem dX10_adds_45 : decode cX10_adds 45 = .ok (.lload_n 1, 1) := by decide +kernel
theorem dX10_adds_46 : decode cX10_adds 46 = .ok (.ladd, 1) := by decide +kernel
theorem dX10_adds_47 : decode cX10_adds 47 = .ok (.putfield 241, 3) := by decide +kernel
theorem dX10_adds_50 : decode cX10_adds 50 = .ok (.return_, 1) := by decide +kernel
theorem dX10_addsProduct_0 : decode cX10_addsProduct 0 = .ok (.aload_n 0, 1) := by decide +kernel
theorem dX10_addsProduct_1 : decode cX10_addsProduct 1 = .ok (.aload_n 0, 1) := by decide +kernel
theorem dX10_addsProduct_2 : decode cX10_addsProduct 2 = .ok (.getfield 238, 3) := by decide +kernel
theorem dX10_addsProduct_5 : decode cX10_addsProduct 5 = .ok (.ifCond .ne 19, 3) := by decide +kernel
theorem dX10_addsProduct_8 : decode cX10_addsProduct 8 = .ok (.lload_n 1, 1) := by decide +kernel
theorem dX10_addsProduct_9 : decode cX10_addsProduct 9 = .ok (.lconst 0, 1) := by decide +kernel
theorem dX10_addsProduct_10 : decode cX10_addsProduct 10 = .ok (.lcmp, 1) := by decide +kernel
theorem dX10_addsProduct_11 : decode cX10_addsProduct 11 = .ok (.ifCond .eq 17, 3) := by decide +kernel
theorem dX10_addsProduct_14 : decode cX10_addsProduct 14 = .ok (.lload_n 3, 1) := by decide +kernel
theorem dX10_addsProduct_15 : decode cX10_addsProduct 15 = .ok (.ldc2_w 212, 3) := by decide +kernel
theorem dX10_addsProduct_18 : decode cX10_addsProduct 18 = .ok (.lload_n 1, 1) := by decide +kernel
theorem dX10_addsProduct_19 : decode cX10_addsProduct 19 = .ok (.ldiv, 1) := by decide +kernel
theorem dX10_addsProduct_20 : decode cX10_addsProduct 20 = .ok (.lcmp, 1) := by decide +kernel
theorem dX10_addsProduct_21 : decode cX10_addsProduct 21 = .ok (.ifCond .le 7, 3) := by decide +kernel
theorem dX10_addsProduct_24 : decode cX10_addsProduct 24 = .ok (.iconst 1, 1) := by decide +kernel
theorem dX10_addsProduct_25 : decode cX10_addsProduct 25 = .ok (.goto 4, 3) := by decide +kernel
theorem dX10_addsProduct_28 : decode cX10_addsProduct 28 = .ok (.iconst 0, 1) := by decide +kernel
theorem dX10_addsProduct_29 : decode cX10_addsProduct 29 = .ok (.putfield 238, 3) := by decide +kernel
theorem dX10_addsProduct_32 : decode cX10_addsProduct 32 = .ok (.aload_n 0, 1) := by decide +kernel
theorem dX10_addsProduct_33 : decode cX10_addsProduct 33 = .ok (.getfield 238, 3) := by decide +kernel
theorem dX10_addsProduct_36 : decode cX10_addsProduct 36 = .ok (.ifCond .ne 10, 3) := by decide +kernel
theorem dX10_addsProduct_39 : decode cX10_addsProduct 39 = .ok (.aload_n 0, 1) := by decide +kernel
theorem dX10_addsProduct_40 : decode cX10_addsProduct 40 = .ok (.lload_n 1, 1) := by decide +kernel
theorem dX10_addsProduct_41 : decode cX10_addsProduct 41 = .ok (.lload_n 3, 1) := by decide +kernel
theorem dX10_addsProduct_42 : decode cX10_addsProduct 42 = .ok (.lmul, 1) := by decide +kernel
theorem dX10_addsProduct_43 : decode cX10_addsProduct 43 = .ok (.invokevirtual 245, 3) := by decide +kernel
theorem dX10_addsProduct_46 : decode cX10_addsProduct 46 = .ok (.return_, 1) := by decide +kernel
theorem dX10_totalOf_0 : decode cX10_totalOf 0 = .ok (.aload_n 0, 1) := by decide +kernel
theorem dX10_totalOf_1 : decode cX10_totalOf 1 = .ok (.invokevirtual 249, 3) := by decide +kernel
theorem dX10_totalOf_4 : decode cX10_totalOf 4 = .ok (.iconst 0, 1) := by decide +kernel
theorem dX10_totalOf_5 : decode cX10_totalOf 5 = .ok (.istore_n 1, 1) := by decide +kernel
theorem dX10_totalOf_6 : decode cX10_totalOf 6 = .ok (.iload_n 1, 1) := by decide +kernel
theorem dX10_totalOf_7 : decode cX10_totalOf 7 = .ok (.aload_n 0, 1) := by decide +kernel
theorem dX10_totalOf_8 : decode cX10_totalOf 8 = .ok (.invokevirtual 85, 3) := by decide +kernel
theorem dX10_totalOf_11 : decode cX10_totalOf 11 = .ok (.if_icmp .ge 40, 3) := by decide +kernel
theorem dX10_totalOf_14 : decode cX10_totalOf 14 = .ok (.aload_n 0, 1) := by decide +kernel
theorem dX10_totalOf_15 : decode cX10_totalOf 15 = .ok (.getfield 46, 3) := by decide +kernel
theorem dX10_totalOf_18 : decode cX10_totalOf 18 = .ok (.iload_n 1, 1) := by decide +kernel
theorem dX10_totalOf_19 : decode cX10_totalOf 19 = .ok (.iaload, 1) := by decide +kernel
theorem dX10_totalOf_20 : decode cX10_totalOf 20 = .ok (.ifCond .le 25, 3) := by decide +kernel
theorem dX10_totalOf_23 : decode cX10_totalOf 23 = .ok (.aload_n 0, 1) := by decide +kernel
theorem dX10_totalOf_24 : decode cX10_totalOf 24 = .ok (.aload_n 0, 1) := by decide +kernel
theorem dX10_totalOf_25 : decode cX10_totalOf 25 = .ok (.getfield 46, 3) := by decide +kernel
theorem dX10_totalOf_28 : decode cX10_totalOf 28 = .ok (.iload_n 1, 1) := by decide +kernel
theorem dX10_totalOf_29 : decode cX10_totalOf 29 = .ok (.iaload, 1) := by decide +kernel
theorem dX10_totalOf_30 : decode cX10_totalOf 30 = .ok (.i2l, 1) := by decide +kernel
theorem dX10_totalOf_31 : decode cX10_totalOf 31 = .ok (.aload_n 0, 1) := by decide +kernel
theorem dX10_totalOf_32 : decode cX10_totalOf 32 = .ok (.iload_n 1, 1) := by decide +kernel
theorem dX10_totalOf_33 : decode cX10_totalOf 33 = .ok (.aload_n 0, 1) := by decide +kernel
theorem dX10_totalOf_34 : decode cX10_totalOf 34 = .ok (.getfield 46, 3) := by decide +kernel
theorem dX10_totalOf_37 : decode cX10_totalOf 37 = .ok (.iload_n 1, 1) := by decide +kernel
theorem dX10_totalOf_38 : decode cX10_totalOf 38 = .ok (.iaload, 1) := by decide +kernel
theorem dX10_totalOf_39 : decode cX10_totalOf 39 = .ok (.invokevirtual 136, 3) := by decide +kernel
theorem dX10_totalOf_42 : decode cX10_totalOf 42 = .ok (.invokevirtual 252, 3) := by decide +kernel
theorem dX10_totalOf_45 : decode cX10_totalOf 45 = .ok (.iinc 1 1, 3) := by decide +kernel
theorem dX10_totalOf_48 : decode cX10_totalOf 48 = .ok (.goto (-42), 3) := by decide +kernel
theorem dX10_totalOf_51 : decode cX10_totalOf 51 = .ok (.aload_n 0, 1) := by decide +kernel
theorem dX10_totalOf_52 : decode cX10_totalOf 52 = .ok (.getfield 238, 3) := by decide +kernel
theorem dX10_totalOf_55 : decode cX10_totalOf 55 = .ok (.ifCond .eq 9, 3) := by decide +kernel
theorem dX10_totalOf_58 : decode cX10_totalOf 58 = .ok (.ldc2_w 256, 3) := by decide +kernel
theorem dX10_totalOf_61 : decode cX10_totalOf 61 = .ok (.goto 7, 3) := by decide +kernel
theorem dX10_totalOf_64 : decode cX10_totalOf 64 = .ok (.aload_n 0, 1) := by decide +kernel
theorem dX10_totalOf_65 : decode cX10_totalOf 65 = .ok (.getfield 241, 3) := by decide +kernel
theorem dX10_totalOf_68 : decode cX10_totalOf 68 = .ok (.lreturn, 1) := by decide +kernel
theorem dX10_totalBy_0 : decode cX10_totalBy 0 = .ok (.aload_n 0, 1) := by decide +kernel
theorem dX10_totalBy_1 : decode cX10_totalBy 1 = .ok (.iload_n 1, 1) := by decide +kernel
theorem dX10_totalBy_2 : decode cX10_totalBy 2 = .ok (.invokevirtual 258, 3) := by decide +kernel
theorem dX10_totalBy_5 : decode cX10_totalBy 5 = .ok (.ifCond .eq 10, 3) := by decide +kernel
theorem dX10_totalBy_8 : decode cX10_totalBy 8 = .ok (.aload_n 0, 1) := by decide +kernel
theorem dX10_totalBy_9 : decode cX10_totalBy 9 = .ok (.invokevirtual 261, 3) := by decide +kernel
theorem dX10_totalBy_12 : decode cX10_totalBy 12 = .ok (.goto 6, 3) := by decide +kernel
theorem dX10_totalBy_15 : decode cX10_totalBy 15 = .ok (.ldc2_w 265, 3) := by decide +kernel
theorem dX10_totalBy_18 : decode cX10_totalBy 18 = .ok (.lreturn, 1) := by decide +kernel
theorem dX10_is_0 : decode cX10_is 0 = .ok (.iload_n 1, 1) := by decide +kernel
theorem dX10_is_1 : decode cX10_is 1 = .ok (.invokestatic 267, 3) := by decide +kernel
theorem dX10_is_4 : decode cX10_is 4 = .ok (.ifCond .ne 5, 3) := by decide +kernel
theorem dX10_is_7 : decode cX10_is 7 = .ok (.iconst (-1), 1) := by decide +kernel
theorem dX10_is_8 : decode cX10_is 8 = .ok (.ireturn, 1) := by decide +kernel
theorem dX10_is_9 : decode cX10_is 9 = .ok (.aload_n 0, 1) := by decide +kernel
theorem dX10_is_10 : decode cX10_is 10 = .ok (.iload_n 1, 1) := by decide +kernel
theorem dX10_is_11 : decode cX10_is 11 = .ok (.invokevirtual 270, 3) := by decide +kernel
theorem dX10_is_14 : decode cX10_is 14 = .ok (.lstore_n 2, 1) := by decide +kernel
theorem dX10_is_15 : decode cX10_is 15 = .ok (.lload_n 2, 1) := by decide +kernel
theorem dX10_is_16 : decode cX10_is 16 = .ok (.lconst 0, 1) := by decide +kernel
theorem dX10_is_17 : decode cX10_is 17 = .ok (.lcmp, 1) := by decide +kernel
theorem dX10_is_18 : decode cX10_is 18 = .ok (.ifCond .ge 8, 3) := by decide +kernel
theorem dX10_is_21 : decode cX10_is 21 = .ok (.lload_n 2, 1) := by decide +kernel
theorem dX10_is_22 : decode cX10_is 22 = .ok (.l2i, 1) := by decide +kernel
theorem dX10_is_23 : decode cX10_is 23 = .ok (.goto 4, 3) := by decide +kernel
theorem dX10_is_26 : decode cX10_is 26 = .ok (.iconst 1, 1) := by decide +kernel
theorem dX10_is_27 : decode cX10_is 27 = .ok (.ireturn, 1) := by decide +kernel
theorem dX10_load_0 : decode cX10_load 0 = .ok (.iload_n 1, 1) := by decide +kernel
theorem dX10_load_1 : decode cX10_load 1 = .ok (.invokestatic 267, 3) := by decide +kernel
theorem dX10_load_4 : decode cX10_load 4 = .ok (.ifCond .eq 11, 3) := by decide +kernel
theorem dX10_load_7 : decode cX10_load 7 = .ok (.aload_n 0, 1) := by decide +kernel
theorem dX10_load_8 : decode cX10_load 8 = .ok (.iload_n 2, 1) := by decide +kernel
theorem dX10_load_9 : decode cX10_load 9 = .ok (.invokevirtual 115, 3) := by decide +kernel
theorem dX10_load_12 : decode cX10_load 12 = .ok (.ifCond .ne 5, 3) := by decide +kernel
theorem dX10_load_15 : decode cX10_load 15 = .ok (.iconst (-1), 1) := by decide +kernel
theorem dX10_load_16 : decode cX10_load 16 = .ok (.ireturn, 1) := by decide +kernel
theorem dX10_load_17 : decode cX10_load 17 = .ok (.aload_n 0, 1) := by decide +kernel
theorem dX10_load_18 : decode cX10_load 18 = .ok (.iload_n 1, 1) := by decide +kernel
theorem dX10_load_19 : decode cX10_load 19 = .ok (.invokevirtual 258, 3) := by decide +kernel
theorem dX10_load_22 : decode cX10_load 22 = .ok (.ifCond .eq 12, 3) := by decide +kernel
theorem dX10_load_25 : decode cX10_load 25 = .ok (.aload_n 0, 1) := by decide +kernel
theorem dX10_load_26 : decode cX10_load 26 = .ok (.getfield 46, 3) := by decide +kernel
theorem dX10_load_29 : decode cX10_load 29 = .ok (.iload_n 2, 1) := by decide +kernel
theorem dX10_load_30 : decode cX10_load 30 = .ok (.iaload, 1) := by decide +kernel
theorem dX10_load_31 : decode cX10_load 31 = .ok (.goto 5, 3) := by decide +kernel
theorem dX10_load_34 : decode cX10_load 34 = .ok (.bipush (-3), 2) := by decide +kernel
theorem dX10_load_36 : decode cX10_load 36 = .ok (.ireturn, 1) := by decide +kernel
theorem dX10_on_0 : decode cX10_on 0 = .ok (.iload_n 1, 1) := by decide +kernel
theorem dX10_on_1 : decode cX10_on 1 = .ok (.invokestatic 267, 3) := by decide +kernel
theorem dX10_on_4 : decode cX10_on 4 = .ok (.ifCond .eq 12, 3) := by decide +kernel
theorem dX10_on_7 : decode cX10_on 7 = .ok (.aload_n 0, 1) := by decide +kernel
theorem dX10_on_8 : decode cX10_on 8 = .ok (.iload_n 2, 1) := by decide +kernel
theorem dX10_on_9 : decode cX10_on 9 = .ok (.iload_n 3, 1) := by decide +kernel
theorem dX10_on_10 : decode cX10_on 10 = .ok (.invokevirtual 205, 3) := by decide +kernel
theorem dX10_on_13 : decode cX10_on 13 = .ok (.ifCond .ne 5, 3) := by decide +kernel
theorem dX10_on_16 : decode cX10_on 16 = .ok (.iconst (-1), 1) := by decide +kernel
theorem dX10_on_17 : decode cX10_on 17 = .ok (.ireturn, 1) := by decide +kernel
theorem dX10_on_18 : decode cX10_on 18 = .ok (.aload_n 0, 1) := by decide +kernel
theorem dX10_on_19 : decode cX10_on 19 = .ok (.iload_n 1, 1) := by decide +kernel
theorem dX10_on_20 : decode cX10_on 20 = .ok (.invokevirtual 258, 3) := by decide +kernel
theorem dX10_on_23 : decode cX10_on 23 = .ok (.ifCond .eq 18, 3) := by decide +kernel
theorem dX10_on_26 : decode cX10_on 26 = .ok (.aload_n 0, 1) := by decide +kernel
theorem dX10_on_27 : decode cX10_on 27 = .ok (.getfield 49, 3) := by decide +kernel
theorem dX10_on_30 : decode cX10_on 30 = .ok (.sipush 256, 3) := by decide +kernel
theorem dX10_on_33 : decode cX10_on 33 = .ok (.iload_n 2, 1) := by decide +kernel
theorem dX10_on_34 : decode cX10_on 34 = .ok (.imul, 1) := by decide +kernel
theorem dX10_on_35 : decode cX10_on 35 = .ok (.iload_n 3, 1) := by decide +kernel
theorem dX10_on_36 : decode cX10_on 36 = .ok (.iadd, 1) := by decide +kernel
theorem dX10_on_37 : decode cX10_on 37 = .ok (.iaload, 1) := by decide +kernel
