theorem dX0_init_0 : decode cX0_init 0 = .ok (.aload_n 0, 1) := by decide +kernel
theorem dX0_init_1 : decode cX0_init 1 = .ok (.invokespecial 3, 3) := by decide +kernel
theorem dX0_init_4 : decode cX0_init 4 = .ok (.aload_n 0, 1) := by decide +kernel
theorem dX0_init_5 : decode cX0_init 5 = .ok (.bipush 7, 2) := by decide +kernel
theorem dX0_init_7 : decode cX0_init 7 = .ok (.anewarray 9, 3) := by decide +kernel
theorem dX0_init_10 : decode cX0_init 10 = .ok (.putfield 11, 3) := by decide +kernel
theorem dX0_init_13 : decode cX0_init 13 = .ok (.aload_n 0, 1) := by decide +kernel
theorem dX0_init_14 : decode cX0_init 14 = .ok (.iconst 0, 1) := by decide +kernel
theorem dX0_init_15 : decode cX0_init 15 = .ok (.putfield 17, 3) := by decide +kernel
theorem dX0_init_18 : decode cX0_init 18 = .ok (.aload_n 0, 1) := by decide +kernel
theorem dX0_init_19 : decode cX0_init 19 = .ok (.iconst 0, 1) := by decide +kernel
theorem dX0_init_20 : decode cX0_init 20 = .ok (.putfield 21, 3) := by decide +kernel
theorem dX0_init_23 : decode cX0_init 23 = .ok (.iconst 0, 1) := by decide +kernel
theorem dX0_init_24 : decode cX0_init 24 = .ok (.istore_n 1, 1) := by decide +kernel
theorem dX0_init_25 : decode cX0_init 25 = .ok (.iload_n 1, 1) := by decide +kernel
theorem dX0_init_26 : decode cX0_init 26 = .ok (.aload_n 0, 1) := by decide +kernel
theorem dX0_init_27 : decode cX0_init 27 = .ok (.getfield 11, 3) := by decide +kernel
theorem dX0_init_30 : decode cX0_init 30 = .ok (.arraylength, 1) := by decide +kernel
theorem dX0_init_31 : decode cX0_init 31 = .ok (.if_icmp .ge 22, 3) := by decide +kernel
theorem dX0_init_34 : decode cX0_init 34 = .ok (.aload_n 0, 1) := by decide +kernel
theorem dX0_init_35 : decode cX0_init 35 = .ok (.getfield 11, 3) := by decide +kernel
theorem dX0_init_38 : decode cX0_init 38 = .ok (.iload_n 1, 1) := by decide +kernel
theorem dX0_init_39 : decode cX0_init 39 = .ok (.new 9, 3) := by decide +kernel
theorem dX0_init_42 : decode cX0_init 42 = .ok (.dup, 1) := by decide +kernel
theorem dX0_init_43 : decode cX0_init 43 = .ok (.invokespecial 24, 3) := by decide +kernel
theorem dX0_init_46 : decode cX0_init 46 = .ok (.aastore, 1) := by decide +kernel
theorem dX0_init_47 : decode cX0_init 47 = .ok (.iinc 1 1, 3) := by decide +kernel
theorem dX0_init_50 : decode cX0_init 50 = .ok (.goto (-25), 3) := by decide +kernel
theorem dX0_init_53 : decode cX0_init 53 = .ok (.return_, 1) := by decide +kernel
theorem dX0_noteBefore_0 : decode cX0_noteBefore 0 = .ok (.aload_n 0, 1) := by decide +kernel
theorem dX0_noteBefore_1 : decode cX0_noteBefore 1 = .ok (.aload_n 0, 1) := by decide +kernel
theorem dX0_noteBefore_2 : decode cX0_noteBefore 2 = .ok (.getfield 17, 3) := by decide +kernel
theorem dX0_noteBefore_5 : decode cX0_noteBefore 5 = .ok (.invokevirtual 25, 3) := by decide +kernel
theorem dX0_noteBefore_8 : decode cX0_noteBefore 8 = .ok (.astore_n 2, 1) := by decide +kernel
theorem dX0_noteBefore_9 : decode cX0_noteBefore 9 = .ok (.aload_n 2, 1) := by decide +kernel
theorem dX0_noteBefore_10 : decode cX0_noteBefore 10 = .ok (.ifnull 8, 3) := by decide +kernel
theorem dX0_noteBefore_13 : decode cX0_noteBefore 13 = .ok (.aload_n 2, 1) := by decide +kernel
theorem dX0_noteBefore_14 : decode cX0_noteBefore 14 = .ok (.aload_n 1, 1) := by decide +kernel
theorem dX0_noteBefore_15 : decode cX0_noteBefore 15 = .ok (.invokevirtual 29, 3) := by decide +kernel
theorem dX0_noteBefore_18 : decode cX0_noteBefore 18 = .ok (.return_, 1) := by decide +kernel
theorem dX0_settle_0 : decode cX0_settle 0 = .ok (.iload_n 1, 1) := by decide +kernel
theorem dX0_settle_1 : decode cX0_settle 1 = .ok (.ifCond .lt 41, 3) := by decide +kernel
theorem dX0_settle_4 : decode cX0_settle 4 = .ok (.aload_n 0, 1) := by decide +kernel
theorem dX0_settle_5 : decode cX0_settle 5 = .ok (.aload_n 0, 1) := by decide +kernel
theorem dX0_settle_6 : decode cX0_settle 6 = .ok (.getfield 17, 3) := by decide +kernel
theorem dX0_settle_9 : decode cX0_settle 9 = .ok (.bipush 6, 2) := by decide +kernel
theorem dX0_settle_11 : decode cX0_settle 11 = .ok (.if_icmp .lt 7, 3) := by decide +kernel
theorem dX0_settle_14 : decode cX0_settle 14 = .ok (.iconst 0, 1) := by decide +kernel
theorem dX0_settle_15 : decode cX0_settle 15 = .ok (.goto 9, 3) := by decide +kernel
theorem dX0_settle_18 : decode cX0_settle 18 = .ok (.aload_n 0, 1) := by decide +kernel
theorem dX0_settle_19 : decode cX0_settle 19 = .ok (.getfield 17, 3) := by decide +kernel
theorem dX0_settle_22 : decode cX0_settle 22 = .ok (.iconst 1, 1) := by decide +kernel
theorem dX0_settle_23 : decode cX0_settle 23 = .ok (.iadd, 1) := by decide +kernel
theorem dX0_settle_24 : decode cX0_settle 24 = .ok (.putfield 17, 3) := by decide +kernel
theorem dX0_settle_27 : decode cX0_settle 27 = .ok (.aload_n 0, 1) := by decide +kernel
theorem dX0_settle_28 : decode cX0_settle 28 = .ok (.aload_n 0, 1) := by decide +kernel
theorem dX0_settle_29 : decode cX0_settle 29 = .ok (.getfield 21, 3) := by decide +kernel
theorem dX0_settle_32 : decode cX0_settle 32 = .ok (.iconst 1, 1) := by decide +kernel
theorem dX0_settle_33 : decode cX0_settle 33 = .ok (.iadd, 1) := by decide +kernel
theorem dX0_settle_34 : decode cX0_settle 34 = .ok (.bipush 6, 2) := by decide +kernel
theorem dX0_settle_36 : decode cX0_settle 36 = .ok (.invokestatic 33, 3) := by decide +kernel
theorem dX0_settle_39 : decode cX0_settle 39 = .ok (.putfield 21, 3) := by decide +kernel
theorem dX0_settle_42 : decode cX0_settle 42 = .ok (.iload_n 1, 1) := by decide +kernel
theorem dX0_settle_43 : decode cX0_settle 43 = .ok (.ireturn, 1) := by decide +kernel
theorem dX0_stateAt_0 : decode cX0_stateAt 0 = .ok (.iload_n 1, 1) := by decide +kernel
theorem dX0_stateAt_1 : decode cX0_stateAt 1 = .ok (.ifCond .lt 21, 3) := by decide +kernel
theorem dX0_stateAt_4 : decode cX0_stateAt 4 = .ok (.iload_n 1, 1) := by decide +kernel
theorem dX0_stateAt_5 : decode cX0_stateAt 5 = .ok (.aload_n 0, 1) := by decide +kernel
theorem dX0_stateAt_6 : decode cX0_stateAt 6 = .ok (.getfield 11, 3) := by decide +kernel
theorem dX0_stateAt_9 : decode cX0_stateAt 9 = .ok (.arraylength, 1) := by decide +kernel
theorem dX0_stateAt_10 : decode cX0_stateAt 10 = .ok (.if_icmp .ge 12, 3) := by decide +kernel
theorem dX0_stateAt_13 : decode cX0_stateAt 13 = .ok (.aload_n 0, 1) := by decide +kernel
theorem dX0_stateAt_14 : decode cX0_stateAt 14 = .ok (.getfield 11, 3) := by decide +kernel
theorem dX0_stateAt_17 : decode cX0_stateAt 17 = .ok (.iload_n 1, 1) := by decide +kernel
theorem dX0_stateAt_18 : decode cX0_stateAt 18 = .ok (.aaload, 1) := by decide +kernel
theorem dX0_stateAt_19 : decode cX0_stateAt 19 = .ok (.goto 4, 3) := by decide +kernel
theorem dX0_stateAt_22 : decode cX0_stateAt 22 = .ok (.aconst_null, 1) := by decide +kernel
theorem dX0_stateAt_23 : decode cX0_stateAt 23 = .ok (.areturn, 1) := by decide +kernel
theorem dX1_init_0 : decode cX1_init 0 = .ok (.aload_n 0, 1) := by decide +kernel
theorem dX1_init_1 : decode cX1_init 1 = .ok (.invokespecial 3, 3) := by decide +kernel
theorem dX1_init_4 : decode cX1_init 4 = .ok (.aload_n 0, 1) := by decide +kernel
theorem dX1_init_5 : decode cX1_init 5 = .ok (.new 9, 3) := by decide +kernel
theorem dX1_init_8 : decode cX1_init 8 = .ok (.dup, 1) := by decide +kernel
theorem dX1_init_9 : decode cX1_init 9 = .ok (.invokespecial 11, 3) := by decide +kernel
theorem dX1_init_12 : decode cX1_init 12 = .ok (.putfield 12, 3) := by decide +kernel
theorem dX1_init_15 : decode cX1_init 15 = .ok (.aload_n 0, 1) := by decide +kernel
theorem dX1_init_16 : decode cX1_init 16 = .ok (.new 18, 3) := by decide +kernel
theorem dX1_init_19 : decode cX1_init 19 = .ok (.dup, 1) := by decide +kernel
theorem dX1_init_20 : decode cX1_init 20 = .ok (.invokespecial 20, 3) := by decide +kernel
theorem dX1_init_23 : decode cX1_init 23 = .ok (.putfield 21, 3) := by decide +kernel
theorem dX1_init_26 : decode cX1_init 26 = .ok (.return_, 1) := by decide +kernel
theorem dX1_changeWear_0 : decode cX1_changeWear 0 = .ok (.iload_n 1, 1) := by decide +kernel
theorem dX1_changeWear_1 : decode cX1_changeWear 1 = .ok (.iconst 2, 1) := by decide +kernel
theorem dX1_changeWear_2 : decode cX1_changeWear 2 = .ok (.if_icmp .lt 9, 3) := by decide +kernel
theorem dX1_changeWear_5 : decode cX1_changeWear 5 = .ok (.iload_n 1, 1) := by decide +kernel
theorem dX1_changeWear_6 : decode cX1_changeWear 6 = .ok (.bipush 30, 2) := by decide +kernel
theorem dX1_changeWear_8 : decode cX1_changeWear 8 = .ok (.if_icmp .le 6, 3) := by decide +kernel
theorem dX1_changeWear_11 : decode cX1_changeWear 11 = .ok (.bipush (-2), 2) := by decide +kernel
theorem dX1_changeWear_13 : decode cX1_changeWear 13 = .ok (.ireturn, 1) := by decide +kernel
theorem dX1_changeWear_14 : decode cX1_changeWear 14 = .ok (.aload_n 0, 1) := by decide +kernel
theorem dX1_changeWear_15 : decode cX1_changeWear 15 = .ok (.getfield 12, 3) := by decide +kernel
theorem dX1_changeWear_18 : decode cX1_changeWear 18 = .ok (.getfield 25, 3) := by decide +kernel
theorem dX1_changeWear_21 : decode cX1_changeWear 21 = .ok (.istore_n 2, 1) := by decide +kernel
theorem dX1_changeWear_22 : decode cX1_changeWear 22 = .ok (.aload_n 0, 1) := by decide +kernel
theorem dX1_changeWear_23 : decode cX1_changeWear 23 = .ok (.getfield 12, 3) := by decide +kernel
theorem dX1_changeWear_26 : decode cX1_changeWear 26 = .ok (.iload_n 1, 1) := by decide +kernel
theorem dX1_changeWear_27 : decode cX1_changeWear 27 = .ok (.putfield 25, 3) := by decide +kernel
theorem dX1_changeWear_30 : decode cX1_changeWear 30 = .ok (.iload_n 2, 1) := by decide +kernel
theorem dX1_changeWear_31 : decode cX1_changeWear 31 = .ok (.ireturn, 1) := by decide +kernel
theorem dX1_makeKey_0 : decode cX1_makeKey 0 = .ok (.iload_n 1, 1) := by decide +kernel
theorem dX1_makeKey_1 : decode cX1_makeKey 1 = .ok (.bipush (-6), 2) := by decide +kernel
theorem dX1_makeKey_3 : decode cX1_makeKey 3 = .ok (.if_icmp .ne 7, 3) := by decide +kernel
theorem dX1_makeKey_6 : decode cX1_makeKey 6 = .ok (.iconst 1, 1) := by decide +kernel
theorem dX1_makeKey_7 : decode cX1_makeKey 7 = .ok (.goto 4, 3) := by decide +kernel
theorem dX1_makeKey_10 : decode cX1_makeKey 10 = .ok (.iconst 0, 1) := by decide +kernel
theorem dX1_makeKey_11 : decode cX1_makeKey 11 = .ok (.istore_n 2, 1) := by decide +kernel
theorem dX1_makeKey_12 : decode cX1_makeKey 12 = .ok (.iload_n 2, 1) := by decide +kernel
theorem dX1_makeKey_13 : decode cX1_makeKey 13 = .ok (.ifCond .ne 16, 3) := by decide +kernel
theorem dX1_makeKey_16 : decode cX1_makeKey 16 = .ok (.aload_n 0, 1) := by decide +kernel
theorem dX1_makeKey_17 : decode cX1_makeKey 17 = .ok (.getfield 12, 3) := by decide +kernel
theorem dX1_makeKey_20 : decode cX1_makeKey 20 = .ok (.iload_n 1, 1) := by decide +kernel
theorem dX1_makeKey_21 : decode cX1_makeKey 21 = .ok (.invokevirtual 29, 3) := by decide +kernel
theorem dX1_makeKey_24 : decode cX1_makeKey 24 = .ok (.ifCond .ne 5, 3) := by decide +kernel
theorem dX1_makeKey_27 : decode cX1_makeKey 27 = .ok (.iconst (-1), 1) := by decide +kernel
theorem dX1_makeKey_28 : decode cX1_makeKey 28 = .ok (.ireturn, 1) := by decide +kernel
theorem dX1_makeKey_29 : decode cX1_makeKey 29 = .ok (.aload_n 0, 1) := by decide +kernel
theorem dX1_makeKey_30 : decode cX1_makeKey 30 = .ok (.getfield 12, 3) := by decide +kernel
theorem dX1_makeKey_33 : decode cX1_makeKey 33 = .ok (.getfield 33, 3) := by decide +kernel
theorem dX1_makeKey_36 : decode cX1_makeKey 36 = .ok (.bipush 20, 2) := by decide +kernel
theorem dX1_makeKey_38 : decode cX1_makeKey 38 = .ok (.if_icmp .ge 18, 3) := by decide +kernel
theorem dX1_makeKey_41 : decode cX1_makeKey 41 = .ok (.iload_n 2, 1) := by decide +kernel
theorem dX1_makeKey_42 : decode cX1_makeKey 42 = .ok (.ifCond .ne 17, 3) := by decide +kernel
theorem dX1_makeKey_45 : decode cX1_makeKey 45 = .ok (.aload_n 0, 1) := by decide +kernel
theorem dX1_makeKey_46 : decode cX1_makeKey 46 = .ok (.getfield 21, 3) := by decide +kernel
theorem dX1_makeKey_49 : decode cX1_makeKey 49 = .ok (.iconst 1, 1) := by decide +kernel
theorem dX1_makeKey_50 : decode cX1_makeKey 50 = .ok (.invokevirtual 36, 3) := by decide +kernel
theorem dX1_makeKey_53 : decode cX1_makeKey 53 = .ok (.ifCond .ne 6, 3) := by decide +kernel
theorem dX1_makeKey_56 : decode cX1_makeKey 56 = .ok (.bipush (-4), 2) := by decide +kernel
theorem dX1_makeKey_58 : decode cX1_makeKey 58 = .ok (.ireturn, 1) := by decide +kernel
theorem dX1_makeKey_59 : decode cX1_makeKey 59 = .ok (.iload_n 2, 1) := by decide +kernel
theorem dX1_makeKey_60 : decode cX1_makeKey 60 = .ok (.ifCond .ne 17, 3) := by decide +kernel
theorem dX1_makeKey_63 : decode cX1_makeKey 63 = .ok (.aload_n 0, 1) := by decide +kernel
theorem dX1_makeKey_64 : decode cX1_makeKey 64 = .ok (.getfield 12, 3) := by decide +kernel
theorem dX1_makeKey_67 : decode cX1_makeKey 67 = .ok (.iload_n 1, 1) := by decide +kernel
theorem dX1_makeKey_68 : decode cX1_makeKey 68 = .ok (.invokevirtual 39, 3) := by decide +kernel
theorem dX1_makeKey_71 : decode cX1_makeKey 71 = .ok (.ifCond .ne 6, 3) := by decide +kernel
theorem dX1_makeKey_74 : decode cX1_makeKey 74 = .ok (.bipush (-5), 2) := by decide +kernel
theorem dX1_makeKey_76 : decode cX1_makeKey 76 = .ok (.ireturn, 1) := by decide +kernel
theorem dX1_makeKey_77 : decode cX1_makeKey 77 = .ok (.aload_n 0, 1) := by decide +kernel
theorem dX1_makeKey_78 : decode cX1_makeKey 78 = .ok (.getfield 12, 3) := by decide +kernel
theorem dX1_makeKey_81 : decode cX1_makeKey 81 = .ok (.iload_n 1, 1) := by decide +kernel
theorem dX1_makeKey_82 : decode cX1_makeKey 82 = .ok (.invokevirtual 43, 3) := by decide +kernel
theorem dX1_makeKey_85 : decode cX1_makeKey 85 = .ok (.istore_n 3, 1) := by decide +kernel
theorem dX1_makeKey_86 : decode cX1_makeKey 86 = .ok (.iload_n 2, 1) := by decide +kernel
theorem dX1_makeKey_87 : decode cX1_makeKey 87 = .ok (.ifCond .ne 8, 3) := by decide +kernel
theorem dX1_makeKey_90 : decode cX1_makeKey 90 = .ok (.aload_n 0, 1) := by decide +kernel
theorem dX1_makeKey_91 : decode cX1_makeKey 91 = .ok (.iload_n 3, 1) := by decide +kernel
theorem dX1_makeKey_92 : decode cX1_makeKey 92 = .ok (.invokevirtual 46, 3) := by decide +kernel
theorem dX1_makeKey_95 : decode cX1_makeKey 95 = .ok (.iload_n 3, 1) := by decide +kernel
theorem dX1_makeKey_96 : decode cX1_makeKey 96 = .ok (.ireturn, 1) := by decide +kernel
theorem dX1_makeBox_0 : decode cX1_makeBox 0 = .ok (.aload_n 0, 1) := by decide +kernel
theorem dX1_makeBox_1 : decode cX1_makeBox 1 = .ok (.getfield 12, 3) := by decide +kernel
theorem dX1_makeBox_4 : decode cX1_makeBox 4 = .ok (.iload_n 1, 1) := by decide +kernel
theorem dX1_makeBox_5 : decode cX1_makeBox 5 = .ok (.invokevirtual 29, 3) := by decide +kernel
theorem dX1_makeBox_8 : decode cX1_makeBox 8 = .ok (.ifCond .ne 5, 3) := by decide +kernel
theorem dX1_makeBox_11 : decode cX1_makeBox 11 = .ok (.iconst (-1), 1) := by decide +kernel
theorem dX1_makeBox_12 : decode cX1_makeBox 12 = .ok (.ireturn, 1) := by decide +kernel
theorem dX1_makeBox_13 : decode cX1_makeBox 13 = .ok (.aload_n 0, 1) := by decide +kernel
theorem dX1_makeBox_14 : decode cX1_makeBox 14 = .ok (.getfield 12, 3) := by decide +kernel
theorem dX1_makeBox_17 : decode cX1_makeBox 17 = .ok (.getfield 50, 3) := by decide +kernel
theorem dX1_makeBox_20 : decode cX1_makeBox 20 = .ok (.bipush 20, 2) := by decide +kernel
theorem dX1_makeBox_22 : decode cX1_makeBox 22 = .ok (.if_icmp .ge 14, 3) := by decide +kernel
theorem dX1_makeBox_25 : decode cX1_makeBox 25 = .ok (.aload_n 0, 1) := by decide +kernel
theorem dX1_makeBox_26 : decode cX1_makeBox 26 = .ok (.getfield 21, 3) := by decide +kernel
theorem dX1_makeBox_29 : decode cX1_makeBox 29 = .ok (.iconst 1, 1) := by decide +kernel
theorem dX1_makeBox_30 : decode cX1_makeBox 30 = .ok (.invokevirtual 36, 3) := by decide +kernel
theorem dX1_makeBox_33 : decode cX1_makeBox 33 = .ok (.ifCond .ne 6, 3) := by decide +kernel
theorem dX1_makeBox_36 : decode cX1_makeBox 36 = .ok (.bipush (-4), 2) := by decide +kernel
theorem dX1_makeBox_38 : decode cX1_makeBox 38 = .ok (.ireturn, 1) := by decide +kernel
theorem dX1_makeBox_39 : decode cX1_makeBox 39 = .ok (.aload_n 0, 1) := by decide +kernel
theorem dX1_makeBox_40 : decode cX1_makeBox 40 = .ok (.getfield 12, 3) := by decide +kernel
theorem dX1_makeBox_43 : decode cX1_makeBox 43 = .ok (.iload_n 1, 1) := by decide +kernel
theorem dX1_makeBox_44 : decode cX1_makeBox 44 = .ok (.invokevirtual 39, 3) := by decide +kernel
theorem dX1_makeBox_47 : decode cX1_makeBox 47 = .ok (.ifCond .ne 6, 3) := by decide +kernel
theorem dX1_makeBox_50 : decode cX1_makeBox 50 = .ok (.bipush (-5), 2) := by decide +kernel
theorem dX1_makeBox_52 : decode cX1_makeBox 52 = .ok (.ireturn, 1) := by decide +kernel
theorem dX1_makeBox_53 : decode cX1_makeBox 53 = .ok (.aload_n 0, 1) := by decide +kernel
theorem dX1_makeBox_54 : decode cX1_makeBox 54 = .ok (.getfield 12, 3) := by decide +kernel
theorem dX1_makeBox_57 : decode cX1_makeBox 57 = .ok (.iload_n 1, 1) := by decide +kernel
theorem dX1_makeBox_58 : decode cX1_makeBox 58 = .ok (.invokevirtual 53, 3) := by decide +kernel
theorem dX1_makeBox_61 : decode cX1_makeBox 61 = .ok (.istore_n 2, 1) := by decide +kernel
theorem dX1_makeBox_62 : decode cX1_makeBox 62 = .ok (.aload_n 0, 1) := by decide +kernel
theorem dX1_makeBox_63 : decode cX1_makeBox 63 = .ok (.iload_n 2, 1) := by decide +kernel
theorem dX1_makeBox_64 : decode cX1_makeBox 64 = .ok (.invokevirtual 56, 3) := by decide +kernel
theorem dX1_makeBox_67 : decode cX1_makeBox 67 = .ok (.iload_n 2, 1) := by decide +kernel
theorem dX1_makeBox_68 : decode cX1_makeBox 68 = .ok (.ireturn, 1) := by decide +kernel
theorem dX1_copyOut_0 : decode cX1_copyOut 0 = .ok (.aload_n 0, 1) := by decide +kernel
theorem dX1_copyOut_1 : decode cX1_copyOut 1 = .ok (.getfield 21, 3) := by decide +kernel
theorem dX1_copyOut_4 : decode cX1_copyOut 4 = .ok (.iload_n 1, 1) := by decide +kernel
theorem dX1_copyOut_5 : decode cX1_copyOut 5 = .ok (.invokevirtual 59, 3) := by decide +kernel
theorem dX1_copyOut_8 : decode cX1_copyOut 8 = .ok (.ifCond .ne 5, 3) := by decide +kernel
theorem dX1_copyOut_11 : decode cX1_copyOut 11 = .ok (.iconst (-1), 1) := by decide +kernel
theorem dX1_copyOut_12 : decode cX1_copyOut 12 = .ok (.ireturn, 1) := by decide +kernel
theorem dX1_copyOut_13 : decode cX1_copyOut 13 = .ok (.iload_n 2, 1) := by decide +kernel
theorem dX1_copyOut_14 : decode cX1_copyOut 14 = .ok (.ifCond .lt 8, 3) := by decide +kernel
theorem dX1_copyOut_17 : decode cX1_copyOut 17 = .ok (.iload_n 2, 1) := by decide +kernel
theorem dX1_copyOut_18 : decode cX1_copyOut 18 = .ok (.iconst 3, 1) := by decide +kernel
theorem dX1_copyOut_19 : decode cX1_copyOut 19 = .ok (.if_icmp .lt 6, 3) := by decide +kernel
theorem dX1_copyOut_22 : decode cX1_copyOut 22 = .ok (.bipush (-2), 2) := by decide +kernel
theorem dX1_copyOut_24 : decode cX1_copyOut 24 = .ok (.ireturn, 1) := by decide +kernel
theorem dX1_copyOut_25 : decode cX1_copyOut 25 = .ok (.aload_n 0, 1) := by decide +kernel
theorem dX1_copyOut_26 : decode cX1_copyOut 26 = .ok (.getfield 21, 3) := by decide +kernel
theorem dX1_copyOut_29 : decode cX1_copyOut 29 = .ok (.iload_n 1, 1) := by decide +kernel
theorem dX1_copyOut_30 : decode cX1_copyOut 30 = .ok (.bipush 8, 2) := by decide +kernel
theorem dX1_copyOut_32 : decode cX1_copyOut 32 = .ok (.invokevirtual 62, 3) := by decide +kernel
theorem dX1_copyOut_35 : decode cX1_copyOut 35 = .ok (.ifCond .eq 18, 3) := by decide +kernel
theorem dX1_copyOut_38 : decode cX1_copyOut 38 = .ok (.aload_n 0, 1) := by decide +kernel
theorem dX1_copyOut_39 : decode cX1_copyOut 39 = .ok (.getfield 21, 3) := by decide +kernel
theorem dX1_copyOut_42 : decode cX1_copyOut 42 = .ok (.iload_n 1, 1) := by decide +kernel
theorem dX1_copyOut_43 : decode cX1_copyOut 43 = .ok (.iload_n 2, 1) := by decide +kernel
theorem dX1_copyOut_44 : decode cX1_copyOut 44 = .ok (.invokestatic 66, 3) := by decide +kernel
theorem dX1_copyOut_47 : decode cX1_copyOut 47 = .ok (.invokevirtual 62, 3) := by decide +kernel
theorem dX1_copyOut_50 : decode cX1_copyOut 50 = .ok (.ifCond .eq 6, 3) := by decide +kernel
theorem dX1_copyOut_53 : decode cX1_copyOut 53 = .ok (.bipush (-5), 2) := by decide +kernel
theorem dX1_copyOut_55 : decode cX1_copyOut 55 = .ok (.ireturn, 1) := by decide +kernel
theorem dX1_copyOut_56 : decode cX1_copyOut 56 = .ok (.aload_n 0, 1) := by decide +kernel
theorem dX1_copyOut_57 : decode cX1_copyOut 57 = .ok (.getfield 21, 3) := by decide +kernel
theorem dX1_copyOut_60 : decode cX1_copyOut 60 = .ok (.iload_n 1, 1) := by decide +kernel
theorem dX1_copyOut_61 : decode cX1_copyOut 61 = .ok (.iload_n 2, 1) := by decide +kernel
theorem dX1_copyOut_62 : decode cX1_copyOut 62 = .ok (.invokevirtual 69, 3) := by decide +kernel
theorem dX1_copyOut_65 : decode cX1_copyOut 65 = .ok (.aload_n 0, 1) := by decide +kernel
theorem dX1_copyOut_66 : decode cX1_copyOut 66 = .ok (.getfield 21, 3) := by decide +kernel
theorem dX1_copyOut_69 : decode cX1_copyOut 69 = .ok (.iload_n 2, 1) := by decide +kernel
theorem dX1_copyOut_70 : decode cX1_copyOut 70 = .ok (.invokestatic 66, 3) := by decide +kernel
theorem dX1_copyOut_73 : decode cX1_copyOut 73 = .ok (.invokevirtual 73, 3) := by decide +kernel
theorem dX1_copyOut_76 : decode cX1_copyOut 76 = .ok (.ireturn, 1) := by decide +kernel
theorem dX1_makeAnew_0 : decode cX1_makeAnew 0 = .ok (.aload_n 0, 1) := by decide +kernel
theorem dX1_makeAnew_1 : decode cX1_makeAnew 1 = .ok (.getfield 12, 3) := by decide +kernel
theorem dX1_makeAnew_4 : decode cX1_makeAnew 4 = .ok (.iload_n 1, 1) := by decide +kernel
theorem dX1_makeAnew_5 : decode cX1_makeAnew 5 = .ok (.invokevirtual 29, 3) := by decide +kernel
theorem dX1_makeAnew_8 : decode cX1_makeAnew 8 = .ok (.ifCond .ne 5, 3) := by decide +kernel
theorem dX1_makeAnew_11 : decode cX1_makeAnew 11 = .ok (.iconst (-1), 1) := by decide +kernel
theorem dX1_makeAnew_12 : decode cX1_makeAnew 12 = .ok (.ireturn, 1) := by decide +kernel
theorem dX1_makeAnew_13 : decode cX1_makeAnew 13 = .ok (.aload_n 0, 1) := by decide +kernel
theorem dX1_makeAnew_14 : decode cX1_makeAnew 14 = .ok (.getfield 12, 3) := by decide +kernel
theorem dX1_makeAnew_17 : decode cX1_makeAnew 17 = .ok (.iload_n 1, 1) := by decide +kernel
theorem dX1_makeAnew_18 : decode cX1_makeAnew 18 = .ok (.invokevirtual 76, 3) := by decide +kernel
theorem dX1_makeAnew_21 : decode cX1_makeAnew 21 = .ok (.istore_n 2, 1) := by decide +kernel
theorem dX1_makeAnew_22 : decode cX1_makeAnew 22 = .ok (.aload_n 0, 1) := by decide +kernel
theorem dX1_makeAnew_23 : decode cX1_makeAnew 23 = .ok (.iload_n 1, 1) := by decide +kernel
theorem dX1_makeAnew_24 : decode cX1_makeAnew 24 = .ok (.invokestatic 66, 3) := by decide +kernel
theorem dX1_makeAnew_27 : decode cX1_makeAnew 27 = .ok (.iconst 0, 1) := by decide +kernel
theorem dX1_makeAnew_28 : decode cX1_makeAnew 28 = .ok (.iconst 0, 1) := by decide +kernel
theorem dX1_makeAnew_29 : decode cX1_makeAnew 29 = .ok (.invokevirtual 79, 3) := by decide +kernel
theorem dX1_makeAnew_32 : decode cX1_makeAnew 32 = .ok (.istore_n 3, 1) := by decide +kernel
theorem dX1_makeAnew_33 : decode cX1_makeAnew 33 = .ok (.iload_n 2, 1) := by decide +kernel
theorem dX1_makeAnew_34 : decode cX1_makeAnew 34 = .ok (.ifCond .eq 7, 3) := by decide +kernel
theorem dX1_makeAnew_37 : decode cX1_makeAnew 37 = .ok (.iload_n 3, 1) := by decide +kernel
theorem dX1_makeAnew_38 : decode cX1_makeAnew 38 = .ok (.goto 6, 3) := by decide +kernel
theorem dX1_makeAnew_41 : decode cX1_makeAnew 41 = .ok (.iload_n 3, 1) := by decide +kernel
theorem dX1_makeAnew_42 : decode cX1_makeAnew 42 = .ok (.iconst 1, 1) := by decide +kernel
theorem dX1_makeAnew_43 : decode cX1_makeAnew 43 = .ok (.iadd, 1) := by decide +kernel
theorem dX1_makeAnew_44 : decode cX1_makeAnew 44 = .ok (.istore 4, 2) := by decide +kernel
theorem dX1_makeAnew_46 : decode cX1_makeAnew 46 = .ok (.aload_n 0, 1) := by decide +kernel
theorem dX1_makeAnew_47 : decode cX1_makeAnew 47 = .ok (.getfield 21, 3) := by decide +kernel
theorem dX1_makeAnew_50 : decode cX1_makeAnew 50 = .ok (.iload 4, 2) := by decide +kernel
theorem dX1_makeAnew_52 : decode cX1_makeAnew 52 = .ok (.invokevirtual 36, 3) := by decide +kernel
theorem dX1_makeAnew_55 : decode cX1_makeAnew 55 = .ok (.ifCond .ne 6, 3) := by decide +kernel
theorem dX1_makeAnew_58 : decode cX1_makeAnew 58 = .ok (.bipush (-4), 2) := by decide +kernel
theorem dX1_makeAnew_60 : decode cX1_makeAnew 60 = .ok (.ireturn, 1) := by decide +kernel
theorem dX1_makeAnew_61 : decode cX1_makeAnew 61 = .ok (.iload_n 2, 1) := by decide +kernel
theorem dX1_makeAnew_62 : decode cX1_makeAnew 62 = .ok (.ifCond .ne 21, 3) := by decide +kernel
theorem dX1_makeAnew_65 : decode cX1_makeAnew 65 = .ok (.aload_n 0, 1) := by decide +kernel
theorem dX1_makeAnew_66 : decode cX1_makeAnew 66 = .ok (.getfield 12, 3) := by decide +kernel
theorem dX1_makeAnew_69 : decode cX1_makeAnew 69 = .ok (.aload_n 0, 1) := by decide +kernel
theorem dX1_makeAnew_70 : decode cX1_makeAnew 70 = .ok (.getfield 12, 3) := by decide +kernel
theorem dX1_makeAnew_73 : decode cX1_makeAnew 73 = .ok (.iload_n 1, 1) := by decide +kernel
theorem dX1_makeAnew_74 : decode cX1_makeAnew 74 = .ok (.invokevirtual 83, 3) := by decide +kernel
theorem dX1_makeAnew_77 : decode cX1_makeAnew 77 = .ok (.invokevirtual 39, 3) := by decide +kernel
theorem dX1_makeAnew_80 : decode cX1_makeAnew 80 = .ok (.ifCond .eq 14, 3) := by decide +kernel
theorem dX1_makeAnew_83 : decode cX1_makeAnew 83 = .ok (.iload_n 3, 1) := by decide +kernel
theorem dX1_makeAnew_84 : decode cX1_makeAnew 84 = .ok (.aload_n 0, 1) := by decide +kernel
theorem dX1_makeAnew_85 : decode cX1_makeAnew 85 = .ok (.getfield 12, 3) := by decide +kernel
theorem dX1_makeAnew_88 : decode cX1_makeAnew 88 = .ok (.getfield 25, 3) := by decide +kernel
theorem dX1_makeAnew_91 : decode cX1_makeAnew 91 = .ok (.if_icmp .le 6, 3) := by decide +kernel
theorem dX1_makeAnew_94 : decode cX1_makeAnew 94 = .ok (.bipush (-5), 2) := by decide +kernel
theorem dX1_makeAnew_96 : decode cX1_makeAnew 96 = .ok (.ireturn, 1) := by decide +kernel
theorem dX1_makeAnew_97 : decode cX1_makeAnew 97 = .ok (.aload_n 0, 1) := by decide +kernel
theorem dX1_makeAnew_98 : decode cX1_makeAnew 98 = .ok (.iload_n 1, 1) := by decide +kernel
theorem dX1_makeAnew_99 : decode cX1_makeAnew 99 = .ok (.invokestatic 66, 3) := by decide +kernel
theorem dX1_makeAnew_102 : decode cX1_makeAnew 102 = .ok (.invokevirtual 86, 3) := by decide +kernel
theorem dX1_makeAnew_105 : decode cX1_makeAnew 105 = .ok (.iload_n 2, 1) := by decide +kernel
theorem dX1_makeAnew_106 : decode cX1_makeAnew 106 = .ok (.ifCond .ne 8, 3) := by decide +kernel
theorem dX1_makeAnew_109 : decode cX1_makeAnew 109 = .ok (.aload_n 0, 1) := by decide +kernel
theorem dX1_makeAnew_110 : decode cX1_makeAnew 110 = .ok (.iload_n 1, 1) := by decide +kernel
theorem dX1_makeAnew_111 : decode cX1_makeAnew 111 = .ok (.invokevirtual 46, 3) := by decide +kernel
theorem dX1_makeAnew_114 : decode cX1_makeAnew 114 = .ok (.aload_n 0, 1) := by decide +kernel
theorem dX1_makeAnew_115 : decode cX1_makeAnew 115 = .ok (.iload_n 1, 1) := by decide +kernel
theorem dX1_makeAnew_116 : decode cX1_makeAnew 116 = .ok (.invokevirtual 89, 3) := by decide +kernel
theorem dX1_makeAnew_119 : decode cX1_makeAnew 119 = .ok (.iload 4, 2) := by decide +kernel
theorem dX1_makeAnew_121 : decode cX1_makeAnew 121 = .ok (.ireturn, 1) := by decide +kernel
theorem dX1_throwAway_0 : decode cX1_throwAway 0 = .ok (.aload_n 0, 1) := by decide +kernel
theorem dX1_throwAway_1 : decode cX1_throwAway 1 = .ok (.getfield 12, 3) := by decide +kernel
theorem dX1_throwAway_4 : decode cX1_throwAway 4 = .ok (.iload_n 1, 1) := by decide +kernel
theorem dX1_throwAway_5 : decode cX1_throwAway 5 = .ok (.iload_n 2, 1) := by decide +kernel
theorem dX1_throwAway_6 : decode cX1_throwAway 6 = .ok (.invokevirtual 92, 3) := by decide +kernel
theorem dX1_throwAway_9 : decode cX1_throwAway 9 = .ok (.ifCond .ne 5, 3) := by decide +kernel
theorem dX1_throwAway_12 : decode cX1_throwAway 12 = .ok (.iconst (-1), 1) := by decide +kernel
theorem dX1_throwAway_13 : decode cX1_throwAway 13 = .ok (.ireturn, 1) := by decide +kernel
theorem dX1_throwAway_14 : decode cX1_throwAway 14 = .ok (.aload_n 0, 1) := by decide +kernel
theorem dX1_throwAway_15 : decode cX1_throwAway 15 = .ok (.getfield 12, 3) := by decide +kernel
theorem dX1_throwAway_18 : decode cX1_throwAway 18 = .ok (.iload_n 1, 1) := by decide +kernel
theorem dX1_throwAway_19 : decode cX1_throwAway 19 = .ok (.iload_n 2, 1) := by decide +kernel
theorem dX1_throwAway_20 : decode cX1_throwAway 20 = .ok (.invokevirtual 95, 3) := by decide +kernel
theorem dX1_throwAway_23 : decode cX1_throwAway 23 = .ok (.istore_n 3, 1) := by decide +kernel
theorem dX1_throwAway_24 : decode cX1_throwAway 24 = .ok (.iload_n 1, 1) := by decide +kernel
theorem dX1_throwAway_25 : decode cX1_throwAway 25 = .ok (.ifCond .ne 14, 3) := by decide +kernel
theorem dX1_throwAway_28 : decode cX1_throwAway 28 = .ok (.aload_n 0, 1) := by decide +kernel
theorem dX1_throwAway_29 : decode cX1_throwAway 29 = .ok (.getfield 12, 3) := by decide +kernel
theorem dX1_throwAway_32 : decode cX1_throwAway 32 = .ok (.iload_n 2, 1) := by decide +kernel
theorem dX1_throwAway_33 : decode cX1_throwAway 33 = .ok (.invokevirtual 99, 3) := by decide +kernel
theorem dX1_throwAway_36 : decode cX1_throwAway 36 = .ok (.goto 4, 3) := by decide +kernel
theorem dX1_throwAway_39 : decode cX1_throwAway 39 = .ok (.iconst 0, 1) := by decide +kernel
theorem dX1_throwAway_40 : decode cX1_throwAway 40 = .ok (.istore 4, 2) := by decide +kernel
theorem dX1_throwAway_42 : decode cX1_throwAway 42 = .ok (.iload_n 1, 1) := by decide +kernel
theorem dX1_throwAway_43 : decode cX1_throwAway 43 = .ok (.ifCond .ne 15, 3) := by decide +kernel
theorem dX1_throwAway_46 : decode cX1_throwAway 46 = .ok (.aload_n 0, 1) := by decide +kernel
theorem dX1_throwAway_47 : decode cX1_throwAway 47 = .ok (.getfield 12, 3) := by decide +kernel
theorem dX1_throwAway_50 : decode cX1_throwAway 50 = .ok (.iload 4, 2) := by decide +kernel
theorem dX1_throwAway_52 : decode cX1_throwAway 52 = .ok (.invokevirtual 102, 3) := by decide +kernel
theorem dX1_throwAway_55 : decode cX1_throwAway 55 = .ok (.goto 7, 3) := by decide +kernel
theorem dX1_throwAway_58 : decode cX1_throwAway 58 = .ok (.iload_n 2, 1) := by decide +kernel
theorem dX1_throwAway_59 : decode cX1_throwAway 59 = .ok (.invokestatic 66, 3) := by decide +kernel
theorem dX1_throwAway_62 : decode cX1_throwAway 62 = .ok (.istore 5, 2) := by decide +kernel
theorem dX1_throwAway_64 : decode cX1_throwAway 64 = .ok (.aload_n 0, 1) := by decide +kernel
theorem dX1_throwAway_65 : decode cX1_throwAway 65 = .ok (.iload_n 3, 1) := by decide +kernel
theorem dX1_throwAway_66 : decode cX1_throwAway 66 = .ok (.iload 4, 2) := by decide +kernel
theorem dX1_throwAway_68 : decode cX1_throwAway 68 = .ok (.iload 5, 2) := by decide +kernel
theorem dX1_throwAway_70 : decode cX1_throwAway 70 = .ok (.invokevirtual 79, 3) := by decide +kernel
theorem dX1_throwAway_73 : decode cX1_throwAway 73 = .ok (.istore 6, 2) := by decide +kernel
theorem dX1_throwAway_75 : decode cX1_throwAway 75 = .ok (.aload_n 0, 1) := by decide +kernel
theorem dX1_throwAway_76 : decode cX1_throwAway 76 = .ok (.getfield 21, 3) := by decide +kernel
theorem dX1_throwAway_79 : decode cX1_throwAway 79 = .ok (.iload 6, 2) := by decide +kernel
theorem dX1_throwAway_81 : decode cX1_throwAway 81 = .ok (.invokevirtual 36, 3) := by decide +kernel
theorem dX1_throwAway_84 : decode cX1_throwAway 84 = .ok (.ifCond .ne 6, 3) := by decide +kernel
theorem dX1_throwAway_87 : decode cX1_throwAway 87 = .ok (.bipush (-4), 2) := by decide +kernel
theorem dX1_throwAway_89 : decode cX1_throwAway 89 = .ok (.ireturn, 1) := by decide +kernel
theorem dX1_throwAway_90 : decode cX1_throwAway 90 = .ok (.aload_n 0, 1) := by decide +kernel
theorem dX1_throwAway_91 : decode cX1_throwAway 91 = .ok (.iload_n 3, 1) := by decide +kernel
theorem dX1_throwAway_92 : decode cX1_throwAway 92 = .ok (.iload 4, 2) := by decide +kernel
theorem dX1_throwAway_94 : decode cX1_throwAway 94 = .ok (.iload 5, 2) := by decide +kernel
theorem dX1_throwAway_96 : decode cX1_throwAway 96 = .ok (.invokevirtual 105, 3) := by decide +kernel
theorem dX1_throwAway_99 : decode cX1_throwAway 99 = .ok (.ifCond .ne 6, 3) := by decide +kernel
theorem dX1_throwAway_102 : decode cX1_throwAway 102 = .ok (.bipush (-5), 2) := by decide +kernel
theorem dX1_throwAway_104 : decode cX1_throwAway 104 = .ok (.ireturn, 1) := by decide +kernel
theorem dX1_throwAway_105 : decode cX1_throwAway 105 = .ok (.aload_n 0, 1) := by decide +kernel
theorem dX1_throwAway_106 : decode cX1_throwAway 106 = .ok (.getfield 12, 3) := by decide +kernel
theorem dX1_throwAway_109 : decode cX1_throwAway 109 = .ok (.iload 4, 2) := by decide +kernel
theorem dX1_throwAway_111 : decode cX1_throwAway 111 = .ok (.iload 5, 2) := by decide +kernel
theorem dX1_throwAway_113 : decode cX1_throwAway 113 = .ok (.invokevirtual 109, 3) := by decide +kernel
theorem dX1_throwAway_116 : decode cX1_throwAway 116 = .ok (.aload_n 0, 1) := by decide +kernel
theorem dX1_throwAway_117 : decode cX1_throwAway 117 = .ok (.getfield 21, 3) := by decide +kernel
theorem dX1_throwAway_120 : decode cX1_throwAway 120 = .ok (.iload 4, 2) := by decide +kernel
theorem dX1_throwAway_122 : decode cX1_throwAway 122 = .ok (.iload 5, 2) := by decide +kernel
theorem dX1_throwAway_124 : decode cX1_throwAway 124 = .ok (.invokevirtual 112, 3) := by decide +kernel
theorem dX1_throwAway_127 : decode cX1_throwAway 127 = .ok (.aload_n 0, 1) := by decide +kernel
theorem dX1_throwAway_128 : decode cX1_throwAway 128 = .ok (.iload_n 3, 1) := by decide +kernel
theorem dX1_throwAway_129 : decode cX1_throwAway 129 = .ok (.invokevirtual 86, 3) := by decide +kernel
theorem dX1_throwAway_132 : decode cX1_throwAway 132 = .ok (.iconst 0, 1) := by decide +kernel
theorem dX1_throwAway_133 : decode cX1_throwAway 133 = .ok (.istore 7, 2) := by decide +kernel
theorem dX1_throwAway_135 : decode cX1_throwAway 135 = .ok (.iload 7, 2) := by decide +kernel
theorem dX1_throwAway_137 : decode cX1_throwAway 137 = .ok (.bipush 20, 2) := by decide +kernel
theorem dX1_throwAway_139 : decode cX1_throwAway 139 = .ok (.if_icmp .ge 24, 3) := by decide +kernel
theorem dX1_throwAway_142 : decode cX1_throwAway 142 = .ok (.iload_n 3, 1) := by decide +kernel
theorem dX1_throwAway_143 : decode cX1_throwAway 143 = .ok (.iload 7, 2) := by decide +kernel
theorem dX1_throwAway_145 : decode cX1_throwAway 145 = .ok (.invokestatic 115, 3) := by decide +kernel
theorem dX1_throwAway_148 : decode cX1_throwAway 148 = .ok (.ifCond .eq 9, 3) := by decide +kernel
theorem dX1_throwAway_151 : decode cX1_throwAway 151 = .ok (.aload_n 0, 1) := by decide +kernel
theorem dX1_throwAway_152 : decode cX1_throwAway 152 = .ok (.iload 7, 2) := by decide +kernel
theorem dX1_throwAway_154 : decode cX1_throwAway 154 = .ok (.invokevirtual 89, 3) := by decide +kernel
theorem dX1_throwAway_157 : decode cX1_throwAway 157 = .ok (.iinc 7 1, 3) := by decide +kernel
theorem dX1_throwAway_160 : decode cX1_throwAway 160 = .ok (.goto (-25), 3) := by decide +kernel
theorem dX1_throwAway_163 : decode cX1_throwAway 163 = .ok (.iload 6, 2) := by decide +kernel
theorem dX1_throwAway_165 : decode cX1_throwAway 165 = .ok (.ireturn, 1) := by decide +kernel
theorem dX1_wrapsByThrowing_0 : decode cX1_wrapsByThrowing 0 = .ok (.aload_n 0, 1) := by decide +kernel
theorem dX1_wrapsByThrowing_1 : decode cX1_wrapsByThrowing 1 = .ok (.getfield 12, 3) := by decide +kernel
theorem dX1_wrapsByThrowing_4 : decode cX1_wrapsByThrowing 4 = .ok (.iload_n 1, 1) := by decide +kernel
theorem dX1_wrapsByThrowing_5 : decode cX1_wrapsByThrowing 5 = .ok (.iload_n 2, 1) := by decide +kernel
theorem dX1_wrapsByThrowing_6 : decode cX1_wrapsByThrowing 6 = .ok (.invokevirtual 92, 3) := by decide +kernel
theorem dX1_wrapsByThrowing_9 : decode cX1_wrapsByThrowing 9 = .ok (.ifCond .ne 5, 3) := by decide +kernel
theorem dX1_wrapsByThrowing_12 : decode cX1_wrapsByThrowing 12 = .ok (.iconst (-1), 1) := by decide +kernel
theorem dX1_wrapsByThrowing_13 : decode cX1_wrapsByThrowing 13 = .ok (.ireturn, 1) := by decide +kernel
theorem dX1_wrapsByThrowing_14 : decode cX1_wrapsByThrowing 14 = .ok (.aload_n 0, 1) := by decide +kernel
theorem dX1_wrapsByThrowing_15 : decode cX1_wrapsByThrowing 15 = .ok (.getfield 12, 3) := by decide +kernel
theorem dX1_wrapsByThrowing_18 : decode cX1_wrapsByThrowing 18 = .ok (.iload_n 1, 1) := by decide +kernel
theorem dX1_wrapsByThrowing_19 : decode cX1_wrapsByThrowing 19 = .ok (.iload_n 2, 1) := by decide +kernel
theorem dX1_wrapsByThrowing_20 : decode cX1_wrapsByThrowing 20 = .ok (.invokevirtual 95, 3) := by decide +kernel
theorem dX1_wrapsByThrowing_23 : decode cX1_wrapsByThrowing 23 = .ok (.istore_n 3, 1) := by decide +kernel
theorem dX1_wrapsByThrowing_24 : decode cX1_wrapsByThrowing 24 = .ok (.iload_n 1, 1) := by decide +kernel
theorem dX1_wrapsByThrowing_25 : decode cX1_wrapsByThrowing 25 = .ok (.ifCond .ne 10, 3) := by decide +kernel
theorem dX1_wrapsByThrowing_28 : decode cX1_wrapsByThrowing 28 = .ok (.iload_n 2, 1) := by decide +kernel
theorem dX1_wrapsByThrowing_29 : decode cX1_wrapsByThrowing 29 = .ok (.invokestatic 66, 3) := by decide +kernel
theorem dX1_wrapsByThrowing_32 : decode cX1_wrapsByThrowing 32 = .ok (.goto 4, 3) := by decide +kernel
theorem dX1_wrapsByThrowing_35 : decode cX1_wrapsByThrowing 35 = .ok (.iconst 0, 1) := by decide +kernel
theorem dX1_wrapsByThrowing_36 : decode cX1_wrapsByThrowing 36 = .ok (.istore 4, 2) := by decide +kernel
theorem dX1_wrapsByThrowing_38 : decode cX1_wrapsByThrowing 38 = .ok (.iload_n 1, 1) := by decide +kernel
theorem dX1_wrapsByThrowing_39 : decode cX1_wrapsByThrowing 39 = .ok (.ifCond .ne 7, 3) := by decide +kernel
theorem dX1_wrapsByThrowing_42 : decode cX1_wrapsByThrowing 42 = .ok (.iconst 0, 1) := by decide +kernel
theorem dX1_wrapsByThrowing_43 : decode cX1_wrapsByThrowing 43 = .ok (.goto 7, 3) := by decide +kernel
theorem dX1_wrapsByThrowing_46 : decode cX1_wrapsByThrowing 46 = .ok (.iload_n 2, 1) := by decide +kernel
theorem dX1_wrapsByThrowing_47 : decode cX1_wrapsByThrowing 47 = .ok (.invokestatic 66, 3) := by decide +kernel
theorem dX1_wrapsByThrowing_50 : decode cX1_wrapsByThrowing 50 = .ok (.istore 5, 2) := by decide +kernel
theorem dX1_wrapsByThrowing_52 : decode cX1_wrapsByThrowing 52 = .ok (.aload_n 0, 1) := by decide +kernel
theorem dX1_wrapsByThrowing_53 : decode cX1_wrapsByThrowing 53 = .ok (.iload_n 3, 1) := by decide +kernel
theorem dX1_wrapsByThrowing_54 : decode cX1_wrapsByThrowing 54 = .ok (.iload 4, 2) := by decide +kernel
theorem dX1_wrapsByThrowing_56 : decode cX1_wrapsByThrowing 56 = .ok (.iload 5, 2) := by decide +kernel
theorem dX1_wrapsByThrowing_58 : decode cX1_wrapsByThrowing 58 = .ok (.invokevirtual 105, 3) := by decide +kernel
theorem dX1_wrapsByThrowing_61 : decode cX1_wrapsByThrowing 61 = .ok (.ifCond .eq 15, 3) := by decide +kernel
theorem dX1_wrapsByThrowing_64 : decode cX1_wrapsByThrowing 64 = .ok (.aload_n 0, 1) := by decide +kernel
theorem dX1_wrapsByThrowing_65 : decode cX1_wrapsByThrowing 65 = .ok (.iload_n 3, 1) := by decide +kernel
theorem dX1_wrapsByThrowing_66 : decode cX1_wrapsByThrowing 66 = .ok (.iload 4, 2) := by decide +kernel
theorem dX1_wrapsByThrowing_68 : decode cX1_wrapsByThrowing 68 = .ok (.iload 5, 2) := by decide +kernel
theorem dX1_wrapsByThrowing_70 : decode cX1_wrapsByThrowing 70 = .ok (.invokevirtual 79, 3) := by decide +kernel
theorem dX1_wrapsByThrowing_73 : decode cX1_wrapsByThrowing 73 = .ok (.goto 5, 3) := by decide +kernel
theorem dX1_wrapsByThrowing_76 : decode cX1_wrapsByThrowing 76 = .ok (.bipush (-5), 2) := by decide +kernel
theorem dX1_wrapsByThrowing_78 : decode cX1_wrapsByThrowing 78 = .ok (.ireturn, 1) := by decide +kernel
theorem dX1_hangingWithout_0 : decode cX1_hangingWithout 0 = .ok (.aload_n 0, 1) := by decide +kernel
theorem dX1_hangingWithout_1 : decode cX1_hangingWithout 1 = .ok (.getfield 12, 3) := by decide +kernel
theorem dX1_hangingWithout_4 : decode cX1_hangingWithout 4 = .ok (.iload_n 1, 1) := by decide +kernel
theorem dX1_hangingWithout_5 : decode cX1_hangingWithout 5 = .ok (.invokevirtual 118, 3) := by decide +kernel
theorem dX1_hangingWithout_8 : decode cX1_hangingWithout 8 = .ok (.iload_n 2, 1) := by decide +kernel
theorem dX1_hangingWithout_9 : decode cX1_hangingWithout 9 = .ok (.iconst (-1), 1) := by decide +kernel
theorem dX1_hangingWithout_10 : decode cX1_hangingWithout 10 = .ok (.ixor, 1) := by decide +kernel
theorem dX1_hangingWithout_11 : decode cX1_hangingWithout 11 = .ok (.iand, 1) := by decide +kernel
theorem dX1_hangingWithout_12 : decode cX1_hangingWithout 12 = .ok (.invokestatic 121, 3) := by decide +kernel
theorem dX1_hangingWithout_15 : decode cX1_hangingWithout 15 = .ok (.aload_n 0, 1) := by decide +kernel
theorem dX1_hangingWithout_16 : decode cX1_hangingWithout 16 = .ok (.getfield 12, 3) := by decide +kernel
theorem dX1_hangingWithout_19 : decode cX1_hangingWithout 19 = .ok (.iload_n 1, 1) := by decide +kernel
theorem dX1_hangingWithout_20 : decode cX1_hangingWithout 20 = .ok (.invokevirtual 102, 3) := by decide +kernel
theorem dX1_hangingWithout_23 : decode cX1_hangingWithout 23 = .ok (.iload_n 3, 1) := by decide +kernel
theorem dX1_hangingWithout_24 : decode cX1_hangingWithout 24 = .ok (.iconst (-1), 1) := by decide +kernel
theorem dX1_hangingWithout_25 : decode cX1_hangingWithout 25 = .ok (.ixor, 1) := by decide +kernel
theorem dX1_hangingWithout_26 : decode cX1_hangingWithout 26 = .ok (.iand, 1) := by decide +kernel
theorem dX1_hangingWithout_27 : decode cX1_hangingWithout 27 = .ok (.invokestatic 121, 3) := by decide +kernel
theorem dX1_hangingWithout_30 : decode cX1_hangingWithout 30 = .ok (.iadd, 1) := by decide +kernel
theorem dX1_hangingWithout_31 : decode cX1_hangingWithout 31 = .ok (.ireturn, 1) := by decide +kernel
theorem dX1_canWrapAgain_0 : decode cX1_canWrapAgain 0 = .ok (.iconst 0, 1) := by decide +kernel
theorem dX1_canWrapAgain_1 : decode cX1_canWrapAgain 1 = .ok (.istore 4, 2) := by decide +kernel
theorem dX1_canWrapAgain_3 : decode cX1_canWrapAgain 3 = .ok (.iload 4, 2) := by decide +kernel
theorem dX1_canWrapAgain_5 : decode cX1_canWrapAgain 5 = .ok (.bipush 20, 2) := by decide +kernel
theorem dX1_canWrapAgain_7 : decode cX1_canWrapAgain 7 = .ok (.if_icmp .ge 41, 3) := by decide +kernel
theorem dX1_canWrapAgain_10 : decode cX1_canWrapAgain 10 = .ok (.iload_n 1, 1) := by decide +kernel
theorem dX1_canWrapAgain_11 : decode cX1_canWrapAgain 11 = .ok (.iload 4, 2) := by decide +kernel
theorem dX1_canWrapAgain_13 : decode cX1_canWrapAgain 13 = .ok (.invokestatic 115, 3) := by decide +kernel
theorem dX1_canWrapAgain_16 : decode cX1_canWrapAgain 16 = .ok (.ifCond .eq 26, 3) := by decide +kernel
theorem dX1_canWrapAgain_19 : decode cX1_canWrapAgain 19 = .ok (.aload_n 0, 1) := by decide +kernel
theorem dX1_canWrapAgain_20 : decode cX1_canWrapAgain 20 = .ok (.iload 4, 2) := by decide +kernel
theorem dX1_canWrapAgain_22 : decode cX1_canWrapAgain 22 = .ok (.invokestatic 66, 3) := by decide +kernel
theorem dX1_canWrapAgain_25 : decode cX1_canWrapAgain 25 = .ok (.iload_n 2, 1) := by decide +kernel
theorem dX1_canWrapAgain_26 : decode cX1_canWrapAgain 26 = .ok (.iload_n 3, 1) := by decide +kernel
theorem dX1_canWrapAgain_27 : decode cX1_canWrapAgain 27 = .ok (.invokevirtual 79, 3) := by decide +kernel
theorem dX1_canWrapAgain_30 : decode cX1_canWrapAgain 30 = .ok (.aload_n 0, 1) := by decide +kernel
theorem dX1_canWrapAgain_31 : decode cX1_canWrapAgain 31 = .ok (.getfield 12, 3) := by decide +kernel
theorem dX1_canWrapAgain_34 : decode cX1_canWrapAgain 34 = .ok (.getfield 25, 3) := by decide +kernel
theorem dX1_canWrapAgain_37 : decode cX1_canWrapAgain 37 = .ok (.if_icmp .le 5, 3) := by decide +kernel
theorem dX1_canWrapAgain_40 : decode cX1_canWrapAgain 40 = .ok (.iconst 0, 1) := by decide +kernel
theorem dX1_canWrapAgain_41 : decode cX1_canWrapAgain 41 = .ok (.ireturn, 1) := by decide +kernel
theorem dX1_canWrapAgain_42 : decode cX1_canWrapAgain 42 = .ok (.iinc 4 1, 3) := by decide +kernel
theorem dX1_canWrapAgain_45 : decode cX1_canWrapAgain 45 = .ok (.goto (-42), 3) := by decide +kernel
theorem dX1_canWrapAgain_48 : decode cX1_canWrapAgain 48 = .ok (.iconst 1, 1) := by decide +kernel
theorem dX1_canWrapAgain_49 : decode cX1_canWrapAgain 49 = .ok (.ireturn, 1) := by decide +kernel
theorem dX1_startNextMakes_0 : decode cX1_startNextMakes 0 = .ok (.iconst 0, 1) := by decide +kernel
theorem dX1_startNextMakes_1 : decode cX1_startNextMakes 1 = .ok (.istore_n 2, 1) := by decide +kernel
theorem dX1_startNextMakes_2 : decode cX1_startNextMakes 2 = .ok (.iload_n 2, 1) := by decide +kernel
theorem dX1_startNextMakes_3 : decode cX1_startNextMakes 3 = .ok (.bipush 20, 2) := by decide +kernel
theorem dX1_startNextMakes_5 : decode cX1_startNextMakes 5 = .ok (.if_icmp .ge 41, 3) := by decide +kernel
theorem dX1_startNextMakes_8 : decode cX1_startNextMakes 8 = .ok (.iload_n 1, 1) := by decide +kernel
theorem dX1_startNextMakes_9 : decode cX1_startNextMakes 9 = .ok (.iload_n 2, 1) := by decide +kernel
theorem dX1_startNextMakes_10 : decode cX1_startNextMakes 10 = .ok (.invokestatic 115, 3) := by decide +kernel
theorem dX1_startNextMakes_13 : decode cX1_startNextMakes 13 = .ok (.ifCond .eq 27, 3) := by decide +kernel
theorem dX1_startNextMakes_16 : decode cX1_startNextMakes 16 = .ok (.aload_n 0, 1) := by decide +kernel
theorem dX1_startNextMakes_17 : decode cX1_startNextMakes 17 = .ok (.getfield 12, 3) := by decide +kernel
theorem dX1_startNextMakes_20 : decode cX1_startNextMakes 20 = .ok (.iload_n 2, 1) := by decide +kernel
theorem dX1_startNextMakes_21 : decode cX1_startNextMakes 21 = .ok (.invokevirtual 126, 3) := by decide +kernel
theorem dX1_startNextMakes_24 : decode cX1_startNextMakes 24 = .ok (.aload_n 0, 1) := by decide +kernel
theorem dX1_startNextMakes_25 : decode cX1_startNextMakes 25 = .ok (.getfield 21, 3) := by decide +kernel
theorem dX1_startNextMakes_28 : decode cX1_startNextMakes 28 = .ok (.iload_n 2, 1) := by decide +kernel
theorem dX1_startNextMakes_29 : decode cX1_startNextMakes 29 = .ok (.aload_n 0, 1) := by decide +kernel
theorem dX1_startNextMakes_30 : decode cX1_startNextMakes 30 = .ok (.getfield 12, 3) := by decide +kernel
theorem dX1_startNextMakes_33 : decode cX1_startNextMakes 33 = .ok (.iload_n 2, 1) := by decide +kernel
theorem dX1_startNextMakes_34 : decode cX1_startNextMakes 34 = .ok (.invokevirtual 129, 3) := by decide +kernel
theorem dX1_startNextMakes_37 : decode cX1_startNextMakes 37 = .ok (.invokevirtual 132, 3) := by decide +kernel
theorem dX1_startNextMakes_40 : decode cX1_startNextMakes 40 = .ok (.iinc 2 1, 3) := by decide +kernel
theorem dX1_startNextMakes_43 : decode cX1_startNextMakes 43 = .ok (.goto (-41), 3) := by decide +kernel
theorem dX1_startNextMakes_46 : decode cX1_startNextMakes 46 = .ok (.return_, 1) := by decide +kernel
theorem dX1_wrapAllOn_0 : decode cX1_wrapAllOn 0 = .ok (.aload_n 0, 1) := by decide +kernel
theorem dX1_wrapAllOn_1 : decode cX1_wrapAllOn 1 = .ok (.getfield 12, 3) := by decide +kernel
theorem dX1_wrapAllOn_4 : decode cX1_wrapAllOn 4 = .ok (.iload_n 1, 1) := by decide +kernel
theorem dX1_wrapAllOn_5 : decode cX1_wrapAllOn 5 = .ok (.invokestatic 66, 3) := by decide +kernel
theorem dX1_wrapAllOn_8 : decode cX1_wrapAllOn 8 = .ok (.invokevirtual 118, 3) := by decide +kernel
theorem dX1_wrapAllOn_11 : decode cX1_wrapAllOn 11 = .ok (.istore_n 2, 1) := by decide +kernel
theorem dX1_wrapAllOn_12 : decode cX1_wrapAllOn 12 = .ok (.aload_n 0, 1) := by decide +kernel
theorem dX1_wrapAllOn_13 : decode cX1_wrapAllOn 13 = .ok (.getfield 12, 3) := by decide +kernel
theorem dX1_wrapAllOn_16 : decode cX1_wrapAllOn 16 = .ok (.iload_n 1, 1) := by decide +kernel
theorem dX1_wrapAllOn_17 : decode cX1_wrapAllOn 17 = .ok (.invokestatic 66, 3) := by decide +kernel
theorem dX1_wrapAllOn_20 : decode cX1_wrapAllOn 20 = .ok (.invokevirtual 102, 3) := by decide +kernel
theorem dX1_wrapAllOn_23 : decode cX1_wrapAllOn 23 = .ok (.istore_n 3, 1) := by decide +kernel
theorem dX1_wrapAllOn_24 : decode cX1_wrapAllOn 24 = .ok (.iconst 0, 1) := by decide +kernel
theorem dX1_wrapAllOn_25 : decode cX1_wrapAllOn 25 = .ok (.istore 4, 2) := by decide +kernel
theorem dX1_wrapAllOn_27 : decode cX1_wrapAllOn 27 = .ok (.iload 4, 2) := by decide +kernel
theorem dX1_wrapAllOn_29 : decode cX1_wrapAllOn 29 = .ok (.bipush 20, 2) := by decide +kernel
theorem dX1_wrapAllOn_31 : decode cX1_wrapAllOn 31 = .ok (.if_icmp .ge 24, 3) := by decide +kernel
theorem dX1_wrapAllOn_34 : decode cX1_wrapAllOn 34 = .ok (.iload_n 2, 1) := by decide +kernel
theorem dX1_wrapAllOn_35 : decode cX1_wrapAllOn 35 = .ok (.iload 4, 2) := by decide +kernel
theorem dX1_wrapAllOn_37 : decode cX1_wrapAllOn 37 = .ok (.invokestatic 115, 3) := by decide +kernel
theorem dX1_wrapAllOn_40 : decode cX1_wrapAllOn 40 = .ok (.ifCond .eq 9, 3) := by decide +kernel
theorem dX1_wrapAllOn_43 : decode cX1_wrapAllOn 43 = .ok (.aload_n 0, 1) := by decide +kernel
theorem dX1_wrapAllOn_44 : decode cX1_wrapAllOn 44 = .ok (.iload 4, 2) := by decide +kernel
theorem dX1_wrapAllOn_46 : decode cX1_wrapAllOn 46 = .ok (.invokevirtual 46, 3) := by decide +kernel
theorem dX1_wrapAllOn_49 : decode cX1_wrapAllOn 49 = .ok (.iinc 4 1, 3) := by decide +kernel
theorem dX1_wrapAllOn_52 : decode cX1_wrapAllOn 52 = .ok (.goto (-25), 3) := by decide +kernel
theorem dX1_wrapAllOn_55 : decode cX1_wrapAllOn 55 = .ok (.iconst 0, 1) := by decide +kernel
theorem dX1_wrapAllOn_56 : decode cX1_wrapAllOn 56 = .ok (.istore 4, 2) := by decide +kernel
theorem dX1_wrapAllOn_58 : decode cX1_wrapAllOn 58 = .ok (.iload 4, 2) := by decide +kernel
theorem dX1_wrapAllOn_60 : decode cX1_wrapAllOn 60 = .ok (.bipush 20, 2) := by decide +kernel
theorem dX1_wrapAllOn_62 : decode cX1_wrapAllOn 62 = .ok (.if_icmp .ge 24, 3) := by decide +kernel
theorem dX1_wrapAllOn_65 : decode cX1_wrapAllOn 65 = .ok (.iload_n 3, 1) := by decide +kernel
theorem dX1_wrapAllOn_66 : decode cX1_wrapAllOn 66 = .ok (.iload 4, 2) := by decide +kernel
theorem dX1_wrapAllOn_68 : decode cX1_wrapAllOn 68 = .ok (.invokestatic 115, 3) := by decide +kernel
theorem dX1_wrapAllOn_71 : decode cX1_wrapAllOn 71 = .ok (.ifCond .eq 9, 3) := by decide +kernel
theorem dX1_wrapAllOn_74 : decode cX1_wrapAllOn 74 = .ok (.aload_n 0, 1) := by decide +kernel
theorem dX1_wrapAllOn_75 : decode cX1_wrapAllOn 75 = .ok (.iload 4, 2) := by decide +kernel
theorem dX1_wrapAllOn_77 : decode cX1_wrapAllOn 77 = .ok (.invokevirtual 56, 3) := by decide +kernel
theorem dX1_wrapAllOn_80 : decode cX1_wrapAllOn 80 = .ok (.iinc 4 1, 3) := by decide +kernel
theorem dX1_wrapAllOn_83 : decode cX1_wrapAllOn 83 = .ok (.goto (-25), 3) := by decide +kernel
theorem dX1_wrapAllOn_86 : decode cX1_wrapAllOn 86 = .ok (.return_, 1) := by decide +kernel
theorem dX1_wrapKey_0 : decode cX1_wrapKey 0 = .ok (.aload_n 0, 1) := by decide +kernel
theorem dX1_wrapKey_1 : decode cX1_wrapKey 1 = .ok (.getfield 12, 3) := by decide +kernel
theorem dX1_wrapKey_4 : decode cX1_wrapKey 4 = .ok (.iload_n 1, 1) := by decide +kernel
theorem dX1_wrapKey_5 : decode cX1_wrapKey 5 = .ok (.invokevirtual 83, 3) := by decide +kernel
theorem dX1_wrapKey_8 : decode cX1_wrapKey 8 = .ok (.istore_n 2, 1) := by decide +kernel
theorem dX1_wrapKey_9 : decode cX1_wrapKey 9 = .ok (.aload_n 0, 1) := by decide +kernel
theorem dX1_wrapKey_10 : decode cX1_wrapKey 10 = .ok (.getfield 21, 3) := by decide +kernel
theorem dX1_wrapKey_13 : decode cX1_wrapKey 13 = .ok (.iload_n 1, 1) := by decide +kernel
theorem dX1_wrapKey_14 : decode cX1_wrapKey 14 = .ok (.aload_n 0, 1) := by decide +kernel
theorem dX1_wrapKey_15 : decode cX1_wrapKey 15 = .ok (.getfield 12, 3) := by decide +kernel
theorem dX1_wrapKey_18 : decode cX1_wrapKey 18 = .ok (.iload_n 1, 1) := by decide +kernel
theorem dX1_wrapKey_19 : decode cX1_wrapKey 19 = .ok (.invokevirtual 129, 3) := by decide +kernel
theorem dX1_wrapKey_22 : decode cX1_wrapKey 22 = .ok (.iload_n 2, 1) := by decide +kernel
theorem dX1_wrapKey_23 : decode cX1_wrapKey 23 = .ok (.aload_n 0, 1) := by decide +kernel
theorem dX1_wrapKey_24 : decode cX1_wrapKey 24 = .ok (.getfield 12, 3) := by decide +kernel
theorem dX1_wrapKey_27 : decode cX1_wrapKey 27 = .ok (.iload_n 2, 1) := by decide +kernel
theorem dX1_wrapKey_28 : decode cX1_wrapKey 28 = .ok (.invokevirtual 129, 3) := by decide +kernel
theorem dX1_wrapKey_31 : decode cX1_wrapKey 31 = .ok (.invokevirtual 135, 3) := by decide +kernel
theorem dX1_wrapKey_34 : decode cX1_wrapKey 34 = .ok (.aload_n 0, 1) := by decide +kernel
theorem dX1_wrapKey_35 : decode cX1_wrapKey 35 = .ok (.getfield 12, 3) := by decide +kernel
theorem dX1_wrapKey_38 : decode cX1_wrapKey 38 = .ok (.iload_n 2, 1) := by decide +kernel
theorem dX1_wrapKey_39 : decode cX1_wrapKey 39 = .ok (.invokevirtual 139, 3) := by decide +kernel
theorem dX1_wrapKey_42 : decode cX1_wrapKey 42 = .ok (.return_, 1) := by decide +kernel
theorem dX1_wrapBox_0 : decode cX1_wrapBox 0 = .ok (.aload_n 0, 1) := by decide +kernel
theorem dX1_wrapBox_1 : decode cX1_wrapBox 1 = .ok (.getfield 12, 3) := by decide +kernel
theorem dX1_wrapBox_4 : decode cX1_wrapBox 4 = .ok (.iload_n 1, 1) := by decide +kernel
theorem dX1_wrapBox_5 : decode cX1_wrapBox 5 = .ok (.invokevirtual 142, 3) := by decide +kernel
theorem dX1_wrapBox_8 : decode cX1_wrapBox 8 = .ok (.istore_n 2, 1) := by decide +kernel
theorem dX1_wrapBox_9 : decode cX1_wrapBox 9 = .ok (.aload_n 0, 1) := by decide +kernel
theorem dX1_wrapBox_10 : decode cX1_wrapBox 10 = .ok (.getfield 21, 3) := by decide +kernel
theorem dX1_wrapBox_13 : decode cX1_wrapBox 13 = .ok (.bipush (-6), 2) := by decide +kernel
theorem dX1_wrapBox_15 : decode cX1_wrapBox 15 = .ok (.iload_n 1, 1) := by decide +kernel
theorem dX1_wrapBox_16 : decode cX1_wrapBox 16 = .ok (.iload_n 2, 1) := by decide +kernel
theorem dX1_wrapBox_17 : decode cX1_wrapBox 17 = .ok (.aload_n 0, 1) := by decide +kernel
theorem dX1_wrapBox_18 : decode cX1_wrapBox 18 = .ok (.getfield 12, 3) := by decide +kernel
theorem dX1_wrapBox_21 : decode cX1_wrapBox 21 = .ok (.iload_n 2, 1) := by decide +kernel
theorem dX1_wrapBox_22 : decode cX1_wrapBox 22 = .ok (.invokevirtual 129, 3) := by decide +kernel
theorem dX1_wrapBox_25 : decode cX1_wrapBox 25 = .ok (.invokevirtual 135, 3) := by decide +kernel
theorem dX1_wrapBox_28 : decode cX1_wrapBox 28 = .ok (.aload_n 0, 1) := by decide +kernel
theorem dX1_wrapBox_29 : decode cX1_wrapBox 29 = .ok (.getfield 12, 3) := by decide +kernel
theorem dX1_wrapBox_32 : decode cX1_wrapBox 32 = .ok (.iload_n 2, 1) := by decide +kernel
theorem dX1_wrapBox_33 : decode cX1_wrapBox 33 = .ok (.invokevirtual 139, 3) := by decide +kernel
theorem dX1_wrapBox_36 : decode cX1_wrapBox 36 = .ok (.return_, 1) := by decide +kernel
theorem dX1_become_0 : decode cX1_become 0 = .ok (.aload_n 1, 1) := by decide +kernel
theorem dX1_become_1 : decode cX1_become 1 = .ok (.ifnonnull 4, 3) := by decide +kernel
theorem dX1_become_4 : decode cX1_become 4 = .ok (.return_, 1) := by decide +kernel
theorem dX1_become_5 : decode cX1_become 5 = .ok (.aload_n 0, 1) := by decide +kernel
theorem dX1_become_6 : decode cX1_become 6 = .ok (.getfield 12, 3) := by decide +kernel
theorem dX1_become_9 : decode cX1_become 9 = .ok (.aload_n 1, 1) := by decide +kernel
theorem dX1_become_10 : decode cX1_become 10 = .ok (.getfield 12, 3) := by decide +kernel
theorem dX1_become_13 : decode cX1_become 13 = .ok (.invokevirtual 154, 3) := by decide +kernel
theorem dX1_become_16 : decode cX1_become 16 = .ok (.aload_n 0, 1) := by decide +kernel
theorem dX1_become_17 : decode cX1_become 17 = .ok (.getfield 21, 3) := by decide +kernel
theorem dX1_become_20 : decode cX1_become 20 = .ok (.aload_n 1, 1) := by decide +kernel
theorem dX1_become_21 : decode cX1_become 21 = .ok (.getfield 21, 3) := by decide +kernel
theorem dX1_become_24 : decode cX1_become 24 = .ok (.invokevirtual 158, 3) := by decide +kernel
theorem dX1_become_27 : decode cX1_become 27 = .ok (.return_, 1) := by decide +kernel
theorem dX2_init_0 : decode cX2_init 0 = .ok (.aload_n 0, 1) := by decide +kernel
theorem dX2_init_1 : decode cX2_init 1 = .ok (.invokespecial 3, 3) := by decide +kernel
theorem dX2_init_4 : decode cX2_init 4 = .ok (.aload_n 0, 1) := by decide +kernel
theorem dX2_init_5 : decode cX2_init 5 = .ok (.new 9, 3) := by decide +kernel
theorem dX2_init_8 : decode cX2_init 8 = .ok (.dup, 1) := by decide +kernel
theorem dX2_init_9 : decode cX2_init 9 = .ok (.bipush 20, 2) := by decide +kernel
theorem dX2_init_11 : decode cX2_init 11 = .ok (.invokespecial 11, 3) := by decide +kernel
theorem dX2_init_14 : decode cX2_init 14 = .ok (.putfield 14, 3) := by decide +kernel
theorem dX2_init_17 : decode cX2_init 17 = .ok (.aload_n 0, 1) := by decide +kernel
theorem dX2_init_18 : decode cX2_init 18 = .ok (.new 9, 3) := by decide +kernel
theorem dX2_init_21 : decode cX2_init 21 = .ok (.dup, 1) := by decide +kernel
theorem dX2_init_22 : decode cX2_init 22 = .ok (.bipush 120, 2) := by decide +kernel
theorem dX2_init_24 : decode cX2_init 24 = .ok (.invokespecial 11, 3) := by decide +kernel
theorem dX2_init_27 : decode cX2_init 27 = .ok (.putfield 20, 3) := by decide +kernel
theorem dX2_init_30 : decode cX2_init 30 = .ok (.return_, 1) := by decide +kernel
theorem dX2_boxesWith_0 : decode cX2_boxesWith 0 = .ok (.aload_n 1, 1) := by decide +kernel
theorem dX2_boxesWith_1 : decode cX2_boxesWith 1 = .ok (.ifnonnull 5, 3) := by decide +kernel
theorem dX2_boxesWith_4 : decode cX2_boxesWith 4 = .ok (.iconst 0, 1) := by decide +kernel
theorem dX2_boxesWith_5 : decode cX2_boxesWith 5 = .ok (.ireturn, 1) := by decide +kernel
theorem dX2_boxesWith_6 : decode cX2_boxesWith 6 = .ok (.aload_n 0, 1) := by decide +kernel
theorem dX2_boxesWith_7 : decode cX2_boxesWith 7 = .ok (.aload_n 1, 1) := by decide +kernel
theorem dX2_boxesWith_8 : decode cX2_boxesWith 8 = .ok (.getfield 23, 3) := by decide +kernel
theorem dX2_boxesWith_11 : decode cX2_boxesWith 11 = .ok (.invokevirtual 29, 3) := by decide +kernel
theorem dX2_boxesWith_14 : decode cX2_boxesWith 14 = .ok (.aload_n 0, 1) := by decide +kernel
theorem dX2_boxesWith_15 : decode cX2_boxesWith 15 = .ok (.aload_n 1, 1) := by decide +kernel
theorem dX2_boxesWith_16 : decode cX2_boxesWith 16 = .ok (.getfield 33, 3) := by decide +kernel
theorem dX2_boxesWith_19 : decode cX2_boxesWith 19 = .ok (.iload_n 2, 1) := by decide +kernel
theorem dX2_boxesWith_20 : decode cX2_boxesWith 20 = .ok (.bipush 8, 2) := by decide +kernel
theorem dX2_boxesWith_22 : decode cX2_boxesWith 22 = .ok (.ior, 1) := by decide +kernel
theorem dX2_boxesWith_23 : decode cX2_boxesWith 23 = .ok (.invokevirtual 37, 3) := by decide +kernel
theorem dX2_boxesWith_26 : decode cX2_boxesWith 26 = .ok (.aload_n 0, 1) := by decide +kernel
theorem dX2_boxesWith_27 : decode cX2_boxesWith 27 = .ok (.aload_n 1, 1) := by decide +kernel
theorem dX2_boxesWith_28 : decode cX2_boxesWith 28 = .ok (.getfield 33, 3) := by decide +kernel
theorem dX2_boxesWith_31 : decode cX2_boxesWith 31 = .ok (.invokevirtual 41, 3) := by decide +kernel
theorem dX2_boxesWith_34 : decode cX2_boxesWith 34 = .ok (.ireturn, 1) := by decide +kernel
theorem dX2_canHaveKey_0 : decode cX2_canHaveKey 0 = .ok (.aload_n 1, 1) := by decide +kernel
theorem dX2_canHaveKey_1 : decode cX2_canHaveKey 1 = .ok (.ifnonnull 5, 3) := by decide +kernel
theorem dX2_canHaveKey_4 : decode cX2_canHaveKey 4 = .ok (.iconst 0, 1) := by decide +kernel
theorem dX2_canHaveKey_5 : decode cX2_canHaveKey 5 = .ok (.ireturn, 1) := by decide +kernel
theorem dX2_canHaveKey_6 : decode cX2_canHaveKey 6 = .ok (.aload_n 0, 1) := by decide +kernel
theorem dX2_canHaveKey_7 : decode cX2_canHaveKey 7 = .ok (.aload_n 1, 1) := by decide +kernel
theorem dX2_canHaveKey_8 : decode cX2_canHaveKey 8 = .ok (.getfield 23, 3) := by decide +kernel
theorem dX2_canHaveKey_11 : decode cX2_canHaveKey 11 = .ok (.invokevirtual 29, 3) := by decide +kernel
theorem dX2_canHaveKey_14 : decode cX2_canHaveKey 14 = .ok (.aload_n 0, 1) := by decide +kernel
theorem dX2_canHaveKey_15 : decode cX2_canHaveKey 15 = .ok (.aload_n 1, 1) := by decide +kernel
theorem dX2_canHaveKey_16 : decode cX2_canHaveKey 16 = .ok (.getfield 33, 3) := by decide +kernel
theorem dX2_canHaveKey_19 : decode cX2_canHaveKey 19 = .ok (.iload 4, 2) := by decide +kernel
theorem dX2_canHaveKey_21 : decode cX2_canHaveKey 21 = .ok (.bipush 8, 2) := by decide +kernel
theorem dX2_canHaveKey_23 : decode cX2_canHaveKey 23 = .ok (.ior, 1) := by decide +kernel
theorem dX2_canHaveKey_24 : decode cX2_canHaveKey 24 = .ok (.invokevirtual 37, 3) := by decide +kernel
theorem dX2_canHaveKey_27 : decode cX2_canHaveKey 27 = .ok (.aload_n 0, 1) := by decide +kernel
theorem dX2_canHaveKey_28 : decode cX2_canHaveKey 28 = .ok (.aload_n 1, 1) := by decide +kernel
theorem dX2_canHaveKey_29 : decode cX2_canHaveKey 29 = .ok (.getfield 33, 3) := by decide +kernel
theorem dX2_canHaveKey_32 : decode cX2_canHaveKey 32 = .ok (.iload_n 2, 1) := by decide +kernel
theorem dX2_canHaveKey_33 : decode cX2_canHaveKey 33 = .ok (.iload_n 3, 1) := by decide +kernel
theorem dX2_canHaveKey_34 : decode cX2_canHaveKey 34 = .ok (.invokevirtual 45, 3) := by decide +kernel
theorem dX2_canHaveKey_37 : decode cX2_canHaveKey 37 = .ok (.ireturn, 1) := by decide +kernel
theorem dX2_boxesByLeak_0 : decode cX2_boxesByLeak 0 = .ok (.aload_n 1, 1) := by decide +kernel
theorem dX2_boxesByLeak_1 : decode cX2_boxesByLeak 1 = .ok (.ifnonnull 5, 3) := by decide +kernel
theorem dX2_boxesByLeak_4 : decode cX2_boxesByLeak 4 = .ok (.iconst 0, 1) := by decide +kernel
theorem dX2_boxesByLeak_5 : decode cX2_boxesByLeak 5 = .ok (.ireturn, 1) := by decide +kernel
theorem dX2_boxesByLeak_6 : decode cX2_boxesByLeak 6 = .ok (.aload_n 0, 1) := by decide +kernel
theorem dX2_boxesByLeak_7 : decode cX2_boxesByLeak 7 = .ok (.getfield 14, 3) := by decide +kernel
theorem dX2_boxesByLeak_10 : decode cX2_boxesByLeak 10 = .ok (.bipush (-6), 2) := by decide +kernel
theorem dX2_boxesByLeak_12 : decode cX2_boxesByLeak 12 = .ok (.invokevirtual 49, 3) := by decide +kernel
theorem dX2_boxesByLeak_15 : decode cX2_boxesByLeak 15 = .ok (.aload_n 0, 1) := by decide +kernel
theorem dX2_boxesByLeak_16 : decode cX2_boxesByLeak 16 = .ok (.getfield 14, 3) := by decide +kernel
theorem dX2_boxesByLeak_19 : decode cX2_boxesByLeak 19 = .ok (.iload_n 2, 1) := by decide +kernel
theorem dX2_boxesByLeak_20 : decode cX2_boxesByLeak 20 = .ok (.iload_n 3, 1) := by decide +kernel
theorem dX2_boxesByLeak_21 : decode cX2_boxesByLeak 21 = .ok (.invokevirtual 52, 3) := by decide +kernel
theorem dX2_boxesByLeak_24 : decode cX2_boxesByLeak 24 = .ok (.aload_n 0, 1) := by decide +kernel
theorem dX2_boxesByLeak_25 : decode cX2_boxesByLeak 25 = .ok (.aload_n 1, 1) := by decide +kernel
theorem dX2_boxesByLeak_26 : decode cX2_boxesByLeak 26 = .ok (.getfield 33, 3) := by decide +kernel
theorem dX2_boxesByLeak_29 : decode cX2_boxesByLeak 29 = .ok (.iload 4, 2) := by decide +kernel
theorem dX2_boxesByLeak_31 : decode cX2_boxesByLeak 31 = .ok (.invokevirtual 37, 3) := by decide +kernel
theorem dX2_boxesByLeak_34 : decode cX2_boxesByLeak 34 = .ok (.aload_n 0, 1) := by decide +kernel
theorem dX2_boxesByLeak_35 : decode cX2_boxesByLeak 35 = .ok (.aload_n 1, 1) := by decide +kernel
theorem dX2_boxesByLeak_36 : decode cX2_boxesByLeak 36 = .ok (.getfield 33, 3) := by decide +kernel
theorem dX2_boxesByLeak_39 : decode cX2_boxesByLeak 39 = .ok (.invokevirtual 41, 3) := by decide +kernel
theorem dX2_boxesByLeak_42 : decode cX2_boxesByLeak 42 = .ok (.ireturn, 1) := by decide +kernel
theorem dX2_startFromSafe_0 : decode cX2_startFromSafe 0 = .ok (.aload_n 0, 1) := by decide +kernel
theorem dX2_startFromSafe_1 : decode cX2_startFromSafe 1 = .ok (.getfield 14, 3) := by decide +kernel
theorem dX2_startFromSafe_4 : decode cX2_startFromSafe 4 = .ok (.bipush (-6), 2) := by decide +kernel
theorem dX2_startFromSafe_6 : decode cX2_startFromSafe 6 = .ok (.invokevirtual 49, 3) := by decide +kernel
theorem dX2_startFromSafe_9 : decode cX2_startFromSafe 9 = .ok (.iconst 0, 1) := by decide +kernel
theorem dX2_startFromSafe_10 : decode cX2_startFromSafe 10 = .ok (.istore_n 2, 1) := by decide +kernel
theorem dX2_startFromSafe_11 : decode cX2_startFromSafe 11 = .ok (.iload_n 2, 1) := by decide +kernel
theorem dX2_startFromSafe_12 : decode cX2_startFromSafe 12 = .ok (.bipush 20, 2) := by decide +kernel
theorem dX2_startFromSafe_14 : decode cX2_startFromSafe 14 = .ok (.if_icmp .ge 38, 3) := by decide +kernel
theorem dX2_startFromSafe_17 : decode cX2_startFromSafe 17 = .ok (.aload_n 1, 1) := by decide +kernel
theorem dX2_startFromSafe_18 : decode cX2_startFromSafe 18 = .ok (.iload_n 2, 1) := by decide +kernel
theorem dX2_startFromSafe_19 : decode cX2_startFromSafe 19 = .ok (.invokevirtual 56, 3) := by decide +kernel
theorem dX2_startFromSafe_22 : decode cX2_startFromSafe 22 = .ok (.ifCond .eq 24, 3) := by decide +kernel
theorem dX2_startFromSafe_25 : decode cX2_startFromSafe 25 = .ok (.aload_n 1, 1) := by decide +kernel
theorem dX2_startFromSafe_26 : decode cX2_startFromSafe 26 = .ok (.iload_n 2, 1) := by decide +kernel
theorem dX2_startFromSafe_27 : decode cX2_startFromSafe 27 = .ok (.invokevirtual 62, 3) := by decide +kernel
theorem dX2_startFromSafe_30 : decode cX2_startFromSafe 30 = .ok (.ifCond .eq 16, 3) := by decide +kernel
theorem dX2_startFromSafe_33 : decode cX2_startFromSafe 33 = .ok (.aload_n 0, 1) := by decide +kernel
theorem dX2_startFromSafe_34 : decode cX2_startFromSafe 34 = .ok (.getfield 14, 3) := by decide +kernel
theorem dX2_startFromSafe_37 : decode cX2_startFromSafe 37 = .ok (.iload_n 2, 1) := by decide +kernel
theorem dX2_startFromSafe_38 : decode cX2_startFromSafe 38 = .ok (.aload_n 1, 1) := by decide +kernel
theorem dX2_startFromSafe_39 : decode cX2_startFromSafe 39 = .ok (.iload_n 2, 1) := by decide +kernel
theorem dX2_startFromSafe_40 : decode cX2_startFromSafe 40 = .ok (.invokevirtual 65, 3) := by decide +kernel
theorem dX2_startFromSafe_43 : decode cX2_startFromSafe 43 = .ok (.invokevirtual 52, 3) := by decide +kernel
theorem dX2_startFromSafe_46 : decode cX2_startFromSafe 46 = .ok (.iinc 2 1, 3) := by decide +kernel
theorem dX2_startFromSafe_49 : decode cX2_startFromSafe 49 = .ok (.goto (-38), 3) := by decide +kernel
theorem dX2_startFromSafe_52 : decode cX2_startFromSafe 52 = .ok (.return_, 1) := by decide +kernel
theorem dX2_openAll_0 : decode cX2_openAll 0 = .ok (.aload_n 0, 1) := by decide +kernel
theorem dX2_openAll_1 : decode cX2_openAll 1 = .ok (.getfield 20, 3) := by decide +kernel
theorem dX2_openAll_4 : decode cX2_openAll 4 = .ok (.iconst 0, 1) := by decide +kernel
theorem dX2_openAll_5 : decode cX2_openAll 5 = .ok (.invokevirtual 49, 3) := by decide +kernel
theorem dX2_openAll_8 : decode cX2_openAll 8 = .ok (.iconst 0, 1) := by decide +kernel
theorem dX2_openAll_9 : decode cX2_openAll 9 = .ok (.istore_n 3, 1) := by decide +kernel
theorem dX2_openAll_10 : decode cX2_openAll 10 = .ok (.iload_n 3, 1) := by decide +kernel
theorem dX2_openAll_11 : decode cX2_openAll 11 = .ok (.bipush 20, 2) := by decide +kernel
theorem dX2_openAll_13 : decode cX2_openAll 13 = .ok (.if_icmp .ge 16, 3) := by decide +kernel
theorem dX2_openAll_16 : decode cX2_openAll 16 = .ok (.aload_n 0, 1) := by decide +kernel
theorem dX2_openAll_17 : decode cX2_openAll 17 = .ok (.aload_n 1, 1) := by decide +kernel
theorem dX2_openAll_18 : decode cX2_openAll 18 = .ok (.iload_n 3, 1) := by decide +kernel
theorem dX2_openAll_19 : decode cX2_openAll 19 = .ok (.iload_n 2, 1) := by decide +kernel
theorem dX2_openAll_20 : decode cX2_openAll 20 = .ok (.invokevirtual 69, 3) := by decide +kernel
theorem dX2_openAll_23 : decode cX2_openAll 23 = .ok (.iinc 3 1, 3) := by decide +kernel
theorem dX2_openAll_26 : decode cX2_openAll 26 = .ok (.goto (-16), 3) := by decide +kernel
theorem dX2_openAll_29 : decode cX2_openAll 29 = .ok (.aload_n 0, 1) := by decide +kernel
theorem dX2_openAll_30 : decode cX2_openAll 30 = .ok (.aload_n 1, 1) := by decide +kernel
theorem dX2_openAll_31 : decode cX2_openAll 31 = .ok (.bipush (-6), 2) := by decide +kernel
theorem dX2_openAll_33 : decode cX2_openAll 33 = .ok (.iload_n 2, 1) := by decide +kernel
theorem dX2_openAll_34 : decode cX2_openAll 34 = .ok (.invokevirtual 69, 3) := by decide +kernel
theorem dX2_openAll_37 : decode cX2_openAll 37 = .ok (.return_, 1) := by decide +kernel
theorem dX2_openHolding_0 : decode cX2_openHolding 0 = .ok (.iconst 0, 1) := by decide +kernel
theorem dX2_openHolding_1 : decode cX2_openHolding 1 = .ok (.istore 4, 2) := by decide +kernel
theorem dX2_openHolding_3 : decode cX2_openHolding 3 = .ok (.iload 4, 2) := by decide +kernel
theorem dX2_openHolding_5 : decode cX2_openHolding 5 = .ok (.aload_n 1, 1) := by decide +kernel
theorem dX2_openHolding_6 : decode cX2_openHolding 6 = .ok (.getfield 73, 3) := by decide +kernel
theorem dX2_openHolding_9 : decode cX2_openHolding 9 = .ok (.if_icmp .ge 59, 3) := by decide +kernel
theorem dX2_openHolding_12 : decode cX2_openHolding 12 = .ok (.aload_n 1, 1) := by decide +kernel
theorem dX2_openHolding_13 : decode cX2_openHolding 13 = .ok (.iload 4, 2) := by decide +kernel
theorem dX2_openHolding_15 : decode cX2_openHolding 15 = .ok (.invokevirtual 79, 3) := by decide +kernel
theorem dX2_openHolding_18 : decode cX2_openHolding 18 = .ok (.iload_n 2, 1) := by decide +kernel
theorem dX2_openHolding_19 : decode cX2_openHolding 19 = .ok (.if_icmp .ne 43, 3) := by decide +kernel
theorem dX2_openHolding_22 : decode cX2_openHolding 22 = .ok (.aload_n 1, 1) := by decide +kernel
theorem dX2_openHolding_23 : decode cX2_openHolding 23 = .ok (.iload 4, 2) := by decide +kernel
theorem dX2_openHolding_25 : decode cX2_openHolding 25 = .ok (.iload_n 3, 1) := by decide +kernel
theorem dX2_openHolding_26 : decode cX2_openHolding 26 = .ok (.invokevirtual 82, 3) := by decide +kernel
theorem dX2_openHolding_29 : decode cX2_openHolding 29 = .ok (.ifCond .eq 33, 3) := by decide +kernel
theorem dX2_openHolding_32 : decode cX2_openHolding 32 = .ok (.aload_n 0, 1) := by decide +kernel
theorem dX2_openHolding_33 : decode cX2_openHolding 33 = .ok (.aload_n 1, 1) := by decide +kernel
theorem dX2_openHolding_34 : decode cX2_openHolding 34 = .ok (.aload_n 1, 1) := by decide +kernel
theorem dX2_openHolding_35 : decode cX2_openHolding 35 = .ok (.iload 4, 2) := by decide +kernel
theorem dX2_openHolding_37 : decode cX2_openHolding 37 = .ok (.invokevirtual 86, 3) := by decide +kernel
theorem dX2_openHolding_40 : decode cX2_openHolding 40 = .ok (.aload_n 1, 1) := by decide +kernel
theorem dX2_openHolding_41 : decode cX2_openHolding 41 = .ok (.iload 4, 2) := by decide +kernel
theorem dX2_openHolding_43 : decode cX2_openHolding 43 = .ok (.invokevirtual 89, 3) := by decide +kernel
theorem dX2_openHolding_46 : decode cX2_openHolding 46 = .ok (.invokevirtual 45, 3) := by decide +kernel
theorem dX2_openHolding_49 : decode cX2_openHolding 49 = .ok (.ifCond .eq 13, 3) := by decide +kernel
theorem dX2_openHolding_52 : decode cX2_openHolding 52 = .ok (.aload_n 0, 1) := by decide +kernel
theorem dX2_openHolding_53 : decode cX2_openHolding 53 = .ok (.getfield 20, 3) := by decide +kernel
theorem dX2_openHolding_56 : decode cX2_openHolding 56 = .ok (.iload 4, 2) := by decide +kernel
theorem dX2_openHolding_58 : decode cX2_openHolding 58 = .ok (.iconst 1, 1) := by decide +kernel
theorem dX2_openHolding_59 : decode cX2_openHolding 59 = .ok (.invokevirtual 52, 3) := by decide +kernel
theorem dX2_openHolding_62 : decode cX2_openHolding 62 = .ok (.iinc 4 1, 3) := by decide +kernel
theorem dX2_openHolding_65 : decode cX2_openHolding 65 = .ok (.goto (-62), 3) := by decide +kernel
theorem dX2_openHolding_68 : decode cX2_openHolding 68 = .ok (.return_, 1) := by decide +kernel
theorem dX2_isHad_0 : decode cX2_isHad 0 = .ok (.aload_n 0, 1) := by decide +kernel
theorem dX2_isHad_1 : decode cX2_isHad 1 = .ok (.getfield 14, 3) := by decide +kernel
theorem dX2_isHad_4 : decode cX2_isHad 4 = .ok (.iload_n 2, 1) := by decide +kernel
theorem dX2_isHad_5 : decode cX2_isHad 5 = .ok (.invokevirtual 92, 3) := by decide +kernel
theorem dX2_isHad_8 : decode cX2_isHad 8 = .ok (.iload_n 3, 1) := by decide +kernel
theorem dX2_isHad_9 : decode cX2_isHad 9 = .ok (.if_icmp .ne 5, 3) := by decide +kernel
theorem dX2_isHad_12 : decode cX2_isHad 12 = .ok (.iconst 1, 1) := by decide +kernel
theorem dX2_isHad_13 : decode cX2_isHad 13 = .ok (.ireturn, 1) := by decide +kernel
theorem dX2_isHad_14 : decode cX2_isHad 14 = .ok (.iconst 0, 1) := by decide +kernel
theorem dX2_isHad_15 : decode cX2_isHad 15 = .ok (.istore 4, 2) := by decide +kernel
theorem dX2_isHad_17 : decode cX2_isHad 17 = .ok (.iload 4, 2) := by decide +kernel
theorem dX2_isHad_19 : decode cX2_isHad 19 = .ok (.aload_n 1, 1) := by decide +kernel
theorem dX2_isHad_20 : decode cX2_isHad 20 = .ok (.getfield 73, 3) := by decide +kernel
theorem dX2_isHad_23 : decode cX2_isHad 23 = .ok (.if_icmp .ge 34, 3) := by decide +kernel
theorem dX2_isHad_26 : decode cX2_isHad 26 = .ok (.aload_n 0, 1) := by decide +kernel
theorem dX2_isHad_27 : decode cX2_isHad 27 = .ok (.getfield 20, 3) := by decide +kernel
theorem dX2_isHad_30 : decode cX2_isHad 30 = .ok (.iload 4, 2) := by decide +kernel
theorem dX2_isHad_32 : decode cX2_isHad 32 = .ok (.invokevirtual 92, 3) := by decide +kernel
theorem dX2_isHad_35 : decode cX2_isHad 35 = .ok (.ifCond .eq 16, 3) := by decide +kernel
theorem dX2_isHad_38 : decode cX2_isHad 38 = .ok (.aload_n 1, 1) := by decide +kernel
theorem dX2_isHad_39 : decode cX2_isHad 39 = .ok (.iload 4, 2) := by decide +kernel
theorem dX2_isHad_41 : decode cX2_isHad 41 = .ok (.iload_n 2, 1) := by decide +kernel
theorem dX2_isHad_42 : decode cX2_isHad 42 = .ok (.iload_n 3, 1) := by decide +kernel
theorem dX2_isHad_43 : decode cX2_isHad 43 = .ok (.invokevirtual 95, 3) := by decide +kernel
theorem dX2_isHad_46 : decode cX2_isHad 46 = .ok (.ifCond .eq 5, 3) := by decide +kernel
theorem dX2_isHad_49 : decode cX2_isHad 49 = .ok (.iconst 1, 1) := by decide +kernel
theorem dX2_isHad_50 : decode cX2_isHad 50 = .ok (.ireturn, 1) := by decide +kernel
theorem dX2_isHad_51 : decode cX2_isHad 51 = .ok (.iinc 4 1, 3) := by decide +kernel
theorem dX2_isHad_54 : decode cX2_isHad 54 = .ok (.goto (-37), 3) := by decide +kernel
theorem dX2_isHad_57 : decode cX2_isHad 57 = .ok (.iconst 0, 1) := by decide +kernel
theorem dX2_isHad_58 : decode cX2_isHad 58 = .ok (.ireturn, 1) := by decide +kernel
theorem dX2_openedBoxes_0 : decode cX2_openedBoxes 0 = .ok (.iconst 0, 1) := by decide +kernel
theorem dX2_openedBoxes_1 : decode cX2_openedBoxes 1 = .ok (.istore_n 2, 1) := by decide +kernel
theorem dX2_openedBoxes_2 : decode cX2_openedBoxes 2 = .ok (.iconst 0, 1) := by decide +kernel
theorem dX2_openedBoxes_3 : decode cX2_openedBoxes 3 = .ok (.istore_n 3, 1) := by decide +kernel
theorem dX2_openedBoxes_4 : decode cX2_openedBoxes 4 = .ok (.iload_n 3, 1) := by decide +kernel
theorem dX2_openedBoxes_5 : decode cX2_openedBoxes 5 = .ok (.aload_n 1, 1) := by decide +kernel
theorem dX2_openedBoxes_6 : decode cX2_openedBoxes 6 = .ok (.getfield 73, 3) := by decide +kernel
theorem dX2_openedBoxes_9 : decode cX2_openedBoxes 9 = .ok (.if_icmp .ge 41, 3) := by decide +kernel
theorem dX2_openedBoxes_12 : decode cX2_openedBoxes 12 = .ok (.aload_n 0, 1) := by decide +kernel
theorem dX2_openedBoxes_13 : decode cX2_openedBoxes 13 = .ok (.getfield 20, 3) := by decide +kernel
theorem dX2_openedBoxes_16 : decode cX2_openedBoxes 16 = .ok (.iload_n 3, 1) := by decide +kernel
theorem dX2_openedBoxes_17 : decode cX2_openedBoxes 17 = .ok (.invokevirtual 92, 3) := by decide +kernel
theorem dX2_openedBoxes_20 : decode cX2_openedBoxes 20 = .ok (.ifCond .eq 24, 3) := by decide +kernel
theorem dX2_openedBoxes_23 : decode cX2_openedBoxes 23 = .ok (.aload_n 1, 1) := by decide +kernel
theorem dX2_openedBoxes_24 : decode cX2_openedBoxes 24 = .ok (.iload_n 3, 1) := by decide +kernel
theorem dX2_openedBoxes_25 : decode cX2_openedBoxes 25 = .ok (.invokevirtual 79, 3) := by decide +kernel
theorem dX2_openedBoxes_28 : decode cX2_openedBoxes 28 = .ok (.bipush (-6), 2) := by decide +kernel
theorem dX2_openedBoxes_30 : decode cX2_openedBoxes 30 = .ok (.if_icmp .ne 14, 3) := by decide +kernel
theorem dX2_openedBoxes_33 : decode cX2_openedBoxes 33 = .ok (.iload_n 2, 1) := by decide +kernel
theorem dX2_openedBoxes_34 : decode cX2_openedBoxes 34 = .ok (.aload_n 1, 1) := by decide +kernel
theorem dX2_openedBoxes_35 : decode cX2_openedBoxes 35 = .ok (.iload_n 3, 1) := by decide +kernel
theorem dX2_openedBoxes_36 : decode cX2_openedBoxes 36 = .ok (.invokevirtual 99, 3) := by decide +kernel
theorem dX2_openedBoxes_39 : decode cX2_openedBoxes 39 = .ok (.invokestatic 102, 3) := by decide +kernel
theorem dX2_openedBoxes_42 : decode cX2_openedBoxes 42 = .ok (.ior, 1) := by decide +kernel
theorem dX2_openedBoxes_43 : decode cX2_openedBoxes 43 = .ok (.istore_n 2, 1) := by decide +kernel
theorem dX2_openedBoxes_44 : decode cX2_openedBoxes 44 = .ok (.iinc 3 1, 3) := by decide +kernel
theorem dX2_openedBoxes_47 : decode cX2_openedBoxes 47 = .ok (.goto (-43), 3) := by decide +kernel
theorem dX2_openedBoxes_50 : decode cX2_openedBoxes 50 = .ok (.iload_n 2, 1) := by decide +kernel
theorem dX2_openedBoxes_51 : decode cX2_openedBoxes 51 = .ok (.ireturn, 1) := by decide +kernel
theorem dX3_init_0 : decode cX3_init 0 = .ok (.aload_n 0, 1) := by decide +kernel
theorem dX3_init_1 : decode cX3_init 1 = .ok (.invokespecial 3, 3) := by decide +kernel
theorem dX3_init_4 : decode cX3_init 4 = .ok (.aload_n 0, 1) := by decide +kernel
theorem dX3_init_5 : decode cX3_init 5 = .ok (.new 9, 3) := by decide +kernel
theorem dX3_init_8 : decode cX3_init 8 = .ok (.dup, 1) := by decide +kernel
theorem dX3_init_9 : decode cX3_init 9 = .ok (.bipush 60, 2) := by decide +kernel
theorem dX3_init_11 : decode cX3_init 11 = .ok (.invokespecial 11, 3) := by decide +kernel
theorem dX3_init_14 : decode cX3_init 14 = .ok (.putfield 14, 3) := by decide +kernel
theorem dX3_init_17 : decode cX3_init 17 = .ok (.aload_n 0, 1) := by decide +kernel
theorem dX3_init_18 : decode cX3_init 18 = .ok (.iconst 0, 1) := by decide +kernel
theorem dX3_init_19 : decode cX3_init 19 = .ok (.putfield 20, 3) := by decide +kernel
theorem dX3_init_22 : decode cX3_init 22 = .ok (.aload_n 0, 1) := by decide +kernel
theorem dX3_init_23 : decode cX3_init 23 = .ok (.iconst 0, 1) := by decide +kernel
theorem dX3_init_24 : decode cX3_init 24 = .ok (.putfield 24, 3) := by decide +kernel
theorem dX3_init_27 : decode cX3_init 27 = .ok (.aload_n 0, 1) := by decide +kernel
theorem dX3_init_28 : decode cX3_init 28 = .ok (.iconst 0, 1) := by decide +kernel
theorem dX3_init_29 : decode cX3_init 29 = .ok (.putfield 27, 3) := by decide +kernel
theorem dX3_init_32 : decode cX3_init 32 = .ok (.aload_n 0, 1) := by decide +kernel
theorem dX3_init_33 : decode cX3_init 33 = .ok (.iconst 0, 1) := by decide +kernel
theorem dX3_init_34 : decode cX3_init 34 = .ok (.putfield 30, 3) := by decide +kernel
theorem dX3_init_37 : decode cX3_init 37 = .ok (.aload_n 0, 1) := by decide +kernel
theorem dX3_init_38 : decode cX3_init 38 = .ok (.iconst 0, 1) := by decide +kernel
theorem dX3_init_39 : decode cX3_init 39 = .ok (.putfield 33, 3) := by decide +kernel
theorem dX3_init_42 : decode cX3_init 42 = .ok (.return_, 1) := by decide +kernel
theorem dX4_init_0 : decode cX4_init 0 = .ok (.aload_n 0, 1) := by decide +kernel
theorem dX4_init_1 : decode cX4_init 1 = .ok (.invokespecial 1, 3) := by decide +kernel
theorem dX4_init_4 : decode cX4_init 4 = .ok (.aload_n 0, 1) := by decide +kernel
theorem dX4_init_5 : decode cX4_init 5 = .ok (.iload_n 1, 1) := by decide +kernel
theorem dX4_init_6 : decode cX4_init 6 = .ok (.iconst 0, 1) := by decide +kernel
theorem dX4_init_7 : decode cX4_init 7 = .ok (.invokestatic 7, 3) := by decide +kernel
theorem dX4_init_10 : decode cX4_init 10 = .ok (.newarray .int, 2) := by decide +kernel
theorem dX4_init_12 : decode cX4_init 12 = .ok (.putfield 13, 3) := by decide +kernel
theorem dX4_init_15 : decode cX4_init 15 = .ok (.return_, 1) := by decide +kernel
theorem dX4_at_0 : decode cX4_at 0 = .ok (.iload_n 1, 1) := by decide +kernel
theorem dX4_at_1 : decode cX4_at 1 = .ok (.ifCond .lt 21, 3) := by decide +kernel
theorem dX4_at_4 : decode cX4_at 4 = .ok (.iload_n 1, 1) := by decide +kernel
theorem dX4_at_5 : decode cX4_at 5 = .ok (.aload_n 0, 1) := by decide +kernel
theorem dX4_at_6 : decode cX4_at 6 = .ok (.getfield 13, 3) := by decide +kernel
theorem dX4_at_9 : decode cX4_at 9 = .ok (.arraylength, 1) := by decide +kernel
theorem dX4_at_10 : decode cX4_at 10 = .ok (.if_icmp .ge 12, 3) := by decide +kernel
theorem dX4_at_13 : decode cX4_at 13 = .ok (.aload_n 0, 1) := by decide +kernel
theorem dX4_at_14 : decode cX4_at 14 = .ok (.getfield 13, 3) := by decide +kernel
theorem dX4_at_17 : decode cX4_at 17 = .ok (.iload_n 1, 1) := by decide +kernel
theorem dX4_at_18 : decode cX4_at 18 = .ok (.iaload, 1) := by decide +kernel
theorem dX4_at_19 : decode cX4_at 19 = .ok (.goto 4, 3) := by decide +kernel
theorem dX4_at_22 : decode cX4_at 22 = .ok (.iconst 0, 1) := by decide +kernel
theorem dX4_at_23 : decode cX4_at 23 = .ok (.ireturn, 1) := by decide +kernel
theorem dX4_set_0 : decode cX4_set 0 = .ok (.iload_n 1, 1) := by decide +kernel
theorem dX4_set_1 : decode cX4_set 1 = .ok (.ifCond .lt 19, 3) := by decide +kernel
theorem dX4_set_4 : decode cX4_set 4 = .ok (.iload_n 1, 1) := by decide +kernel
theorem dX4_set_5 : decode cX4_set 5 = .ok (.aload_n 0, 1) := by decide +kernel
theorem dX4_set_6 : decode cX4_set 6 = .ok (.getfield 13, 3) := by decide +kernel
theorem dX4_set_9 : decode cX4_set 9 = .ok (.arraylength, 1) := by decide +kernel
theorem dX4_set_10 : decode cX4_set 10 = .ok (.if_icmp .ge 10, 3) := by decide +kernel
theorem dX4_set_13 : decode cX4_set 13 = .ok (.aload_n 0, 1) := by decide +kernel
theorem dX4_set_14 : decode cX4_set 14 = .ok (.getfield 13, 3) := by decide +kernel
theorem dX4_set_17 : decode cX4_set 17 = .ok (.iload_n 1, 1) := by decide +kernel
theorem dX4_set_18 : decode cX4_set 18 = .ok (.iload_n 2, 1) := by decide +kernel
theorem dX4_set_19 : decode cX4_set 19 = .ok (.iastore, 1) := by decide +kernel
theorem dX4_set_20 : decode cX4_set 20 = .ok (.return_, 1) := by decide +kernel
theorem dX4_add_0 : decode cX4_add 0 = .ok (.iload_n 1, 1) := by decide +kernel
theorem dX4_add_1 : decode cX4_add 1 = .ok (.ifCond .lt 22, 3) := by decide +kernel
theorem dX4_add_4 : decode cX4_add 4 = .ok (.iload_n 1, 1) := by decide +kernel
theorem dX4_add_5 : decode cX4_add 5 = .ok (.aload_n 0, 1) := by decide +kernel
theorem dX4_add_6 : decode cX4_add 6 = .ok (.getfield 13, 3) := by decide +kernel
theorem dX4_add_9 : decode cX4_add 9 = .ok (.arraylength, 1) := by decide +kernel
theorem dX4_add_10 : decode cX4_add 10 = .ok (.if_icmp .ge 13, 3) := by decide +kernel
theorem dX4_add_13 : decode cX4_add 13 = .ok (.aload_n 0, 1) := by decide +kernel
theorem dX4_add_14 : decode cX4_add 14 = .ok (.getfield 13, 3) := by decide +kernel
theorem dX4_add_17 : decode cX4_add 17 = .ok (.iload_n 1, 1) := by decide +kernel
theorem dX4_add_18 : decode cX4_add 18 = .ok (.dup2, 1) := by decide +kernel
theorem dX4_add_19 : decode cX4_add 19 = .ok (.iaload, 1) := by decide +kernel
theorem dX4_add_20 : decode cX4_add 20 = .ok (.iload_n 2, 1) := by decide +kernel
theorem dX4_add_21 : decode cX4_add 21 = .ok (.iadd, 1) := by decide +kernel
theorem dX4_add_22 : decode cX4_add 22 = .ok (.iastore, 1) := by decide +kernel
theorem dX4_add_23 : decode cX4_add 23 = .ok (.return_, 1) := by decide +kernel
theorem dX4_fill_0 : decode cX4_fill 0 = .ok (.iconst 0, 1) := by decide +kernel
theorem dX4_fill_1 : decode cX4_fill 1 = .ok (.istore_n 2, 1) := by decide +kernel
theorem dX4_fill_2 : decode cX4_fill 2 = .ok (.iload_n 2, 1) := by decide +kernel
theorem dX4_fill_3 : decode cX4_fill 3 = .ok (.aload_n 0, 1) := by decide +kernel
theorem dX4_fill_4 : decode cX4_fill 4 = .ok (.getfield 13, 3) := by decide +kernel
theorem dX4_fill_7 : decode cX4_fill 7 = .ok (.arraylength, 1) := by decide +kernel
theorem dX4_fill_8 : decode cX4_fill 8 = .ok (.if_icmp .ge 16, 3) := by decide +kernel
theorem dX4_fill_11 : decode cX4_fill 11 = .ok (.aload_n 0, 1) := by decide +kernel
theorem dX4_fill_12 : decode cX4_fill 12 = .ok (.getfield 13, 3) := by decide +kernel
theorem dX4_fill_15 : decode cX4_fill 15 = .ok (.iload_n 2, 1) := by decide +kernel
theorem dX4_fill_16 : decode cX4_fill 16 = .ok (.iload_n 1, 1) := by decide +kernel
theorem dX4_fill_17 : decode cX4_fill 17 = .ok (.iastore, 1) := by decide +kernel
theorem dX4_fill_18 : decode cX4_fill 18 = .ok (.iinc 2 1, 3) := by decide +kernel
theorem dX4_fill_21 : decode cX4_fill 21 = .ok (.goto (-19), 3) := by decide +kernel
theorem dX4_fill_24 : decode cX4_fill 24 = .ok (.return_, 1) := by decide +kernel
theorem dX4_become_0 : decode cX4_become 0 = .ok (.aload_n 1, 1) := by decide +kernel
theorem dX4_become_1 : decode cX4_become 1 = .ok (.ifnull 29, 3) := by decide +kernel
theorem dX4_become_4 : decode cX4_become 4 = .ok (.aload_n 1, 1) := by decide +kernel
theorem dX4_become_5 : decode cX4_become 5 = .ok (.getfield 13, 3) := by decide +kernel
theorem dX4_become_8 : decode cX4_become 8 = .ok (.iconst 0, 1) := by decide +kernel
theorem dX4_become_9 : decode cX4_become 9 = .ok (.aload_n 0, 1) := by decide +kernel
theorem dX4_become_10 : decode cX4_become 10 = .ok (.getfield 13, 3) := by decide +kernel
theorem dX4_become_13 : decode cX4_become 13 = .ok (.iconst 0, 1) := by decide +kernel
theorem dX4_become_14 : decode cX4_become 14 = .ok (.aload_n 0, 1) := by decide +kernel
theorem dX4_become_15 : decode cX4_become 15 = .ok (.getfield 13, 3) := by decide +kernel
theorem dX4_become_18 : decode cX4_become 18 = .ok (.arraylength, 1) := by decide +kernel
theorem dX4_become_19 : decode cX4_become 19 = .ok (.aload_n 1, 1) := by decide +kernel
theorem dX4_become_20 : decode cX4_become 20 = .ok (.getfield 13, 3) := by decide +kernel
theorem dX4_become_23 : decode cX4_become 23 = .ok (.arraylength, 1) := by decide +kernel
theorem dX4_become_24 : decode cX4_become 24 = .ok (.invokestatic 19, 3) := by decide +kernel
theorem dX4_become_27 : decode cX4_become 27 = .ok (.invokestatic 22, 3) := by decide +kernel
theorem dX4_become_30 : decode cX4_become 30 = .ok (.return_, 1) := by decide +kernel
theorem dX5_init_0 : decode cX5_init 0 = .ok (.aload_n 0, 1) := by decide +kernel
theorem dX5_init_1 : decode cX5_init 1 = .ok (.invokespecial 3, 3) := by decide +kernel
theorem dX5_init_4 : decode cX5_init 4 = .ok (.aload_n 0, 1) := by decide +kernel
theorem dX5_init_5 : decode cX5_init 5 = .ok (.bipush 8, 2) := by decide +kernel
theorem dX5_init_7 : decode cX5_init 7 = .ok (.putfield 9, 3) := by decide +kernel
theorem dX5_init_10 : decode cX5_init 10 = .ok (.aload_n 0, 1) := by decide +kernel
theorem dX5_init_11 : decode cX5_init 11 = .ok (.iconst 0, 1) := by decide +kernel
theorem dX5_init_12 : decode cX5_init 12 = .ok (.putfield 15, 3) := by decide +kernel
theorem dX5_init_15 : decode cX5_init 15 = .ok (.aload_n 0, 1) := by decide +kernel
theorem dX5_init_16 : decode cX5_init 16 = .ok (.iconst 0, 1) := by decide +kernel
theorem dX5_init_17 : decode cX5_init 17 = .ok (.putfield 18, 3) := by decide +kernel
theorem dX5_init_20 : decode cX5_init 20 = .ok (.aload_n 0, 1) := by decide +kernel
theorem dX5_init_21 : decode cX5_init 21 = .ok (.iconst 0, 1) := by decide +kernel
theorem dX5_init_22 : decode cX5_init 22 = .ok (.putfield 21, 3) := by decide +kernel
theorem dX5_init_25 : decode cX5_init 25 = .ok (.aload_n 0, 1) := by decide +kernel
theorem dX5_init_26 : decode cX5_init 26 = .ok (.iconst 0, 1) := by decide +kernel
theorem dX5_init_27 : decode cX5_init 27 = .ok (.putfield 24, 3) := by decide +kernel
theorem dX5_init_30 : decode cX5_init 30 = .ok (.aload_n 0, 1) := by decide +kernel
theorem dX5_init_31 : decode cX5_init 31 = .ok (.new 27, 3) := by decide +kernel
theorem dX5_init_34 : decode cX5_init 34 = .ok (.dup, 1) := by decide +kernel
theorem dX5_init_35 : decode cX5_init 35 = .ok (.bipush 20, 2) := by decide +kernel
theorem dX5_init_37 : decode cX5_init 37 = .ok (.invokespecial 29, 3) := by decide +kernel
theorem dX5_init_40 : decode cX5_init 40 = .ok (.putfield 32, 3) := by decide +kernel
theorem dX5_init_43 : decode cX5_init 43 = .ok (.aload_n 0, 1) := by decide +kernel
theorem dX5_init_44 : decode cX5_init 44 = .ok (.new 27, 3) := by decide +kernel
theorem dX5_init_47 : decode cX5_init 47 = .ok (.dup, 1) := by decide +kernel
theorem dX5_init_48 : decode cX5_init 48 = .ok (.bipush 20, 2) := by decide +kernel
theorem dX5_init_50 : decode cX5_init 50 = .ok (.invokespecial 29, 3) := by decide +kernel
theorem dX5_init_53 : decode cX5_init 53 = .ok (.putfield 36, 3) := by decide +kernel
theorem dX5_init_56 : decode cX5_init 56 = .ok (.aload_n 0, 1) := by decide +kernel
theorem dX5_init_57 : decode cX5_init 57 = .ok (.new 27, 3) := by decide +kernel
theorem dX5_init_60 : decode cX5_init 60 = .ok (.dup, 1) := by decide +kernel
theorem dX5_init_61 : decode cX5_init 61 = .ok (.bipush 20, 2) := by decide +kernel
theorem dX5_init_63 : decode cX5_init 63 = .ok (.invokespecial 29, 3) := by decide +kernel
theorem dX5_init_66 : decode cX5_init 66 = .ok (.putfield 39, 3) := by decide +kernel
theorem dX5_init_69 : decode cX5_init 69 = .ok (.aload_n 0, 1) := by decide +kernel
theorem dX5_init_70 : decode cX5_init 70 = .ok (.new 27, 3) := by decide +kernel
theorem dX5_init_73 : decode cX5_init 73 = .ok (.dup, 1) := by decide +kernel
theorem dX5_init_74 : decode cX5_init 74 = .ok (.bipush 20, 2) := by decide +kernel
theorem dX5_init_76 : decode cX5_init 76 = .ok (.invokespecial 29, 3) := by decide +kernel
theorem dX5_init_79 : decode cX5_init 79 = .ok (.putfield 42, 3) := by decide +kernel
theorem dX5_init_82 : decode cX5_init 82 = .ok (.return_, 1) := by decide +kernel
theorem dX5_hasKey_0 : decode cX5_hasKey 0 = .ok (.iload_n 1, 1) := by decide +kernel
theorem dX5_hasKey_1 : decode cX5_hasKey 1 = .ok (.ifCond .lt 15, 3) := by decide +kernel
theorem dX5_hasKey_4 : decode cX5_hasKey 4 = .ok (.iload_n 1, 1) := by decide +kernel
theorem dX5_hasKey_5 : decode cX5_hasKey 5 = .ok (.aload_n 0, 1) := by decide +kernel
theorem dX5_hasKey_6 : decode cX5_hasKey 6 = .ok (.getfield 15, 3) := by decide +kernel
theorem dX5_hasKey_9 : decode cX5_hasKey 9 = .ok (.if_icmp .ge 7, 3) := by decide +kernel
theorem dX5_hasKey_12 : decode cX5_hasKey 12 = .ok (.iconst 1, 1) := by decide +kernel
theorem dX5_hasKey_13 : decode cX5_hasKey 13 = .ok (.goto 4, 3) := by decide +kernel
theorem dX5_hasKey_16 : decode cX5_hasKey 16 = .ok (.iconst 0, 1) := by decide +kernel
theorem dX5_hasKey_17 : decode cX5_hasKey 17 = .ok (.ireturn, 1) := by decide +kernel
theorem dX5_hasBox_0 : decode cX5_hasBox 0 = .ok (.iload_n 1, 1) := by decide +kernel
theorem dX5_hasBox_1 : decode cX5_hasBox 1 = .ok (.ifCond .lt 15, 3) := by decide +kernel
theorem dX5_hasBox_4 : decode cX5_hasBox 4 = .ok (.iload_n 1, 1) := by decide +kernel
theorem dX5_hasBox_5 : decode cX5_hasBox 5 = .ok (.aload_n 0, 1) := by decide +kernel
theorem dX5_hasBox_6 : decode cX5_hasBox 6 = .ok (.getfield 18, 3) := by decide +kernel
theorem dX5_hasBox_9 : decode cX5_hasBox 9 = .ok (.if_icmp .ge 7, 3) := by decide +kernel
theorem dX5_hasBox_12 : decode cX5_hasBox 12 = .ok (.iconst 1, 1) := by decide +kernel
theorem dX5_hasBox_13 : decode cX5_hasBox 13 = .ok (.goto 4, 3) := by decide +kernel
theorem dX5_hasBox_16 : decode cX5_hasBox 16 = .ok (.iconst 0, 1) := by decide +kernel
theorem dX5_hasBox_17 : decode cX5_hasBox 17 = .ok (.ireturn, 1) := by decide +kernel
theorem dX5_isLiveKey_0 : decode cX5_isLiveKey 0 = .ok (.aload_n 0, 1) := by decide +kernel
theorem dX5_isLiveKey_1 : decode cX5_isLiveKey 1 = .ok (.getfield 21, 3) := by decide +kernel
theorem dX5_isLiveKey_4 : decode cX5_isLiveKey 4 = .ok (.iload_n 1, 1) := by decide +kernel
theorem dX5_isLiveKey_5 : decode cX5_isLiveKey 5 = .ok (.invokestatic 45, 3) := by decide +kernel
theorem dX5_isLiveKey_8 : decode cX5_isLiveKey 8 = .ok (.ireturn, 1) := by decide +kernel
theorem dX5_isLiveBox_0 : decode cX5_isLiveBox 0 = .ok (.aload_n 0, 1) := by decide +kernel
theorem dX5_isLiveBox_1 : decode cX5_isLiveBox 1 = .ok (.getfield 24, 3) := by decide +kernel
theorem dX5_isLiveBox_4 : decode cX5_isLiveBox 4 = .ok (.iload_n 1, 1) := by decide +kernel
theorem dX5_isLiveBox_5 : decode cX5_isLiveBox 5 = .ok (.invokestatic 45, 3) := by decide +kernel
theorem dX5_isLiveBox_8 : decode cX5_isLiveBox 8 = .ok (.ireturn, 1) := by decide +kernel
theorem dX5_isLive_0 : decode cX5_isLive 0 = .ok (.iload_n 1, 1) := by decide +kernel
theorem dX5_isLive_1 : decode cX5_isLive 1 = .ok (.ifCond .ne 11, 3) := by decide +kernel
theorem dX5_isLive_4 : decode cX5_isLive 4 = .ok (.aload_n 0, 1) := by decide +kernel
theorem dX5_isLive_5 : decode cX5_isLive 5 = .ok (.iload_n 2, 1) := by decide +kernel
theorem dX5_isLive_6 : decode cX5_isLive 6 = .ok (.invokevirtual 49, 3) := by decide +kernel
theorem dX5_isLive_9 : decode cX5_isLive 9 = .ok (.goto 8, 3) := by decide +kernel
theorem dX5_isLive_12 : decode cX5_isLive 12 = .ok (.aload_n 0, 1) := by decide +kernel
theorem dX5_isLive_13 : decode cX5_isLive 13 = .ok (.iload_n 2, 1) := by decide +kernel
theorem dX5_isLive_14 : decode cX5_isLive 14 = .ok (.invokevirtual 53, 3) := by decide +kernel
theorem dX5_isLive_17 : decode cX5_isLive 17 = .ok (.ireturn, 1) := by decide +kernel
theorem dX5_isRoot_0 : decode cX5_isRoot 0 = .ok (.aload_n 0, 1) := by decide +kernel
theorem dX5_isRoot_1 : decode cX5_isRoot 1 = .ok (.getfield 32, 3) := by decide +kernel
theorem dX5_isRoot_4 : decode cX5_isRoot 4 = .ok (.iload_n 1, 1) := by decide +kernel
theorem dX5_isRoot_5 : decode cX5_isRoot 5 = .ok (.invokevirtual 56, 3) := by decide +kernel
theorem dX5_isRoot_8 : decode cX5_isRoot 8 = .ok (.bipush (-6), 2) := by decide +kernel
theorem dX5_isRoot_10 : decode cX5_isRoot 10 = .ok (.if_icmp .ne 7, 3) := by decide +kernel
theorem dX5_isRoot_13 : decode cX5_isRoot 13 = .ok (.iconst 1, 1) := by decide +kernel
theorem dX5_isRoot_14 : decode cX5_isRoot 14 = .ok (.goto 4, 3) := by decide +kernel
theorem dX5_isRoot_17 : decode cX5_isRoot 17 = .ok (.iconst 0, 1) := by decide +kernel
theorem dX5_isRoot_18 : decode cX5_isRoot 18 = .ok (.ireturn, 1) := by decide +kernel
theorem dX5_parentOf_0 : decode cX5_parentOf 0 = .ok (.aload_n 0, 1) := by decide +kernel
theorem dX5_parentOf_1 : decode cX5_parentOf 1 = .ok (.getfield 32, 3) := by decide +kernel
theorem dX5_parentOf_4 : decode cX5_parentOf 4 = .ok (.iload_n 1, 1) := by decide +kernel
theorem dX5_parentOf_5 : decode cX5_parentOf 5 = .ok (.invokevirtual 56, 3) := by decide +kernel
theorem dX5_parentOf_8 : decode cX5_parentOf 8 = .ok (.ireturn, 1) := by decide +kernel
theorem dX5_makeOf_0 : decode cX5_makeOf 0 = .ok (.aload_n 0, 1) := by decide +kernel
theorem dX5_makeOf_1 : decode cX5_makeOf 1 = .ok (.getfield 36, 3) := by decide +kernel
theorem dX5_makeOf_4 : decode cX5_makeOf 4 = .ok (.iload_n 1, 1) := by decide +kernel
theorem dX5_makeOf_5 : decode cX5_makeOf 5 = .ok (.invokevirtual 56, 3) := by decide +kernel
theorem dX5_makeOf_8 : decode cX5_makeOf 8 = .ok (.ireturn, 1) := by decide +kernel
theorem dX5_wearOf_0 : decode cX5_wearOf 0 = .ok (.aload_n 0, 1) := by decide +kernel
theorem dX5_wearOf_1 : decode cX5_wearOf 1 = .ok (.getfield 39, 3) := by decide +kernel
theorem dX5_wearOf_4 : decode cX5_wearOf 4 = .ok (.iload_n 1, 1) := by decide +kernel
theorem dX5_wearOf_5 : decode cX5_wearOf 5 = .ok (.invokevirtual 56, 3) := by decide +kernel
theorem dX5_wearOf_8 : decode cX5_wearOf 8 = .ok (.ireturn, 1) := by decide +kernel
theorem dX5_keyOfBox_0 : decode cX5_keyOfBox 0 = .ok (.aload_n 0, 1) := by decide +kernel
theorem dX5_keyOfBox_1 : decode cX5_keyOfBox 1 = .ok (.getfield 42, 3) := by decide +kernel
theorem dX5_keyOfBox_4 : decode cX5_keyOfBox 4 = .ok (.iload_n 1, 1) := by decide +kernel
theorem dX5_keyOfBox_5 : decode cX5_keyOfBox 5 = .ok (.invokevirtual 56, 3) := by decide +kernel
theorem dX5_keyOfBox_8 : decode cX5_keyOfBox 8 = .ok (.ireturn, 1) := by decide +kernel
theorem dX5_leftToClose_0 : decode cX5_leftToClose 0 = .ok (.aload_n 0, 1) := by decide +kernel
theorem dX5_leftToClose_1 : decode cX5_leftToClose 1 = .ok (.getfield 9, 3) := by decide +kernel
theorem dX5_leftToClose_4 : decode cX5_leftToClose 4 = .ok (.aload_n 0, 1) := by decide +kernel
theorem dX5_leftToClose_5 : decode cX5_leftToClose 5 = .ok (.getfield 39, 3) := by decide +kernel
theorem dX5_leftToClose_8 : decode cX5_leftToClose 8 = .ok (.iload_n 1, 1) := by decide +kernel
theorem dX5_leftToClose_9 : decode cX5_leftToClose 9 = .ok (.invokevirtual 56, 3) := by decide +kernel
theorem dX5_leftToClose_12 : decode cX5_leftToClose 12 = .ok (.isub, 1) := by decide +kernel
theorem dX5_leftToClose_13 : decode cX5_leftToClose 13 = .ok (.iconst 0, 1) := by decide +kernel
theorem dX5_leftToClose_14 : decode cX5_leftToClose 14 = .ok (.invokestatic 60, 3) := by decide +kernel
theorem dX5_leftToClose_17 : decode cX5_leftToClose 17 = .ok (.ireturn, 1) := by decide +kernel
theorem dX5_above_0 : decode cX5_above 0 = .ok (.iconst 0, 1) := by decide +kernel
theorem dX5_above_1 : decode cX5_above 1 = .ok (.istore_n 2, 1) := by decide +kernel
theorem dX5_above_2 : decode cX5_above 2 = .ok (.aload_n 0, 1) := by decide +kernel
theorem dX5_above_3 : decode cX5_above 3 = .ok (.getfield 32, 3) := by decide +kernel
theorem dX5_above_6 : decode cX5_above 6 = .ok (.iload_n 1, 1) := by decide +kernel
theorem dX5_above_7 : decode cX5_above 7 = .ok (.invokevirtual 56, 3) := by decide +kernel
theorem dX5_above_10 : decode cX5_above 10 = .ok (.istore_n 3, 1) := by decide +kernel
theorem dX5_above_11 : decode cX5_above 11 = .ok (.iconst 0, 1) := by decide +kernel
theorem dX5_above_12 : decode cX5_above 12 = .ok (.istore 4, 2) := by decide +kernel
theorem dX5_above_14 : decode cX5_above 14 = .ok (.iload 4, 2) := by decide +kernel
theorem dX5_above_16 : decode cX5_above 16 = .ok (.bipush 20, 2) := by decide +kernel
theorem dX5_above_18 : decode cX5_above 18 = .ok (.if_icmp .ge 29, 3) := by decide +kernel
theorem dX5_above_21 : decode cX5_above 21 = .ok (.iload_n 3, 1) := by decide +kernel
theorem dX5_above_22 : decode cX5_above 22 = .ok (.ifCond .lt 25, 3) := by decide +kernel
theorem dX5_above_25 : decode cX5_above 25 = .ok (.iload_n 2, 1) := by decide +kernel
theorem dX5_above_26 : decode cX5_above 26 = .ok (.iload_n 3, 1) := by decide +kernel
theorem dX5_above_27 : decode cX5_above 27 = .ok (.invokestatic 66, 3) := by decide +kernel
theorem dX5_above_30 : decode cX5_above 30 = .ok (.ior, 1) := by decide +kernel
theorem dX5_above_31 : decode cX5_above 31 = .ok (.istore_n 2, 1) := by decide +kernel
theorem dX5_above_32 : decode cX5_above 32 = .ok (.aload_n 0, 1) := by decide +kernel
theorem dX5_above_33 : decode cX5_above 33 = .ok (.getfield 32, 3) := by decide +kernel
theorem dX5_above_36 : decode cX5_above 36 = .ok (.iload_n 3, 1) := by decide +kernel
theorem dX5_above_37 : decode cX5_above 37 = .ok (.invokevirtual 56, 3) := by decide +kernel
theorem dX5_above_40 : decode cX5_above 40 = .ok (.istore_n 3, 1) := by decide +kernel
theorem dX5_above_41 : decode cX5_above 41 = .ok (.iinc 4 1, 3) := by decide +kernel
theorem dX5_above_44 : decode cX5_above 44 = .ok (.goto (-30), 3) := by decide +kernel
theorem dX5_above_47 : decode cX5_above 47 = .ok (.iload_n 2, 1) := by decide +kernel
theorem dX5_above_48 : decode cX5_above 48 = .ok (.ireturn, 1) := by decide +kernel
theorem dX5_aboveBox_0 : decode cX5_aboveBox 0 = .ok (.aload_n 0, 1) := by decide +kernel
theorem dX5_aboveBox_1 : decode cX5_aboveBox 1 = .ok (.getfield 42, 3) := by decide +kernel
theorem dX5_aboveBox_4 : decode cX5_aboveBox 4 = .ok (.iload_n 1, 1) := by decide +kernel
theorem dX5_aboveBox_5 : decode cX5_aboveBox 5 = .ok (.invokevirtual 56, 3) := by decide +kernel
theorem dX5_aboveBox_8 : decode cX5_aboveBox 8 = .ok (.istore_n 2, 1) := by decide +kernel
theorem dX5_aboveBox_9 : decode cX5_aboveBox 9 = .ok (.aload_n 0, 1) := by decide +kernel
theorem dX5_aboveBox_10 : decode cX5_aboveBox 10 = .ok (.iload_n 2, 1) := by decide +kernel
theorem dX5_aboveBox_11 : decode cX5_aboveBox 11 = .ok (.invokevirtual 69, 3) := by decide +kernel
theorem dX5_aboveBox_14 : decode cX5_aboveBox 14 = .ok (.iload_n 2, 1) := by decide +kernel
theorem dX5_aboveBox_15 : decode cX5_aboveBox 15 = .ok (.invokestatic 66, 3) := by decide +kernel
theorem dX5_aboveBox_18 : decode cX5_aboveBox 18 = .ok (.ior, 1) := by decide +kernel
theorem dX5_aboveBox_19 : decode cX5_aboveBox 19 = .ok (.ireturn, 1) := by decide +kernel
theorem dX5_aboveThat_0 : decode cX5_aboveThat 0 = .ok (.iload_n 1, 1) := by decide +kernel
theorem dX5_aboveThat_1 : decode cX5_aboveThat 1 = .ok (.ifCond .ne 11, 3) := by decide +kernel
theorem dX5_aboveThat_4 : decode cX5_aboveThat 4 = .ok (.aload_n 0, 1) := by decide +kernel
theorem dX5_aboveThat_5 : decode cX5_aboveThat 5 = .ok (.iload_n 2, 1) := by decide +kernel
theorem dX5_aboveThat_6 : decode cX5_aboveThat 6 = .ok (.invokevirtual 69, 3) := by decide +kernel
theorem dX5_aboveThat_9 : decode cX5_aboveThat 9 = .ok (.goto 8, 3) := by decide +kernel
theorem dX5_aboveThat_12 : decode cX5_aboveThat 12 = .ok (.aload_n 0, 1) := by decide +kernel
theorem dX5_aboveThat_13 : decode cX5_aboveThat 13 = .ok (.iload_n 2, 1) := by decide +kernel
theorem dX5_aboveThat_14 : decode cX5_aboveThat 14 = .ok (.invokevirtual 72, 3) := by decide +kernel
theorem dX5_aboveThat_17 : decode cX5_aboveThat 17 = .ok (.ireturn, 1) := by decide +kernel
theorem dX5_withAllBelow_0 : decode cX5_withAllBelow 0 = .ok (.iload_n 1, 1) := by decide +kernel
theorem dX5_withAllBelow_1 : decode cX5_withAllBelow 1 = .ok (.invokestatic 66, 3) := by decide +kernel
theorem dX5_withAllBelow_4 : decode cX5_withAllBelow 4 = .ok (.istore_n 2, 1) := by decide +kernel
theorem dX5_withAllBelow_5 : decode cX5_withAllBelow 5 = .ok (.iconst 0, 1) := by decide +kernel
theorem dX5_withAllBelow_6 : decode cX5_withAllBelow 6 = .ok (.istore_n 3, 1) := by decide +kernel
theorem dX5_withAllBelow_7 : decode cX5_withAllBelow 7 = .ok (.iload_n 3, 1) := by decide +kernel
theorem dX5_withAllBelow_8 : decode cX5_withAllBelow 8 = .ok (.aload_n 0, 1) := by decide +kernel
theorem dX5_withAllBelow_9 : decode cX5_withAllBelow 9 = .ok (.getfield 15, 3) := by decide +kernel
theorem dX5_withAllBelow_12 : decode cX5_withAllBelow 12 = .ok (.if_icmp .ge 31, 3) := by decide +kernel
theorem dX5_withAllBelow_15 : decode cX5_withAllBelow 15 = .ok (.iload_n 2, 1) := by decide +kernel
theorem dX5_withAllBelow_16 : decode cX5_withAllBelow 16 = .ok (.aload_n 0, 1) := by decide +kernel
theorem dX5_withAllBelow_17 : decode cX5_withAllBelow 17 = .ok (.getfield 32, 3) := by decide +kernel
theorem dX5_withAllBelow_20 : decode cX5_withAllBelow 20 = .ok (.iload_n 3, 1) := by decide +kernel
theorem dX5_withAllBelow_21 : decode cX5_withAllBelow 21 = .ok (.invokevirtual 56, 3) := by decide +kernel
theorem dX5_withAllBelow_24 : decode cX5_withAllBelow 24 = .ok (.invokestatic 45, 3) := by decide +kernel
theorem dX5_withAllBelow_27 : decode cX5_withAllBelow 27 = .ok (.ifCond .eq 10, 3) := by decide +kernel
theorem dX5_withAllBelow_30 : decode cX5_withAllBelow 30 = .ok (.iload_n 2, 1) := by decide +kernel
theorem dX5_withAllBelow_31 : decode cX5_withAllBelow 31 = .ok (.iload_n 3, 1) := by decide +kernel
theorem dX5_withAllBelow_32 : decode cX5_withAllBelow 32 = .ok (.invokestatic 66, 3) := by decide +kernel
theorem dX5_withAllBelow_35 : decode cX5_withAllBelow 35 = .ok (.ior, 1) := by decide +kernel
theorem dX5_withAllBelow_36 : decode cX5_withAllBelow 36 = .ok (.istore_n 2, 1) := by decide +kernel
theorem dX5_withAllBelow_37 : decode cX5_withAllBelow 37 = .ok (.iinc 3 1, 3) := by decide +kernel
theorem dX5_withAllBelow_40 : decode cX5_withAllBelow 40 = .ok (.goto (-33), 3) := by decide +kernel
theorem dX5_withAllBelow_43 : decode cX5_withAllBelow 43 = .ok (.iload_n 2, 1) := by decide +kernel
theorem dX5_withAllBelow_44 : decode cX5_withAllBelow 44 = .ok (.ireturn, 1) := by decide +kernel
theorem dX5_liveKeysOn_0 : decode cX5_liveKeysOn 0 = .ok (.iconst 0, 1) := by decide +kernel
theorem dX5_liveKeysOn_1 : decode cX5_liveKeysOn 1 = .ok (.istore_n 2, 1) := by decide +kernel
theorem dX5_liveKeysOn_2 : decode cX5_liveKeysOn 2 = .ok (.iconst 0, 1) := by decide +kernel
theorem dX5_liveKeysOn_3 : decode cX5_liveKeysOn 3 = .ok (.istore_n 3, 1) := by decide +kernel
theorem dX5_liveKeysOn_4 : decode cX5_liveKeysOn 4 = .ok (.iload_n 3, 1) := by decide +kernel
theorem dX5_liveKeysOn_5 : decode cX5_liveKeysOn 5 = .ok (.aload_n 0, 1) := by decide +kernel
theorem dX5_liveKeysOn_6 : decode cX5_liveKeysOn 6 = .ok (.getfield 15, 3) := by decide +kernel
theorem dX5_liveKeysOn_9 : decode cX5_liveKeysOn 9 = .ok (.if_icmp .ge 31, 3) := by decide +kernel
theorem dX5_liveKeysOn_12 : decode cX5_liveKeysOn 12 = .ok (.iload_n 1, 1) := by decide +kernel
theorem dX5_liveKeysOn_13 : decode cX5_liveKeysOn 13 = .ok (.aload_n 0, 1) := by decide +kernel
theorem dX5_liveKeysOn_14 : decode cX5_liveKeysOn 14 = .ok (.getfield 32, 3) := by decide +kernel
theorem dX5_liveKeysOn_17 : decode cX5_liveKeysOn 17 = .ok (.iload_n 3, 1) := by decide +kernel
theorem dX5_liveKeysOn_18 : decode cX5_liveKeysOn 18 = .ok (.invokevirtual 56, 3) := by decide +kernel
theorem dX5_liveKeysOn_21 : decode cX5_liveKeysOn 21 = .ok (.invokestatic 45, 3) := by decide +kernel
theorem dX5_liveKeysOn_24 : decode cX5_liveKeysOn 24 = .ok (.ifCond .eq 10, 3) := by decide +kernel
theorem dX5_liveKeysOn_27 : decode cX5_liveKeysOn 27 = .ok (.iload_n 2, 1) := by decide +kernel
theorem dX5_liveKeysOn_28 : decode cX5_liveKeysOn 28 = .ok (.iload_n 3, 1) := by decide +kernel
theorem dX5_liveKeysOn_29 : decode cX5_liveKeysOn 29 = .ok (.invokestatic 66, 3) := by decide +kernel
theorem dX5_liveKeysOn_32 : decode cX5_liveKeysOn 32 = .ok (.ior, 1) := by decide +kernel
theorem dX5_liveKeysOn_33 : decode cX5_liveKeysOn 33 = .ok (.istore_n 2, 1) := by decide +kernel
theorem dX5_liveKeysOn_34 : decode cX5_liveKeysOn 34 = .ok (.iinc 3 1, 3) := by decide +kernel
theorem dX5_liveKeysOn_37 : decode cX5_liveKeysOn 37 = .ok (.goto (-33), 3) := by decide +kernel
theorem dX5_liveKeysOn_40 : decode cX5_liveKeysOn 40 = .ok (.iload_n 2, 1) := by decide +kernel
theorem dX5_liveKeysOn_41 : decode cX5_liveKeysOn 41 = .ok (.aload_n 0, 1) := by decide +kernel
theorem dX5_liveKeysOn_42 : decode cX5_liveKeysOn 42 = .ok (.getfield 21, 3) := by decide +kernel
theorem dX5_liveKeysOn_45 : decode cX5_liveKeysOn 45 = .ok (.iand, 1) := by decide +kernel
theorem dX5_liveKeysOn_46 : decode cX5_liveKeysOn 46 = .ok (.ireturn, 1) := by decide +kernel
theorem dX5_liveBoxesOn_0 : decode cX5_liveBoxesOn 0 = .ok (.iconst 0, 1) := by decide +kernel
theorem dX5_liveBoxesOn_1 : decode cX5_liveBoxesOn 1 = .ok (.istore_n 2, 1) := by decide +kernel
theorem dX5_liveBoxesOn_2 : decode cX5_liveBoxesOn 2 = .ok (.iconst 0, 1) := by decide +kernel
theorem dX5_liveBoxesOn_3 : decode cX5_liveBoxesOn 3 = .ok (.istore_n 3, 1) := by decide +kernel
theorem dX5_liveBoxesOn_4 : decode cX5_liveBoxesOn 4 = .ok (.iload_n 3, 1) := by decide +kernel
theorem dX5_liveBoxesOn_5 : decode cX5_liveBoxesOn 5 = .ok (.aload_n 0, 1) := by decide +kernel
theorem dX5_liveBoxesOn_6 : decode cX5_liveBoxesOn 6 = .ok (.getfield 18, 3) := by decide +kernel
theorem dX5_liveBoxesOn_9 : decode cX5_liveBoxesOn 9 = .ok (.if_icmp .ge 31, 3) := by decide +kernel
theorem dX5_liveBoxesOn_12 : decode cX5_liveBoxesOn 12 = .ok (.iload_n 1, 1) := by decide +kernel
theorem dX5_liveBoxesOn_13 : decode cX5_liveBoxesOn 13 = .ok (.aload_n 0, 1) := by decide +kernel
theorem dX5_liveBoxesOn_14 : decode cX5_liveBoxesOn 14 = .ok (.getfield 42, 3) := by decide +kernel
theorem dX5_liveBoxesOn_17 : decode cX5_liveBoxesOn 17 = .ok (.iload_n 3, 1) := by decide +kernel
theorem dX5_liveBoxesOn_18 : decode cX5_liveBoxesOn 18 = .ok (.invokevirtual 56, 3) := by decide +kernel
theorem dX5_liveBoxesOn_21 : decode cX5_liveBoxesOn 21 = .ok (.invokestatic 45, 3) := by decide +kernel
theorem dX5_liveBoxesOn_24 : decode cX5_liveBoxesOn 24 = .ok (.ifCond .eq 10, 3) := by decide +kernel
theorem dX5_liveBoxesOn_27 : decode cX5_liveBoxesOn 27 = .ok (.iload_n 2, 1) := by decide +kernel
theorem dX5_liveBoxesOn_28 : decode cX5_liveBoxesOn 28 = .ok (.iload_n 3, 1) := by decide +kernel
theorem dX5_liveBoxesOn_29 : decode cX5_liveBoxesOn 29 = .ok (.invokestatic 66, 3) := by decide +kernel
theorem dX5_liveBoxesOn_32 : decode cX5_liveBoxesOn 32 = .ok (.ior, 1) := by decide +kernel
theorem dX5_liveBoxesOn_33 : decode cX5_liveBoxesOn 33 = .ok (.istore_n 2, 1) := by decide +kernel
theorem dX5_liveBoxesOn_34 : decode cX5_liveBoxesOn 34 = .ok (.iinc 3 1, 3) := by decide +kernel
theorem dX5_liveBoxesOn_37 : decode cX5_liveBoxesOn 37 = .ok (.goto (-33), 3) := by decide +kernel
theorem dX5_liveBoxesOn_40 : decode cX5_liveBoxesOn 40 = .ok (.iload_n 2, 1) := by decide +kernel
theorem dX5_liveBoxesOn_41 : decode cX5_liveBoxesOn 41 = .ok (.aload_n 0, 1) := by decide +kernel
theorem dX5_liveBoxesOn_42 : decode cX5_liveBoxesOn 42 = .ok (.getfield 24, 3) := by decide +kernel
theorem dX5_liveBoxesOn_45 : decode cX5_liveBoxesOn 45 = .ok (.iand, 1) := by decide +kernel
theorem dX5_liveBoxesOn_46 : decode cX5_liveBoxesOn 46 = .ok (.ireturn, 1) := by decide +kernel
theorem dX5_wornKeys_0 : decode cX5_wornKeys 0 = .ok (.iconst 0, 1) := by decide +kernel
theorem dX5_wornKeys_1 : decode cX5_wornKeys 1 = .ok (.istore_n 1, 1) := by decide +kernel
theorem dX5_wornKeys_2 : decode cX5_wornKeys 2 = .ok (.iconst 0, 1) := by decide +kernel
theorem dX5_wornKeys_3 : decode cX5_wornKeys 3 = .ok (.istore_n 2, 1) := by decide +kernel
theorem dX5_wornKeys_4 : decode cX5_wornKeys 4 = .ok (.iload_n 2, 1) := by decide +kernel
theorem dX5_wornKeys_5 : decode cX5_wornKeys 5 = .ok (.aload_n 0, 1) := by decide +kernel
theorem dX5_wornKeys_6 : decode cX5_wornKeys 6 = .ok (.getfield 15, 3) := by decide +kernel
theorem dX5_wornKeys_9 : decode cX5_wornKeys 9 = .ok (.if_icmp .ge 24, 3) := by decide +kernel
theorem dX5_wornKeys_12 : decode cX5_wornKeys 12 = .ok (.aload_n 0, 1) := by decide +kernel
theorem dX5_wornKeys_13 : decode cX5_wornKeys 13 = .ok (.iload_n 2, 1) := by decide +kernel
theorem dX5_wornKeys_14 : decode cX5_wornKeys 14 = .ok (.invokevirtual 75, 3) := by decide +kernel
theorem dX5_wornKeys_17 : decode cX5_wornKeys 17 = .ok (.ifCond .ne 10, 3) := by decide +kernel
theorem dX5_wornKeys_20 : decode cX5_wornKeys 20 = .ok (.iload_n 1, 1) := by decide +kernel
theorem dX5_wornKeys_21 : decode cX5_wornKeys 21 = .ok (.iload_n 2, 1) := by decide +kernel
theorem dX5_wornKeys_22 : decode cX5_wornKeys 22 = .ok (.invokestatic 66, 3) := by decide +kernel
theorem dX5_wornKeys_25 : decode cX5_wornKeys 25 = .ok (.ior, 1) := by decide +kernel
theorem dX5_wornKeys_26 : decode cX5_wornKeys 26 = .ok (.istore_n 1, 1) := by decide +kernel
theorem dX5_wornKeys_27 : decode cX5_wornKeys 27 = .ok (.iinc 2 1, 3) := by decide +kernel
theorem dX5_wornKeys_30 : decode cX5_wornKeys 30 = .ok (.goto (-26), 3) := by decide +kernel
theorem dX5_wornKeys_33 : decode cX5_wornKeys 33 = .ok (.iload_n 1, 1) := by decide +kernel
theorem dX5_wornKeys_34 : decode cX5_wornKeys 34 = .ok (.aload_n 0, 1) := by decide +kernel
theorem dX5_wornKeys_35 : decode cX5_wornKeys 35 = .ok (.getfield 21, 3) := by decide +kernel
theorem dX5_wornKeys_38 : decode cX5_wornKeys 38 = .ok (.iand, 1) := by decide +kernel
theorem dX5_wornKeys_39 : decode cX5_wornKeys 39 = .ok (.ireturn, 1) := by decide +kernel
theorem dX5_addKey_0 : decode cX5_addKey 0 = .ok (.aload_n 0, 1) := by decide +kernel
theorem dX5_addKey_1 : decode cX5_addKey 1 = .ok (.getfield 32, 3) := by decide +kernel
theorem dX5_addKey_4 : decode cX5_addKey 4 = .ok (.aload_n 0, 1) := by decide +kernel
theorem dX5_addKey_5 : decode cX5_addKey 5 = .ok (.getfield 15, 3) := by decide +kernel
theorem dX5_addKey_8 : decode cX5_addKey 8 = .ok (.iload_n 1, 1) := by decide +kernel
theorem dX5_addKey_9 : decode cX5_addKey 9 = .ok (.invokevirtual 78, 3) := by decide +kernel
theorem dX5_addKey_12 : decode cX5_addKey 12 = .ok (.aload_n 0, 1) := by decide +kernel
theorem dX5_addKey_13 : decode cX5_addKey 13 = .ok (.getfield 36, 3) := by decide +kernel
theorem dX5_addKey_16 : decode cX5_addKey 16 = .ok (.aload_n 0, 1) := by decide +kernel
theorem dX5_addKey_17 : decode cX5_addKey 17 = .ok (.getfield 15, 3) := by decide +kernel
theorem dX5_addKey_20 : decode cX5_addKey 20 = .ok (.iconst 0, 1) := by decide +kernel
theorem dX5_addKey_21 : decode cX5_addKey 21 = .ok (.invokevirtual 78, 3) := by decide +kernel
theorem dX5_addKey_24 : decode cX5_addKey 24 = .ok (.aload_n 0, 1) := by decide +kernel
theorem dX5_addKey_25 : decode cX5_addKey 25 = .ok (.getfield 39, 3) := by decide +kernel
theorem dX5_addKey_28 : decode cX5_addKey 28 = .ok (.aload_n 0, 1) := by decide +kernel
theorem dX5_addKey_29 : decode cX5_addKey 29 = .ok (.getfield 15, 3) := by decide +kernel
theorem dX5_addKey_32 : decode cX5_addKey 32 = .ok (.iconst 0, 1) := by decide +kernel
theorem dX5_addKey_33 : decode cX5_addKey 33 = .ok (.invokevirtual 78, 3) := by decide +kernel
theorem dX5_addKey_36 : decode cX5_addKey 36 = .ok (.aload_n 0, 1) := by decide +kernel
theorem dX5_addKey_37 : decode cX5_addKey 37 = .ok (.dup, 1) := by decide +kernel
theorem dX5_addKey_38 : decode cX5_addKey 38 = .ok (.getfield 21, 3) := by decide +kernel
theorem dX5_addKey_41 : decode cX5_addKey 41 = .ok (.aload_n 0, 1) := by decide +kernel
theorem dX5_addKey_42 : decode cX5_addKey 42 = .ok (.getfield 15, 3) := by decide +kernel
theorem dX5_addKey_45 : decode cX5_addKey 45 = .ok (.invokestatic 66, 3) := by decide +kernel
theorem dX5_addKey_48 : decode cX5_addKey 48 = .ok (.ior, 1) := by decide +kernel
theorem dX5_addKey_49 : decode cX5_addKey 49 = .ok (.putfield 21, 3) := by decide +kernel
theorem dX5_addKey_52 : decode cX5_addKey 52 = .ok (.aload_n 0, 1) := by decide +kernel
theorem dX5_addKey_53 : decode cX5_addKey 53 = .ok (.dup, 1) := by decide +kernel
theorem dX5_addKey_54 : decode cX5_addKey 54 = .ok (.getfield 15, 3) := by decide +kernel
theorem dX5_addKey_57 : decode cX5_addKey 57 = .ok (.iconst 1, 1) := by decide +kernel
theorem dX5_addKey_58 : decode cX5_addKey 58 = .ok (.iadd, 1) := by decide +kernel
theorem dX5_addKey_59 : decode cX5_addKey 59 = .ok (.putfield 15, 3) := by decide +kernel
theorem dX5_addKey_62 : decode cX5_addKey 62 = .ok (.aload_n 0, 1) := by decide +kernel
theorem dX5_addKey_63 : decode cX5_addKey 63 = .ok (.getfield 15, 3) := by decide +kernel
theorem dX5_addKey_66 : decode cX5_addKey 66 = .ok (.iconst 1, 1) := by decide +kernel
theorem dX5_addKey_67 : decode cX5_addKey 67 = .ok (.isub, 1) := by decide +kernel
theorem dX5_addKey_68 : decode cX5_addKey 68 = .ok (.ireturn, 1) := by decide +kernel
theorem dX5_addBox_0 : decode cX5_addBox 0 = .ok (.aload_n 0, 1) := by decide +kernel
theorem dX5_addBox_1 : decode cX5_addBox 1 = .ok (.getfield 42, 3) := by decide +kernel
theorem dX5_addBox_4 : decode cX5_addBox 4 = .ok (.aload_n 0, 1) := by decide +kernel
theorem dX5_addBox_5 : decode cX5_addBox 5 = .ok (.getfield 18, 3) := by decide +kernel
theorem dX5_addBox_8 : decode cX5_addBox 8 = .ok (.iload_n 1, 1) := by decide +kernel
theorem dX5_addBox_9 : decode cX5_addBox 9 = .ok (.invokevirtual 78, 3) := by decide +kernel
theorem dX5_addBox_12 : decode cX5_addBox 12 = .ok (.aload_n 0, 1) := by decide +kernel
theorem dX5_addBox_13 : decode cX5_addBox 13 = .ok (.dup, 1) := by decide +kernel
theorem dX5_addBox_14 : decode cX5_addBox 14 = .ok (.getfield 24, 3) := by decide +kernel
theorem dX5_addBox_17 : decode cX5_addBox 17 = .ok (.aload_n 0, 1) := by decide +kernel
theorem dX5_addBox_18 : decode cX5_addBox 18 = .ok (.getfield 18, 3) := by decide +kernel
theorem dX5_addBox_21 : decode cX5_addBox 21 = .ok (.invokestatic 66, 3) := by decide +kernel
theorem dX5_addBox_24 : decode cX5_addBox 24 = .ok (.ior, 1) := by decide +kernel
theorem dX5_addBox_25 : decode cX5_addBox 25 = .ok (.putfield 24, 3) := by decide +kernel
theorem dX5_addBox_28 : decode cX5_addBox 28 = .ok (.aload_n 0, 1) := by decide +kernel
theorem dX5_addBox_29 : decode cX5_addBox 29 = .ok (.dup, 1) := by decide +kernel
theorem dX5_addBox_30 : decode cX5_addBox 30 = .ok (.getfield 18, 3) := by decide +kernel
theorem dX5_addBox_33 : decode cX5_addBox 33 = .ok (.iconst 1, 1) := by decide +kernel
theorem dX5_addBox_34 : decode cX5_addBox 34 = .ok (.iadd, 1) := by decide +kernel
theorem dX5_addBox_35 : decode cX5_addBox 35 = .ok (.putfield 18, 3) := by decide +kernel
theorem dX5_addBox_38 : decode cX5_addBox 38 = .ok (.aload_n 0, 1) := by decide +kernel
theorem dX5_addBox_39 : decode cX5_addBox 39 = .ok (.getfield 18, 3) := by decide +kernel
theorem dX5_addBox_42 : decode cX5_addBox 42 = .ok (.iconst 1, 1) := by decide +kernel
theorem dX5_addBox_43 : decode cX5_addBox 43 = .ok (.isub, 1) := by decide +kernel
theorem dX5_addBox_44 : decode cX5_addBox 44 = .ok (.ireturn, 1) := by decide +kernel
theorem dX5_startNextMake_0 : decode cX5_startNextMake 0 = .ok (.aload_n 0, 1) := by decide +kernel
theorem dX5_startNextMake_1 : decode cX5_startNextMake 1 = .ok (.getfield 36, 3) := by decide +kernel
theorem dX5_startNextMake_4 : decode cX5_startNextMake 4 = .ok (.iload_n 1, 1) := by decide +kernel
theorem dX5_startNextMake_5 : decode cX5_startNextMake 5 = .ok (.iconst 1, 1) := by decide +kernel
theorem dX5_startNextMake_6 : decode cX5_startNextMake 6 = .ok (.invokevirtual 82, 3) := by decide +kernel
theorem dX5_startNextMake_9 : decode cX5_startNextMake 9 = .ok (.aload_n 0, 1) := by decide +kernel
theorem dX5_startNextMake_10 : decode cX5_startNextMake 10 = .ok (.getfield 39, 3) := by decide +kernel
theorem dX5_startNextMake_13 : decode cX5_startNextMake 13 = .ok (.iload_n 1, 1) := by decide +kernel
theorem dX5_startNextMake_14 : decode cX5_startNextMake 14 = .ok (.iconst 0, 1) := by decide +kernel
theorem dX5_startNextMake_15 : decode cX5_startNextMake 15 = .ok (.invokevirtual 78, 3) := by decide +kernel
theorem dX5_startNextMake_18 : decode cX5_startNextMake 18 = .ok (.return_, 1) := by decide +kernel
theorem dX5_wearDown_0 : decode cX5_wearDown 0 = .ok (.aload_n 0, 1) := by decide +kernel
theorem dX5_wearDown_1 : decode cX5_wearDown 1 = .ok (.getfield 39, 3) := by decide +kernel
theorem dX5_wearDown_4 : decode cX5_wearDown 4 = .ok (.iload_n 1, 1) := by decide +kernel
theorem dX5_wearDown_5 : decode cX5_wearDown 5 = .ok (.iconst 1, 1) := by decide +kernel
theorem dX5_wearDown_6 : decode cX5_wearDown 6 = .ok (.invokevirtual 82, 3) := by decide +kernel
theorem dX5_wearDown_9 : decode cX5_wearDown 9 = .ok (.return_, 1) := by decide +kernel
theorem dX5_endLife_0 : decode cX5_endLife 0 = .ok (.aload_n 0, 1) := by decide +kernel
theorem dX5_endLife_1 : decode cX5_endLife 1 = .ok (.dup, 1) := by decide +kernel
theorem dX5_endLife_2 : decode cX5_endLife 2 = .ok (.getfield 21, 3) := by decide +kernel
theorem dX5_endLife_5 : decode cX5_endLife 5 = .ok (.iload_n 1, 1) := by decide +kernel
theorem dX5_endLife_6 : decode cX5_endLife 6 = .ok (.iconst (-1), 1) := by decide +kernel
theorem dX5_endLife_7 : decode cX5_endLife 7 = .ok (.ixor, 1) := by decide +kernel
theorem dX5_endLife_8 : decode cX5_endLife 8 = .ok (.iand, 1) := by decide +kernel
theorem dX5_endLife_9 : decode cX5_endLife 9 = .ok (.putfield 21, 3) := by decide +kernel
theorem dX5_endLife_12 : decode cX5_endLife 12 = .ok (.aload_n 0, 1) := by decide +kernel
theorem dX5_endLife_13 : decode cX5_endLife 13 = .ok (.dup, 1) := by decide +kernel
theorem dX5_endLife_14 : decode cX5_endLife 14 = .ok (.getfield 24, 3) := by decide +kernel
theorem dX5_endLife_17 : decode cX5_endLife 17 = .ok (.iload_n 2, 1) := by decide +kernel
theorem dX5_endLife_18 : decode cX5_endLife 18 = .ok (.iconst (-1), 1) := by decide +kernel
theorem dX5_endLife_19 : decode cX5_endLife 19 = .ok (.ixor, 1) := by decide +kernel
theorem dX5_endLife_20 : decode cX5_endLife 20 = .ok (.iand, 1) := by decide +kernel
theorem dX5_endLife_21 : decode cX5_endLife 21 = .ok (.putfield 24, 3) := by decide +kernel
theorem dX5_endLife_24 : decode cX5_endLife 24 = .ok (.return_, 1) := by decide +kernel
theorem dX5_become_0 : decode cX5_become 0 = .ok (.aload_n 1, 1) := by decide +kernel
theorem dX5_become_1 : decode cX5_become 1 = .ok (.ifnonnull 4, 3) := by decide +kernel
theorem dX5_become_4 : decode cX5_become 4 = .ok (.return_, 1) := by decide +kernel
theorem dX5_become_5 : decode cX5_become 5 = .ok (.aload_n 0, 1) := by decide +kernel
theorem dX5_become_6 : decode cX5_become 6 = .ok (.aload_n 1, 1) := by decide +kernel
theorem dX5_become_7 : decode cX5_become 7 = .ok (.getfield 9, 3) := by decide +kernel
theorem dX5_become_10 : decode cX5_become 10 = .ok (.putfield 9, 3) := by decide +kernel
theorem dX5_become_13 : decode cX5_become 13 = .ok (.aload_n 0, 1) := by decide +kernel
theorem dX5_become_14 : decode cX5_become 14 = .ok (.aload_n 1, 1) := by decide +kernel
theorem dX5_become_15 : decode cX5_become 15 = .ok (.getfield 15, 3) := by decide +kernel
theorem dX5_become_18 : decode cX5_become 18 = .ok (.putfield 15, 3) := by decide +kernel
theorem dX5_become_21 : decode cX5_become 21 = .ok (.aload_n 0, 1) := by decide +kernel
theorem dX5_become_22 : decode cX5_become 22 = .ok (.aload_n 1, 1) := by decide +kernel
theorem dX5_become_23 : decode cX5_become 23 = .ok (.getfield 18, 3) := by decide +kernel
theorem dX5_become_26 : decode cX5_become 26 = .ok (.putfield 18, 3) := by decide +kernel
theorem dX5_become_29 : decode cX5_become 29 = .ok (.aload_n 0, 1) := by decide +kernel
theorem dX5_become_30 : decode cX5_become 30 = .ok (.aload_n 1, 1) := by decide +kernel
theorem dX5_become_31 : decode cX5_become 31 = .ok (.getfield 21, 3) := by decide +kernel
theorem dX5_become_34 : decode cX5_become 34 = .ok (.putfield 21, 3) := by decide +kernel
theorem dX5_become_37 : decode cX5_become 37 = .ok (.aload_n 0, 1) := by decide +kernel
theorem dX5_become_38 : decode cX5_become 38 = .ok (.aload_n 1, 1) := by decide +kernel
theorem dX5_become_39 : decode cX5_become 39 = .ok (.getfield 24, 3) := by decide +kernel
theorem dX5_become_42 : decode cX5_become 42 = .ok (.putfield 24, 3) := by decide +kernel
theorem dX5_become_45 : decode cX5_become 45 = .ok (.aload_n 0, 1) := by decide +kernel
theorem dX5_become_46 : decode cX5_become 46 = .ok (.getfield 32, 3) := by decide +kernel
theorem dX5_become_49 : decode cX5_become 49 = .ok (.aload_n 1, 1) := by decide +kernel
theorem dX5_become_50 : decode cX5_become 50 = .ok (.getfield 32, 3) := by decide +kernel
theorem dX5_become_53 : decode cX5_become 53 = .ok (.invokevirtual 85, 3) := by decide +kernel
theorem dX5_become_56 : decode cX5_become 56 = .ok (.aload_n 0, 1) := by decide +kernel
theorem dX5_become_57 : decode cX5_become 57 = .ok (.getfield 36, 3) := by decide +kernel
theorem dX5_become_60 : decode cX5_become 60 = .ok (.aload_n 1, 1) := by decide +kernel
theorem dX5_become_61 : decode cX5_become 61 = .ok (.getfield 36, 3) := by decide +kernel
theorem dX5_become_64 : decode cX5_become 64 = .ok (.invokevirtual 85, 3) := by decide +kernel
theorem dX5_become_67 : decode cX5_become 67 = .ok (.aload_n 0, 1) := by decide +kernel
theorem dX5_become_68 : decode cX5_become 68 = .ok (.getfield 39, 3) := by decide +kernel
theorem dX5_become_71 : decode cX5_become 71 = .ok (.aload_n 1, 1) := by decide +kernel
theorem dX5_become_72 : decode cX5_become 72 = .ok (.getfield 39, 3) := by decide +kernel
theorem dX5_become_75 : decode cX5_become 75 = .ok (.invokevirtual 85, 3) := by decide +kernel
theorem dX5_become_78 : decode cX5_become 78 = .ok (.aload_n 0, 1) := by decide +kernel
theorem dX5_become_79 : decode cX5_become 79 = .ok (.getfield 42, 3) := by decide +kernel
theorem dX5_become_82 : decode cX5_become 82 = .ok (.aload_n 1, 1) := by decide +kernel
theorem dX5_become_83 : decode cX5_become 83 = .ok (.getfield 42, 3) := by decide +kernel
theorem dX5_become_86 : decode cX5_become 86 = .ok (.invokevirtual 85, 3) := by decide +kernel
theorem dX5_become_89 : decode cX5_become 89 = .ok (.return_, 1) := by decide +kernel
theorem dX6_init_0 : decode cX6_init 0 = .ok (.aload_n 0, 1) := by decide +kernel
theorem dX6_init_1 : decode cX6_init 1 = .ok (.invokespecial 3, 3) := by decide +kernel
theorem dX6_init_4 : decode cX6_init 4 = .ok (.aload_n 0, 1) := by decide +kernel
theorem dX6_init_5 : decode cX6_init 5 = .ok (.iconst 0, 1) := by decide +kernel
theorem dX6_init_6 : decode cX6_init 6 = .ok (.putfield 9, 3) := by decide +kernel
theorem dX6_init_9 : decode cX6_init 9 = .ok (.aload_n 0, 1) := by decide +kernel
theorem dX6_init_10 : decode cX6_init 10 = .ok (.new 15, 3) := by decide +kernel
theorem dX6_init_13 : decode cX6_init 13 = .ok (.dup, 1) := by decide +kernel
theorem dX6_init_14 : decode cX6_init 14 = .ok (.bipush 120, 2) := by decide +kernel
theorem dX6_init_16 : decode cX6_init 16 = .ok (.invokespecial 17, 3) := by decide +kernel
theorem dX6_init_19 : decode cX6_init 19 = .ok (.putfield 20, 3) := by decide +kernel
theorem dX6_init_22 : decode cX6_init 22 = .ok (.aload_n 0, 1) := by decide +kernel
theorem dX6_init_23 : decode cX6_init 23 = .ok (.new 15, 3) := by decide +kernel
theorem dX6_init_26 : decode cX6_init 26 = .ok (.dup, 1) := by decide +kernel
theorem dX6_init_27 : decode cX6_init 27 = .ok (.bipush 120, 2) := by decide +kernel
theorem dX6_init_29 : decode cX6_init 29 = .ok (.invokespecial 17, 3) := by decide +kernel
theorem dX6_init_32 : decode cX6_init 32 = .ok (.putfield 24, 3) := by decide +kernel
theorem dX6_init_35 : decode cX6_init 35 = .ok (.aload_n 0, 1) := by decide +kernel
theorem dX6_init_36 : decode cX6_init 36 = .ok (.new 15, 3) := by decide +kernel
theorem dX6_init_39 : decode cX6_init 39 = .ok (.dup, 1) := by decide +kernel
theorem dX6_init_40 : decode cX6_init 40 = .ok (.bipush 120, 2) := by decide +kernel
theorem dX6_init_42 : decode cX6_init 42 = .ok (.invokespecial 17, 3) := by decide +kernel
theorem dX6_init_45 : decode cX6_init 45 = .ok (.putfield 27, 3) := by decide +kernel
theorem dX6_init_48 : decode cX6_init 48 = .ok (.aload_n 0, 1) := by decide +kernel
theorem dX6_init_49 : decode cX6_init 49 = .ok (.new 15, 3) := by decide +kernel
theorem dX6_init_52 : decode cX6_init 52 = .ok (.dup, 1) := by decide +kernel
theorem dX6_init_53 : decode cX6_init 53 = .ok (.bipush 120, 2) := by decide +kernel
theorem dX6_init_55 : decode cX6_init 55 = .ok (.invokespecial 17, 3) := by decide +kernel
theorem dX6_init_58 : decode cX6_init 58 = .ok (.putfield 30, 3) := by decide +kernel
theorem dX6_init_61 : decode cX6_init 61 = .ok (.aload_n 0, 1) := by decide +kernel
theorem dX6_init_62 : decode cX6_init 62 = .ok (.new 15, 3) := by decide +kernel
theorem dX6_init_65 : decode cX6_init 65 = .ok (.dup, 1) := by decide +kernel
theorem dX6_init_66 : decode cX6_init 66 = .ok (.bipush 120, 2) := by decide +kernel
theorem dX6_init_68 : decode cX6_init 68 = .ok (.invokespecial 17, 3) := by decide +kernel
theorem dX6_init_71 : decode cX6_init 71 = .ok (.putfield 33, 3) := by decide +kernel
theorem dX6_init_74 : decode cX6_init 74 = .ok (.return_, 1) := by decide +kernel
theorem dX6_isOne_0 : decode cX6_isOne 0 = .ok (.iload_n 1, 1) := by decide +kernel
theorem dX6_isOne_1 : decode cX6_isOne 1 = .ok (.ifCond .lt 15, 3) := by decide +kernel
theorem dX6_isOne_4 : decode cX6_isOne 4 = .ok (.iload_n 1, 1) := by decide +kernel
theorem dX6_isOne_5 : decode cX6_isOne 5 = .ok (.aload_n 0, 1) := by decide +kernel
theorem dX6_isOne_6 : decode cX6_isOne 6 = .ok (.getfield 9, 3) := by decide +kernel
theorem dX6_isOne_9 : decode cX6_isOne 9 = .ok (.if_icmp .ge 7, 3) := by decide +kernel
theorem dX6_isOne_12 : decode cX6_isOne 12 = .ok (.iconst 1, 1) := by decide +kernel
theorem dX6_isOne_13 : decode cX6_isOne 13 = .ok (.goto 4, 3) := by decide +kernel
theorem dX6_isOne_16 : decode cX6_isOne 16 = .ok (.iconst 0, 1) := by decide +kernel
theorem dX6_isOne_17 : decode cX6_isOne 17 = .ok (.ireturn, 1) := by decide +kernel
theorem dX6_haveRoomFor_0 : decode cX6_haveRoomFor 0 = .ok (.aload_n 0, 1) := by decide +kernel
theorem dX6_haveRoomFor_1 : decode cX6_haveRoomFor 1 = .ok (.getfield 9, 3) := by decide +kernel
theorem dX6_haveRoomFor_4 : decode cX6_haveRoomFor 4 = .ok (.iload_n 1, 1) := by decide +kernel
theorem dX6_haveRoomFor_5 : decode cX6_haveRoomFor 5 = .ok (.iadd, 1) := by decide +kernel
theorem dX6_haveRoomFor_6 : decode cX6_haveRoomFor 6 = .ok (.bipush 120, 2) := by decide +kernel
theorem dX6_haveRoomFor_8 : decode cX6_haveRoomFor 8 = .ok (.if_icmp .gt 7, 3) := by decide +kernel
theorem dX6_haveRoomFor_11 : decode cX6_haveRoomFor 11 = .ok (.iconst 1, 1) := by decide +kernel
theorem dX6_haveRoomFor_12 : decode cX6_haveRoomFor 12 = .ok (.goto 4, 3) := by decide +kernel
theorem dX6_haveRoomFor_15 : decode cX6_haveRoomFor 15 = .ok (.iconst 0, 1) := by decide +kernel
theorem dX6_haveRoomFor_16 : decode cX6_haveRoomFor 16 = .ok (.ireturn, 1) := by decide +kernel
theorem dX6_heldKey_0 : decode cX6_heldKey 0 = .ok (.aload_n 0, 1) := by decide +kernel
theorem dX6_heldKey_1 : decode cX6_heldKey 1 = .ok (.getfield 20, 3) := by decide +kernel
theorem dX6_heldKey_4 : decode cX6_heldKey 4 = .ok (.iload_n 1, 1) := by decide +kernel
theorem dX6_heldKey_5 : decode cX6_heldKey 5 = .ok (.invokevirtual 36, 3) := by decide +kernel
theorem dX6_heldKey_8 : decode cX6_heldKey 8 = .ok (.ireturn, 1) := by decide +kernel
theorem dX6_heldWhat_0 : decode cX6_heldWhat 0 = .ok (.aload_n 0, 1) := by decide +kernel
theorem dX6_heldWhat_1 : decode cX6_heldWhat 1 = .ok (.getfield 24, 3) := by decide +kernel
theorem dX6_heldWhat_4 : decode cX6_heldWhat 4 = .ok (.iload_n 1, 1) := by decide +kernel
theorem dX6_heldWhat_5 : decode cX6_heldWhat 5 = .ok (.invokevirtual 36, 3) := by decide +kernel
theorem dX6_heldWhat_8 : decode cX6_heldWhat 8 = .ok (.ireturn, 1) := by decide +kernel
theorem dX6_closer_0 : decode cX6_closer 0 = .ok (.aload_n 0, 1) := by decide +kernel
theorem dX6_closer_1 : decode cX6_closer 1 = .ok (.getfield 27, 3) := by decide +kernel
theorem dX6_closer_4 : decode cX6_closer 4 = .ok (.iload_n 1, 1) := by decide +kernel
theorem dX6_closer_5 : decode cX6_closer 5 = .ok (.invokevirtual 36, 3) := by decide +kernel
theorem dX6_closer_8 : decode cX6_closer 8 = .ok (.ireturn, 1) := by decide +kernel
theorem dX6_closerMake_0 : decode cX6_closerMake 0 = .ok (.aload_n 0, 1) := by decide +kernel
theorem dX6_closerMake_1 : decode cX6_closerMake 1 = .ok (.getfield 30, 3) := by decide +kernel
theorem dX6_closerMake_4 : decode cX6_closerMake 4 = .ok (.iload_n 1, 1) := by decide +kernel
theorem dX6_closerMake_5 : decode cX6_closerMake 5 = .ok (.invokevirtual 36, 3) := by decide +kernel
theorem dX6_closerMake_8 : decode cX6_closerMake 8 = .ok (.ireturn, 1) := by decide +kernel
theorem dX6_standsIn_0 : decode cX6_standsIn 0 = .ok (.aload_n 0, 1) := by decide +kernel
theorem dX6_standsIn_1 : decode cX6_standsIn 1 = .ok (.getfield 33, 3) := by decide +kernel
theorem dX6_standsIn_4 : decode cX6_standsIn 4 = .ok (.iload_n 1, 1) := by decide +kernel
theorem dX6_standsIn_5 : decode cX6_standsIn 5 = .ok (.invokevirtual 36, 3) := by decide +kernel
theorem dX6_standsIn_8 : decode cX6_standsIn 8 = .ok (.iload_n 2, 1) := by decide +kernel
theorem dX6_standsIn_9 : decode cX6_standsIn 9 = .ok (.iand, 1) := by decide +kernel
theorem dX6_standsIn_10 : decode cX6_standsIn 10 = .ok (.ifCond .eq 7, 3) := by decide +kernel
theorem dX6_standsIn_13 : decode cX6_standsIn 13 = .ok (.iconst 1, 1) := by decide +kernel
theorem dX6_standsIn_14 : decode cX6_standsIn 14 = .ok (.goto 4, 3) := by decide +kernel
theorem dX6_standsIn_17 : decode cX6_standsIn 17 = .ok (.iconst 0, 1) := by decide +kernel
theorem dX6_standsIn_18 : decode cX6_standsIn 18 = .ok (.ireturn, 1) := by decide +kernel
theorem dX6_placesOf_0 : decode cX6_placesOf 0 = .ok (.aload_n 0, 1) := by decide +kernel
theorem dX6_placesOf_1 : decode cX6_placesOf 1 = .ok (.getfield 33, 3) := by decide +kernel
theorem dX6_placesOf_4 : decode cX6_placesOf 4 = .ok (.iload_n 1, 1) := by decide +kernel
theorem dX6_placesOf_5 : decode cX6_placesOf 5 = .ok (.invokevirtual 36, 3) := by decide +kernel
theorem dX6_placesOf_8 : decode cX6_placesOf 8 = .ok (.bipush 7, 2) := by decide +kernel
theorem dX6_placesOf_10 : decode cX6_placesOf 10 = .ok (.iand, 1) := by decide +kernel
theorem dX6_placesOf_11 : decode cX6_placesOf 11 = .ok (.ireturn, 1) := by decide +kernel
theorem dX6_standingIn_0 : decode cX6_standingIn 0 = .ok (.iconst 0, 1) := by decide +kernel
theorem dX6_standingIn_1 : decode cX6_standingIn 1 = .ok (.istore_n 2, 1) := by decide +kernel
theorem dX6_standingIn_2 : decode cX6_standingIn 2 = .ok (.iconst 0, 1) := by decide +kernel
theorem dX6_standingIn_3 : decode cX6_standingIn 3 = .ok (.istore_n 3, 1) := by decide +kernel
theorem dX6_standingIn_4 : decode cX6_standingIn 4 = .ok (.iload_n 3, 1) := by decide +kernel
theorem dX6_standingIn_5 : decode cX6_standingIn 5 = .ok (.aload_n 0, 1) := by decide +kernel
theorem dX6_standingIn_6 : decode cX6_standingIn 6 = .ok (.getfield 9, 3) := by decide +kernel
theorem dX6_standingIn_9 : decode cX6_standingIn 9 = .ok (.if_icmp .ge 25, 3) := by decide +kernel
theorem dX6_standingIn_12 : decode cX6_standingIn 12 = .ok (.iload_n 2, 1) := by decide +kernel
theorem dX6_standingIn_13 : decode cX6_standingIn 13 = .ok (.aload_n 0, 1) := by decide +kernel
theorem dX6_standingIn_14 : decode cX6_standingIn 14 = .ok (.getfield 33, 3) := by decide +kernel
theorem dX6_standingIn_17 : decode cX6_standingIn 17 = .ok (.iload_n 3, 1) := by decide +kernel
theorem dX6_standingIn_18 : decode cX6_standingIn 18 = .ok (.invokevirtual 36, 3) := by decide +kernel
theorem dX6_standingIn_21 : decode cX6_standingIn 21 = .ok (.iload_n 1, 1) := by decide +kernel
theorem dX6_standingIn_22 : decode cX6_standingIn 22 = .ok (.iand, 1) := by decide +kernel
theorem dX6_standingIn_23 : decode cX6_standingIn 23 = .ok (.invokestatic 40, 3) := by decide +kernel
theorem dX6_standingIn_26 : decode cX6_standingIn 26 = .ok (.iadd, 1) := by decide +kernel
theorem dX6_standingIn_27 : decode cX6_standingIn 27 = .ok (.istore_n 2, 1) := by decide +kernel
theorem dX6_standingIn_28 : decode cX6_standingIn 28 = .ok (.iinc 3 1, 3) := by decide +kernel
theorem dX6_standingIn_31 : decode cX6_standingIn 31 = .ok (.goto (-27), 3) := by decide +kernel
theorem dX6_standingIn_34 : decode cX6_standingIn 34 = .ok (.iload_n 2, 1) := by decide +kernel
theorem dX6_standingIn_35 : decode cX6_standingIn 35 = .ok (.ireturn, 1) := by decide +kernel
theorem dX6_holdsMake_0 : decode cX6_holdsMake 0 = .ok (.aload_n 0, 1) := by decide +kernel
theorem dX6_holdsMake_1 : decode cX6_holdsMake 1 = .ok (.getfield 20, 3) := by decide +kernel
theorem dX6_holdsMake_4 : decode cX6_holdsMake 4 = .ok (.iload_n 1, 1) := by decide +kernel
theorem dX6_holdsMake_5 : decode cX6_holdsMake 5 = .ok (.invokevirtual 36, 3) := by decide +kernel
theorem dX6_holdsMake_8 : decode cX6_holdsMake 8 = .ok (.iload_n 2, 1) := by decide +kernel
theorem dX6_holdsMake_9 : decode cX6_holdsMake 9 = .ok (.if_icmp .ne 19, 3) := by decide +kernel
theorem dX6_holdsMake_12 : decode cX6_holdsMake 12 = .ok (.aload_n 0, 1) := by decide +kernel
theorem dX6_holdsMake_13 : decode cX6_holdsMake 13 = .ok (.getfield 24, 3) := by decide +kernel
theorem dX6_holdsMake_16 : decode cX6_holdsMake 16 = .ok (.iload_n 1, 1) := by decide +kernel
theorem dX6_holdsMake_17 : decode cX6_holdsMake 17 = .ok (.invokevirtual 36, 3) := by decide +kernel
theorem dX6_holdsMake_20 : decode cX6_holdsMake 20 = .ok (.iload_n 3, 1) := by decide +kernel
theorem dX6_holdsMake_21 : decode cX6_holdsMake 21 = .ok (.if_icmp .ne 7, 3) := by decide +kernel
theorem dX6_holdsMake_24 : decode cX6_holdsMake 24 = .ok (.iconst 1, 1) := by decide +kernel
theorem dX6_holdsMake_25 : decode cX6_holdsMake 25 = .ok (.goto 4, 3) := by decide +kernel
theorem dX6_holdsMake_28 : decode cX6_holdsMake 28 = .ok (.iconst 0, 1) := by decide +kernel
theorem dX6_holdsMake_29 : decode cX6_holdsMake 29 = .ok (.ireturn, 1) := by decide +kernel
theorem dX6_add_0 : decode cX6_add 0 = .ok (.aload_n 0, 1) := by decide +kernel
theorem dX6_add_1 : decode cX6_add 1 = .ok (.getfield 20, 3) := by decide +kernel
theorem dX6_add_4 : decode cX6_add 4 = .ok (.aload_n 0, 1) := by decide +kernel
theorem dX6_add_5 : decode cX6_add 5 = .ok (.getfield 9, 3) := by decide +kernel
theorem dX6_add_8 : decode cX6_add 8 = .ok (.iload_n 1, 1) := by decide +kernel
theorem dX6_add_9 : decode cX6_add 9 = .ok (.invokevirtual 56, 3) := by decide +kernel
theorem dX6_add_12 : decode cX6_add 12 = .ok (.aload_n 0, 1) := by decide +kernel
theorem dX6_add_13 : decode cX6_add 13 = .ok (.getfield 24, 3) := by decide +kernel
theorem dX6_add_16 : decode cX6_add 16 = .ok (.aload_n 0, 1) := by decide +kernel
theorem dX6_add_17 : decode cX6_add 17 = .ok (.getfield 9, 3) := by decide +kernel
theorem dX6_add_20 : decode cX6_add 20 = .ok (.iload_n 2, 1) := by decide +kernel
theorem dX6_add_21 : decode cX6_add 21 = .ok (.invokevirtual 56, 3) := by decide +kernel
theorem dX6_add_24 : decode cX6_add 24 = .ok (.aload_n 0, 1) := by decide +kernel
theorem dX6_add_25 : decode cX6_add 25 = .ok (.getfield 27, 3) := by decide +kernel
theorem dX6_add_28 : decode cX6_add 28 = .ok (.aload_n 0, 1) := by decide +kernel
theorem dX6_add_29 : decode cX6_add 29 = .ok (.getfield 9, 3) := by decide +kernel
theorem dX6_add_32 : decode cX6_add 32 = .ok (.iload_n 3, 1) := by decide +kernel
theorem dX6_add_33 : decode cX6_add 33 = .ok (.invokevirtual 56, 3) := by decide +kernel
theorem dX6_add_36 : decode cX6_add 36 = .ok (.aload_n 0, 1) := by decide +kernel
theorem dX6_add_37 : decode cX6_add 37 = .ok (.getfield 30, 3) := by decide +kernel
theorem dX6_add_40 : decode cX6_add 40 = .ok (.aload_n 0, 1) := by decide +kernel
theorem dX6_add_41 : decode cX6_add 41 = .ok (.getfield 9, 3) := by decide +kernel
theorem dX6_add_44 : decode cX6_add 44 = .ok (.iload 4, 2) := by decide +kernel
theorem dX6_add_46 : decode cX6_add 46 = .ok (.invokevirtual 56, 3) := by decide +kernel
theorem dX6_add_49 : decode cX6_add 49 = .ok (.aload_n 0, 1) := by decide +kernel
theorem dX6_add_50 : decode cX6_add 50 = .ok (.getfield 33, 3) := by decide +kernel
theorem dX6_add_53 : decode cX6_add 53 = .ok (.aload_n 0, 1) := by decide +kernel
theorem dX6_add_54 : decode cX6_add 54 = .ok (.getfield 9, 3) := by decide +kernel
theorem dX6_add_57 : decode cX6_add 57 = .ok (.bipush 8, 2) := by decide +kernel
theorem dX6_add_59 : decode cX6_add 59 = .ok (.invokevirtual 56, 3) := by decide +kernel
theorem dX6_add_62 : decode cX6_add 62 = .ok (.aload_n 0, 1) := by decide +kernel
theorem dX6_add_63 : decode cX6_add 63 = .ok (.dup, 1) := by decide +kernel
theorem dX6_add_64 : decode cX6_add 64 = .ok (.getfield 9, 3) := by decide +kernel
theorem dX6_add_67 : decode cX6_add 67 = .ok (.iconst 1, 1) := by decide +kernel
theorem dX6_add_68 : decode cX6_add 68 = .ok (.iadd, 1) := by decide +kernel
theorem dX6_add_69 : decode cX6_add 69 = .ok (.putfield 9, 3) := by decide +kernel
theorem dX6_add_72 : decode cX6_add 72 = .ok (.return_, 1) := by decide +kernel
theorem dX6_standAlsoIn_0 : decode cX6_standAlsoIn 0 = .ok (.aload_n 0, 1) := by decide +kernel
theorem dX6_standAlsoIn_1 : decode cX6_standAlsoIn 1 = .ok (.getfield 33, 3) := by decide +kernel
theorem dX6_standAlsoIn_4 : decode cX6_standAlsoIn 4 = .ok (.iload_n 1, 1) := by decide +kernel
theorem dX6_standAlsoIn_5 : decode cX6_standAlsoIn 5 = .ok (.aload_n 0, 1) := by decide +kernel
theorem dX6_standAlsoIn_6 : decode cX6_standAlsoIn 6 = .ok (.getfield 33, 3) := by decide +kernel
theorem dX6_standAlsoIn_9 : decode cX6_standAlsoIn 9 = .ok (.iload_n 1, 1) := by decide +kernel
theorem dX6_standAlsoIn_10 : decode cX6_standAlsoIn 10 = .ok (.invokevirtual 36, 3) := by decide +kernel
theorem dX6_standAlsoIn_13 : decode cX6_standAlsoIn 13 = .ok (.iload_n 2, 1) := by decide +kernel
theorem dX6_standAlsoIn_14 : decode cX6_standAlsoIn 14 = .ok (.invokestatic 60, 3) := by decide +kernel
theorem dX6_standAlsoIn_17 : decode cX6_standAlsoIn 17 = .ok (.ior, 1) := by decide +kernel
theorem dX6_standAlsoIn_18 : decode cX6_standAlsoIn 18 = .ok (.invokevirtual 56, 3) := by decide +kernel
theorem dX6_standAlsoIn_21 : decode cX6_standAlsoIn 21 = .ok (.return_, 1) := by decide +kernel
theorem dX6_burnHolding_0 : decode cX6_burnHolding 0 = .ok (.iconst 0, 1) := by decide +kernel
theorem dX6_burnHolding_1 : decode cX6_burnHolding 1 = .ok (.istore_n 3, 1) := by decide +kernel
theorem dX6_burnHolding_2 : decode cX6_burnHolding 2 = .ok (.iload_n 3, 1) := by decide +kernel
theorem dX6_burnHolding_3 : decode cX6_burnHolding 3 = .ok (.aload_n 0, 1) := by decide +kernel
theorem dX6_burnHolding_4 : decode cX6_burnHolding 4 = .ok (.getfield 9, 3) := by decide +kernel
theorem dX6_burnHolding_7 : decode cX6_burnHolding 7 = .ok (.if_icmp .ge 61, 3) := by decide +kernel
theorem dX6_burnHolding_10 : decode cX6_burnHolding 10 = .ok (.aload_n 0, 1) := by decide +kernel
theorem dX6_burnHolding_11 : decode cX6_burnHolding 11 = .ok (.getfield 20, 3) := by decide +kernel
theorem dX6_burnHolding_14 : decode cX6_burnHolding 14 = .ok (.iload_n 3, 1) := by decide +kernel
theorem dX6_burnHolding_15 : decode cX6_burnHolding 15 = .ok (.invokevirtual 36, 3) := by decide +kernel
theorem dX6_burnHolding_18 : decode cX6_burnHolding 18 = .ok (.bipush (-6), 2) := by decide +kernel
theorem dX6_burnHolding_20 : decode cX6_burnHolding 20 = .ok (.if_icmp .ne 18, 3) := by decide +kernel
theorem dX6_burnHolding_23 : decode cX6_burnHolding 23 = .ok (.iload_n 2, 1) := by decide +kernel
theorem dX6_burnHolding_24 : decode cX6_burnHolding 24 = .ok (.aload_n 0, 1) := by decide +kernel
theorem dX6_burnHolding_25 : decode cX6_burnHolding 25 = .ok (.getfield 24, 3) := by decide +kernel
theorem dX6_burnHolding_28 : decode cX6_burnHolding 28 = .ok (.iload_n 3, 1) := by decide +kernel
theorem dX6_burnHolding_29 : decode cX6_burnHolding 29 = .ok (.invokevirtual 36, 3) := by decide +kernel
theorem dX6_burnHolding_32 : decode cX6_burnHolding 32 = .ok (.invokestatic 63, 3) := by decide +kernel
theorem dX6_burnHolding_35 : decode cX6_burnHolding 35 = .ok (.goto 15, 3) := by decide +kernel
theorem dX6_burnHolding_38 : decode cX6_burnHolding 38 = .ok (.iload_n 1, 1) := by decide +kernel
theorem dX6_burnHolding_39 : decode cX6_burnHolding 39 = .ok (.aload_n 0, 1) := by decide +kernel
theorem dX6_burnHolding_40 : decode cX6_burnHolding 40 = .ok (.getfield 20, 3) := by decide +kernel
theorem dX6_burnHolding_43 : decode cX6_burnHolding 43 = .ok (.iload_n 3, 1) := by decide +kernel
theorem dX6_burnHolding_44 : decode cX6_burnHolding 44 = .ok (.invokevirtual 36, 3) := by decide +kernel
theorem dX6_burnHolding_47 : decode cX6_burnHolding 47 = .ok (.invokestatic 63, 3) := by decide +kernel
theorem dX6_burnHolding_50 : decode cX6_burnHolding 50 = .ok (.istore 4, 2) := by decide +kernel
theorem dX6_burnHolding_52 : decode cX6_burnHolding 52 = .ok (.iload 4, 2) := by decide +kernel
theorem dX6_burnHolding_54 : decode cX6_burnHolding 54 = .ok (.ifCond .eq 8, 3) := by decide +kernel
theorem dX6_burnHolding_57 : decode cX6_burnHolding 57 = .ok (.aload_n 0, 1) := by decide +kernel
theorem dX6_burnHolding_58 : decode cX6_burnHolding 58 = .ok (.iload_n 3, 1) := by decide +kernel
theorem dX6_burnHolding_59 : decode cX6_burnHolding 59 = .ok (.invokevirtual 66, 3) := by decide +kernel
theorem dX6_burnHolding_62 : decode cX6_burnHolding 62 = .ok (.iinc 3 1, 3) := by decide +kernel
theorem dX6_burnHolding_65 : decode cX6_burnHolding 65 = .ok (.goto (-63), 3) := by decide +kernel
theorem dX6_burnHolding_68 : decode cX6_burnHolding 68 = .ok (.return_, 1) := by decide +kernel
theorem dX6_burnOlderThan_0 : decode cX6_burnOlderThan 0 = .ok (.iconst 0, 1) := by decide +kernel
theorem dX6_burnOlderThan_1 : decode cX6_burnOlderThan 1 = .ok (.istore_n 3, 1) := by decide +kernel
theorem dX6_burnOlderThan_2 : decode cX6_burnOlderThan 2 = .ok (.iload_n 3, 1) := by decide +kernel
theorem dX6_burnOlderThan_3 : decode cX6_burnOlderThan 3 = .ok (.aload_n 0, 1) := by decide +kernel
theorem dX6_burnOlderThan_4 : decode cX6_burnOlderThan 4 = .ok (.getfield 9, 3) := by decide +kernel
theorem dX6_burnOlderThan_7 : decode cX6_burnOlderThan 7 = .ok (.if_icmp .ge 86, 3) := by decide +kernel
theorem dX6_burnOlderThan_10 : decode cX6_burnOlderThan 10 = .ok (.aload_n 0, 1) := by decide +kernel
theorem dX6_burnOlderThan_11 : decode cX6_burnOlderThan 11 = .ok (.getfield 20, 3) := by decide +kernel
theorem dX6_burnOlderThan_14 : decode cX6_burnOlderThan 14 = .ok (.iload_n 3, 1) := by decide +kernel
theorem dX6_burnOlderThan_15 : decode cX6_burnOlderThan 15 = .ok (.invokevirtual 36, 3) := by decide +kernel
theorem dX6_burnOlderThan_18 : decode cX6_burnOlderThan 18 = .ok (.iload_n 1, 1) := by decide +kernel
theorem dX6_burnOlderThan_19 : decode cX6_burnOlderThan 19 = .ok (.if_icmp .ne 19, 3) := by decide +kernel
theorem dX6_burnOlderThan_22 : decode cX6_burnOlderThan 22 = .ok (.aload_n 0, 1) := by decide +kernel
theorem dX6_burnOlderThan_23 : decode cX6_burnOlderThan 23 = .ok (.getfield 24, 3) := by decide +kernel
theorem dX6_burnOlderThan_26 : decode cX6_burnOlderThan 26 = .ok (.iload_n 3, 1) := by decide +kernel
theorem dX6_burnOlderThan_27 : decode cX6_burnOlderThan 27 = .ok (.invokevirtual 36, 3) := by decide +kernel
theorem dX6_burnOlderThan_30 : decode cX6_burnOlderThan 30 = .ok (.iload_n 2, 1) := by decide +kernel
theorem dX6_burnOlderThan_31 : decode cX6_burnOlderThan 31 = .ok (.if_icmp .ge 7, 3) := by decide +kernel
theorem dX6_burnOlderThan_34 : decode cX6_burnOlderThan 34 = .ok (.iconst 1, 1) := by decide +kernel
theorem dX6_burnOlderThan_35 : decode cX6_burnOlderThan 35 = .ok (.goto 4, 3) := by decide +kernel
theorem dX6_burnOlderThan_38 : decode cX6_burnOlderThan 38 = .ok (.iconst 0, 1) := by decide +kernel
theorem dX6_burnOlderThan_39 : decode cX6_burnOlderThan 39 = .ok (.istore 4, 2) := by decide +kernel
theorem dX6_burnOlderThan_41 : decode cX6_burnOlderThan 41 = .ok (.aload_n 0, 1) := by decide +kernel
theorem dX6_burnOlderThan_42 : decode cX6_burnOlderThan 42 = .ok (.getfield 27, 3) := by decide +kernel
theorem dX6_burnOlderThan_45 : decode cX6_burnOlderThan 45 = .ok (.iload_n 3, 1) := by decide +kernel
theorem dX6_burnOlderThan_46 : decode cX6_burnOlderThan 46 = .ok (.invokevirtual 36, 3) := by decide +kernel
theorem dX6_burnOlderThan_49 : decode cX6_burnOlderThan 49 = .ok (.iload_n 1, 1) := by decide +kernel
theorem dX6_burnOlderThan_50 : decode cX6_burnOlderThan 50 = .ok (.if_icmp .ne 19, 3) := by decide +kernel
theorem dX6_burnOlderThan_53 : decode cX6_burnOlderThan 53 = .ok (.aload_n 0, 1) := by decide +kernel
theorem dX6_burnOlderThan_54 : decode cX6_burnOlderThan 54 = .ok (.getfield 30, 3) := by decide +kernel
theorem dX6_burnOlderThan_57 : decode cX6_burnOlderThan 57 = .ok (.iload_n 3, 1) := by decide +kernel
theorem dX6_burnOlderThan_58 : decode cX6_burnOlderThan 58 = .ok (.invokevirtual 36, 3) := by decide +kernel
theorem dX6_burnOlderThan_61 : decode cX6_burnOlderThan 61 = .ok (.iload_n 2, 1) := by decide +kernel
theorem dX6_burnOlderThan_62 : decode cX6_burnOlderThan 62 = .ok (.if_icmp .ge 7, 3) := by decide +kernel
theorem dX6_burnOlderThan_65 : decode cX6_burnOlderThan 65 = .ok (.iconst 1, 1) := by decide +kernel
theorem dX6_burnOlderThan_66 : decode cX6_burnOlderThan 66 = .ok (.goto 4, 3) := by decide +kernel
theorem dX6_burnOlderThan_69 : decode cX6_burnOlderThan 69 = .ok (.iconst 0, 1) := by decide +kernel
theorem dX6_burnOlderThan_70 : decode cX6_burnOlderThan 70 = .ok (.istore 5, 2) := by decide +kernel
theorem dX6_burnOlderThan_72 : decode cX6_burnOlderThan 72 = .ok (.iload 4, 2) := by decide +kernel
theorem dX6_burnOlderThan_74 : decode cX6_burnOlderThan 74 = .ok (.ifCond .ne 8, 3) := by decide +kernel
theorem dX6_burnOlderThan_77 : decode cX6_burnOlderThan 77 = .ok (.iload 5, 2) := by decide +kernel
theorem dX6_burnOlderThan_79 : decode cX6_burnOlderThan 79 = .ok (.ifCond .eq 8, 3) := by decide +kernel
theorem dX6_burnOlderThan_82 : decode cX6_burnOlderThan 82 = .ok (.aload_n 0, 1) := by decide +kernel
theorem dX6_burnOlderThan_83 : decode cX6_burnOlderThan 83 = .ok (.iload_n 3, 1) := by decide +kernel
theorem dX6_burnOlderThan_84 : decode cX6_burnOlderThan 84 = .ok (.invokevirtual 66, 3) := by decide +kernel
theorem dX6_burnOlderThan_87 : decode cX6_burnOlderThan 87 = .ok (.iinc 3 1, 3) := by decide +kernel
theorem dX6_burnOlderThan_90 : decode cX6_burnOlderThan 90 = .ok (.goto (-88), 3) := by decide +kernel
theorem dX6_burnOlderThan_93 : decode cX6_burnOlderThan 93 = .ok (.return_, 1) := by decide +kernel
theorem dX6_burn_0 : decode cX6_burn 0 = .ok (.aload_n 0, 1) := by decide +kernel
theorem dX6_burn_1 : decode cX6_burn 1 = .ok (.getfield 33, 3) := by decide +kernel
theorem dX6_burn_4 : decode cX6_burn 4 = .ok (.iload_n 1, 1) := by decide +kernel
theorem dX6_burn_5 : decode cX6_burn 5 = .ok (.aload_n 0, 1) := by decide +kernel
theorem dX6_burn_6 : decode cX6_burn 6 = .ok (.getfield 33, 3) := by decide +kernel
theorem dX6_burn_9 : decode cX6_burn 9 = .ok (.iload_n 1, 1) := by decide +kernel
theorem dX6_burn_10 : decode cX6_burn 10 = .ok (.invokevirtual 36, 3) := by decide +kernel
theorem dX6_burn_13 : decode cX6_burn 13 = .ok (.bipush 7, 2) := by decide +kernel
theorem dX6_burn_15 : decode cX6_burn 15 = .ok (.iand, 1) := by decide +kernel
theorem dX6_burn_16 : decode cX6_burn 16 = .ok (.invokevirtual 56, 3) := by decide +kernel
theorem dX6_burn_19 : decode cX6_burn 19 = .ok (.return_, 1) := by decide +kernel
theorem dX6_become_0 : decode cX6_become 0 = .ok (.aload_n 1, 1) := by decide +kernel
theorem dX6_become_1 : decode cX6_become 1 = .ok (.ifnonnull 4, 3) := by decide +kernel
theorem dX6_become_4 : decode cX6_become 4 = .ok (.return_, 1) := by decide +kernel
theorem dX6_become_5 : decode cX6_become 5 = .ok (.aload_n 0, 1) := by decide +kernel
theorem dX6_become_6 : decode cX6_become 6 = .ok (.aload_n 1, 1) := by decide +kernel
theorem dX6_become_7 : decode cX6_become 7 = .ok (.getfield 9, 3) := by decide +kernel
theorem dX6_become_10 : decode cX6_become 10 = .ok (.putfield 9, 3) := by decide +kernel
theorem dX6_become_13 : decode cX6_become 13 = .ok (.aload_n 0, 1) := by decide +kernel
theorem dX6_become_14 : decode cX6_become 14 = .ok (.getfield 20, 3) := by decide +kernel
theorem dX6_become_17 : decode cX6_become 17 = .ok (.aload_n 1, 1) := by decide +kernel
theorem dX6_become_18 : decode cX6_become 18 = .ok (.getfield 20, 3) := by decide +kernel
theorem dX6_become_21 : decode cX6_become 21 = .ok (.invokevirtual 69, 3) := by decide +kernel
theorem dX6_become_24 : decode cX6_become 24 = .ok (.aload_n 0, 1) := by decide +kernel
theorem dX6_become_25 : decode cX6_become 25 = .ok (.getfield 24, 3) := by decide +kernel
theorem dX6_become_28 : decode cX6_become 28 = .ok (.aload_n 1, 1) := by decide +kernel
theorem dX6_become_29 : decode cX6_become 29 = .ok (.getfield 24, 3) := by decide +kernel
theorem dX6_become_32 : decode cX6_become 32 = .ok (.invokevirtual 69, 3) := by decide +kernel
theorem dX6_become_35 : decode cX6_become 35 = .ok (.aload_n 0, 1) := by decide +kernel
theorem dX6_become_36 : decode cX6_become 36 = .ok (.getfield 27, 3) := by decide +kernel
theorem dX6_become_39 : decode cX6_become 39 = .ok (.aload_n 1, 1) := by decide +kernel
theorem dX6_become_40 : decode cX6_become 40 = .ok (.getfield 27, 3) := by decide +kernel
theorem dX6_become_43 : decode cX6_become 43 = .ok (.invokevirtual 69, 3) := by decide +kernel
theorem dX6_become_46 : decode cX6_become 46 = .ok (.aload_n 0, 1) := by decide +kernel
theorem dX6_become_47 : decode cX6_become 47 = .ok (.getfield 30, 3) := by decide +kernel
theorem dX6_become_50 : decode cX6_become 50 = .ok (.aload_n 1, 1) := by decide +kernel
theorem dX6_become_51 : decode cX6_become 51 = .ok (.getfield 30, 3) := by decide +kernel
theorem dX6_become_54 : decode cX6_become 54 = .ok (.invokevirtual 69, 3) := by decide +kernel
theorem dX6_become_57 : decode cX6_become 57 = .ok (.aload_n 0, 1) := by decide +kernel
theorem dX6_become_58 : decode cX6_become 58 = .ok (.getfield 33, 3) := by decide +kernel
theorem dX6_become_61 : decode cX6_become 61 = .ok (.aload_n 1, 1) := by decide +kernel
theorem dX6_become_62 : decode cX6_become 62 = .ok (.getfield 33, 3) := by decide +kernel
theorem dX6_become_65 : decode cX6_become 65 = .ok (.invokevirtual 69, 3) := by decide +kernel
theorem dX6_become_68 : decode cX6_become 68 = .ok (.return_, 1) := by decide +kernel
theorem dX7_init_0 : decode cX7_init 0 = .ok (.aload_n 0, 1) := by decide +kernel
theorem dX7_init_1 : decode cX7_init 1 = .ok (.invokespecial 1, 3) := by decide +kernel
theorem dX7_init_4 : decode cX7_init 4 = .ok (.aload_n 0, 1) := by decide +kernel
theorem dX7_init_5 : decode cX7_init 5 = .ok (.new 7, 3) := by decide +kernel
theorem dX7_init_8 : decode cX7_init 8 = .ok (.dup, 1) := by decide +kernel
theorem dX7_init_9 : decode cX7_init 9 = .ok (.invokespecial 9, 3) := by decide +kernel
theorem dX7_init_12 : decode cX7_init 12 = .ok (.putfield 10, 3) := by decide +kernel
theorem dX7_init_15 : decode cX7_init 15 = .ok (.aload_n 0, 1) := by decide +kernel
theorem dX7_init_16 : decode cX7_init 16 = .ok (.new 16, 3) := by decide +kernel
theorem dX7_init_19 : decode cX7_init 19 = .ok (.dup, 1) := by decide +kernel
theorem dX7_init_20 : decode cX7_init 20 = .ok (.invokespecial 18, 3) := by decide +kernel
theorem dX7_init_23 : decode cX7_init 23 = .ok (.putfield 19, 3) := by decide +kernel
theorem dX7_init_26 : decode cX7_init 26 = .ok (.aload_n 0, 1) := by decide +kernel
theorem dX7_init_27 : decode cX7_init 27 = .ok (.new 23, 3) := by decide +kernel
theorem dX7_init_30 : decode cX7_init 30 = .ok (.dup, 1) := by decide +kernel
theorem dX7_init_31 : decode cX7_init 31 = .ok (.invokespecial 25, 3) := by decide +kernel
theorem dX7_init_34 : decode cX7_init 34 = .ok (.putfield 26, 3) := by decide +kernel
theorem dX7_init_37 : decode cX7_init 37 = .ok (.aload_n 0, 1) := by decide +kernel
theorem dX7_init_38 : decode cX7_init 38 = .ok (.new 30, 3) := by decide +kernel
theorem dX7_init_41 : decode cX7_init 41 = .ok (.dup, 1) := by decide +kernel
theorem dX7_init_42 : decode cX7_init 42 = .ok (.invokespecial 32, 3) := by decide +kernel
theorem dX7_init_45 : decode cX7_init 45 = .ok (.putfield 33, 3) := by decide +kernel
theorem dX7_init_48 : decode cX7_init 48 = .ok (.aload_n 0, 1) := by decide +kernel
theorem dX7_init_49 : decode cX7_init 49 = .ok (.iconst 2, 1) := by decide +kernel
theorem dX7_init_50 : decode cX7_init 50 = .ok (.anewarray 7, 3) := by decide +kernel
theorem dX7_init_53 : decode cX7_init 53 = .ok (.putfield 37, 3) := by decide +kernel
theorem dX7_init_56 : decode cX7_init 56 = .ok (.return_, 1) := by decide +kernel
theorem dX7_wear_0 : decode cX7_wear 0 = .ok (.aload_n 0, 1) := by decide +kernel
theorem dX7_wear_1 : decode cX7_wear 1 = .ok (.getfield 33, 3) := by decide +kernel
theorem dX7_wear_4 : decode cX7_wear 4 = .ok (.aload_n 0, 1) := by decide +kernel
theorem dX7_wear_5 : decode cX7_wear 5 = .ok (.getfield 10, 3) := by decide +kernel
theorem dX7_wear_8 : decode cX7_wear 8 = .ok (.invokevirtual 41, 3) := by decide +kernel
theorem dX7_wear_11 : decode cX7_wear 11 = .ok (.aload_n 0, 1) := by decide +kernel
theorem dX7_wear_12 : decode cX7_wear 12 = .ok (.getfield 33, 3) := by decide +kernel
theorem dX7_wear_15 : decode cX7_wear 15 = .ok (.aload_n 0, 1) := by decide +kernel
theorem dX7_wear_16 : decode cX7_wear 16 = .ok (.getfield 10, 3) := by decide +kernel
theorem dX7_wear_19 : decode cX7_wear 19 = .ok (.iload_n 1, 1) := by decide +kernel
theorem dX7_wear_20 : decode cX7_wear 20 = .ok (.invokevirtual 45, 3) := by decide +kernel
theorem dX7_wear_23 : decode cX7_wear 23 = .ok (.invokevirtual 49, 3) := by decide +kernel
theorem dX7_wear_26 : decode cX7_wear 26 = .ok (.ireturn, 1) := by decide +kernel
theorem dX7_key_0 : decode cX7_key 0 = .ok (.aload_n 0, 1) := by decide +kernel
theorem dX7_key_1 : decode cX7_key 1 = .ok (.getfield 33, 3) := by decide +kernel
theorem dX7_key_4 : decode cX7_key 4 = .ok (.aload_n 0, 1) := by decide +kernel
theorem dX7_key_5 : decode cX7_key 5 = .ok (.getfield 10, 3) := by decide +kernel
theorem dX7_key_8 : decode cX7_key 8 = .ok (.invokevirtual 41, 3) := by decide +kernel
theorem dX7_key_11 : decode cX7_key 11 = .ok (.aload_n 0, 1) := by decide +kernel
theorem dX7_key_12 : decode cX7_key 12 = .ok (.getfield 33, 3) := by decide +kernel
theorem dX7_key_15 : decode cX7_key 15 = .ok (.aload_n 0, 1) := by decide +kernel
theorem dX7_key_16 : decode cX7_key 16 = .ok (.getfield 10, 3) := by decide +kernel
theorem dX7_key_19 : decode cX7_key 19 = .ok (.iload_n 1, 1) := by decide +kernel
theorem dX7_key_20 : decode cX7_key 20 = .ok (.invokevirtual 52, 3) := by decide +kernel
theorem dX7_key_23 : decode cX7_key 23 = .ok (.invokevirtual 49, 3) := by decide +kernel
theorem dX7_key_26 : decode cX7_key 26 = .ok (.ireturn, 1) := by decide +kernel
theorem dX7_box_0 : decode cX7_box 0 = .ok (.aload_n 0, 1) := by decide +kernel
theorem dX7_box_1 : decode cX7_box 1 = .ok (.getfield 33, 3) := by decide +kernel
theorem dX7_box_4 : decode cX7_box 4 = .ok (.aload_n 0, 1) := by decide +kernel
theorem dX7_box_5 : decode cX7_box 5 = .ok (.getfield 10, 3) := by decide +kernel
theorem dX7_box_8 : decode cX7_box 8 = .ok (.invokevirtual 41, 3) := by decide +kernel
theorem dX7_box_11 : decode cX7_box 11 = .ok (.aload_n 0, 1) := by decide +kernel
theorem dX7_box_12 : decode cX7_box 12 = .ok (.getfield 33, 3) := by decide +kernel
theorem dX7_box_15 : decode cX7_box 15 = .ok (.aload_n 0, 1) := by decide +kernel
theorem dX7_box_16 : decode cX7_box 16 = .ok (.getfield 10, 3) := by decide +kernel
theorem dX7_box_19 : decode cX7_box 19 = .ok (.iload_n 1, 1) := by decide +kernel
theorem dX7_box_20 : decode cX7_box 20 = .ok (.invokevirtual 55, 3) := by decide +kernel
theorem dX7_box_23 : decode cX7_box 23 = .ok (.invokevirtual 49, 3) := by decide +kernel
theorem dX7_box_26 : decode cX7_box 26 = .ok (.ireturn, 1) := by decide +kernel
theorem dX7_copy_0 : decode cX7_copy 0 = .ok (.aload_n 0, 1) := by decide +kernel
theorem dX7_copy_1 : decode cX7_copy 1 = .ok (.getfield 33, 3) := by decide +kernel
theorem dX7_copy_4 : decode cX7_copy 4 = .ok (.aload_n 0, 1) := by decide +kernel
theorem dX7_copy_5 : decode cX7_copy 5 = .ok (.getfield 10, 3) := by decide +kernel
theorem dX7_copy_8 : decode cX7_copy 8 = .ok (.invokevirtual 41, 3) := by decide +kernel
theorem dX7_copy_11 : decode cX7_copy 11 = .ok (.aload_n 0, 1) := by decide +kernel
theorem dX7_copy_12 : decode cX7_copy 12 = .ok (.getfield 33, 3) := by decide +kernel
theorem dX7_copy_15 : decode cX7_copy 15 = .ok (.aload_n 0, 1) := by decide +kernel
theorem dX7_copy_16 : decode cX7_copy 16 = .ok (.getfield 10, 3) := by decide +kernel
theorem dX7_copy_19 : decode cX7_copy 19 = .ok (.iload_n 1, 1) := by decide +kernel
theorem dX7_copy_20 : decode cX7_copy 20 = .ok (.iload_n 2, 1) := by decide +kernel
theorem dX7_copy_21 : decode cX7_copy 21 = .ok (.invokevirtual 58, 3) := by decide +kernel
theorem dX7_copy_24 : decode cX7_copy 24 = .ok (.invokevirtual 49, 3) := by decide +kernel
theorem dX7_copy_27 : decode cX7_copy 27 = .ok (.ireturn, 1) := by decide +kernel
theorem dX7_renew_0 : decode cX7_renew 0 = .ok (.aload_n 0, 1) := by decide +kernel
theorem dX7_renew_1 : decode cX7_renew 1 = .ok (.getfield 33, 3) := by decide +kernel
theorem dX7_renew_4 : decode cX7_renew 4 = .ok (.aload_n 0, 1) := by decide +kernel
theorem dX7_renew_5 : decode cX7_renew 5 = .ok (.getfield 10, 3) := by decide +kernel
theorem dX7_renew_8 : decode cX7_renew 8 = .ok (.invokevirtual 41, 3) := by decide +kernel
theorem dX7_renew_11 : decode cX7_renew 11 = .ok (.aload_n 0, 1) := by decide +kernel
theorem dX7_renew_12 : decode cX7_renew 12 = .ok (.getfield 33, 3) := by decide +kernel
theorem dX7_renew_15 : decode cX7_renew 15 = .ok (.aload_n 0, 1) := by decide +kernel
theorem dX7_renew_16 : decode cX7_renew 16 = .ok (.getfield 10, 3) := by decide +kernel
theorem dX7_renew_19 : decode cX7_renew 19 = .ok (.iload_n 1, 1) := by decide +kernel
theorem dX7_renew_20 : decode cX7_renew 20 = .ok (.invokevirtual 62, 3) := by decide +kernel
theorem dX7_renew_23 : decode cX7_renew 23 = .ok (.invokevirtual 49, 3) := by decide +kernel
theorem dX7_renew_26 : decode cX7_renew 26 = .ok (.ireturn, 1) := by decide +kernel
theorem dX7_throwKey_0 : decode cX7_throwKey 0 = .ok (.aload_n 0, 1) := by decide +kernel
theorem dX7_throwKey_1 : decode cX7_throwKey 1 = .ok (.getfield 33, 3) := by decide +kernel
theorem dX7_throwKey_4 : decode cX7_throwKey 4 = .ok (.aload_n 0, 1) := by decide +kernel
theorem dX7_throwKey_5 : decode cX7_throwKey 5 = .ok (.getfield 10, 3) := by decide +kernel
theorem dX7_throwKey_8 : decode cX7_throwKey 8 = .ok (.invokevirtual 41, 3) := by decide +kernel
theorem dX7_throwKey_11 : decode cX7_throwKey 11 = .ok (.aload_n 0, 1) := by decide +kernel
theorem dX7_throwKey_12 : decode cX7_throwKey 12 = .ok (.getfield 33, 3) := by decide +kernel
theorem dX7_throwKey_15 : decode cX7_throwKey 15 = .ok (.aload_n 0, 1) := by decide +kernel
theorem dX7_throwKey_16 : decode cX7_throwKey 16 = .ok (.getfield 10, 3) := by decide +kernel
theorem dX7_throwKey_19 : decode cX7_throwKey 19 = .ok (.iconst 0, 1) := by decide +kernel
theorem dX7_throwKey_20 : decode cX7_throwKey 20 = .ok (.iload_n 1, 1) := by decide +kernel
theorem dX7_throwKey_21 : decode cX7_throwKey 21 = .ok (.invokevirtual 65, 3) := by decide +kernel
theorem dX7_throwKey_24 : decode cX7_throwKey 24 = .ok (.invokevirtual 49, 3) := by decide +kernel
theorem dX7_throwKey_27 : decode cX7_throwKey 27 = .ok (.ireturn, 1) := by decide +kernel
theorem dX7_throwBox_0 : decode cX7_throwBox 0 = .ok (.aload_n 0, 1) := by decide +kernel
theorem dX7_throwBox_1 : decode cX7_throwBox 1 = .ok (.getfield 33, 3) := by decide +kernel
theorem dX7_throwBox_4 : decode cX7_throwBox 4 = .ok (.aload_n 0, 1) := by decide +kernel
theorem dX7_throwBox_5 : decode cX7_throwBox 5 = .ok (.getfield 10, 3) := by decide +kernel
theorem dX7_throwBox_8 : decode cX7_throwBox 8 = .ok (.invokevirtual 41, 3) := by decide +kernel
theorem dX7_throwBox_11 : decode cX7_throwBox 11 = .ok (.aload_n 0, 1) := by decide +kernel
theorem dX7_throwBox_12 : decode cX7_throwBox 12 = .ok (.getfield 33, 3) := by decide +kernel
theorem dX7_throwBox_15 : decode cX7_throwBox 15 = .ok (.aload_n 0, 1) := by decide +kernel
theorem dX7_throwBox_16 : decode cX7_throwBox 16 = .ok (.getfield 10, 3) := by decide +kernel
theorem dX7_throwBox_19 : decode cX7_throwBox 19 = .ok (.iconst 1, 1) := by decide +kernel
theorem dX7_throwBox_20 : decode cX7_throwBox 20 = .ok (.iload_n 1, 1) := by decide +kernel
theorem dX7_throwBox_21 : decode cX7_throwBox 21 = .ok (.invokevirtual 65, 3) := by decide +kernel
theorem dX7_throwBox_24 : decode cX7_throwBox 24 = .ok (.invokevirtual 49, 3) := by decide +kernel
theorem dX7_throwBox_27 : decode cX7_throwBox 27 = .ok (.ireturn, 1) := by decide +kernel
theorem dX7_ofKey_0 : decode cX7_ofKey 0 = .ok (.aload_n 0, 1) := by decide +kernel
theorem dX7_ofKey_1 : decode cX7_ofKey 1 = .ok (.getfield 10, 3) := by decide +kernel
theorem dX7_ofKey_4 : decode cX7_ofKey 4 = .ok (.getfield 68, 3) := by decide +kernel
theorem dX7_ofKey_7 : decode cX7_ofKey 7 = .ok (.astore_n 3, 1) := by decide +kernel
theorem dX7_ofKey_8 : decode cX7_ofKey 8 = .ok (.aload_n 3, 1) := by decide +kernel
theorem dX7_ofKey_9 : decode cX7_ofKey 9 = .ok (.iload_n 1, 1) := by decide +kernel
theorem dX7_ofKey_10 : decode cX7_ofKey 10 = .ok (.invokevirtual 72, 3) := by decide +kernel
theorem dX7_ofKey_13 : decode cX7_ofKey 13 = .ok (.ifCond .ne 5, 3) := by decide +kernel
theorem dX7_ofKey_16 : decode cX7_ofKey 16 = .ok (.iconst (-1), 1) := by decide +kernel
theorem dX7_ofKey_17 : decode cX7_ofKey 17 = .ok (.ireturn, 1) := by decide +kernel
theorem dX7_ofKey_18 : decode cX7_ofKey 18 = .ok (.iload_n 2, 1) := by decide +kernel
theorem dX7_ofKey_19 : decode cX7_ofKey 19 = .ok (.tableswitch 95 0 6 #[41, 47, 56, 62, 68, 77, 86], 41) := by decide +kernel
theorem dX7_ofKey_60 : decode cX7_ofKey 60 = .ok (.aload_n 3, 1) := by decide +kernel
theorem dX7_ofKey_61 : decode cX7_ofKey 61 = .ok (.iload_n 1, 1) := by decide +kernel
theorem dX7_ofKey_62 : decode cX7_ofKey 62 = .ok (.invokevirtual 78, 3) := by decide +kernel
theorem dX7_ofKey_65 : decode cX7_ofKey 65 = .ok (.ireturn, 1) := by decide +kernel
theorem dX7_ofKey_66 : decode cX7_ofKey 66 = .ok (.aload_n 3, 1) := by decide +kernel
theorem dX7_ofKey_67 : decode cX7_ofKey 67 = .ok (.iload_n 1, 1) := by decide +kernel
theorem dX7_ofKey_68 : decode cX7_ofKey 68 = .ok (.invokevirtual 81, 3) := by decide +kernel
theorem dX7_ofKey_71 : decode cX7_ofKey 71 = .ok (.invokestatic 84, 3) := by decide +kernel
theorem dX7_ofKey_74 : decode cX7_ofKey 74 = .ok (.ireturn, 1) := by decide +kernel
theorem dX7_ofKey_75 : decode cX7_ofKey 75 = .ok (.aload_n 3, 1) := by decide +kernel
theorem dX7_ofKey_76 : decode cX7_ofKey 76 = .ok (.iload_n 1, 1) := by decide +kernel
theorem dX7_ofKey_77 : decode cX7_ofKey 77 = .ok (.invokevirtual 88, 3) := by decide +kernel
theorem dX7_ofKey_80 : decode cX7_ofKey 80 = .ok (.ireturn, 1) := by decide +kernel
theorem dX7_ofKey_81 : decode cX7_ofKey 81 = .ok (.aload_n 3, 1) := by decide +kernel
theorem dX7_ofKey_82 : decode cX7_ofKey 82 = .ok (.iload_n 1, 1) := by decide +kernel
theorem dX7_ofKey_83 : decode cX7_ofKey 83 = .ok (.invokevirtual 91, 3) := by decide +kernel
theorem dX7_ofKey_86 : decode cX7_ofKey 86 = .ok (.ireturn, 1) := by decide +kernel
theorem dX7_ofKey_87 : decode cX7_ofKey 87 = .ok (.aload_n 3, 1) := by decide +kernel
theorem dX7_ofKey_88 : decode cX7_ofKey 88 = .ok (.iload_n 1, 1) := by decide +kernel
theorem dX7_ofKey_89 : decode cX7_ofKey 89 = .ok (.invokestatic 94, 3) := by decide +kernel
theorem dX7_ofKey_92 : decode cX7_ofKey 92 = .ok (.invokevirtual 97, 3) := by decide +kernel
theorem dX7_ofKey_95 : decode cX7_ofKey 95 = .ok (.ireturn, 1) := by decide +kernel
theorem dX7_ofKey_96 : decode cX7_ofKey 96 = .ok (.aload_n 3, 1) := by decide +kernel
theorem dX7_ofKey_97 : decode cX7_ofKey 97 = .ok (.iload_n 1, 1) := by decide +kernel
theorem dX7_ofKey_98 : decode cX7_ofKey 98 = .ok (.invokestatic 94, 3) := by decide +kernel
theorem dX7_ofKey_101 : decode cX7_ofKey 101 = .ok (.invokevirtual 100, 3) := by decide +kernel
theorem dX7_ofKey_104 : decode cX7_ofKey 104 = .ok (.ireturn, 1) := by decide +kernel
theorem dX7_ofKey_105 : decode cX7_ofKey 105 = .ok (.aload_n 3, 1) := by decide +kernel
theorem dX7_ofKey_106 : decode cX7_ofKey 106 = .ok (.iload_n 1, 1) := by decide +kernel
theorem dX7_ofKey_107 : decode cX7_ofKey 107 = .ok (.invokevirtual 103, 3) := by decide +kernel
theorem dX7_ofKey_110 : decode cX7_ofKey 110 = .ok (.invokestatic 106, 3) := by decide +kernel
theorem dX7_ofKey_113 : decode cX7_ofKey 113 = .ok (.ireturn, 1) := by decide +kernel
theorem dX7_ofKey_114 : decode cX7_ofKey 114 = .ok (.bipush (-2), 2) := by decide +kernel
theorem dX7_ofKey_116 : decode cX7_ofKey 116 = .ok (.ireturn, 1) := by decide +kernel
theorem dX7_ofBox_0 : decode cX7_ofBox 0 = .ok (.aload_n 0, 1) := by decide +kernel
theorem dX7_ofBox_1 : decode cX7_ofBox 1 = .ok (.getfield 10, 3) := by decide +kernel
theorem dX7_ofBox_4 : decode cX7_ofBox 4 = .ok (.getfield 68, 3) := by decide +kernel
theorem dX7_ofBox_7 : decode cX7_ofBox 7 = .ok (.astore_n 3, 1) := by decide +kernel
theorem dX7_ofBox_8 : decode cX7_ofBox 8 = .ok (.aload_n 3, 1) := by decide +kernel
theorem dX7_ofBox_9 : decode cX7_ofBox 9 = .ok (.iload_n 1, 1) := by decide +kernel
theorem dX7_ofBox_10 : decode cX7_ofBox 10 = .ok (.invokevirtual 111, 3) := by decide +kernel
theorem dX7_ofBox_13 : decode cX7_ofBox 13 = .ok (.ifCond .ne 5, 3) := by decide +kernel
theorem dX7_ofBox_16 : decode cX7_ofBox 16 = .ok (.iconst (-1), 1) := by decide +kernel
theorem dX7_ofBox_17 : decode cX7_ofBox 17 = .ok (.ireturn, 1) := by decide +kernel
theorem dX7_ofBox_18 : decode cX7_ofBox 18 = .ok (.iload_n 2, 1) := by decide +kernel
theorem dX7_ofBox_19 : decode cX7_ofBox 19 = .ok (.tableswitch 85 0 3 #[29, 35, 44, 64], 29) := by decide +kernel
theorem dX7_ofBox_48 : decode cX7_ofBox 48 = .ok (.aload_n 3, 1) := by decide +kernel
theorem dX7_ofBox_49 : decode cX7_ofBox 49 = .ok (.iload_n 1, 1) := by decide +kernel
theorem dX7_ofBox_50 : decode cX7_ofBox 50 = .ok (.invokevirtual 114, 3) := by decide +kernel
theorem dX7_ofBox_53 : decode cX7_ofBox 53 = .ok (.ireturn, 1) := by decide +kernel
theorem dX7_ofBox_54 : decode cX7_ofBox 54 = .ok (.aload_n 3, 1) := by decide +kernel
theorem dX7_ofBox_55 : decode cX7_ofBox 55 = .ok (.iload_n 1, 1) := by decide +kernel
theorem dX7_ofBox_56 : decode cX7_ofBox 56 = .ok (.invokevirtual 117, 3) := by decide +kernel
theorem dX7_ofBox_59 : decode cX7_ofBox 59 = .ok (.invokestatic 84, 3) := by decide +kernel
theorem dX7_ofBox_62 : decode cX7_ofBox 62 = .ok (.ireturn, 1) := by decide +kernel
theorem dX7_ofBox_63 : decode cX7_ofBox 63 = .ok (.aload_n 0, 1) := by decide +kernel
theorem dX7_ofBox_64 : decode cX7_ofBox 64 = .ok (.getfield 19, 3) := by decide +kernel
theorem dX7_ofBox_67 : decode cX7_ofBox 67 = .ok (.aload_n 0, 1) := by decide +kernel
theorem dX7_ofBox_68 : decode cX7_ofBox 68 = .ok (.getfield 10, 3) := by decide +kernel
theorem dX7_ofBox_71 : decode cX7_ofBox 71 = .ok (.iconst 0, 1) := by decide +kernel
theorem dX7_ofBox_72 : decode cX7_ofBox 72 = .ok (.invokevirtual 120, 3) := by decide +kernel
theorem dX7_ofBox_75 : decode cX7_ofBox 75 = .ok (.iload_n 1, 1) := by decide +kernel
theorem dX7_ofBox_76 : decode cX7_ofBox 76 = .ok (.invokestatic 124, 3) := by decide +kernel
theorem dX7_ofBox_79 : decode cX7_ofBox 79 = .ok (.invokestatic 84, 3) := by decide +kernel
theorem dX7_ofBox_82 : decode cX7_ofBox 82 = .ok (.ireturn, 1) := by decide +kernel
theorem dX7_ofBox_83 : decode cX7_ofBox 83 = .ok (.aload_n 0, 1) := by decide +kernel
theorem dX7_ofBox_84 : decode cX7_ofBox 84 = .ok (.getfield 19, 3) := by decide +kernel
theorem dX7_ofBox_87 : decode cX7_ofBox 87 = .ok (.aload_n 0, 1) := by decide +kernel
theorem dX7_ofBox_88 : decode cX7_ofBox 88 = .ok (.getfield 10, 3) := by decide +kernel
theorem dX7_ofBox_91 : decode cX7_ofBox 91 = .ok (.bipush 7, 2) := by decide +kernel
theorem dX7_ofBox_93 : decode cX7_ofBox 93 = .ok (.invokevirtual 120, 3) := by decide +kernel
theorem dX7_ofBox_96 : decode cX7_ofBox 96 = .ok (.iload_n 1, 1) := by decide +kernel
theorem dX7_ofBox_97 : decode cX7_ofBox 97 = .ok (.invokestatic 124, 3) := by decide +kernel
theorem dX7_ofBox_100 : decode cX7_ofBox 100 = .ok (.invokestatic 84, 3) := by decide +kernel
theorem dX7_ofBox_103 : decode cX7_ofBox 103 = .ok (.ireturn, 1) := by decide +kernel
theorem dX7_ofBox_104 : decode cX7_ofBox 104 = .ok (.bipush (-2), 2) := by decide +kernel
theorem dX7_ofBox_106 : decode cX7_ofBox 106 = .ok (.ireturn, 1) := by decide +kernel
theorem dX7_wrap_0 : decode cX7_wrap 0 = .ok (.aload_n 0, 1) := by decide +kernel
theorem dX7_wrap_1 : decode cX7_wrap 1 = .ok (.getfield 10, 3) := by decide +kernel
theorem dX7_wrap_4 : decode cX7_wrap 4 = .ok (.getfield 128, 3) := by decide +kernel
theorem dX7_wrap_7 : decode cX7_wrap 7 = .ok (.astore_n 3, 1) := by decide +kernel
theorem dX7_wrap_8 : decode cX7_wrap 8 = .ok (.aload_n 3, 1) := by decide +kernel
theorem dX7_wrap_9 : decode cX7_wrap 9 = .ok (.iload_n 1, 1) := by decide +kernel
theorem dX7_wrap_10 : decode cX7_wrap 10 = .ok (.invokevirtual 132, 3) := by decide +kernel
theorem dX7_wrap_13 : decode cX7_wrap 13 = .ok (.ifCond .ne 5, 3) := by decide +kernel
theorem dX7_wrap_16 : decode cX7_wrap 16 = .ok (.iconst (-1), 1) := by decide +kernel
theorem dX7_wrap_17 : decode cX7_wrap 17 = .ok (.ireturn, 1) := by decide +kernel
theorem dX7_wrap_18 : decode cX7_wrap 18 = .ok (.iload_n 2, 1) := by decide +kernel
theorem dX7_wrap_19 : decode cX7_wrap 19 = .ok (.tableswitch 78 0 5 #[37, 43, 49, 55, 61, 72], 37) := by decide +kernel
theorem dX7_wrap_56 : decode cX7_wrap 56 = .ok (.aload_n 3, 1) := by decide +kernel
theorem dX7_wrap_57 : decode cX7_wrap 57 = .ok (.iload_n 1, 1) := by decide +kernel
theorem dX7_wrap_58 : decode cX7_wrap 58 = .ok (.invokevirtual 137, 3) := by decide +kernel
theorem dX7_wrap_61 : decode cX7_wrap 61 = .ok (.ireturn, 1) := by decide +kernel
theorem dX7_wrap_62 : decode cX7_wrap 62 = .ok (.aload_n 3, 1) := by decide +kernel
theorem dX7_wrap_63 : decode cX7_wrap 63 = .ok (.iload_n 1, 1) := by decide +kernel
theorem dX7_wrap_64 : decode cX7_wrap 64 = .ok (.invokevirtual 140, 3) := by decide +kernel
theorem dX7_wrap_67 : decode cX7_wrap 67 = .ok (.ireturn, 1) := by decide +kernel
theorem dX7_wrap_68 : decode cX7_wrap 68 = .ok (.aload_n 3, 1) := by decide +kernel
theorem dX7_wrap_69 : decode cX7_wrap 69 = .ok (.iload_n 1, 1) := by decide +kernel
theorem dX7_wrap_70 : decode cX7_wrap 70 = .ok (.invokevirtual 143, 3) := by decide +kernel
theorem dX7_wrap_73 : decode cX7_wrap 73 = .ok (.ireturn, 1) := by decide +kernel
theorem dX7_wrap_74 : decode cX7_wrap 74 = .ok (.aload_n 3, 1) := by decide +kernel
theorem dX7_wrap_75 : decode cX7_wrap 75 = .ok (.iload_n 1, 1) := by decide +kernel
theorem dX7_wrap_76 : decode cX7_wrap 76 = .ok (.invokevirtual 146, 3) := by decide +kernel
theorem dX7_wrap_79 : decode cX7_wrap 79 = .ok (.ireturn, 1) := by decide +kernel
theorem dX7_wrap_80 : decode cX7_wrap 80 = .ok (.aload_n 3, 1) := by decide +kernel
theorem dX7_wrap_81 : decode cX7_wrap 81 = .ok (.iload_n 1, 1) := by decide +kernel
theorem dX7_wrap_82 : decode cX7_wrap 82 = .ok (.bipush 8, 2) := by decide +kernel
theorem dX7_wrap_84 : decode cX7_wrap 84 = .ok (.invokevirtual 149, 3) := by decide +kernel
theorem dX7_wrap_87 : decode cX7_wrap 87 = .ok (.invokestatic 84, 3) := by decide +kernel
theorem dX7_wrap_90 : decode cX7_wrap 90 = .ok (.ireturn, 1) := by decide +kernel
theorem dX7_wrap_91 : decode cX7_wrap 91 = .ok (.aload_n 3, 1) := by decide +kernel
theorem dX7_wrap_92 : decode cX7_wrap 92 = .ok (.iload_n 1, 1) := by decide +kernel
theorem dX7_wrap_93 : decode cX7_wrap 93 = .ok (.invokevirtual 152, 3) := by decide +kernel
theorem dX7_wrap_96 : decode cX7_wrap 96 = .ok (.ireturn, 1) := by decide +kernel
theorem dX7_wrap_97 : decode cX7_wrap 97 = .ok (.bipush (-2), 2) := by decide +kernel
theorem dX7_wrap_99 : decode cX7_wrap 99 = .ok (.ireturn, 1) := by decide +kernel
theorem dX7_count_0 : decode cX7_count 0 = .ok (.aload_n 0, 1) := by decide +kernel
theorem dX7_count_1 : decode cX7_count 1 = .ok (.getfield 10, 3) := by decide +kernel
theorem dX7_count_4 : decode cX7_count 4 = .ok (.getfield 68, 3) := by decide +kernel
theorem dX7_count_7 : decode cX7_count 7 = .ok (.astore_n 2, 1) := by decide +kernel
theorem dX7_count_8 : decode cX7_count 8 = .ok (.iload_n 1, 1) := by decide +kernel
theorem dX7_count_9 : decode cX7_count 9 = .ok (.tableswitch 165 0 11 #[63, 68, 76, 81, 89, 100, 113, 126, 131, 136, 149, 157], 63) := by decide +kernel
theorem dX7_count_72 : decode cX7_count 72 = .ok (.aload_n 2, 1) := by decide +kernel
theorem dX7_count_73 : decode cX7_count 73 = .ok (.getfield 155, 3) := by decide +kernel
theorem dX7_count_76 : decode cX7_count 76 = .ok (.ireturn, 1) := by decide +kernel
theorem dX7_count_77 : decode cX7_count 77 = .ok (.aload_n 2, 1) := by decide +kernel
theorem dX7_count_78 : decode cX7_count 78 = .ok (.getfield 159, 3) := by decide +kernel
theorem dX7_count_81 : decode cX7_count 81 = .ok (.invokestatic 106, 3) := by decide +kernel
theorem dX7_count_84 : decode cX7_count 84 = .ok (.ireturn, 1) := by decide +kernel
theorem dX7_count_85 : decode cX7_count 85 = .ok (.aload_n 2, 1) := by decide +kernel
theorem dX7_count_86 : decode cX7_count 86 = .ok (.getfield 162, 3) := by decide +kernel
theorem dX7_count_89 : decode cX7_count 89 = .ok (.ireturn, 1) := by decide +kernel
theorem dX7_count_90 : decode cX7_count 90 = .ok (.aload_n 2, 1) := by decide +kernel
theorem dX7_count_91 : decode cX7_count 91 = .ok (.getfield 165, 3) := by decide +kernel
theorem dX7_count_94 : decode cX7_count 94 = .ok (.invokestatic 106, 3) := by decide +kernel
theorem dX7_count_97 : decode cX7_count 97 = .ok (.ireturn, 1) := by decide +kernel
theorem dX7_count_98 : decode cX7_count 98 = .ok (.aload_n 0, 1) := by decide +kernel
theorem dX7_count_99 : decode cX7_count 99 = .ok (.getfield 10, 3) := by decide +kernel
theorem dX7_count_102 : decode cX7_count 102 = .ok (.getfield 128, 3) := by decide +kernel
theorem dX7_count_105 : decode cX7_count 105 = .ok (.getfield 168, 3) := by decide +kernel
theorem dX7_count_108 : decode cX7_count 108 = .ok (.ireturn, 1) := by decide +kernel
theorem dX7_count_109 : decode cX7_count 109 = .ok (.aload_n 0, 1) := by decide +kernel
theorem dX7_count_110 : decode cX7_count 110 = .ok (.getfield 10, 3) := by decide +kernel
theorem dX7_count_113 : decode cX7_count 113 = .ok (.getfield 128, 3) := by decide +kernel
theorem dX7_count_116 : decode cX7_count 116 = .ok (.bipush 8, 2) := by decide +kernel
theorem dX7_count_118 : decode cX7_count 118 = .ok (.invokevirtual 171, 3) := by decide +kernel
theorem dX7_count_121 : decode cX7_count 121 = .ok (.ireturn, 1) := by decide +kernel
theorem dX7_count_122 : decode cX7_count 122 = .ok (.aload_n 0, 1) := by decide +kernel
theorem dX7_count_123 : decode cX7_count 123 = .ok (.getfield 10, 3) := by decide +kernel
theorem dX7_count_126 : decode cX7_count 126 = .ok (.getfield 128, 3) := by decide +kernel
theorem dX7_count_129 : decode cX7_count 129 = .ok (.bipush 7, 2) := by decide +kernel
theorem dX7_count_131 : decode cX7_count 131 = .ok (.invokevirtual 171, 3) := by decide +kernel
theorem dX7_count_134 : decode cX7_count 134 = .ok (.ireturn, 1) := by decide +kernel
theorem dX7_count_135 : decode cX7_count 135 = .ok (.aload_n 2, 1) := by decide +kernel
theorem dX7_count_136 : decode cX7_count 136 = .ok (.getfield 174, 3) := by decide +kernel
theorem dX7_count_139 : decode cX7_count 139 = .ok (.ireturn, 1) := by decide +kernel
theorem dX7_count_140 : decode cX7_count 140 = .ok (.aload_n 2, 1) := by decide +kernel
theorem dX7_count_141 : decode cX7_count 141 = .ok (.invokevirtual 177, 3) := by decide +kernel
theorem dX7_count_144 : decode cX7_count 144 = .ok (.ireturn, 1) := by decide +kernel
theorem dX7_count_145 : decode cX7_count 145 = .ok (.aload_n 0, 1) := by decide +kernel
theorem dX7_count_146 : decode cX7_count 146 = .ok (.getfield 19, 3) := by decide +kernel
theorem dX7_count_149 : decode cX7_count 149 = .ok (.aload_n 0, 1) := by decide +kernel
theorem dX7_count_150 : decode cX7_count 150 = .ok (.getfield 10, 3) := by decide +kernel
theorem dX7_count_153 : decode cX7_count 153 = .ok (.iconst 0, 1) := by decide +kernel
theorem dX7_count_154 : decode cX7_count 154 = .ok (.invokevirtual 120, 3) := by decide +kernel
theorem dX7_count_157 : decode cX7_count 157 = .ok (.ireturn, 1) := by decide +kernel
theorem dX7_count_158 : decode cX7_count 158 = .ok (.aload_n 0, 1) := by decide +kernel
theorem dX7_count_159 : decode cX7_count 159 = .ok (.getfield 26, 3) := by decide +kernel
theorem dX7_count_162 : decode cX7_count 162 = .ok (.getfield 181, 3) := by decide +kernel
theorem dX7_count_165 : decode cX7_count 165 = .ok (.ireturn, 1) := by decide +kernel
theorem dX7_count_166 : decode cX7_count 166 = .ok (.aload_n 0, 1) := by decide +kernel
theorem dX7_count_167 : decode cX7_count 167 = .ok (.getfield 33, 3) := by decide +kernel
theorem dX7_count_170 : decode cX7_count 170 = .ok (.getfield 184, 3) := by decide +kernel
theorem dX7_count_173 : decode cX7_count 173 = .ok (.ireturn, 1) := by decide +kernel
theorem dX7_count_174 : decode cX7_count 174 = .ok (.bipush (-2), 2) := by decide +kernel
theorem dX7_count_176 : decode cX7_count 176 = .ok (.ireturn, 1) := by decide +kernel
theorem dX7_canOpen_0 : decode cX7_canOpen 0 = .ok (.aload_n 0, 1) := by decide +kernel
theorem dX7_canOpen_1 : decode cX7_canOpen 1 = .ok (.getfield 10, 3) := by decide +kernel
theorem dX7_canOpen_4 : decode cX7_canOpen 4 = .ok (.getfield 68, 3) := by decide +kernel
theorem dX7_canOpen_7 : decode cX7_canOpen 7 = .ok (.iload_n 1, 1) := by decide +kernel
theorem dX7_canOpen_8 : decode cX7_canOpen 8 = .ok (.invokevirtual 111, 3) := by decide +kernel
theorem dX7_canOpen_11 : decode cX7_canOpen 11 = .ok (.ifCond .ne 5, 3) := by decide +kernel
theorem dX7_canOpen_14 : decode cX7_canOpen 14 = .ok (.iconst (-1), 1) := by decide +kernel
theorem dX7_canOpen_15 : decode cX7_canOpen 15 = .ok (.ireturn, 1) := by decide +kernel
theorem dX7_canOpen_16 : decode cX7_canOpen 16 = .ok (.iload_n 2, 1) := by decide +kernel
theorem dX7_canOpen_17 : decode cX7_canOpen 17 = .ok (.invokestatic 185, 3) := by decide +kernel
theorem dX7_canOpen_20 : decode cX7_canOpen 20 = .ok (.ifCond .ne 6, 3) := by decide +kernel
theorem dX7_canOpen_23 : decode cX7_canOpen 23 = .ok (.bipush (-2), 2) := by decide +kernel
theorem dX7_canOpen_25 : decode cX7_canOpen 25 = .ok (.ireturn, 1) := by decide +kernel
theorem dX7_canOpen_26 : decode cX7_canOpen 26 = .ok (.aload_n 0, 1) := by decide +kernel
theorem dX7_canOpen_27 : decode cX7_canOpen 27 = .ok (.getfield 19, 3) := by decide +kernel
theorem dX7_canOpen_30 : decode cX7_canOpen 30 = .ok (.aload_n 0, 1) := by decide +kernel
theorem dX7_canOpen_31 : decode cX7_canOpen 31 = .ok (.getfield 10, 3) := by decide +kernel
theorem dX7_canOpen_34 : decode cX7_canOpen 34 = .ok (.iload_n 2, 1) := by decide +kernel
theorem dX7_canOpen_35 : decode cX7_canOpen 35 = .ok (.invokevirtual 120, 3) := by decide +kernel
theorem dX7_canOpen_38 : decode cX7_canOpen 38 = .ok (.iload_n 1, 1) := by decide +kernel
theorem dX7_canOpen_39 : decode cX7_canOpen 39 = .ok (.invokestatic 124, 3) := by decide +kernel
theorem dX7_canOpen_42 : decode cX7_canOpen 42 = .ok (.invokestatic 84, 3) := by decide +kernel
theorem dX7_canOpen_45 : decode cX7_canOpen 45 = .ok (.ireturn, 1) := by decide +kernel
theorem dX7_canHave_0 : decode cX7_canHave 0 = .ok (.aload_n 0, 1) := by decide +kernel
theorem dX7_canHave_1 : decode cX7_canHave 1 = .ok (.getfield 10, 3) := by decide +kernel
theorem dX7_canHave_4 : decode cX7_canHave 4 = .ok (.getfield 68, 3) := by decide +kernel
theorem dX7_canHave_7 : decode cX7_canHave 7 = .ok (.iload_n 1, 1) := by decide +kernel
theorem dX7_canHave_8 : decode cX7_canHave 8 = .ok (.invokevirtual 72, 3) := by decide +kernel
theorem dX7_canHave_11 : decode cX7_canHave 11 = .ok (.ifCond .ne 5, 3) := by decide +kernel
theorem dX7_canHave_14 : decode cX7_canHave 14 = .ok (.iconst (-1), 1) := by decide +kernel
theorem dX7_canHave_15 : decode cX7_canHave 15 = .ok (.ireturn, 1) := by decide +kernel
theorem dX7_canHave_16 : decode cX7_canHave 16 = .ok (.iload_n 2, 1) := by decide +kernel
theorem dX7_canHave_17 : decode cX7_canHave 17 = .ok (.ifCond .lt 10, 3) := by decide +kernel
theorem dX7_canHave_20 : decode cX7_canHave 20 = .ok (.iload_n 3, 1) := by decide +kernel
theorem dX7_canHave_21 : decode cX7_canHave 21 = .ok (.invokestatic 185, 3) := by decide +kernel
theorem dX7_canHave_24 : decode cX7_canHave 24 = .ok (.ifCond .ne 6, 3) := by decide +kernel
theorem dX7_canHave_27 : decode cX7_canHave 27 = .ok (.bipush (-2), 2) := by decide +kernel
theorem dX7_canHave_29 : decode cX7_canHave 29 = .ok (.ireturn, 1) := by decide +kernel
theorem dX7_canHave_30 : decode cX7_canHave 30 = .ok (.aload_n 0, 1) := by decide +kernel
theorem dX7_canHave_31 : decode cX7_canHave 31 = .ok (.getfield 19, 3) := by decide +kernel
theorem dX7_canHave_34 : decode cX7_canHave 34 = .ok (.aload_n 0, 1) := by decide +kernel
theorem dX7_canHave_35 : decode cX7_canHave 35 = .ok (.getfield 10, 3) := by decide +kernel
theorem dX7_canHave_38 : decode cX7_canHave 38 = .ok (.iload_n 1, 1) := by decide +kernel
theorem dX7_canHave_39 : decode cX7_canHave 39 = .ok (.iload_n 2, 1) := by decide +kernel
theorem dX7_canHave_40 : decode cX7_canHave 40 = .ok (.iload_n 3, 1) := by decide +kernel
theorem dX7_canHave_41 : decode cX7_canHave 41 = .ok (.invokevirtual 188, 3) := by decide +kernel
theorem dX7_canHave_44 : decode cX7_canHave 44 = .ok (.invokestatic 84, 3) := by decide +kernel
theorem dX7_canHave_47 : decode cX7_canHave 47 = .ok (.ireturn, 1) := by decide +kernel
theorem dX7_leaks_0 : decode cX7_leaks 0 = .ok (.aload_n 0, 1) := by decide +kernel
theorem dX7_leaks_1 : decode cX7_leaks 1 = .ok (.getfield 10, 3) := by decide +kernel
theorem dX7_leaks_4 : decode cX7_leaks 4 = .ok (.getfield 68, 3) := by decide +kernel
theorem dX7_leaks_7 : decode cX7_leaks 7 = .ok (.iload_n 1, 1) := by decide +kernel
theorem dX7_leaks_8 : decode cX7_leaks 8 = .ok (.invokevirtual 72, 3) := by decide +kernel
theorem dX7_leaks_11 : decode cX7_leaks 11 = .ok (.ifCond .eq 17, 3) := by decide +kernel
theorem dX7_leaks_14 : decode cX7_leaks 14 = .ok (.aload_n 0, 1) := by decide +kernel
theorem dX7_leaks_15 : decode cX7_leaks 15 = .ok (.getfield 10, 3) := by decide +kernel
theorem dX7_leaks_18 : decode cX7_leaks 18 = .ok (.getfield 68, 3) := by decide +kernel
theorem dX7_leaks_21 : decode cX7_leaks 21 = .ok (.iload_n 1, 1) := by decide +kernel
theorem dX7_leaks_22 : decode cX7_leaks 22 = .ok (.invokevirtual 195, 3) := by decide +kernel
theorem dX7_leaks_25 : decode cX7_leaks 25 = .ok (.ifCond .ne 5, 3) := by decide +kernel
theorem dX7_leaks_28 : decode cX7_leaks 28 = .ok (.iconst (-1), 1) := by decide +kernel
theorem dX7_leaks_29 : decode cX7_leaks 29 = .ok (.ireturn, 1) := by decide +kernel
theorem dX7_leaks_30 : decode cX7_leaks 30 = .ok (.iload_n 2, 1) := by decide +kernel
theorem dX7_leaks_31 : decode cX7_leaks 31 = .ok (.ifCond .lt 10, 3) := by decide +kernel
theorem dX7_leaks_34 : decode cX7_leaks 34 = .ok (.iload_n 3, 1) := by decide +kernel
theorem dX7_leaks_35 : decode cX7_leaks 35 = .ok (.invokestatic 185, 3) := by decide +kernel
theorem dX7_leaks_38 : decode cX7_leaks 38 = .ok (.ifCond .ne 6, 3) := by decide +kernel
theorem dX7_leaks_41 : decode cX7_leaks 41 = .ok (.bipush (-2), 2) := by decide +kernel
theorem dX7_leaks_43 : decode cX7_leaks 43 = .ok (.ireturn, 1) := by decide +kernel
theorem dX7_leaks_44 : decode cX7_leaks 44 = .ok (.aload_n 0, 1) := by decide +kernel
theorem dX7_leaks_45 : decode cX7_leaks 45 = .ok (.getfield 19, 3) := by decide +kernel
theorem dX7_leaks_48 : decode cX7_leaks 48 = .ok (.aload_n 0, 1) := by decide +kernel
theorem dX7_leaks_49 : decode cX7_leaks 49 = .ok (.getfield 10, 3) := by decide +kernel
theorem dX7_leaks_52 : decode cX7_leaks 52 = .ok (.iload_n 1, 1) := by decide +kernel
theorem dX7_leaks_53 : decode cX7_leaks 53 = .ok (.iload_n 2, 1) := by decide +kernel
theorem dX7_leaks_54 : decode cX7_leaks 54 = .ok (.iload_n 3, 1) := by decide +kernel
theorem dX7_leaks_55 : decode cX7_leaks 55 = .ok (.invokevirtual 198, 3) := by decide +kernel
theorem dX7_leaks_58 : decode cX7_leaks 58 = .ok (.ireturn, 1) := by decide +kernel
theorem dX7_lostBy_0 : decode cX7_lostBy 0 = .ok (.aload_n 0, 1) := by decide +kernel
theorem dX7_lostBy_1 : decode cX7_lostBy 1 = .ok (.getfield 10, 3) := by decide +kernel
theorem dX7_lostBy_4 : decode cX7_lostBy 4 = .ok (.getfield 68, 3) := by decide +kernel
theorem dX7_lostBy_7 : decode cX7_lostBy 7 = .ok (.astore_n 2, 1) := by decide +kernel
theorem dX7_lostBy_8 : decode cX7_lostBy 8 = .ok (.aload_n 2, 1) := by decide +kernel
theorem dX7_lostBy_9 : decode cX7_lostBy 9 = .ok (.iload_n 1, 1) := by decide +kernel
theorem dX7_lostBy_10 : decode cX7_lostBy 10 = .ok (.invokevirtual 81, 3) := by decide +kernel
theorem dX7_lostBy_13 : decode cX7_lostBy 13 = .ok (.ifCond .eq 15, 3) := by decide +kernel
theorem dX7_lostBy_16 : decode cX7_lostBy 16 = .ok (.aload_n 2, 1) := by decide +kernel
theorem dX7_lostBy_17 : decode cX7_lostBy 17 = .ok (.aload_n 2, 1) := by decide +kernel
theorem dX7_lostBy_18 : decode cX7_lostBy 18 = .ok (.iload_n 1, 1) := by decide +kernel
theorem dX7_lostBy_19 : decode cX7_lostBy 19 = .ok (.invokevirtual 202, 3) := by decide +kernel
theorem dX7_lostBy_22 : decode cX7_lostBy 22 = .ok (.invokevirtual 100, 3) := by decide +kernel
theorem dX7_lostBy_25 : decode cX7_lostBy 25 = .ok (.goto 4, 3) := by decide +kernel
theorem dX7_lostBy_28 : decode cX7_lostBy 28 = .ok (.iconst (-1), 1) := by decide +kernel
theorem dX7_lostBy_29 : decode cX7_lostBy 29 = .ok (.ireturn, 1) := by decide +kernel
theorem dX7_throwingMakes_0 : decode cX7_throwingMakes 0 = .ok (.iload_n 1, 1) := by decide +kernel
theorem dX7_throwingMakes_1 : decode cX7_throwingMakes 1 = .ok (.ifCond .eq 8, 3) := by decide +kernel
theorem dX7_throwingMakes_4 : decode cX7_throwingMakes 4 = .ok (.iload_n 1, 1) := by decide +kernel
theorem dX7_throwingMakes_5 : decode cX7_throwingMakes 5 = .ok (.iconst 1, 1) := by decide +kernel
theorem dX7_throwingMakes_6 : decode cX7_throwingMakes 6 = .ok (.if_icmp .ne 15, 3) := by decide +kernel
theorem dX7_throwingMakes_9 : decode cX7_throwingMakes 9 = .ok (.aload_n 0, 1) := by decide +kernel
theorem dX7_throwingMakes_10 : decode cX7_throwingMakes 10 = .ok (.getfield 10, 3) := by decide +kernel
theorem dX7_throwingMakes_13 : decode cX7_throwingMakes 13 = .ok (.iload_n 1, 1) := by decide +kernel
theorem dX7_throwingMakes_14 : decode cX7_throwingMakes 14 = .ok (.iload_n 2, 1) := by decide +kernel
theorem dX7_throwingMakes_15 : decode cX7_throwingMakes 15 = .ok (.invokevirtual 205, 3) := by decide +kernel
theorem dX7_throwingMakes_18 : decode cX7_throwingMakes 18 = .ok (.goto 5, 3) := by decide +kernel
theorem dX7_throwingMakes_21 : decode cX7_throwingMakes 21 = .ok (.bipush (-2), 2) := by decide +kernel
theorem dX7_throwingMakes_23 : decode cX7_throwingMakes 23 = .ok (.ireturn, 1) := by decide +kernel
theorem dX7_oneIf_0 : decode cX7_oneIf 0 = .ok (.iload_n 0, 1) := by decide +kernel
theorem dX7_oneIf_1 : decode cX7_oneIf 1 = .ok (.ifCond .eq 7, 3) := by decide +kernel
theorem dX7_oneIf_4 : decode cX7_oneIf 4 = .ok (.iconst 1, 1) := by decide +kernel
theorem dX7_oneIf_5 : decode cX7_oneIf 5 = .ok (.goto 4, 3) := by decide +kernel
theorem dX7_oneIf_8 : decode cX7_oneIf 8 = .ok (.iconst 0, 1) := by decide +kernel
theorem dX7_oneIf_9 : decode cX7_oneIf 9 = .ok (.ireturn, 1) := by decide +kernel
theorem dX7_setOf_0 : decode cX7_setOf 0 = .ok (.iload_n 0, 1) := by decide +kernel
theorem dX7_setOf_1 : decode cX7_setOf 1 = .ok (.ifCond .lt 15, 3) := by decide +kernel
theorem dX7_setOf_4 : decode cX7_setOf 4 = .ok (.iload_n 0, 1) := by decide +kernel
theorem dX7_setOf_5 : decode cX7_setOf 5 = .ok (.bipush 32, 2) := by decide +kernel
theorem dX7_setOf_7 : decode cX7_setOf 7 = .ok (.if_icmp .ge 9, 3) := by decide +kernel
theorem dX7_setOf_10 : decode cX7_setOf 10 = .ok (.iconst 1, 1) := by decide +kernel
theorem dX7_setOf_11 : decode cX7_setOf 11 = .ok (.iload_n 0, 1) := by decide +kernel
theorem dX7_setOf_12 : decode cX7_setOf 12 = .ok (.ishl, 1) := by decide +kernel
theorem dX7_setOf_13 : decode cX7_setOf 13 = .ok (.goto 4, 3) := by decide +kernel
theorem dX7_setOf_16 : decode cX7_setOf 16 = .ok (.iconst 0, 1) := by decide +kernel
theorem dX7_setOf_17 : decode cX7_setOf 17 = .ok (.ireturn, 1) := by decide +kernel
theorem dX7_has_0 : decode cX7_has 0 = .ok (.iload_n 1, 1) := by decide +kernel
theorem dX7_has_1 : decode cX7_has 1 = .ok (.ifCond .lt 21, 3) := by decide +kernel
theorem dX7_has_4 : decode cX7_has 4 = .ok (.iload_n 1, 1) := by decide +kernel
theorem dX7_has_5 : decode cX7_has 5 = .ok (.bipush 32, 2) := by decide +kernel
theorem dX7_has_7 : decode cX7_has 7 = .ok (.if_icmp .ge 15, 3) := by decide +kernel
theorem dX7_has_10 : decode cX7_has 10 = .ok (.iload_n 0, 1) := by decide +kernel
theorem dX7_has_11 : decode cX7_has 11 = .ok (.iload_n 1, 1) := by decide +kernel
theorem dX7_has_12 : decode cX7_has 12 = .ok (.iushr, 1) := by decide +kernel
theorem dX7_has_13 : decode cX7_has 13 = .ok (.iconst 1, 1) := by decide +kernel
theorem dX7_has_14 : decode cX7_has 14 = .ok (.iand, 1) := by decide +kernel
theorem dX7_has_15 : decode cX7_has 15 = .ok (.ifCond .eq 7, 3) := by decide +kernel
theorem dX7_has_18 : decode cX7_has 18 = .ok (.iconst 1, 1) := by decide +kernel
theorem dX7_has_19 : decode cX7_has 19 = .ok (.goto 4, 3) := by decide +kernel
theorem dX7_has_22 : decode cX7_has 22 = .ok (.iconst 0, 1) := by decide +kernel
theorem dX7_has_23 : decode cX7_has 23 = .ok (.ireturn, 1) := by decide +kernel
theorem dX7_arePlaces_0 : decode cX7_arePlaces 0 = .ok (.iload_n 0, 1) := by decide +kernel
theorem dX7_arePlaces_1 : decode cX7_arePlaces 1 = .ok (.ifCond .lt 13, 3) := by decide +kernel
theorem dX7_arePlaces_4 : decode cX7_arePlaces 4 = .ok (.iload_n 0, 1) := by decide +kernel
theorem dX7_arePlaces_5 : decode cX7_arePlaces 5 = .ok (.bipush 7, 2) := by decide +kernel
theorem dX7_arePlaces_7 : decode cX7_arePlaces 7 = .ok (.if_icmp .gt 7, 3) := by decide +kernel
theorem dX7_arePlaces_10 : decode cX7_arePlaces 10 = .ok (.iconst 1, 1) := by decide +kernel
theorem dX7_arePlaces_11 : decode cX7_arePlaces 11 = .ok (.goto 4, 3) := by decide +kernel
theorem dX7_arePlaces_14 : decode cX7_arePlaces 14 = .ok (.iconst 0, 1) := by decide +kernel
theorem dX7_arePlaces_15 : decode cX7_arePlaces 15 = .ok (.ireturn, 1) := by decide +kernel
theorem dJ6_bitCount_0f7a4_0 : decode cJ6_bitCount_0f7a4 0 = .ok (.iload_n 0, 1) := by decide +kernel
theorem dJ6_bitCount_0f7a4_1 : decode cJ6_bitCount_0f7a4 1 = .ok (.iload_n 0, 1) := by decide +kernel
theorem dJ6_bitCount_0f7a4_2 : decode cJ6_bitCount_0f7a4 2 = .ok (.iconst 1, 1) := by decide +kernel
theorem dJ6_bitCount_0f7a4_3 : decode cJ6_bitCount_0f7a4 3 = .ok (.iushr, 1) := by decide +kernel
theorem dJ6_bitCount_0f7a4_4 : decode cJ6_bitCount_0f7a4 4 = .ok (.ldc_w 265, 3) := by decide +kernel
theorem dJ6_bitCount_0f7a4_7 : decode cJ6_bitCount_0f7a4 7 = .ok (.iand, 1) := by decide +kernel
theorem dJ6_bitCount_0f7a4_8 : decode cJ6_bitCount_0f7a4 8 = .ok (.isub, 1) := by decide +kernel
theorem dJ6_bitCount_0f7a4_9 : decode cJ6_bitCount_0f7a4 9 = .ok (.istore_n 0, 1) := by decide +kernel
theorem dJ6_bitCount_0f7a4_10 : decode cJ6_bitCount_0f7a4 10 = .ok (.iload_n 0, 1) := by decide +kernel
theorem dJ6_bitCount_0f7a4_11 : decode cJ6_bitCount_0f7a4 11 = .ok (.ldc_w 266, 3) := by decide +kernel
theorem dJ6_bitCount_0f7a4_14 : decode cJ6_bitCount_0f7a4 14 = .ok (.iand, 1) := by decide +kernel
theorem dJ6_bitCount_0f7a4_15 : decode cJ6_bitCount_0f7a4 15 = .ok (.iload_n 0, 1) := by decide +kernel
theorem dJ6_bitCount_0f7a4_16 : decode cJ6_bitCount_0f7a4 16 = .ok (.iconst 2, 1) := by decide +kernel
theorem dJ6_bitCount_0f7a4_17 : decode cJ6_bitCount_0f7a4 17 = .ok (.iushr, 1) := by decide +kernel
theorem dJ6_bitCount_0f7a4_18 : decode cJ6_bitCount_0f7a4 18 = .ok (.ldc_w 266, 3) := by decide +kernel
theorem dJ6_bitCount_0f7a4_21 : decode cJ6_bitCount_0f7a4 21 = .ok (.iand, 1) := by decide +kernel
theorem dJ6_bitCount_0f7a4_22 : decode cJ6_bitCount_0f7a4 22 = .ok (.iadd, 1) := by decide +kernel
theorem dJ6_bitCount_0f7a4_23 : decode cJ6_bitCount_0f7a4 23 = .ok (.istore_n 0, 1) := by decide +kernel
theorem dJ6_bitCount_0f7a4_24 : decode cJ6_bitCount_0f7a4 24 = .ok (.iload_n 0, 1) := by decide +kernel
theorem dJ6_bitCount_0f7a4_25 : decode cJ6_bitCount_0f7a4 25 = .ok (.iload_n 0, 1) := by decide +kernel
theorem dJ6_bitCount_0f7a4_26 : decode cJ6_bitCount_0f7a4 26 = .ok (.iconst 4, 1) := by decide +kernel
theorem dJ6_bitCount_0f7a4_27 : decode cJ6_bitCount_0f7a4 27 = .ok (.iushr, 1) := by decide +kernel
theorem dJ6_bitCount_0f7a4_28 : decode cJ6_bitCount_0f7a4 28 = .ok (.iadd, 1) := by decide +kernel
theorem dJ6_bitCount_0f7a4_29 : decode cJ6_bitCount_0f7a4 29 = .ok (.ldc_w 267, 3) := by decide +kernel
theorem dJ6_bitCount_0f7a4_32 : decode cJ6_bitCount_0f7a4 32 = .ok (.iand, 1) := by decide +kernel
theorem dJ6_bitCount_0f7a4_33 : decode cJ6_bitCount_0f7a4 33 = .ok (.istore_n 0, 1) := by decide +kernel
theorem dJ6_bitCount_0f7a4_34 : decode cJ6_bitCount_0f7a4 34 = .ok (.iload_n 0, 1) := by decide +kernel
theorem dJ6_bitCount_0f7a4_35 : decode cJ6_bitCount_0f7a4 35 = .ok (.iload_n 0, 1) := by decide +kernel
theorem dJ6_bitCount_0f7a4_36 : decode cJ6_bitCount_0f7a4 36 = .ok (.bipush 8, 2) := by decide +kernel
theorem dJ6_bitCount_0f7a4_38 : decode cJ6_bitCount_0f7a4 38 = .ok (.iushr, 1) := by decide +kernel
theorem dJ6_bitCount_0f7a4_39 : decode cJ6_bitCount_0f7a4 39 = .ok (.iadd, 1) := by decide +kernel
theorem dJ6_bitCount_0f7a4_40 : decode cJ6_bitCount_0f7a4 40 = .ok (.istore_n 0, 1) := by decide +kernel
theorem dJ6_bitCount_0f7a4_41 : decode cJ6_bitCount_0f7a4 41 = .ok (.iload_n 0, 1) := by decide +kernel
theorem dJ6_bitCount_0f7a4_42 : decode cJ6_bitCount_0f7a4 42 = .ok (.iload_n 0, 1) := by decide +kernel
theorem dJ6_bitCount_0f7a4_43 : decode cJ6_bitCount_0f7a4 43 = .ok (.bipush 16, 2) := by decide +kernel
theorem dJ6_bitCount_0f7a4_45 : decode cJ6_bitCount_0f7a4 45 = .ok (.iushr, 1) := by decide +kernel
theorem dJ6_bitCount_0f7a4_46 : decode cJ6_bitCount_0f7a4 46 = .ok (.iadd, 1) := by decide +kernel
theorem dJ6_bitCount_0f7a4_47 : decode cJ6_bitCount_0f7a4 47 = .ok (.istore_n 0, 1) := by decide +kernel
theorem dJ6_bitCount_0f7a4_48 : decode cJ6_bitCount_0f7a4 48 = .ok (.iload_n 0, 1) := by decide +kernel
theorem dJ6_bitCount_0f7a4_49 : decode cJ6_bitCount_0f7a4 49 = .ok (.bipush 63, 2) := by decide +kernel
theorem dJ6_bitCount_0f7a4_51 : decode cJ6_bitCount_0f7a4 51 = .ok (.iand, 1) := by decide +kernel
theorem dJ6_bitCount_0f7a4_52 : decode cJ6_bitCount_0f7a4 52 = .ok (.ireturn, 1) := by decide +kernel
theorem dJ9_max_7cf53_0 : decode cJ9_max_7cf53 0 = .ok (.iload_n 0, 1) := by decide +kernel
theorem dJ9_max_7cf53_1 : decode cJ9_max_7cf53 1 = .ok (.iload_n 1, 1) := by decide +kernel
theorem dJ9_max_7cf53_2 : decode cJ9_max_7cf53 2 = .ok (.if_icmp .lt 7, 3) := by decide +kernel
theorem dJ9_max_7cf53_5 : decode cJ9_max_7cf53 5 = .ok (.iload_n 0, 1) := by decide +kernel
theorem dJ9_max_7cf53_6 : decode cJ9_max_7cf53 6 = .ok (.goto 4, 3) := by decide +kernel
theorem dJ9_max_7cf53_9 : decode cJ9_max_7cf53 9 = .ok (.iload_n 1, 1) := by decide +kernel
theorem dJ9_max_7cf53_10 : decode cJ9_max_7cf53 10 = .ok (.ireturn, 1) := by decide +kernel
theorem dJ9_min_7cf53_0 : decode cJ9_min_7cf53 0 = .ok (.iload_n 0, 1) := by decide +kernel
theorem dJ9_min_7cf53_1 : decode cJ9_min_7cf53 1 = .ok (.iload_n 1, 1) := by decide +kernel
theorem dJ9_min_7cf53_2 : decode cJ9_min_7cf53 2 = .ok (.if_icmp .gt 7, 3) := by decide +kernel
theorem dJ9_min_7cf53_5 : decode cJ9_min_7cf53 5 = .ok (.iload_n 0, 1) := by decide +kernel
theorem dJ9_min_7cf53_6 : decode cJ9_min_7cf53 6 = .ok (.goto 4, 3) := by decide +kernel
theorem dJ9_min_7cf53_9 : decode cJ9_min_7cf53 9 = .ok (.iload_n 1, 1) := by decide +kernel
theorem dJ9_min_7cf53_10 : decode cJ9_min_7cf53 10 = .ok (.ireturn, 1) := by decide +kernel
