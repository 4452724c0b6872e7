theorem dX8_init_0 : decode cX8_init 0 = .ok (.aload_n 0, 1) := by decide +kernel
theorem dX8_init_1 : decode cX8_init 1 = .ok (.invokespecial 1, 3) := by decide +kernel
theorem dX8_init_4 : decode cX8_init 4 = .ok (.aload_n 0, 1) := by decide +kernel
theorem dX8_init_5 : decode cX8_init 5 = .ok (.sipush 844, 3) := by decide +kernel
theorem dX8_init_8 : decode cX8_init 8 = .ok (.newarray .int, 2) := by decide +kernel
theorem dX8_init_10 : decode cX8_init 10 = .ok (.putfield 7, 3) := by decide +kernel
theorem dX8_init_13 : decode cX8_init 13 = .ok (.aload_n 0, 1) := by decide +kernel
theorem dX8_init_14 : decode cX8_init 14 = .ok (.sipush 5064, 3) := by decide +kernel
theorem dX8_init_17 : decode cX8_init 17 = .ok (.newarray .int, 2) := by decide +kernel
theorem dX8_init_19 : decode cX8_init 19 = .ok (.putfield 13, 3) := by decide +kernel
theorem dX8_init_22 : decode cX8_init 22 = .ok (.aload_n 0, 1) := by decide +kernel
theorem dX8_init_23 : decode cX8_init 23 = .ok (.sipush 1688, 3) := by decide +kernel
theorem dX8_init_26 : decode cX8_init 26 = .ok (.newarray .int, 2) := by decide +kernel
theorem dX8_init_28 : decode cX8_init 28 = .ok (.putfield 16, 3) := by decide +kernel
theorem dX8_init_31 : decode cX8_init 31 = .ok (.aload_n 0, 1) := by decide +kernel
theorem dX8_init_32 : decode cX8_init 32 = .ok (.iconst 2, 1) := by decide +kernel
theorem dX8_init_33 : decode cX8_init 33 = .ok (.newarray .int, 2) := by decide +kernel
theorem dX8_init_35 : decode cX8_init 35 = .ok (.putfield 19, 3) := by decide +kernel
theorem dX8_init_38 : decode cX8_init 38 = .ok (.aload_n 0, 1) := by decide +kernel
theorem dX8_init_39 : decode cX8_init 39 = .ok (.bipush 60, 2) := by decide +kernel
theorem dX8_init_41 : decode cX8_init 41 = .ok (.newarray .int, 2) := by decide +kernel
theorem dX8_init_43 : decode cX8_init 43 = .ok (.putfield 22, 3) := by decide +kernel
theorem dX8_init_46 : decode cX8_init 46 = .ok (.aload_n 0, 1) := by decide +kernel
theorem dX8_init_47 : decode cX8_init 47 = .ok (.bipush 120, 2) := by decide +kernel
theorem dX8_init_49 : decode cX8_init 49 = .ok (.newarray .int, 2) := by decide +kernel
theorem dX8_init_51 : decode cX8_init 51 = .ok (.putfield 25, 3) := by decide +kernel
theorem dX8_init_54 : decode cX8_init 54 = .ok (.aload_n 0, 1) := by decide +kernel
theorem dX8_init_55 : decode cX8_init 55 = .ok (.getfield 7, 3) := by decide +kernel
theorem dX8_init_58 : decode cX8_init 58 = .ok (.iconst 0, 1) := by decide +kernel
theorem dX8_init_59 : decode cX8_init 59 = .ok (.bipush 8, 2) := by decide +kernel
theorem dX8_init_61 : decode cX8_init 61 = .ok (.iastore, 1) := by decide +kernel
theorem dX8_init_62 : decode cX8_init 62 = .ok (.return_, 1) := by decide +kernel
theorem dX8_moves_0 : decode cX8_moves 0 = .ok (.iconst 0, 1) := by decide +kernel
theorem dX8_moves_1 : decode cX8_moves 1 = .ok (.istore 4, 2) := by decide +kernel
theorem dX8_moves_3 : decode cX8_moves 3 = .ok (.iload 4, 2) := by decide +kernel
theorem dX8_moves_5 : decode cX8_moves 5 = .ok (.sipush 844, 3) := by decide +kernel
theorem dX8_moves_8 : decode cX8_moves 8 = .ok (.if_icmp .ge 21, 3) := by decide +kernel
theorem dX8_moves_11 : decode cX8_moves 11 = .ok (.aload_n 2, 1) := by decide +kernel
theorem dX8_moves_12 : decode cX8_moves 12 = .ok (.iload_n 3, 1) := by decide +kernel
theorem dX8_moves_13 : decode cX8_moves 13 = .ok (.iload 4, 2) := by decide +kernel
theorem dX8_moves_15 : decode cX8_moves 15 = .ok (.iadd, 1) := by decide +kernel
theorem dX8_moves_16 : decode cX8_moves 16 = .ok (.aload_n 0, 1) := by decide +kernel
theorem dX8_moves_17 : decode cX8_moves 17 = .ok (.iload_n 1, 1) := by decide +kernel
theorem dX8_moves_18 : decode cX8_moves 18 = .ok (.iload 4, 2) := by decide +kernel
theorem dX8_moves_20 : decode cX8_moves 20 = .ok (.iadd, 1) := by decide +kernel
theorem dX8_moves_21 : decode cX8_moves 21 = .ok (.iaload, 1) := by decide +kernel
theorem dX8_moves_22 : decode cX8_moves 22 = .ok (.iastore, 1) := by decide +kernel
theorem dX8_moves_23 : decode cX8_moves 23 = .ok (.iinc 4 1, 3) := by decide +kernel
theorem dX8_moves_26 : decode cX8_moves 26 = .ok (.goto (-23), 3) := by decide +kernel
theorem dX8_moves_29 : decode cX8_moves 29 = .ok (.return_, 1) := by decide +kernel
theorem dX8_within_0 : decode cX8_within 0 = .ok (.iload_n 0, 1) := by decide +kernel
theorem dX8_within_1 : decode cX8_within 1 = .ok (.iload_n 1, 1) := by decide +kernel
theorem dX8_within_2 : decode cX8_within 2 = .ok (.if_icmp .lt 12, 3) := by decide +kernel
theorem dX8_within_5 : decode cX8_within 5 = .ok (.iload_n 0, 1) := by decide +kernel
theorem dX8_within_6 : decode cX8_within 6 = .ok (.iload_n 2, 1) := by decide +kernel
theorem dX8_within_7 : decode cX8_within 7 = .ok (.if_icmp .gt 7, 3) := by decide +kernel
theorem dX8_within_10 : decode cX8_within 10 = .ok (.iconst 1, 1) := by decide +kernel
theorem dX8_within_11 : decode cX8_within 11 = .ok (.goto 4, 3) := by decide +kernel
theorem dX8_within_14 : decode cX8_within 14 = .ok (.iconst 0, 1) := by decide +kernel
theorem dX8_within_15 : decode cX8_within 15 = .ok (.ireturn, 1) := by decide +kernel
theorem dX8_record_0 : decode cX8_record 0 = .ok (.aload_n 0, 1) := by decide +kernel
theorem dX8_record_1 : decode cX8_record 1 = .ok (.getfield 28, 3) := by decide +kernel
theorem dX8_record_4 : decode cX8_record 4 = .ok (.bipush 6, 2) := by decide +kernel
theorem dX8_record_6 : decode cX8_record 6 = .ok (.if_icmp .ne 44, 3) := by decide +kernel
theorem dX8_record_9 : decode cX8_record 9 = .ok (.iconst 0, 1) := by decide +kernel
theorem dX8_record_10 : decode cX8_record 10 = .ok (.istore_n 1, 1) := by decide +kernel
theorem dX8_record_11 : decode cX8_record 11 = .ok (.iload_n 1, 1) := by decide +kernel
theorem dX8_record_12 : decode cX8_record 12 = .ok (.sipush 4220, 3) := by decide +kernel
theorem dX8_record_15 : decode cX8_record 15 = .ok (.if_icmp .ge 25, 3) := by decide +kernel
theorem dX8_record_18 : decode cX8_record 18 = .ok (.aload_n 0, 1) := by decide +kernel
theorem dX8_record_19 : decode cX8_record 19 = .ok (.getfield 13, 3) := by decide +kernel
theorem dX8_record_22 : decode cX8_record 22 = .ok (.iload_n 1, 1) := by decide +kernel
theorem dX8_record_23 : decode cX8_record 23 = .ok (.aload_n 0, 1) := by decide +kernel
theorem dX8_record_24 : decode cX8_record 24 = .ok (.getfield 13, 3) := by decide +kernel
theorem dX8_record_27 : decode cX8_record 27 = .ok (.iload_n 1, 1) := by decide +kernel
theorem dX8_record_28 : decode cX8_record 28 = .ok (.sipush 844, 3) := by decide +kernel
theorem dX8_record_31 : decode cX8_record 31 = .ok (.iadd, 1) := by decide +kernel
theorem dX8_record_32 : decode cX8_record 32 = .ok (.iaload, 1) := by decide +kernel
theorem dX8_record_33 : decode cX8_record 33 = .ok (.iastore, 1) := by decide +kernel
theorem dX8_record_34 : decode cX8_record 34 = .ok (.iinc 1 1, 3) := by decide +kernel
theorem dX8_record_37 : decode cX8_record 37 = .ok (.goto (-26), 3) := by decide +kernel
theorem dX8_record_40 : decode cX8_record 40 = .ok (.aload_n 0, 1) := by decide +kernel
theorem dX8_record_41 : decode cX8_record 41 = .ok (.dup, 1) := by decide +kernel
theorem dX8_record_42 : decode cX8_record 42 = .ok (.getfield 28, 3) := by decide +kernel
theorem dX8_record_45 : decode cX8_record 45 = .ok (.iconst 1, 1) := by decide +kernel
theorem dX8_record_46 : decode cX8_record 46 = .ok (.isub, 1) := by decide +kernel
theorem dX8_record_47 : decode cX8_record 47 = .ok (.putfield 28, 3) := by decide +kernel
theorem dX8_record_50 : decode cX8_record 50 = .ok (.aload_n 0, 1) := by decide +kernel
theorem dX8_record_51 : decode cX8_record 51 = .ok (.getfield 7, 3) := by decide +kernel
theorem dX8_record_54 : decode cX8_record 54 = .ok (.iconst 0, 1) := by decide +kernel
theorem dX8_record_55 : decode cX8_record 55 = .ok (.aload_n 0, 1) := by decide +kernel
theorem dX8_record_56 : decode cX8_record 56 = .ok (.getfield 13, 3) := by decide +kernel
theorem dX8_record_59 : decode cX8_record 59 = .ok (.aload_n 0, 1) := by decide +kernel
theorem dX8_record_60 : decode cX8_record 60 = .ok (.getfield 28, 3) := by decide +kernel
theorem dX8_record_63 : decode cX8_record 63 = .ok (.sipush 844, 3) := by decide +kernel
theorem dX8_record_66 : decode cX8_record 66 = .ok (.imul, 1) := by decide +kernel
theorem dX8_record_67 : decode cX8_record 67 = .ok (.invokestatic 32, 3) := by decide +kernel
theorem dX8_record_70 : decode cX8_record 70 = .ok (.aload_n 0, 1) := by decide +kernel
theorem dX8_record_71 : decode cX8_record 71 = .ok (.dup, 1) := by decide +kernel
theorem dX8_record_72 : decode cX8_record 72 = .ok (.getfield 28, 3) := by decide +kernel
theorem dX8_record_75 : decode cX8_record 75 = .ok (.iconst 1, 1) := by decide +kernel
theorem dX8_record_76 : decode cX8_record 76 = .ok (.iadd, 1) := by decide +kernel
theorem dX8_record_77 : decode cX8_record 77 = .ok (.putfield 28, 3) := by decide +kernel
theorem dX8_record_80 : decode cX8_record 80 = .ok (.return_, 1) := by decide +kernel
theorem dX8_keyPart_0 : decode cX8_keyPart 0 = .ok (.aload_n 0, 1) := by decide +kernel
theorem dX8_keyPart_1 : decode cX8_keyPart 1 = .ok (.getfield 7, 3) := by decide +kernel
theorem dX8_keyPart_4 : decode cX8_keyPart 4 = .ok (.iconst 4, 1) := by decide +kernel
theorem dX8_keyPart_5 : decode cX8_keyPart 5 = .ok (.iconst 4, 1) := by decide +kernel
theorem dX8_keyPart_6 : decode cX8_keyPart 6 = .ok (.iload_n 1, 1) := by decide +kernel
theorem dX8_keyPart_7 : decode cX8_keyPart 7 = .ok (.imul, 1) := by decide +kernel
theorem dX8_keyPart_8 : decode cX8_keyPart 8 = .ok (.iadd, 1) := by decide +kernel
theorem dX8_keyPart_9 : decode cX8_keyPart 9 = .ok (.iload_n 2, 1) := by decide +kernel
theorem dX8_keyPart_10 : decode cX8_keyPart 10 = .ok (.iadd, 1) := by decide +kernel
theorem dX8_keyPart_11 : decode cX8_keyPart 11 = .ok (.iaload, 1) := by decide +kernel
theorem dX8_keyPart_12 : decode cX8_keyPart 12 = .ok (.ireturn, 1) := by decide +kernel
theorem dX8_setKey_0 : decode cX8_setKey 0 = .ok (.aload_n 0, 1) := by decide +kernel
theorem dX8_setKey_1 : decode cX8_setKey 1 = .ok (.getfield 7, 3) := by decide +kernel
theorem dX8_setKey_4 : decode cX8_setKey 4 = .ok (.iconst 4, 1) := by decide +kernel
theorem dX8_setKey_5 : decode cX8_setKey 5 = .ok (.iconst 4, 1) := by decide +kernel
theorem dX8_setKey_6 : decode cX8_setKey 6 = .ok (.iload_n 1, 1) := by decide +kernel
theorem dX8_setKey_7 : decode cX8_setKey 7 = .ok (.imul, 1) := by decide +kernel
theorem dX8_setKey_8 : decode cX8_setKey 8 = .ok (.iadd, 1) := by decide +kernel
theorem dX8_setKey_9 : decode cX8_setKey 9 = .ok (.iload_n 2, 1) := by decide +kernel
theorem dX8_setKey_10 : decode cX8_setKey 10 = .ok (.iadd, 1) := by decide +kernel
theorem dX8_setKey_11 : decode cX8_setKey 11 = .ok (.iload_n 3, 1) := by decide +kernel
theorem dX8_setKey_12 : decode cX8_setKey 12 = .ok (.iastore, 1) := by decide +kernel
theorem dX8_setKey_13 : decode cX8_setKey 13 = .ok (.return_, 1) := by decide +kernel
theorem dX8_boxPart_0 : decode cX8_boxPart 0 = .ok (.aload_n 0, 1) := by decide +kernel
theorem dX8_boxPart_1 : decode cX8_boxPart 1 = .ok (.getfield 7, 3) := by decide +kernel
theorem dX8_boxPart_4 : decode cX8_boxPart 4 = .ok (.bipush 84, 2) := by decide +kernel
theorem dX8_boxPart_6 : decode cX8_boxPart 6 = .ok (.iconst 2, 1) := by decide +kernel
theorem dX8_boxPart_7 : decode cX8_boxPart 7 = .ok (.iload_n 1, 1) := by decide +kernel
theorem dX8_boxPart_8 : decode cX8_boxPart 8 = .ok (.imul, 1) := by decide +kernel
theorem dX8_boxPart_9 : decode cX8_boxPart 9 = .ok (.iadd, 1) := by decide +kernel
theorem dX8_boxPart_10 : decode cX8_boxPart 10 = .ok (.iload_n 2, 1) := by decide +kernel
theorem dX8_boxPart_11 : decode cX8_boxPart 11 = .ok (.iadd, 1) := by decide +kernel
theorem dX8_boxPart_12 : decode cX8_boxPart 12 = .ok (.iaload, 1) := by decide +kernel
theorem dX8_boxPart_13 : decode cX8_boxPart 13 = .ok (.ireturn, 1) := by decide +kernel
theorem dX8_setBox_0 : decode cX8_setBox 0 = .ok (.aload_n 0, 1) := by decide +kernel
theorem dX8_setBox_1 : decode cX8_setBox 1 = .ok (.getfield 7, 3) := by decide +kernel
theorem dX8_setBox_4 : decode cX8_setBox 4 = .ok (.bipush 84, 2) := by decide +kernel
theorem dX8_setBox_6 : decode cX8_setBox 6 = .ok (.iconst 2, 1) := by decide +kernel
theorem dX8_setBox_7 : decode cX8_setBox 7 = .ok (.iload_n 1, 1) := by decide +kernel
theorem dX8_setBox_8 : decode cX8_setBox 8 = .ok (.imul, 1) := by decide +kernel
theorem dX8_setBox_9 : decode cX8_setBox 9 = .ok (.iadd, 1) := by decide +kernel
theorem dX8_setBox_10 : decode cX8_setBox 10 = .ok (.iload_n 2, 1) := by decide +kernel
theorem dX8_setBox_11 : decode cX8_setBox 11 = .ok (.iadd, 1) := by decide +kernel
theorem dX8_setBox_12 : decode cX8_setBox 12 = .ok (.iload_n 3, 1) := by decide +kernel
theorem dX8_setBox_13 : decode cX8_setBox 13 = .ok (.iastore, 1) := by decide +kernel
theorem dX8_setBox_14 : decode cX8_setBox 14 = .ok (.return_, 1) := by decide +kernel
theorem dX8_wrapPart_0 : decode cX8_wrapPart 0 = .ok (.aload_n 0, 1) := by decide +kernel
theorem dX8_wrapPart_1 : decode cX8_wrapPart 1 = .ok (.getfield 7, 3) := by decide +kernel
theorem dX8_wrapPart_4 : decode cX8_wrapPart 4 = .ok (.bipush 124, 2) := by decide +kernel
theorem dX8_wrapPart_6 : decode cX8_wrapPart 6 = .ok (.bipush 6, 2) := by decide +kernel
theorem dX8_wrapPart_8 : decode cX8_wrapPart 8 = .ok (.iload_n 1, 1) := by decide +kernel
theorem dX8_wrapPart_9 : decode cX8_wrapPart 9 = .ok (.imul, 1) := by decide +kernel
theorem dX8_wrapPart_10 : decode cX8_wrapPart 10 = .ok (.iadd, 1) := by decide +kernel
theorem dX8_wrapPart_11 : decode cX8_wrapPart 11 = .ok (.iload_n 2, 1) := by decide +kernel
theorem dX8_wrapPart_12 : decode cX8_wrapPart 12 = .ok (.iadd, 1) := by decide +kernel
theorem dX8_wrapPart_13 : decode cX8_wrapPart 13 = .ok (.iaload, 1) := by decide +kernel
theorem dX8_wrapPart_14 : decode cX8_wrapPart 14 = .ok (.ireturn, 1) := by decide +kernel
theorem dX8_setWrap_0 : decode cX8_setWrap 0 = .ok (.aload_n 0, 1) := by decide +kernel
theorem dX8_setWrap_1 : decode cX8_setWrap 1 = .ok (.getfield 7, 3) := by decide +kernel
theorem dX8_setWrap_4 : decode cX8_setWrap 4 = .ok (.bipush 124, 2) := by decide +kernel
theorem dX8_setWrap_6 : decode cX8_setWrap 6 = .ok (.bipush 6, 2) := by decide +kernel
theorem dX8_setWrap_8 : decode cX8_setWrap 8 = .ok (.iload_n 1, 1) := by decide +kernel
theorem dX8_setWrap_9 : decode cX8_setWrap 9 = .ok (.imul, 1) := by decide +kernel
theorem dX8_setWrap_10 : decode cX8_setWrap 10 = .ok (.iadd, 1) := by decide +kernel
theorem dX8_setWrap_11 : decode cX8_setWrap 11 = .ok (.iload_n 2, 1) := by decide +kernel
theorem dX8_setWrap_12 : decode cX8_setWrap 12 = .ok (.iadd, 1) := by decide +kernel
theorem dX8_setWrap_13 : decode cX8_setWrap 13 = .ok (.iload_n 3, 1) := by decide +kernel
theorem dX8_setWrap_14 : decode cX8_setWrap 14 = .ok (.iastore, 1) := by decide +kernel
theorem dX8_setWrap_15 : decode cX8_setWrap 15 = .ok (.return_, 1) := by decide +kernel
theorem dX8_isKey_0 : decode cX8_isKey 0 = .ok (.iload_n 1, 1) := by decide +kernel
theorem dX8_isKey_1 : decode cX8_isKey 1 = .ok (.iconst 0, 1) := by decide +kernel
theorem dX8_isKey_2 : decode cX8_isKey 2 = .ok (.aload_n 0, 1) := by decide +kernel
theorem dX8_isKey_3 : decode cX8_isKey 3 = .ok (.getfield 7, 3) := by decide +kernel
theorem dX8_isKey_6 : decode cX8_isKey 6 = .ok (.iconst 1, 1) := by decide +kernel
theorem dX8_isKey_7 : decode cX8_isKey 7 = .ok (.iaload, 1) := by decide +kernel
theorem dX8_isKey_8 : decode cX8_isKey 8 = .ok (.iconst 1, 1) := by decide +kernel
theorem dX8_isKey_9 : decode cX8_isKey 9 = .ok (.isub, 1) := by decide +kernel
theorem dX8_isKey_10 : decode cX8_isKey 10 = .ok (.invokestatic 36, 3) := by decide +kernel
theorem dX8_isKey_13 : decode cX8_isKey 13 = .ok (.ireturn, 1) := by decide +kernel
theorem dX8_isLiveKey_0 : decode cX8_isLiveKey 0 = .ok (.aload_n 0, 1) := by decide +kernel
theorem dX8_isLiveKey_1 : decode cX8_isLiveKey 1 = .ok (.iload_n 1, 1) := by decide +kernel
theorem dX8_isLiveKey_2 : decode cX8_isLiveKey 2 = .ok (.invokevirtual 40, 3) := by decide +kernel
theorem dX8_isLiveKey_5 : decode cX8_isLiveKey 5 = .ok (.ifCond .eq 17, 3) := by decide +kernel
theorem dX8_isLiveKey_8 : decode cX8_isLiveKey 8 = .ok (.aload_n 0, 1) := by decide +kernel
theorem dX8_isLiveKey_9 : decode cX8_isLiveKey 9 = .ok (.iload_n 1, 1) := by decide +kernel
theorem dX8_isLiveKey_10 : decode cX8_isLiveKey 10 = .ok (.iconst 1, 1) := by decide +kernel
theorem dX8_isLiveKey_11 : decode cX8_isLiveKey 11 = .ok (.invokevirtual 44, 3) := by decide +kernel
theorem dX8_isLiveKey_14 : decode cX8_isLiveKey 14 = .ok (.iconst 1, 1) := by decide +kernel
theorem dX8_isLiveKey_15 : decode cX8_isLiveKey 15 = .ok (.if_icmp .ne 7, 3) := by decide +kernel
theorem dX8_isLiveKey_18 : decode cX8_isLiveKey 18 = .ok (.iconst 1, 1) := by decide +kernel
theorem dX8_isLiveKey_19 : decode cX8_isLiveKey 19 = .ok (.goto 4, 3) := by decide +kernel
theorem dX8_isLiveKey_22 : decode cX8_isLiveKey 22 = .ok (.iconst 0, 1) := by decide +kernel
theorem dX8_isLiveKey_23 : decode cX8_isLiveKey 23 = .ok (.ireturn, 1) := by decide +kernel
theorem dX8_isBox_0 : decode cX8_isBox 0 = .ok (.iload_n 1, 1) := by decide +kernel
theorem dX8_isBox_1 : decode cX8_isBox 1 = .ok (.iconst 0, 1) := by decide +kernel
theorem dX8_isBox_2 : decode cX8_isBox 2 = .ok (.aload_n 0, 1) := by decide +kernel
theorem dX8_isBox_3 : decode cX8_isBox 3 = .ok (.getfield 7, 3) := by decide +kernel
theorem dX8_isBox_6 : decode cX8_isBox 6 = .ok (.iconst 2, 1) := by decide +kernel
theorem dX8_isBox_7 : decode cX8_isBox 7 = .ok (.iaload, 1) := by decide +kernel
theorem dX8_isBox_8 : decode cX8_isBox 8 = .ok (.iconst 1, 1) := by decide +kernel
theorem dX8_isBox_9 : decode cX8_isBox 9 = .ok (.isub, 1) := by decide +kernel
theorem dX8_isBox_10 : decode cX8_isBox 10 = .ok (.invokestatic 36, 3) := by decide +kernel
theorem dX8_isBox_13 : decode cX8_isBox 13 = .ok (.ireturn, 1) := by decide +kernel
theorem dX8_isLiveBox_0 : decode cX8_isLiveBox 0 = .ok (.aload_n 0, 1) := by decide +kernel
theorem dX8_isLiveBox_1 : decode cX8_isLiveBox 1 = .ok (.iload_n 1, 1) := by decide +kernel
theorem dX8_isLiveBox_2 : decode cX8_isLiveBox 2 = .ok (.invokevirtual 48, 3) := by decide +kernel
theorem dX8_isLiveBox_5 : decode cX8_isLiveBox 5 = .ok (.ifCond .eq 17, 3) := by decide +kernel
theorem dX8_isLiveBox_8 : decode cX8_isLiveBox 8 = .ok (.aload_n 0, 1) := by decide +kernel
theorem dX8_isLiveBox_9 : decode cX8_isLiveBox 9 = .ok (.iload_n 1, 1) := by decide +kernel
theorem dX8_isLiveBox_10 : decode cX8_isLiveBox 10 = .ok (.iconst 1, 1) := by decide +kernel
theorem dX8_isLiveBox_11 : decode cX8_isLiveBox 11 = .ok (.invokevirtual 51, 3) := by decide +kernel
theorem dX8_isLiveBox_14 : decode cX8_isLiveBox 14 = .ok (.iconst 1, 1) := by decide +kernel
theorem dX8_isLiveBox_15 : decode cX8_isLiveBox 15 = .ok (.if_icmp .ne 7, 3) := by decide +kernel
theorem dX8_isLiveBox_18 : decode cX8_isLiveBox 18 = .ok (.iconst 1, 1) := by decide +kernel
theorem dX8_isLiveBox_19 : decode cX8_isLiveBox 19 = .ok (.goto 4, 3) := by decide +kernel
theorem dX8_isLiveBox_22 : decode cX8_isLiveBox 22 = .ok (.iconst 0, 1) := by decide +kernel
theorem dX8_isLiveBox_23 : decode cX8_isLiveBox 23 = .ok (.ireturn, 1) := by decide +kernel
theorem dX8_isRoot_0 : decode cX8_isRoot 0 = .ok (.aload_n 0, 1) := by decide +kernel
theorem dX8_isRoot_1 : decode cX8_isRoot 1 = .ok (.iload_n 1, 1) := by decide +kernel
theorem dX8_isRoot_2 : decode cX8_isRoot 2 = .ok (.iconst 0, 1) := by decide +kernel
theorem dX8_isRoot_3 : decode cX8_isRoot 3 = .ok (.invokevirtual 44, 3) := by decide +kernel
theorem dX8_isRoot_6 : decode cX8_isRoot 6 = .ok (.bipush (-6), 2) := by decide +kernel
theorem dX8_isRoot_8 : decode cX8_isRoot 8 = .ok (.if_icmp .ne 7, 3) := by decide +kernel
theorem dX8_isRoot_11 : decode cX8_isRoot 11 = .ok (.iconst 1, 1) := by decide +kernel
theorem dX8_isRoot_12 : decode cX8_isRoot 12 = .ok (.goto 4, 3) := by decide +kernel
theorem dX8_isRoot_15 : decode cX8_isRoot 15 = .ok (.iconst 0, 1) := by decide +kernel
theorem dX8_isRoot_16 : decode cX8_isRoot 16 = .ok (.ireturn, 1) := by decide +kernel
theorem dX8_canClose_0 : decode cX8_canClose 0 = .ok (.aload_n 0, 1) := by decide +kernel
theorem dX8_canClose_1 : decode cX8_canClose 1 = .ok (.iload_n 1, 1) := by decide +kernel
theorem dX8_canClose_2 : decode cX8_canClose 2 = .ok (.iconst 3, 1) := by decide +kernel
theorem dX8_canClose_3 : decode cX8_canClose 3 = .ok (.invokevirtual 44, 3) := by decide +kernel
theorem dX8_canClose_6 : decode cX8_canClose 6 = .ok (.aload_n 0, 1) := by decide +kernel
theorem dX8_canClose_7 : decode cX8_canClose 7 = .ok (.getfield 7, 3) := by decide +kernel
theorem dX8_canClose_10 : decode cX8_canClose 10 = .ok (.iconst 0, 1) := by decide +kernel
theorem dX8_canClose_11 : decode cX8_canClose 11 = .ok (.iaload, 1) := by decide +kernel
theorem dX8_canClose_12 : decode cX8_canClose 12 = .ok (.if_icmp .ge 7, 3) := by decide +kernel
theorem dX8_canClose_15 : decode cX8_canClose 15 = .ok (.iconst 1, 1) := by decide +kernel
theorem dX8_canClose_16 : decode cX8_canClose 16 = .ok (.goto 4, 3) := by decide +kernel
theorem dX8_canClose_19 : decode cX8_canClose 19 = .ok (.iconst 0, 1) := by decide +kernel
theorem dX8_canClose_20 : decode cX8_canClose 20 = .ok (.ireturn, 1) := by decide +kernel
theorem dX8_isUnder_0 : decode cX8_isUnder 0 = .ok (.iload_n 1, 1) := by decide +kernel
theorem dX8_isUnder_1 : decode cX8_isUnder 1 = .ok (.istore_n 3, 1) := by decide +kernel
theorem dX8_isUnder_2 : decode cX8_isUnder 2 = .ok (.iload_n 3, 1) := by decide +kernel
theorem dX8_isUnder_3 : decode cX8_isUnder 3 = .ok (.bipush (-6), 2) := by decide +kernel
theorem dX8_isUnder_5 : decode cX8_isUnder 5 = .ok (.if_icmp .eq 18, 3) := by decide +kernel
theorem dX8_isUnder_8 : decode cX8_isUnder 8 = .ok (.iload_n 3, 1) := by decide +kernel
theorem dX8_isUnder_9 : decode cX8_isUnder 9 = .ok (.iload_n 2, 1) := by decide +kernel
theorem dX8_isUnder_10 : decode cX8_isUnder 10 = .ok (.if_icmp .eq 13, 3) := by decide +kernel
theorem dX8_isUnder_13 : decode cX8_isUnder 13 = .ok (.aload_n 0, 1) := by decide +kernel
theorem dX8_isUnder_14 : decode cX8_isUnder 14 = .ok (.iload_n 3, 1) := by decide +kernel
theorem dX8_isUnder_15 : decode cX8_isUnder 15 = .ok (.iconst 0, 1) := by decide +kernel
theorem dX8_isUnder_16 : decode cX8_isUnder 16 = .ok (.invokevirtual 44, 3) := by decide +kernel
theorem dX8_isUnder_19 : decode cX8_isUnder 19 = .ok (.istore_n 3, 1) := by decide +kernel
theorem dX8_isUnder_20 : decode cX8_isUnder 20 = .ok (.goto (-18), 3) := by decide +kernel
theorem dX8_isUnder_23 : decode cX8_isUnder 23 = .ok (.iload_n 3, 1) := by decide +kernel
theorem dX8_isUnder_24 : decode cX8_isUnder 24 = .ok (.iload_n 2, 1) := by decide +kernel
theorem dX8_isUnder_25 : decode cX8_isUnder 25 = .ok (.if_icmp .ne 7, 3) := by decide +kernel
theorem dX8_isUnder_28 : decode cX8_isUnder 28 = .ok (.iconst 1, 1) := by decide +kernel
theorem dX8_isUnder_29 : decode cX8_isUnder 29 = .ok (.goto 4, 3) := by decide +kernel
theorem dX8_isUnder_32 : decode cX8_isUnder 32 = .ok (.iconst 0, 1) := by decide +kernel
theorem dX8_isUnder_33 : decode cX8_isUnder 33 = .ok (.ireturn, 1) := by decide +kernel
theorem dX8_above_0 : decode cX8_above 0 = .ok (.iconst 0, 1) := by decide +kernel
theorem dX8_above_1 : decode cX8_above 1 = .ok (.istore_n 2, 1) := by decide +kernel
theorem dX8_above_2 : decode cX8_above 2 = .ok (.aload_n 0, 1) := by decide +kernel
theorem dX8_above_3 : decode cX8_above 3 = .ok (.iload_n 1, 1) := by decide +kernel
theorem dX8_above_4 : decode cX8_above 4 = .ok (.iconst 0, 1) := by decide +kernel
theorem dX8_above_5 : decode cX8_above 5 = .ok (.invokevirtual 44, 3) := by decide +kernel
theorem dX8_above_8 : decode cX8_above 8 = .ok (.istore_n 3, 1) := by decide +kernel
theorem dX8_above_9 : decode cX8_above 9 = .ok (.iload_n 3, 1) := by decide +kernel
theorem dX8_above_10 : decode cX8_above 10 = .ok (.bipush (-6), 2) := by decide +kernel
theorem dX8_above_12 : decode cX8_above 12 = .ok (.if_icmp .eq 16, 3) := by decide +kernel
theorem dX8_above_15 : decode cX8_above 15 = .ok (.iinc 2 1, 3) := by decide +kernel
theorem dX8_above_18 : decode cX8_above 18 = .ok (.aload_n 0, 1) := by decide +kernel
theorem dX8_above_19 : decode cX8_above 19 = .ok (.iload_n 3, 1) := by decide +kernel
theorem dX8_above_20 : decode cX8_above 20 = .ok (.iconst 0, 1) := by decide +kernel
theorem dX8_above_21 : decode cX8_above 21 = .ok (.invokevirtual 44, 3) := by decide +kernel
theorem dX8_above_24 : decode cX8_above 24 = .ok (.istore_n 3, 1) := by decide +kernel
theorem dX8_above_25 : decode cX8_above 25 = .ok (.goto (-16), 3) := by decide +kernel
theorem dX8_above_28 : decode cX8_above 28 = .ok (.iload_n 2, 1) := by decide +kernel
theorem dX8_above_29 : decode cX8_above 29 = .ok (.ireturn, 1) := by decide +kernel
theorem dX8_higher_0 : decode cX8_higher 0 = .ok (.iload_n 1, 1) := by decide +kernel
theorem dX8_higher_1 : decode cX8_higher 1 = .ok (.istore_n 3, 1) := by decide +kernel
theorem dX8_higher_2 : decode cX8_higher 2 = .ok (.iconst 0, 1) := by decide +kernel
theorem dX8_higher_3 : decode cX8_higher 3 = .ok (.istore 4, 2) := by decide +kernel
theorem dX8_higher_5 : decode cX8_higher 5 = .ok (.iload 4, 2) := by decide +kernel
theorem dX8_higher_7 : decode cX8_higher 7 = .ok (.iload_n 2, 1) := by decide +kernel
theorem dX8_higher_8 : decode cX8_higher 8 = .ok (.if_icmp .ge 16, 3) := by decide +kernel
theorem dX8_higher_11 : decode cX8_higher 11 = .ok (.aload_n 0, 1) := by decide +kernel
theorem dX8_higher_12 : decode cX8_higher 12 = .ok (.iload_n 3, 1) := by decide +kernel
theorem dX8_higher_13 : decode cX8_higher 13 = .ok (.iconst 0, 1) := by decide +kernel
theorem dX8_higher_14 : decode cX8_higher 14 = .ok (.invokevirtual 44, 3) := by decide +kernel
theorem dX8_higher_17 : decode cX8_higher 17 = .ok (.istore_n 3, 1) := by decide +kernel
theorem dX8_higher_18 : decode cX8_higher 18 = .ok (.iinc 4 1, 3) := by decide +kernel
theorem dX8_higher_21 : decode cX8_higher 21 = .ok (.goto (-16), 3) := by decide +kernel
theorem dX8_higher_24 : decode cX8_higher 24 = .ok (.iload_n 3, 1) := by decide +kernel
theorem dX8_higher_25 : decode cX8_higher 25 = .ok (.ireturn, 1) := by decide +kernel
theorem dX8_hangingKeys_0 : decode cX8_hangingKeys 0 = .ok (.iconst 0, 1) := by decide +kernel
theorem dX8_hangingKeys_1 : decode cX8_hangingKeys 1 = .ok (.istore_n 2, 1) := by decide +kernel
theorem dX8_hangingKeys_2 : decode cX8_hangingKeys 2 = .ok (.iconst 0, 1) := by decide +kernel
theorem dX8_hangingKeys_3 : decode cX8_hangingKeys 3 = .ok (.istore_n 3, 1) := by decide +kernel
theorem dX8_hangingKeys_4 : decode cX8_hangingKeys 4 = .ok (.iload_n 3, 1) := by decide +kernel
theorem dX8_hangingKeys_5 : decode cX8_hangingKeys 5 = .ok (.aload_n 0, 1) := by decide +kernel
theorem dX8_hangingKeys_6 : decode cX8_hangingKeys 6 = .ok (.getfield 7, 3) := by decide +kernel
theorem dX8_hangingKeys_9 : decode cX8_hangingKeys 9 = .ok (.iconst 1, 1) := by decide +kernel
theorem dX8_hangingKeys_10 : decode cX8_hangingKeys 10 = .ok (.iaload, 1) := by decide +kernel
theorem dX8_hangingKeys_11 : decode cX8_hangingKeys 11 = .ok (.if_icmp .ge 39, 3) := by decide +kernel
theorem dX8_hangingKeys_14 : decode cX8_hangingKeys 14 = .ok (.iload_n 2, 1) := by decide +kernel
theorem dX8_hangingKeys_15 : decode cX8_hangingKeys 15 = .ok (.aload_n 0, 1) := by decide +kernel
theorem dX8_hangingKeys_16 : decode cX8_hangingKeys 16 = .ok (.iload_n 3, 1) := by decide +kernel
theorem dX8_hangingKeys_17 : decode cX8_hangingKeys 17 = .ok (.iconst 1, 1) := by decide +kernel
theorem dX8_hangingKeys_18 : decode cX8_hangingKeys 18 = .ok (.invokevirtual 44, 3) := by decide +kernel
theorem dX8_hangingKeys_21 : decode cX8_hangingKeys 21 = .ok (.iconst 1, 1) := by decide +kernel
theorem dX8_hangingKeys_22 : decode cX8_hangingKeys 22 = .ok (.if_icmp .ne 19, 3) := by decide +kernel
theorem dX8_hangingKeys_25 : decode cX8_hangingKeys 25 = .ok (.aload_n 0, 1) := by decide +kernel
theorem dX8_hangingKeys_26 : decode cX8_hangingKeys 26 = .ok (.iload_n 3, 1) := by decide +kernel
theorem dX8_hangingKeys_27 : decode cX8_hangingKeys 27 = .ok (.iconst 0, 1) := by decide +kernel
theorem dX8_hangingKeys_28 : decode cX8_hangingKeys 28 = .ok (.invokevirtual 44, 3) := by decide +kernel
theorem dX8_hangingKeys_31 : decode cX8_hangingKeys 31 = .ok (.iload_n 1, 1) := by decide +kernel
theorem dX8_hangingKeys_32 : decode cX8_hangingKeys 32 = .ok (.if_icmp .ne 9, 3) := by decide +kernel
theorem dX8_hangingKeys_35 : decode cX8_hangingKeys 35 = .ok (.iconst 1, 1) := by decide +kernel
theorem dX8_hangingKeys_36 : decode cX8_hangingKeys 36 = .ok (.iload_n 3, 1) := by decide +kernel
theorem dX8_hangingKeys_37 : decode cX8_hangingKeys 37 = .ok (.ishl, 1) := by decide +kernel
theorem dX8_hangingKeys_38 : decode cX8_hangingKeys 38 = .ok (.goto 4, 3) := by decide +kernel
theorem dX8_hangingKeys_41 : decode cX8_hangingKeys 41 = .ok (.iconst 0, 1) := by decide +kernel
theorem dX8_hangingKeys_42 : decode cX8_hangingKeys 42 = .ok (.ior, 1) := by decide +kernel
theorem dX8_hangingKeys_43 : decode cX8_hangingKeys 43 = .ok (.istore_n 2, 1) := by decide +kernel
theorem dX8_hangingKeys_44 : decode cX8_hangingKeys 44 = .ok (.iinc 3 1, 3) := by decide +kernel
theorem dX8_hangingKeys_47 : decode cX8_hangingKeys 47 = .ok (.goto (-43), 3) := by decide +kernel
theorem dX8_hangingKeys_50 : decode cX8_hangingKeys 50 = .ok (.iload_n 2, 1) := by decide +kernel
theorem dX8_hangingKeys_51 : decode cX8_hangingKeys 51 = .ok (.ireturn, 1) := by decide +kernel
theorem dX8_hangingBoxes_0 : decode cX8_hangingBoxes 0 = .ok (.iconst 0, 1) := by decide +kernel
theorem dX8_hangingBoxes_1 : decode cX8_hangingBoxes 1 = .ok (.istore_n 2, 1) := by decide +kernel
theorem dX8_hangingBoxes_2 : decode cX8_hangingBoxes 2 = .ok (.iconst 0, 1) := by decide +kernel
theorem dX8_hangingBoxes_3 : decode cX8_hangingBoxes 3 = .ok (.istore_n 3, 1) := by decide +kernel
theorem dX8_hangingBoxes_4 : decode cX8_hangingBoxes 4 = .ok (.iload_n 3, 1) := by decide +kernel
theorem dX8_hangingBoxes_5 : decode cX8_hangingBoxes 5 = .ok (.aload_n 0, 1) := by decide +kernel
theorem dX8_hangingBoxes_6 : decode cX8_hangingBoxes 6 = .ok (.getfield 7, 3) := by decide +kernel
theorem dX8_hangingBoxes_9 : decode cX8_hangingBoxes 9 = .ok (.iconst 2, 1) := by decide +kernel
theorem dX8_hangingBoxes_10 : decode cX8_hangingBoxes 10 = .ok (.iaload, 1) := by decide +kernel
theorem dX8_hangingBoxes_11 : decode cX8_hangingBoxes 11 = .ok (.if_icmp .ge 39, 3) := by decide +kernel
theorem dX8_hangingBoxes_14 : decode cX8_hangingBoxes 14 = .ok (.iload_n 2, 1) := by decide +kernel
theorem dX8_hangingBoxes_15 : decode cX8_hangingBoxes 15 = .ok (.aload_n 0, 1) := by decide +kernel
theorem dX8_hangingBoxes_16 : decode cX8_hangingBoxes 16 = .ok (.iload_n 3, 1) := by decide +kernel
theorem dX8_hangingBoxes_17 : decode cX8_hangingBoxes 17 = .ok (.iconst 1, 1) := by decide +kernel
theorem dX8_hangingBoxes_18 : decode cX8_hangingBoxes 18 = .ok (.invokevirtual 51, 3) := by decide +kernel
theorem dX8_hangingBoxes_21 : decode cX8_hangingBoxes 21 = .ok (.iconst 1, 1) := by decide +kernel
theorem dX8_hangingBoxes_22 : decode cX8_hangingBoxes 22 = .ok (.if_icmp .ne 19, 3) := by decide +kernel
theorem dX8_hangingBoxes_25 : decode cX8_hangingBoxes 25 = .ok (.aload_n 0, 1) := by decide +kernel
theorem dX8_hangingBoxes_26 : decode cX8_hangingBoxes 26 = .ok (.iload_n 3, 1) := by decide +kernel
theorem dX8_hangingBoxes_27 : decode cX8_hangingBoxes 27 = .ok (.iconst 0, 1) := by decide +kernel
theorem dX8_hangingBoxes_28 : decode cX8_hangingBoxes 28 = .ok (.invokevirtual 51, 3) := by decide +kernel
theorem dX8_hangingBoxes_31 : decode cX8_hangingBoxes 31 = .ok (.iload_n 1, 1) := by decide +kernel
theorem dX8_hangingBoxes_32 : decode cX8_hangingBoxes 32 = .ok (.if_icmp .ne 9, 3) := by decide +kernel
theorem dX8_hangingBoxes_35 : decode cX8_hangingBoxes 35 = .ok (.iconst 1, 1) := by decide +kernel
theorem dX8_hangingBoxes_36 : decode cX8_hangingBoxes 36 = .ok (.iload_n 3, 1) := by decide +kernel
theorem dX8_hangingBoxes_37 : decode cX8_hangingBoxes 37 = .ok (.ishl, 1) := by decide +kernel
theorem dX8_hangingBoxes_38 : decode cX8_hangingBoxes 38 = .ok (.goto 4, 3) := by decide +kernel
theorem dX8_hangingBoxes_41 : decode cX8_hangingBoxes 41 = .ok (.iconst 0, 1) := by decide +kernel
theorem dX8_hangingBoxes_42 : decode cX8_hangingBoxes 42 = .ok (.ior, 1) := by decide +kernel
theorem dX8_hangingBoxes_43 : decode cX8_hangingBoxes 43 = .ok (.istore_n 2, 1) := by decide +kernel
theorem dX8_hangingBoxes_44 : decode cX8_hangingBoxes 44 = .ok (.iinc 3 1, 3) := by decide +kernel
theorem dX8_hangingBoxes_47 : decode cX8_hangingBoxes 47 = .ok (.goto (-43), 3) := by decide +kernel
theorem dX8_hangingBoxes_50 : decode cX8_hangingBoxes 50 = .ok (.iload_n 2, 1) := by decide +kernel
theorem dX8_hangingBoxes_51 : decode cX8_hangingBoxes 51 = .ok (.ireturn, 1) := by decide +kernel
theorem dX8_bits_0 : decode cX8_bits 0 = .ok (.iconst 0, 1) := by decide +kernel
theorem dX8_bits_1 : decode cX8_bits 1 = .ok (.istore_n 1, 1) := by decide +kernel
theorem dX8_bits_2 : decode cX8_bits 2 = .ok (.iconst 0, 1) := by decide +kernel
theorem dX8_bits_3 : decode cX8_bits 3 = .ok (.istore_n 2, 1) := by decide +kernel
theorem dX8_bits_4 : decode cX8_bits 4 = .ok (.iload_n 2, 1) := by decide +kernel
theorem dX8_bits_5 : decode cX8_bits 5 = .ok (.bipush 20, 2) := by decide +kernel
theorem dX8_bits_7 : decode cX8_bits 7 = .ok (.if_icmp .ge 17, 3) := by decide +kernel
theorem dX8_bits_10 : decode cX8_bits 10 = .ok (.iload_n 1, 1) := by decide +kernel
theorem dX8_bits_11 : decode cX8_bits 11 = .ok (.iload_n 0, 1) := by decide +kernel
theorem dX8_bits_12 : decode cX8_bits 12 = .ok (.iload_n 2, 1) := by decide +kernel
theorem dX8_bits_13 : decode cX8_bits 13 = .ok (.ishr, 1) := by decide +kernel
theorem dX8_bits_14 : decode cX8_bits 14 = .ok (.iconst 1, 1) := by decide +kernel
theorem dX8_bits_15 : decode cX8_bits 15 = .ok (.iand, 1) := by decide +kernel
theorem dX8_bits_16 : decode cX8_bits 16 = .ok (.iadd, 1) := by decide +kernel
theorem dX8_bits_17 : decode cX8_bits 17 = .ok (.istore_n 1, 1) := by decide +kernel
theorem dX8_bits_18 : decode cX8_bits 18 = .ok (.iinc 2 1, 3) := by decide +kernel
theorem dX8_bits_21 : decode cX8_bits 21 = .ok (.goto (-17), 3) := by decide +kernel
theorem dX8_bits_24 : decode cX8_bits 24 = .ok (.iload_n 1, 1) := by decide +kernel
theorem dX8_bits_25 : decode cX8_bits 25 = .ok (.ireturn, 1) := by decide +kernel
theorem dX8_hangingFrom_0 : decode cX8_hangingFrom 0 = .ok (.aload_n 0, 1) := by decide +kernel
theorem dX8_hangingFrom_1 : decode cX8_hangingFrom 1 = .ok (.iload_n 1, 1) := by decide +kernel
theorem dX8_hangingFrom_2 : decode cX8_hangingFrom 2 = .ok (.invokevirtual 54, 3) := by decide +kernel
theorem dX8_hangingFrom_5 : decode cX8_hangingFrom 5 = .ok (.invokestatic 58, 3) := by decide +kernel
theorem dX8_hangingFrom_8 : decode cX8_hangingFrom 8 = .ok (.aload_n 0, 1) := by decide +kernel
theorem dX8_hangingFrom_9 : decode cX8_hangingFrom 9 = .ok (.iload_n 1, 1) := by decide +kernel
theorem dX8_hangingFrom_10 : decode cX8_hangingFrom 10 = .ok (.invokevirtual 61, 3) := by decide +kernel
theorem dX8_hangingFrom_13 : decode cX8_hangingFrom 13 = .ok (.invokestatic 58, 3) := by decide +kernel
theorem dX8_hangingFrom_16 : decode cX8_hangingFrom 16 = .ok (.iadd, 1) := by decide +kernel
theorem dX8_hangingFrom_17 : decode cX8_hangingFrom 17 = .ok (.ireturn, 1) := by decide +kernel
theorem dX8_makeWrap_0 : decode cX8_makeWrap 0 = .ok (.aload_n 0, 1) := by decide +kernel
theorem dX8_makeWrap_1 : decode cX8_makeWrap 1 = .ok (.getfield 7, 3) := by decide +kernel
theorem dX8_makeWrap_4 : decode cX8_makeWrap 4 = .ok (.iconst 3, 1) := by decide +kernel
theorem dX8_makeWrap_5 : decode cX8_makeWrap 5 = .ok (.iaload, 1) := by decide +kernel
theorem dX8_makeWrap_6 : decode cX8_makeWrap 6 = .ok (.istore 4, 2) := by decide +kernel
theorem dX8_makeWrap_8 : decode cX8_makeWrap 8 = .ok (.aload_n 0, 1) := by decide +kernel
theorem dX8_makeWrap_9 : decode cX8_makeWrap 9 = .ok (.iload 4, 2) := by decide +kernel
theorem dX8_makeWrap_11 : decode cX8_makeWrap 11 = .ok (.iconst 0, 1) := by decide +kernel
theorem dX8_makeWrap_12 : decode cX8_makeWrap 12 = .ok (.iload_n 1, 1) := by decide +kernel
theorem dX8_makeWrap_13 : decode cX8_makeWrap 13 = .ok (.invokevirtual 64, 3) := by decide +kernel
theorem dX8_makeWrap_16 : decode cX8_makeWrap 16 = .ok (.aload_n 0, 1) := by decide +kernel
theorem dX8_makeWrap_17 : decode cX8_makeWrap 17 = .ok (.iload 4, 2) := by decide +kernel
theorem dX8_makeWrap_19 : decode cX8_makeWrap 19 = .ok (.iconst 1, 1) := by decide +kernel
theorem dX8_makeWrap_20 : decode cX8_makeWrap 20 = .ok (.iload_n 2, 1) := by decide +kernel
theorem dX8_makeWrap_21 : decode cX8_makeWrap 21 = .ok (.invokevirtual 64, 3) := by decide +kernel
theorem dX8_makeWrap_24 : decode cX8_makeWrap 24 = .ok (.aload_n 0, 1) := by decide +kernel
theorem dX8_makeWrap_25 : decode cX8_makeWrap 25 = .ok (.iload 4, 2) := by decide +kernel
theorem dX8_makeWrap_27 : decode cX8_makeWrap 27 = .ok (.iconst 2, 1) := by decide +kernel
theorem dX8_makeWrap_28 : decode cX8_makeWrap 28 = .ok (.iload_n 3, 1) := by decide +kernel
theorem dX8_makeWrap_29 : decode cX8_makeWrap 29 = .ok (.invokevirtual 64, 3) := by decide +kernel
theorem dX8_makeWrap_32 : decode cX8_makeWrap 32 = .ok (.aload_n 0, 1) := by decide +kernel
theorem dX8_makeWrap_33 : decode cX8_makeWrap 33 = .ok (.iload 4, 2) := by decide +kernel
theorem dX8_makeWrap_35 : decode cX8_makeWrap 35 = .ok (.iconst 3, 1) := by decide +kernel
theorem dX8_makeWrap_36 : decode cX8_makeWrap 36 = .ok (.aload_n 0, 1) := by decide +kernel
theorem dX8_makeWrap_37 : decode cX8_makeWrap 37 = .ok (.iload_n 3, 1) := by decide +kernel
theorem dX8_makeWrap_38 : decode cX8_makeWrap 38 = .ok (.iconst 2, 1) := by decide +kernel
theorem dX8_makeWrap_39 : decode cX8_makeWrap 39 = .ok (.invokevirtual 44, 3) := by decide +kernel
theorem dX8_makeWrap_42 : decode cX8_makeWrap 42 = .ok (.invokevirtual 64, 3) := by decide +kernel
theorem dX8_makeWrap_45 : decode cX8_makeWrap 45 = .ok (.aload_n 0, 1) := by decide +kernel
theorem dX8_makeWrap_46 : decode cX8_makeWrap 46 = .ok (.iload 4, 2) := by decide +kernel
theorem dX8_makeWrap_48 : decode cX8_makeWrap 48 = .ok (.iconst 4, 1) := by decide +kernel
theorem dX8_makeWrap_49 : decode cX8_makeWrap 49 = .ok (.iconst 1, 1) := by decide +kernel
theorem dX8_makeWrap_50 : decode cX8_makeWrap 50 = .ok (.invokevirtual 64, 3) := by decide +kernel
theorem dX8_makeWrap_53 : decode cX8_makeWrap 53 = .ok (.aload_n 0, 1) := by decide +kernel
theorem dX8_makeWrap_54 : decode cX8_makeWrap 54 = .ok (.iload 4, 2) := by decide +kernel
theorem dX8_makeWrap_56 : decode cX8_makeWrap 56 = .ok (.iconst 5, 1) := by decide +kernel
theorem dX8_makeWrap_57 : decode cX8_makeWrap 57 = .ok (.iconst 0, 1) := by decide +kernel
theorem dX8_makeWrap_58 : decode cX8_makeWrap 58 = .ok (.invokevirtual 64, 3) := by decide +kernel
theorem dX8_makeWrap_61 : decode cX8_makeWrap 61 = .ok (.aload_n 0, 1) := by decide +kernel
theorem dX8_makeWrap_62 : decode cX8_makeWrap 62 = .ok (.iload_n 3, 1) := by decide +kernel
theorem dX8_makeWrap_63 : decode cX8_makeWrap 63 = .ok (.iconst 3, 1) := by decide +kernel
theorem dX8_makeWrap_64 : decode cX8_makeWrap 64 = .ok (.aload_n 0, 1) := by decide +kernel
theorem dX8_makeWrap_65 : decode cX8_makeWrap 65 = .ok (.iload_n 3, 1) := by decide +kernel
theorem dX8_makeWrap_66 : decode cX8_makeWrap 66 = .ok (.iconst 3, 1) := by decide +kernel
theorem dX8_makeWrap_67 : decode cX8_makeWrap 67 = .ok (.invokevirtual 44, 3) := by decide +kernel
theorem dX8_makeWrap_70 : decode cX8_makeWrap 70 = .ok (.iconst 1, 1) := by decide +kernel
theorem dX8_makeWrap_71 : decode cX8_makeWrap 71 = .ok (.iadd, 1) := by decide +kernel
theorem dX8_makeWrap_72 : decode cX8_makeWrap 72 = .ok (.invokevirtual 68, 3) := by decide +kernel
theorem dX8_makeWrap_75 : decode cX8_makeWrap 75 = .ok (.aload_n 0, 1) := by decide +kernel
theorem dX8_makeWrap_76 : decode cX8_makeWrap 76 = .ok (.getfield 7, 3) := by decide +kernel
theorem dX8_makeWrap_79 : decode cX8_makeWrap 79 = .ok (.iconst 3, 1) := by decide +kernel
theorem dX8_makeWrap_80 : decode cX8_makeWrap 80 = .ok (.dup2, 1) := by decide +kernel
theorem dX8_makeWrap_81 : decode cX8_makeWrap 81 = .ok (.iaload, 1) := by decide +kernel
theorem dX8_makeWrap_82 : decode cX8_makeWrap 82 = .ok (.iconst 1, 1) := by decide +kernel
theorem dX8_makeWrap_83 : decode cX8_makeWrap 83 = .ok (.iadd, 1) := by decide +kernel
theorem dX8_makeWrap_84 : decode cX8_makeWrap 84 = .ok (.iastore, 1) := by decide +kernel
theorem dX8_makeWrap_85 : decode cX8_makeWrap 85 = .ok (.return_, 1) := by decide +kernel
theorem dX8_wrapKey_0 : decode cX8_wrapKey 0 = .ok (.aload_n 0, 1) := by decide +kernel
theorem dX8_wrapKey_1 : decode cX8_wrapKey 1 = .ok (.iload_n 1, 1) := by decide +kernel
theorem dX8_wrapKey_2 : decode cX8_wrapKey 2 = .ok (.aload_n 0, 1) := by decide +kernel
theorem dX8_wrapKey_3 : decode cX8_wrapKey 3 = .ok (.iload_n 1, 1) := by decide +kernel
theorem dX8_wrapKey_4 : decode cX8_wrapKey 4 = .ok (.iconst 2, 1) := by decide +kernel
theorem dX8_wrapKey_5 : decode cX8_wrapKey 5 = .ok (.invokevirtual 44, 3) := by decide +kernel
theorem dX8_wrapKey_8 : decode cX8_wrapKey 8 = .ok (.aload_n 0, 1) := by decide +kernel
theorem dX8_wrapKey_9 : decode cX8_wrapKey 9 = .ok (.iload_n 1, 1) := by decide +kernel
theorem dX8_wrapKey_10 : decode cX8_wrapKey 10 = .ok (.iconst 0, 1) := by decide +kernel
theorem dX8_wrapKey_11 : decode cX8_wrapKey 11 = .ok (.invokevirtual 44, 3) := by decide +kernel
theorem dX8_wrapKey_14 : decode cX8_wrapKey 14 = .ok (.invokevirtual 71, 3) := by decide +kernel
theorem dX8_wrapKey_17 : decode cX8_wrapKey 17 = .ok (.return_, 1) := by decide +kernel
theorem dX8_wrapBox_0 : decode cX8_wrapBox 0 = .ok (.aload_n 0, 1) := by decide +kernel
theorem dX8_wrapBox_1 : decode cX8_wrapBox 1 = .ok (.bipush (-6), 2) := by decide +kernel
theorem dX8_wrapBox_3 : decode cX8_wrapBox 3 = .ok (.iload_n 1, 1) := by decide +kernel
theorem dX8_wrapBox_4 : decode cX8_wrapBox 4 = .ok (.aload_n 0, 1) := by decide +kernel
theorem dX8_wrapBox_5 : decode cX8_wrapBox 5 = .ok (.iload_n 1, 1) := by decide +kernel
theorem dX8_wrapBox_6 : decode cX8_wrapBox 6 = .ok (.iconst 0, 1) := by decide +kernel
theorem dX8_wrapBox_7 : decode cX8_wrapBox 7 = .ok (.invokevirtual 51, 3) := by decide +kernel
theorem dX8_wrapBox_10 : decode cX8_wrapBox 10 = .ok (.invokevirtual 71, 3) := by decide +kernel
theorem dX8_wrapBox_13 : decode cX8_wrapBox 13 = .ok (.return_, 1) := by decide +kernel
theorem dX8_wrapAllUnder_0 : decode cX8_wrapAllUnder 0 = .ok (.iconst 0, 1) := by decide +kernel
theorem dX8_wrapAllUnder_1 : decode cX8_wrapAllUnder 1 = .ok (.istore_n 2, 1) := by decide +kernel
theorem dX8_wrapAllUnder_2 : decode cX8_wrapAllUnder 2 = .ok (.iload_n 2, 1) := by decide +kernel
theorem dX8_wrapAllUnder_3 : decode cX8_wrapAllUnder 3 = .ok (.aload_n 0, 1) := by decide +kernel
theorem dX8_wrapAllUnder_4 : decode cX8_wrapAllUnder 4 = .ok (.getfield 7, 3) := by decide +kernel
theorem dX8_wrapAllUnder_7 : decode cX8_wrapAllUnder 7 = .ok (.iconst 1, 1) := by decide +kernel
theorem dX8_wrapAllUnder_8 : decode cX8_wrapAllUnder 8 = .ok (.iaload, 1) := by decide +kernel
theorem dX8_wrapAllUnder_9 : decode cX8_wrapAllUnder 9 = .ok (.if_icmp .ge 34, 3) := by decide +kernel
theorem dX8_wrapAllUnder_12 : decode cX8_wrapAllUnder 12 = .ok (.aload_n 0, 1) := by decide +kernel
theorem dX8_wrapAllUnder_13 : decode cX8_wrapAllUnder 13 = .ok (.iload_n 2, 1) := by decide +kernel
theorem dX8_wrapAllUnder_14 : decode cX8_wrapAllUnder 14 = .ok (.iconst 1, 1) := by decide +kernel
theorem dX8_wrapAllUnder_15 : decode cX8_wrapAllUnder 15 = .ok (.invokevirtual 44, 3) := by decide +kernel
theorem dX8_wrapAllUnder_18 : decode cX8_wrapAllUnder 18 = .ok (.iconst 1, 1) := by decide +kernel
theorem dX8_wrapAllUnder_19 : decode cX8_wrapAllUnder 19 = .ok (.if_icmp .ne 18, 3) := by decide +kernel
theorem dX8_wrapAllUnder_22 : decode cX8_wrapAllUnder 22 = .ok (.aload_n 0, 1) := by decide +kernel
theorem dX8_wrapAllUnder_23 : decode cX8_wrapAllUnder 23 = .ok (.iload_n 2, 1) := by decide +kernel
theorem dX8_wrapAllUnder_24 : decode cX8_wrapAllUnder 24 = .ok (.iconst 0, 1) := by decide +kernel
theorem dX8_wrapAllUnder_25 : decode cX8_wrapAllUnder 25 = .ok (.invokevirtual 44, 3) := by decide +kernel
theorem dX8_wrapAllUnder_28 : decode cX8_wrapAllUnder 28 = .ok (.iload_n 1, 1) := by decide +kernel
theorem dX8_wrapAllUnder_29 : decode cX8_wrapAllUnder 29 = .ok (.if_icmp .ne 8, 3) := by decide +kernel
theorem dX8_wrapAllUnder_32 : decode cX8_wrapAllUnder 32 = .ok (.aload_n 0, 1) := by decide +kernel
theorem dX8_wrapAllUnder_33 : decode cX8_wrapAllUnder 33 = .ok (.iload_n 2, 1) := by decide +kernel
theorem dX8_wrapAllUnder_34 : decode cX8_wrapAllUnder 34 = .ok (.invokevirtual 74, 3) := by decide +kernel
theorem dX8_wrapAllUnder_37 : decode cX8_wrapAllUnder 37 = .ok (.iinc 2 1, 3) := by decide +kernel
theorem dX8_wrapAllUnder_40 : decode cX8_wrapAllUnder 40 = .ok (.goto (-38), 3) := by decide +kernel
theorem dX8_wrapAllUnder_43 : decode cX8_wrapAllUnder 43 = .ok (.iconst 0, 1) := by decide +kernel
theorem dX8_wrapAllUnder_44 : decode cX8_wrapAllUnder 44 = .ok (.istore_n 2, 1) := by decide +kernel
theorem dX8_wrapAllUnder_45 : decode cX8_wrapAllUnder 45 = .ok (.iload_n 2, 1) := by decide +kernel
theorem dX8_wrapAllUnder_46 : decode cX8_wrapAllUnder 46 = .ok (.aload_n 0, 1) := by decide +kernel
theorem dX8_wrapAllUnder_47 : decode cX8_wrapAllUnder 47 = .ok (.getfield 7, 3) := by decide +kernel
theorem dX8_wrapAllUnder_50 : decode cX8_wrapAllUnder 50 = .ok (.iconst 2, 1) := by decide +kernel
theorem dX8_wrapAllUnder_51 : decode cX8_wrapAllUnder 51 = .ok (.iaload, 1) := by decide +kernel
theorem dX8_wrapAllUnder_52 : decode cX8_wrapAllUnder 52 = .ok (.if_icmp .ge 34, 3) := by decide +kernel
theorem dX8_wrapAllUnder_55 : decode cX8_wrapAllUnder 55 = .ok (.aload_n 0, 1) := by decide +kernel
theorem dX8_wrapAllUnder_56 : decode cX8_wrapAllUnder 56 = .ok (.iload_n 2, 1) := by decide +kernel
theorem dX8_wrapAllUnder_57 : decode cX8_wrapAllUnder 57 = .ok (.iconst 1, 1) := by decide +kernel
theorem dX8_wrapAllUnder_58 : decode cX8_wrapAllUnder 58 = .ok (.invokevirtual 51, 3) := by decide +kernel
theorem dX8_wrapAllUnder_61 : decode cX8_wrapAllUnder 61 = .ok (.iconst 1, 1) := by decide +kernel
theorem dX8_wrapAllUnder_62 : decode cX8_wrapAllUnder 62 = .ok (.if_icmp .ne 18, 3) := by decide +kernel
theorem dX8_wrapAllUnder_65 : decode cX8_wrapAllUnder 65 = .ok (.aload_n 0, 1) := by decide +kernel
theorem dX8_wrapAllUnder_66 : decode cX8_wrapAllUnder 66 = .ok (.iload_n 2, 1) := by decide +kernel
theorem dX8_wrapAllUnder_67 : decode cX8_wrapAllUnder 67 = .ok (.iconst 0, 1) := by decide +kernel
theorem dX8_wrapAllUnder_68 : decode cX8_wrapAllUnder 68 = .ok (.invokevirtual 51, 3) := by decide +kernel
theorem dX8_wrapAllUnder_71 : decode cX8_wrapAllUnder 71 = .ok (.iload_n 1, 1) := by decide +kernel
theorem dX8_wrapAllUnder_72 : decode cX8_wrapAllUnder 72 = .ok (.if_icmp .ne 8, 3) := by decide +kernel
theorem dX8_wrapAllUnder_75 : decode cX8_wrapAllUnder 75 = .ok (.aload_n 0, 1) := by decide +kernel
theorem dX8_wrapAllUnder_76 : decode cX8_wrapAllUnder 76 = .ok (.iload_n 2, 1) := by decide +kernel
theorem dX8_wrapAllUnder_77 : decode cX8_wrapAllUnder 77 = .ok (.invokevirtual 78, 3) := by decide +kernel
theorem dX8_wrapAllUnder_80 : decode cX8_wrapAllUnder 80 = .ok (.iinc 2 1, 3) := by decide +kernel
theorem dX8_wrapAllUnder_83 : decode cX8_wrapAllUnder 83 = .ok (.goto (-38), 3) := by decide +kernel
theorem dX8_wrapAllUnder_86 : decode cX8_wrapAllUnder 86 = .ok (.return_, 1) := by decide +kernel
theorem dX8_burns_0 : decode cX8_burns 0 = .ok (.iconst 0, 1) := by decide +kernel
theorem dX8_burns_1 : decode cX8_burns 1 = .ok (.istore_n 1, 1) := by decide +kernel
theorem dX8_burns_2 : decode cX8_burns 2 = .ok (.iload_n 1, 1) := by decide +kernel
theorem dX8_burns_3 : decode cX8_burns 3 = .ok (.aload_n 0, 1) := by decide +kernel
theorem dX8_burns_4 : decode cX8_burns 4 = .ok (.getfield 7, 3) := by decide +kernel
theorem dX8_burns_7 : decode cX8_burns 7 = .ok (.iconst 3, 1) := by decide +kernel
theorem dX8_burns_8 : decode cX8_burns 8 = .ok (.iaload, 1) := by decide +kernel
theorem dX8_burns_9 : decode cX8_burns 9 = .ok (.if_icmp .ge 128, 3) := by decide +kernel
theorem dX8_burns_12 : decode cX8_burns 12 = .ok (.aload_n 0, 1) := by decide +kernel
theorem dX8_burns_13 : decode cX8_burns 13 = .ok (.iload_n 1, 1) := by decide +kernel
theorem dX8_burns_14 : decode cX8_burns 14 = .ok (.iconst 0, 1) := by decide +kernel
theorem dX8_burns_15 : decode cX8_burns 15 = .ok (.invokevirtual 81, 3) := by decide +kernel
theorem dX8_burns_18 : decode cX8_burns 18 = .ok (.istore_n 2, 1) := by decide +kernel
theorem dX8_burns_19 : decode cX8_burns 19 = .ok (.aload_n 0, 1) := by decide +kernel
theorem dX8_burns_20 : decode cX8_burns 20 = .ok (.iload_n 1, 1) := by decide +kernel
theorem dX8_burns_21 : decode cX8_burns 21 = .ok (.iconst 2, 1) := by decide +kernel
theorem dX8_burns_22 : decode cX8_burns 22 = .ok (.invokevirtual 81, 3) := by decide +kernel
theorem dX8_burns_25 : decode cX8_burns 25 = .ok (.istore_n 3, 1) := by decide +kernel
theorem dX8_burns_26 : decode cX8_burns 26 = .ok (.aload_n 0, 1) := by decide +kernel
theorem dX8_burns_27 : decode cX8_burns 27 = .ok (.iload_n 1, 1) := by decide +kernel
theorem dX8_burns_28 : decode cX8_burns 28 = .ok (.iconst 3, 1) := by decide +kernel
theorem dX8_burns_29 : decode cX8_burns 29 = .ok (.invokevirtual 81, 3) := by decide +kernel
theorem dX8_burns_32 : decode cX8_burns 32 = .ok (.aload_n 0, 1) := by decide +kernel
theorem dX8_burns_33 : decode cX8_burns 33 = .ok (.iload_n 3, 1) := by decide +kernel
theorem dX8_burns_34 : decode cX8_burns 34 = .ok (.iconst 2, 1) := by decide +kernel
theorem dX8_burns_35 : decode cX8_burns 35 = .ok (.invokevirtual 44, 3) := by decide +kernel
theorem dX8_burns_38 : decode cX8_burns 38 = .ok (.if_icmp .ge 7, 3) := by decide +kernel
theorem dX8_burns_41 : decode cX8_burns 41 = .ok (.iconst 1, 1) := by decide +kernel
theorem dX8_burns_42 : decode cX8_burns 42 = .ok (.goto 4, 3) := by decide +kernel
theorem dX8_burns_45 : decode cX8_burns 45 = .ok (.iconst 0, 1) := by decide +kernel
theorem dX8_burns_46 : decode cX8_burns 46 = .ok (.istore 4, 2) := by decide +kernel
theorem dX8_burns_48 : decode cX8_burns 48 = .ok (.iload_n 2, 1) := by decide +kernel
theorem dX8_burns_49 : decode cX8_burns 49 = .ok (.bipush (-6), 2) := by decide +kernel
theorem dX8_burns_51 : decode cX8_burns 51 = .ok (.if_icmp .ne 32, 3) := by decide +kernel
theorem dX8_burns_54 : decode cX8_burns 54 = .ok (.iload 4, 2) := by decide +kernel
theorem dX8_burns_56 : decode cX8_burns 56 = .ok (.ifCond .ne 17, 3) := by decide +kernel
theorem dX8_burns_59 : decode cX8_burns 59 = .ok (.aload_n 0, 1) := by decide +kernel
theorem dX8_burns_60 : decode cX8_burns 60 = .ok (.aload_n 0, 1) := by decide +kernel
theorem dX8_burns_61 : decode cX8_burns 61 = .ok (.iload_n 1, 1) := by decide +kernel
theorem dX8_burns_62 : decode cX8_burns 62 = .ok (.iconst 1, 1) := by decide +kernel
theorem dX8_burns_63 : decode cX8_burns 63 = .ok (.invokevirtual 81, 3) := by decide +kernel
theorem dX8_burns_66 : decode cX8_burns 66 = .ok (.iconst 1, 1) := by decide +kernel
theorem dX8_burns_67 : decode cX8_burns 67 = .ok (.invokevirtual 51, 3) := by decide +kernel
theorem dX8_burns_70 : decode cX8_burns 70 = .ok (.ifCond .ne 7, 3) := by decide +kernel
theorem dX8_burns_73 : decode cX8_burns 73 = .ok (.iconst 1, 1) := by decide +kernel
theorem dX8_burns_74 : decode cX8_burns 74 = .ok (.goto 4, 3) := by decide +kernel
theorem dX8_burns_77 : decode cX8_burns 77 = .ok (.iconst 0, 1) := by decide +kernel
theorem dX8_burns_78 : decode cX8_burns 78 = .ok (.istore 4, 2) := by decide +kernel
theorem dX8_burns_80 : decode cX8_burns 80 = .ok (.goto 39, 3) := by decide +kernel
theorem dX8_burns_83 : decode cX8_burns 83 = .ok (.iload 4, 2) := by decide +kernel
theorem dX8_burns_85 : decode cX8_burns 85 = .ok (.ifCond .ne 27, 3) := by decide +kernel
theorem dX8_burns_88 : decode cX8_burns 88 = .ok (.aload_n 0, 1) := by decide +kernel
theorem dX8_burns_89 : decode cX8_burns 89 = .ok (.iload_n 2, 1) := by decide +kernel
theorem dX8_burns_90 : decode cX8_burns 90 = .ok (.iconst 1, 1) := by decide +kernel
theorem dX8_burns_91 : decode cX8_burns 91 = .ok (.invokevirtual 44, 3) := by decide +kernel
theorem dX8_burns_94 : decode cX8_burns 94 = .ok (.ifCond .eq 18, 3) := by decide +kernel
theorem dX8_burns_97 : decode cX8_burns 97 = .ok (.aload_n 0, 1) := by decide +kernel
theorem dX8_burns_98 : decode cX8_burns 98 = .ok (.iload_n 1, 1) := by decide +kernel
theorem dX8_burns_99 : decode cX8_burns 99 = .ok (.iconst 1, 1) := by decide +kernel
theorem dX8_burns_100 : decode cX8_burns 100 = .ok (.invokevirtual 81, 3) := by decide +kernel
theorem dX8_burns_103 : decode cX8_burns 103 = .ok (.aload_n 0, 1) := by decide +kernel
theorem dX8_burns_104 : decode cX8_burns 104 = .ok (.iload_n 2, 1) := by decide +kernel
theorem dX8_burns_105 : decode cX8_burns 105 = .ok (.iconst 2, 1) := by decide +kernel
theorem dX8_burns_106 : decode cX8_burns 106 = .ok (.invokevirtual 44, 3) := by decide +kernel
theorem dX8_burns_109 : decode cX8_burns 109 = .ok (.if_icmp .ge 7, 3) := by decide +kernel
theorem dX8_burns_112 : decode cX8_burns 112 = .ok (.iconst 1, 1) := by decide +kernel
theorem dX8_burns_113 : decode cX8_burns 113 = .ok (.goto 4, 3) := by decide +kernel
theorem dX8_burns_116 : decode cX8_burns 116 = .ok (.iconst 0, 1) := by decide +kernel
theorem dX8_burns_117 : decode cX8_burns 117 = .ok (.istore 4, 2) := by decide +kernel
theorem dX8_burns_119 : decode cX8_burns 119 = .ok (.iload 4, 2) := by decide +kernel
theorem dX8_burns_121 : decode cX8_burns 121 = .ok (.ifCond .eq 10, 3) := by decide +kernel
theorem dX8_burns_124 : decode cX8_burns 124 = .ok (.aload_n 0, 1) := by decide +kernel
theorem dX8_burns_125 : decode cX8_burns 125 = .ok (.iload_n 1, 1) := by decide +kernel
theorem dX8_burns_126 : decode cX8_burns 126 = .ok (.iconst 4, 1) := by decide +kernel
theorem dX8_burns_127 : decode cX8_burns 127 = .ok (.iconst 0, 1) := by decide +kernel
theorem dX8_burns_128 : decode cX8_burns 128 = .ok (.invokevirtual 64, 3) := by decide +kernel
theorem dX8_burns_131 : decode cX8_burns 131 = .ok (.iinc 1 1, 3) := by decide +kernel
theorem dX8_burns_134 : decode cX8_burns 134 = .ok (.goto (-132), 3) := by decide +kernel
theorem dX8_burns_137 : decode cX8_burns 137 = .ok (.return_, 1) := by decide +kernel
theorem dX8_isInSafe_0 : decode cX8_isInSafe 0 = .ok (.aload_n 0, 1) := by decide +kernel
theorem dX8_isInSafe_1 : decode cX8_isInSafe 1 = .ok (.iload_n 1, 1) := by decide +kernel
theorem dX8_isInSafe_2 : decode cX8_isInSafe 2 = .ok (.iconst 1, 1) := by decide +kernel
theorem dX8_isInSafe_3 : decode cX8_isInSafe 3 = .ok (.invokevirtual 44, 3) := by decide +kernel
theorem dX8_isInSafe_6 : decode cX8_isInSafe 6 = .ok (.iconst 1, 1) := by decide +kernel
theorem dX8_isInSafe_7 : decode cX8_isInSafe 7 = .ok (.if_icmp .ne 25, 3) := by decide +kernel
theorem dX8_isInSafe_10 : decode cX8_isInSafe 10 = .ok (.aload_n 0, 1) := by decide +kernel
theorem dX8_isInSafe_11 : decode cX8_isInSafe 11 = .ok (.iload_n 1, 1) := by decide +kernel
theorem dX8_isInSafe_12 : decode cX8_isInSafe 12 = .ok (.invokevirtual 84, 3) := by decide +kernel
theorem dX8_isInSafe_15 : decode cX8_isInSafe 15 = .ok (.ifCond .eq 17, 3) := by decide +kernel
theorem dX8_isInSafe_18 : decode cX8_isInSafe 18 = .ok (.aload_n 0, 1) := by decide +kernel
theorem dX8_isInSafe_19 : decode cX8_isInSafe 19 = .ok (.iload_n 1, 1) := by decide +kernel
theorem dX8_isInSafe_20 : decode cX8_isInSafe 20 = .ok (.iconst 2, 1) := by decide +kernel
theorem dX8_isInSafe_21 : decode cX8_isInSafe 21 = .ok (.invokevirtual 44, 3) := by decide +kernel
theorem dX8_isInSafe_24 : decode cX8_isInSafe 24 = .ok (.iload_n 2, 1) := by decide +kernel
theorem dX8_isInSafe_25 : decode cX8_isInSafe 25 = .ok (.if_icmp .ne 7, 3) := by decide +kernel
theorem dX8_isInSafe_28 : decode cX8_isInSafe 28 = .ok (.iconst 1, 1) := by decide +kernel
theorem dX8_isInSafe_29 : decode cX8_isInSafe 29 = .ok (.goto 4, 3) := by decide +kernel
theorem dX8_isInSafe_32 : decode cX8_isInSafe 32 = .ok (.iconst 0, 1) := by decide +kernel
theorem dX8_isInSafe_33 : decode cX8_isInSafe 33 = .ok (.ireturn, 1) := by decide +kernel
theorem dX8_isHad_0 : decode cX8_isHad 0 = .ok (.iload_n 3, 1) := by decide +kernel
theorem dX8_isHad_1 : decode cX8_isHad 1 = .ok (.bipush (-6), 2) := by decide +kernel
theorem dX8_isHad_3 : decode cX8_isHad 3 = .ok (.if_icmp .ne 12, 3) := by decide +kernel
theorem dX8_isHad_6 : decode cX8_isHad 6 = .ok (.aload_n 0, 1) := by decide +kernel
theorem dX8_isHad_7 : decode cX8_isHad 7 = .ok (.iload_n 1, 1) := by decide +kernel
theorem dX8_isHad_8 : decode cX8_isHad 8 = .ok (.iload_n 2, 1) := by decide +kernel
theorem dX8_isHad_9 : decode cX8_isHad 9 = .ok (.invokevirtual 87, 3) := by decide +kernel
theorem dX8_isHad_12 : decode cX8_isHad 12 = .ok (.goto 19, 3) := by decide +kernel
theorem dX8_isHad_15 : decode cX8_isHad 15 = .ok (.iload_n 1, 1) := by decide +kernel
theorem dX8_isHad_16 : decode cX8_isHad 16 = .ok (.iload_n 3, 1) := by decide +kernel
theorem dX8_isHad_17 : decode cX8_isHad 17 = .ok (.if_icmp .ne 13, 3) := by decide +kernel
theorem dX8_isHad_20 : decode cX8_isHad 20 = .ok (.iload_n 2, 1) := by decide +kernel
theorem dX8_isHad_21 : decode cX8_isHad 21 = .ok (.iload 4, 2) := by decide +kernel
theorem dX8_isHad_23 : decode cX8_isHad 23 = .ok (.if_icmp .ne 7, 3) := by decide +kernel
theorem dX8_isHad_26 : decode cX8_isHad 26 = .ok (.iconst 1, 1) := by decide +kernel
theorem dX8_isHad_27 : decode cX8_isHad 27 = .ok (.goto 4, 3) := by decide +kernel
theorem dX8_isHad_30 : decode cX8_isHad 30 = .ok (.iconst 0, 1) := by decide +kernel
theorem dX8_isHad_31 : decode cX8_isHad 31 = .ok (.istore 5, 2) := by decide +kernel
theorem dX8_isHad_33 : decode cX8_isHad 33 = .ok (.iconst 0, 1) := by decide +kernel
theorem dX8_isHad_34 : decode cX8_isHad 34 = .ok (.istore 6, 2) := by decide +kernel
theorem dX8_isHad_36 : decode cX8_isHad 36 = .ok (.iload 6, 2) := by decide +kernel
theorem dX8_isHad_38 : decode cX8_isHad 38 = .ok (.aload_n 0, 1) := by decide +kernel
theorem dX8_isHad_39 : decode cX8_isHad 39 = .ok (.getfield 7, 3) := by decide +kernel
theorem dX8_isHad_42 : decode cX8_isHad 42 = .ok (.iconst 3, 1) := by decide +kernel
theorem dX8_isHad_43 : decode cX8_isHad 43 = .ok (.iaload, 1) := by decide +kernel
theorem dX8_isHad_44 : decode cX8_isHad 44 = .ok (.if_icmp .ge 54, 3) := by decide +kernel
theorem dX8_isHad_47 : decode cX8_isHad 47 = .ok (.iload 5, 2) := by decide +kernel
theorem dX8_isHad_49 : decode cX8_isHad 49 = .ok (.ifCond .ne 49, 3) := by decide +kernel
theorem dX8_isHad_52 : decode cX8_isHad 52 = .ok (.aload_n 0, 1) := by decide +kernel
theorem dX8_isHad_53 : decode cX8_isHad 53 = .ok (.getfield 25, 3) := by decide +kernel
theorem dX8_isHad_56 : decode cX8_isHad 56 = .ok (.iload 6, 2) := by decide +kernel
theorem dX8_isHad_58 : decode cX8_isHad 58 = .ok (.iaload, 1) := by decide +kernel
theorem dX8_isHad_59 : decode cX8_isHad 59 = .ok (.iconst 1, 1) := by decide +kernel
theorem dX8_isHad_60 : decode cX8_isHad 60 = .ok (.if_icmp .ne 29, 3) := by decide +kernel
theorem dX8_isHad_63 : decode cX8_isHad 63 = .ok (.aload_n 0, 1) := by decide +kernel
theorem dX8_isHad_64 : decode cX8_isHad 64 = .ok (.iload 6, 2) := by decide +kernel
theorem dX8_isHad_66 : decode cX8_isHad 66 = .ok (.iconst 0, 1) := by decide +kernel
theorem dX8_isHad_67 : decode cX8_isHad 67 = .ok (.invokevirtual 81, 3) := by decide +kernel
theorem dX8_isHad_70 : decode cX8_isHad 70 = .ok (.iload_n 1, 1) := by decide +kernel
theorem dX8_isHad_71 : decode cX8_isHad 71 = .ok (.if_icmp .ne 18, 3) := by decide +kernel
theorem dX8_isHad_74 : decode cX8_isHad 74 = .ok (.aload_n 0, 1) := by decide +kernel
theorem dX8_isHad_75 : decode cX8_isHad 75 = .ok (.iload 6, 2) := by decide +kernel
theorem dX8_isHad_77 : decode cX8_isHad 77 = .ok (.iconst 1, 1) := by decide +kernel
theorem dX8_isHad_78 : decode cX8_isHad 78 = .ok (.invokevirtual 81, 3) := by decide +kernel
theorem dX8_isHad_81 : decode cX8_isHad 81 = .ok (.iload_n 2, 1) := by decide +kernel
theorem dX8_isHad_82 : decode cX8_isHad 82 = .ok (.if_icmp .ne 7, 3) := by decide +kernel
theorem dX8_isHad_85 : decode cX8_isHad 85 = .ok (.iconst 1, 1) := by decide +kernel
theorem dX8_isHad_86 : decode cX8_isHad 86 = .ok (.goto 4, 3) := by decide +kernel
theorem dX8_isHad_89 : decode cX8_isHad 89 = .ok (.iconst 0, 1) := by decide +kernel
theorem dX8_isHad_90 : decode cX8_isHad 90 = .ok (.istore 5, 2) := by decide +kernel
theorem dX8_isHad_92 : decode cX8_isHad 92 = .ok (.iinc 6 1, 3) := by decide +kernel
theorem dX8_isHad_95 : decode cX8_isHad 95 = .ok (.goto (-59), 3) := by decide +kernel
theorem dX8_isHad_98 : decode cX8_isHad 98 = .ok (.iload 5, 2) := by decide +kernel
theorem dX8_isHad_100 : decode cX8_isHad 100 = .ok (.ireturn, 1) := by decide +kernel
theorem dX8_open_0 : decode cX8_open 0 = .ok (.iconst 0, 1) := by decide +kernel
theorem dX8_open_1 : decode cX8_open 1 = .ok (.istore 4, 2) := by decide +kernel
theorem dX8_open_3 : decode cX8_open 3 = .ok (.iload 4, 2) := by decide +kernel
theorem dX8_open_5 : decode cX8_open 5 = .ok (.aload_n 0, 1) := by decide +kernel
theorem dX8_open_6 : decode cX8_open 6 = .ok (.getfield 7, 3) := by decide +kernel
theorem dX8_open_9 : decode cX8_open 9 = .ok (.iconst 3, 1) := by decide +kernel
theorem dX8_open_10 : decode cX8_open 10 = .ok (.iaload, 1) := by decide +kernel
theorem dX8_open_11 : decode cX8_open 11 = .ok (.if_icmp .ge 17, 3) := by decide +kernel
theorem dX8_open_14 : decode cX8_open 14 = .ok (.aload_n 0, 1) := by decide +kernel
theorem dX8_open_15 : decode cX8_open 15 = .ok (.getfield 25, 3) := by decide +kernel
theorem dX8_open_18 : decode cX8_open 18 = .ok (.iload 4, 2) := by decide +kernel
theorem dX8_open_20 : decode cX8_open 20 = .ok (.iconst 0, 1) := by decide +kernel
theorem dX8_open_21 : decode cX8_open 21 = .ok (.iastore, 1) := by decide +kernel
theorem dX8_open_22 : decode cX8_open 22 = .ok (.iinc 4 1, 3) := by decide +kernel
theorem dX8_open_25 : decode cX8_open 25 = .ok (.goto (-22), 3) := by decide +kernel
theorem dX8_open_28 : decode cX8_open 28 = .ok (.iconst 1, 1) := by decide +kernel
theorem dX8_open_29 : decode cX8_open 29 = .ok (.istore 4, 2) := by decide +kernel
theorem dX8_open_31 : decode cX8_open 31 = .ok (.iload 4, 2) := by decide +kernel
theorem dX8_open_33 : decode cX8_open 33 = .ok (.ifCond .eq 114, 3) := by decide +kernel
theorem dX8_open_36 : decode cX8_open 36 = .ok (.iconst 0, 1) := by decide +kernel
theorem dX8_open_37 : decode cX8_open 37 = .ok (.istore 4, 2) := by decide +kernel
theorem dX8_open_39 : decode cX8_open 39 = .ok (.iconst 0, 1) := by decide +kernel
theorem dX8_open_40 : decode cX8_open 40 = .ok (.istore 5, 2) := by decide +kernel
theorem dX8_open_42 : decode cX8_open 42 = .ok (.iload 5, 2) := by decide +kernel
theorem dX8_open_44 : decode cX8_open 44 = .ok (.aload_n 0, 1) := by decide +kernel
theorem dX8_open_45 : decode cX8_open 45 = .ok (.getfield 7, 3) := by decide +kernel
theorem dX8_open_48 : decode cX8_open 48 = .ok (.iconst 3, 1) := by decide +kernel
theorem dX8_open_49 : decode cX8_open 49 = .ok (.iaload, 1) := by decide +kernel
theorem dX8_open_50 : decode cX8_open 50 = .ok (.if_icmp .ge 94, 3) := by decide +kernel
theorem dX8_open_53 : decode cX8_open 53 = .ok (.aload_n 0, 1) := by decide +kernel
theorem dX8_open_54 : decode cX8_open 54 = .ok (.iload 5, 2) := by decide +kernel
theorem dX8_open_56 : decode cX8_open 56 = .ok (.iconst 5, 1) := by decide +kernel
theorem dX8_open_57 : decode cX8_open 57 = .ok (.invokevirtual 81, 3) := by decide +kernel
theorem dX8_open_60 : decode cX8_open 60 = .ok (.iload_n 1, 1) := by decide +kernel
theorem dX8_open_61 : decode cX8_open 61 = .ok (.iand, 1) := by decide +kernel
theorem dX8_open_62 : decode cX8_open 62 = .ok (.ifCond .ne 20, 3) := by decide +kernel
theorem dX8_open_65 : decode cX8_open 65 = .ok (.iload_n 2, 1) := by decide +kernel
theorem dX8_open_66 : decode cX8_open 66 = .ok (.bipush (-6), 2) := by decide +kernel
theorem dX8_open_68 : decode cX8_open 68 = .ok (.if_icmp .ne 18, 3) := by decide +kernel
theorem dX8_open_71 : decode cX8_open 71 = .ok (.aload_n 0, 1) := by decide +kernel
theorem dX8_open_72 : decode cX8_open 72 = .ok (.iload 5, 2) := by decide +kernel
theorem dX8_open_74 : decode cX8_open 74 = .ok (.iconst 4, 1) := by decide +kernel
theorem dX8_open_75 : decode cX8_open 75 = .ok (.invokevirtual 81, 3) := by decide +kernel
theorem dX8_open_78 : decode cX8_open 78 = .ok (.iconst 1, 1) := by decide +kernel
theorem dX8_open_79 : decode cX8_open 79 = .ok (.if_icmp .ne 7, 3) := by decide +kernel
theorem dX8_open_82 : decode cX8_open 82 = .ok (.iconst 1, 1) := by decide +kernel
theorem dX8_open_83 : decode cX8_open 83 = .ok (.goto 4, 3) := by decide +kernel
theorem dX8_open_86 : decode cX8_open 86 = .ok (.iconst 0, 1) := by decide +kernel
theorem dX8_open_87 : decode cX8_open 87 = .ok (.istore 6, 2) := by decide +kernel
theorem dX8_open_89 : decode cX8_open 89 = .ok (.aload_n 0, 1) := by decide +kernel
theorem dX8_open_90 : decode cX8_open 90 = .ok (.getfield 25, 3) := by decide +kernel
theorem dX8_open_93 : decode cX8_open 93 = .ok (.iload 5, 2) := by decide +kernel
theorem dX8_open_95 : decode cX8_open 95 = .ok (.iaload, 1) := by decide +kernel
theorem dX8_open_96 : decode cX8_open 96 = .ok (.ifCond .ne 42, 3) := by decide +kernel
theorem dX8_open_99 : decode cX8_open 99 = .ok (.iload 6, 2) := by decide +kernel
theorem dX8_open_101 : decode cX8_open 101 = .ok (.ifCond .eq 37, 3) := by decide +kernel
theorem dX8_open_104 : decode cX8_open 104 = .ok (.aload_n 0, 1) := by decide +kernel
theorem dX8_open_105 : decode cX8_open 105 = .ok (.aload_n 0, 1) := by decide +kernel
theorem dX8_open_106 : decode cX8_open 106 = .ok (.iload 5, 2) := by decide +kernel
theorem dX8_open_108 : decode cX8_open 108 = .ok (.iconst 2, 1) := by decide +kernel
theorem dX8_open_109 : decode cX8_open 109 = .ok (.invokevirtual 81, 3) := by decide +kernel
theorem dX8_open_112 : decode cX8_open 112 = .ok (.aload_n 0, 1) := by decide +kernel
theorem dX8_open_113 : decode cX8_open 113 = .ok (.iload 5, 2) := by decide +kernel
theorem dX8_open_115 : decode cX8_open 115 = .ok (.iconst 3, 1) := by decide +kernel
theorem dX8_open_116 : decode cX8_open 116 = .ok (.invokevirtual 81, 3) := by decide +kernel
theorem dX8_open_119 : decode cX8_open 119 = .ok (.iload_n 2, 1) := by decide +kernel
theorem dX8_open_120 : decode cX8_open 120 = .ok (.iload_n 3, 1) := by decide +kernel
theorem dX8_open_121 : decode cX8_open 121 = .ok (.invokevirtual 91, 3) := by decide +kernel
theorem dX8_open_124 : decode cX8_open 124 = .ok (.ifCond .eq 14, 3) := by decide +kernel
theorem dX8_open_127 : decode cX8_open 127 = .ok (.aload_n 0, 1) := by decide +kernel
theorem dX8_open_128 : decode cX8_open 128 = .ok (.getfield 25, 3) := by decide +kernel
theorem dX8_open_131 : decode cX8_open 131 = .ok (.iload 5, 2) := by decide +kernel
theorem dX8_open_133 : decode cX8_open 133 = .ok (.iconst 1, 1) := by decide +kernel
theorem dX8_open_134 : decode cX8_open 134 = .ok (.iastore, 1) := by decide +kernel
theorem dX8_open_135 : decode cX8_open 135 = .ok (.iconst 1, 1) := by decide +kernel
theorem dX8_open_136 : decode cX8_open 136 = .ok (.istore 4, 2) := by decide +kernel
theorem dX8_open_138 : decode cX8_open 138 = .ok (.iinc 5 1, 3) := by decide +kernel
theorem dX8_open_141 : decode cX8_open 141 = .ok (.goto (-99), 3) := by decide +kernel
theorem dX8_open_144 : decode cX8_open 144 = .ok (.goto (-113), 3) := by decide +kernel
theorem dX8_open_147 : decode cX8_open 147 = .ok (.return_, 1) := by decide +kernel
theorem dX8_openBoxes_0 : decode cX8_openBoxes 0 = .ok (.iconst 0, 1) := by decide +kernel
theorem dX8_openBoxes_1 : decode cX8_openBoxes 1 = .ok (.istore_n 1, 1) := by decide +kernel
theorem dX8_openBoxes_2 : decode cX8_openBoxes 2 = .ok (.iconst 0, 1) := by decide +kernel
theorem dX8_openBoxes_3 : decode cX8_openBoxes 3 = .ok (.istore_n 2, 1) := by decide +kernel
theorem dX8_openBoxes_4 : decode cX8_openBoxes 4 = .ok (.iload_n 2, 1) := by decide +kernel
theorem dX8_openBoxes_5 : decode cX8_openBoxes 5 = .ok (.aload_n 0, 1) := by decide +kernel
theorem dX8_openBoxes_6 : decode cX8_openBoxes 6 = .ok (.getfield 7, 3) := by decide +kernel
theorem dX8_openBoxes_9 : decode cX8_openBoxes 9 = .ok (.iconst 3, 1) := by decide +kernel
theorem dX8_openBoxes_10 : decode cX8_openBoxes 10 = .ok (.iaload, 1) := by decide +kernel
theorem dX8_openBoxes_11 : decode cX8_openBoxes 11 = .ok (.if_icmp .ge 45, 3) := by decide +kernel
theorem dX8_openBoxes_14 : decode cX8_openBoxes 14 = .ok (.iload_n 1, 1) := by decide +kernel
theorem dX8_openBoxes_15 : decode cX8_openBoxes 15 = .ok (.aload_n 0, 1) := by decide +kernel
theorem dX8_openBoxes_16 : decode cX8_openBoxes 16 = .ok (.getfield 25, 3) := by decide +kernel
theorem dX8_openBoxes_19 : decode cX8_openBoxes 19 = .ok (.iload_n 2, 1) := by decide +kernel
theorem dX8_openBoxes_20 : decode cX8_openBoxes 20 = .ok (.iaload, 1) := by decide +kernel
theorem dX8_openBoxes_21 : decode cX8_openBoxes 21 = .ok (.iconst 1, 1) := by decide +kernel
theorem dX8_openBoxes_22 : decode cX8_openBoxes 22 = .ok (.if_icmp .ne 25, 3) := by decide +kernel
theorem dX8_openBoxes_25 : decode cX8_openBoxes 25 = .ok (.aload_n 0, 1) := by decide +kernel
theorem dX8_openBoxes_26 : decode cX8_openBoxes 26 = .ok (.iload_n 2, 1) := by decide +kernel
theorem dX8_openBoxes_27 : decode cX8_openBoxes 27 = .ok (.iconst 0, 1) := by decide +kernel
theorem dX8_openBoxes_28 : decode cX8_openBoxes 28 = .ok (.invokevirtual 81, 3) := by decide +kernel
theorem dX8_openBoxes_31 : decode cX8_openBoxes 31 = .ok (.bipush (-6), 2) := by decide +kernel
theorem dX8_openBoxes_33 : decode cX8_openBoxes 33 = .ok (.if_icmp .ne 14, 3) := by decide +kernel
theorem dX8_openBoxes_36 : decode cX8_openBoxes 36 = .ok (.iconst 1, 1) := by decide +kernel
theorem dX8_openBoxes_37 : decode cX8_openBoxes 37 = .ok (.aload_n 0, 1) := by decide +kernel
theorem dX8_openBoxes_38 : decode cX8_openBoxes 38 = .ok (.iload_n 2, 1) := by decide +kernel
theorem dX8_openBoxes_39 : decode cX8_openBoxes 39 = .ok (.iconst 1, 1) := by decide +kernel
theorem dX8_openBoxes_40 : decode cX8_openBoxes 40 = .ok (.invokevirtual 81, 3) := by decide +kernel
theorem dX8_openBoxes_43 : decode cX8_openBoxes 43 = .ok (.ishl, 1) := by decide +kernel
theorem dX8_openBoxes_44 : decode cX8_openBoxes 44 = .ok (.goto 4, 3) := by decide +kernel
theorem dX8_openBoxes_47 : decode cX8_openBoxes 47 = .ok (.iconst 0, 1) := by decide +kernel
theorem dX8_openBoxes_48 : decode cX8_openBoxes 48 = .ok (.ior, 1) := by decide +kernel
theorem dX8_openBoxes_49 : decode cX8_openBoxes 49 = .ok (.istore_n 1, 1) := by decide +kernel
theorem dX8_openBoxes_50 : decode cX8_openBoxes 50 = .ok (.iinc 2 1, 3) := by decide +kernel
theorem dX8_openBoxes_53 : decode cX8_openBoxes 53 = .ok (.goto (-49), 3) := by decide +kernel
theorem dX8_openBoxes_56 : decode cX8_openBoxes 56 = .ok (.iload_n 1, 1) := by decide +kernel
theorem dX8_openBoxes_57 : decode cX8_openBoxes 57 = .ok (.ireturn, 1) := by decide +kernel
theorem dX8_openWith_0 : decode cX8_openWith 0 = .ok (.aload_n 0, 1) := by decide +kernel
theorem dX8_openWith_1 : decode cX8_openWith 1 = .ok (.iload_n 1, 1) := by decide +kernel
theorem dX8_openWith_2 : decode cX8_openWith 2 = .ok (.bipush (-6), 2) := by decide +kernel
theorem dX8_openWith_4 : decode cX8_openWith 4 = .ok (.iconst 0, 1) := by decide +kernel
theorem dX8_openWith_5 : decode cX8_openWith 5 = .ok (.invokevirtual 95, 3) := by decide +kernel
theorem dX8_openWith_8 : decode cX8_openWith 8 = .ok (.aload_n 0, 1) := by decide +kernel
theorem dX8_openWith_9 : decode cX8_openWith 9 = .ok (.invokevirtual 98, 3) := by decide +kernel
theorem dX8_openWith_12 : decode cX8_openWith 12 = .ok (.ireturn, 1) := by decide +kernel
theorem dX8_wear_0 : decode cX8_wear 0 = .ok (.iload_n 1, 1) := by decide +kernel
theorem dX8_wear_1 : decode cX8_wear 1 = .ok (.iconst 2, 1) := by decide +kernel
theorem dX8_wear_2 : decode cX8_wear 2 = .ok (.bipush 30, 2) := by decide +kernel
theorem dX8_wear_4 : decode cX8_wear 4 = .ok (.invokestatic 36, 3) := by decide +kernel
theorem dX8_wear_7 : decode cX8_wear 7 = .ok (.ifCond .ne 6, 3) := by decide +kernel
theorem dX8_wear_10 : decode cX8_wear 10 = .ok (.bipush (-2), 2) := by decide +kernel
theorem dX8_wear_12 : decode cX8_wear 12 = .ok (.ireturn, 1) := by decide +kernel
theorem dX8_wear_13 : decode cX8_wear 13 = .ok (.aload_n 0, 1) := by decide +kernel
theorem dX8_wear_14 : decode cX8_wear 14 = .ok (.invokevirtual 102, 3) := by decide +kernel
theorem dX8_wear_17 : decode cX8_wear 17 = .ok (.aload_n 0, 1) := by decide +kernel
theorem dX8_wear_18 : decode cX8_wear 18 = .ok (.getfield 7, 3) := by decide +kernel
theorem dX8_wear_21 : decode cX8_wear 21 = .ok (.iconst 0, 1) := by decide +kernel
theorem dX8_wear_22 : decode cX8_wear 22 = .ok (.iaload, 1) := by decide +kernel
theorem dX8_wear_23 : decode cX8_wear 23 = .ok (.istore_n 2, 1) := by decide +kernel
theorem dX8_wear_24 : decode cX8_wear 24 = .ok (.aload_n 0, 1) := by decide +kernel
theorem dX8_wear_25 : decode cX8_wear 25 = .ok (.getfield 7, 3) := by decide +kernel
theorem dX8_wear_28 : decode cX8_wear 28 = .ok (.iconst 0, 1) := by decide +kernel
theorem dX8_wear_29 : decode cX8_wear 29 = .ok (.iload_n 1, 1) := by decide +kernel
theorem dX8_wear_30 : decode cX8_wear 30 = .ok (.iastore, 1) := by decide +kernel
theorem dX8_wear_31 : decode cX8_wear 31 = .ok (.iload_n 2, 1) := by decide +kernel
theorem dX8_wear_32 : decode cX8_wear 32 = .ok (.ireturn, 1) := by decide +kernel
theorem dX8_whyNoKey_0 : decode cX8_whyNoKey 0 = .ok (.iload_n 1, 1) := by decide +kernel
theorem dX8_whyNoKey_1 : decode cX8_whyNoKey 1 = .ok (.bipush (-6), 2) := by decide +kernel
theorem dX8_whyNoKey_3 : decode cX8_whyNoKey 3 = .ok (.if_icmp .eq 13, 3) := by decide +kernel
theorem dX8_whyNoKey_6 : decode cX8_whyNoKey 6 = .ok (.aload_n 0, 1) := by decide +kernel
theorem dX8_whyNoKey_7 : decode cX8_whyNoKey 7 = .ok (.iload_n 1, 1) := by decide +kernel
theorem dX8_whyNoKey_8 : decode cX8_whyNoKey 8 = .ok (.invokevirtual 105, 3) := by decide +kernel
theorem dX8_whyNoKey_11 : decode cX8_whyNoKey 11 = .ok (.ifCond .ne 5, 3) := by decide +kernel
theorem dX8_whyNoKey_14 : decode cX8_whyNoKey 14 = .ok (.iconst (-1), 1) := by decide +kernel
theorem dX8_whyNoKey_15 : decode cX8_whyNoKey 15 = .ok (.ireturn, 1) := by decide +kernel
theorem dX8_whyNoKey_16 : decode cX8_whyNoKey 16 = .ok (.aload_n 0, 1) := by decide +kernel
theorem dX8_whyNoKey_17 : decode cX8_whyNoKey 17 = .ok (.getfield 7, 3) := by decide +kernel
theorem dX8_whyNoKey_20 : decode cX8_whyNoKey 20 = .ok (.iconst 1, 1) := by decide +kernel
theorem dX8_whyNoKey_21 : decode cX8_whyNoKey 21 = .ok (.iaload, 1) := by decide +kernel
theorem dX8_whyNoKey_22 : decode cX8_whyNoKey 22 = .ok (.bipush 20, 2) := by decide +kernel
theorem dX8_whyNoKey_24 : decode cX8_whyNoKey 24 = .ok (.if_icmp .eq 20, 3) := by decide +kernel
theorem dX8_whyNoKey_27 : decode cX8_whyNoKey 27 = .ok (.iload_n 1, 1) := by decide +kernel
theorem dX8_whyNoKey_28 : decode cX8_whyNoKey 28 = .ok (.bipush (-6), 2) := by decide +kernel
theorem dX8_whyNoKey_30 : decode cX8_whyNoKey 30 = .ok (.if_icmp .eq 17, 3) := by decide +kernel
theorem dX8_whyNoKey_33 : decode cX8_whyNoKey 33 = .ok (.aload_n 0, 1) := by decide +kernel
theorem dX8_whyNoKey_34 : decode cX8_whyNoKey 34 = .ok (.getfield 7, 3) := by decide +kernel
theorem dX8_whyNoKey_37 : decode cX8_whyNoKey 37 = .ok (.iconst 3, 1) := by decide +kernel
theorem dX8_whyNoKey_38 : decode cX8_whyNoKey 38 = .ok (.iaload, 1) := by decide +kernel
theorem dX8_whyNoKey_39 : decode cX8_whyNoKey 39 = .ok (.bipush 120, 2) := by decide +kernel
theorem dX8_whyNoKey_41 : decode cX8_whyNoKey 41 = .ok (.if_icmp .ne 6, 3) := by decide +kernel
theorem dX8_whyNoKey_44 : decode cX8_whyNoKey 44 = .ok (.bipush (-4), 2) := by decide +kernel
theorem dX8_whyNoKey_46 : decode cX8_whyNoKey 46 = .ok (.ireturn, 1) := by decide +kernel
theorem dX8_whyNoKey_47 : decode cX8_whyNoKey 47 = .ok (.iload_n 1, 1) := by decide +kernel
theorem dX8_whyNoKey_48 : decode cX8_whyNoKey 48 = .ok (.bipush (-6), 2) := by decide +kernel
theorem dX8_whyNoKey_50 : decode cX8_whyNoKey 50 = .ok (.if_icmp .eq 16, 3) := by decide +kernel
theorem dX8_whyNoKey_53 : decode cX8_whyNoKey 53 = .ok (.aload_n 0, 1) := by decide +kernel
theorem dX8_whyNoKey_54 : decode cX8_whyNoKey 54 = .ok (.iload_n 1, 1) := by decide +kernel
theorem dX8_whyNoKey_55 : decode cX8_whyNoKey 55 = .ok (.invokevirtual 108, 3) := by decide +kernel
theorem dX8_whyNoKey_58 : decode cX8_whyNoKey 58 = .ok (.ifCond .ne 8, 3) := by decide +kernel
theorem dX8_whyNoKey_61 : decode cX8_whyNoKey 61 = .ok (.bipush (-5), 2) := by decide +kernel
theorem dX8_whyNoKey_63 : decode cX8_whyNoKey 63 = .ok (.goto 4, 3) := by decide +kernel
theorem dX8_whyNoKey_66 : decode cX8_whyNoKey 66 = .ok (.iconst 0, 1) := by decide +kernel
theorem dX8_whyNoKey_67 : decode cX8_whyNoKey 67 = .ok (.ireturn, 1) := by decide +kernel
theorem dX8_makeKey_0 : decode cX8_makeKey 0 = .ok (.aload_n 0, 1) := by decide +kernel
theorem dX8_makeKey_1 : decode cX8_makeKey 1 = .ok (.getfield 7, 3) := by decide +kernel
theorem dX8_makeKey_4 : decode cX8_makeKey 4 = .ok (.iconst 1, 1) := by decide +kernel
theorem dX8_makeKey_5 : decode cX8_makeKey 5 = .ok (.iaload, 1) := by decide +kernel
theorem dX8_makeKey_6 : decode cX8_makeKey 6 = .ok (.istore_n 2, 1) := by decide +kernel
theorem dX8_makeKey_7 : decode cX8_makeKey 7 = .ok (.aload_n 0, 1) := by decide +kernel
theorem dX8_makeKey_8 : decode cX8_makeKey 8 = .ok (.iload_n 2, 1) := by decide +kernel
theorem dX8_makeKey_9 : decode cX8_makeKey 9 = .ok (.iconst 0, 1) := by decide +kernel
theorem dX8_makeKey_10 : decode cX8_makeKey 10 = .ok (.iload_n 1, 1) := by decide +kernel
theorem dX8_makeKey_11 : decode cX8_makeKey 11 = .ok (.invokevirtual 68, 3) := by decide +kernel
theorem dX8_makeKey_14 : decode cX8_makeKey 14 = .ok (.aload_n 0, 1) := by decide +kernel
theorem dX8_makeKey_15 : decode cX8_makeKey 15 = .ok (.iload_n 2, 1) := by decide +kernel
theorem dX8_makeKey_16 : decode cX8_makeKey 16 = .ok (.iconst 1, 1) := by decide +kernel
theorem dX8_makeKey_17 : decode cX8_makeKey 17 = .ok (.iconst 1, 1) := by decide +kernel
theorem dX8_makeKey_18 : decode cX8_makeKey 18 = .ok (.invokevirtual 68, 3) := by decide +kernel
theorem dX8_makeKey_21 : decode cX8_makeKey 21 = .ok (.aload_n 0, 1) := by decide +kernel
theorem dX8_makeKey_22 : decode cX8_makeKey 22 = .ok (.iload_n 2, 1) := by decide +kernel
theorem dX8_makeKey_23 : decode cX8_makeKey 23 = .ok (.iconst 2, 1) := by decide +kernel
theorem dX8_makeKey_24 : decode cX8_makeKey 24 = .ok (.iconst 0, 1) := by decide +kernel
theorem dX8_makeKey_25 : decode cX8_makeKey 25 = .ok (.invokevirtual 68, 3) := by decide +kernel
theorem dX8_makeKey_28 : decode cX8_makeKey 28 = .ok (.aload_n 0, 1) := by decide +kernel
theorem dX8_makeKey_29 : decode cX8_makeKey 29 = .ok (.iload_n 2, 1) := by decide +kernel
theorem dX8_makeKey_30 : decode cX8_makeKey 30 = .ok (.iconst 3, 1) := by decide +kernel
theorem dX8_makeKey_31 : decode cX8_makeKey 31 = .ok (.iconst 0, 1) := by decide +kernel
theorem dX8_makeKey_32 : decode cX8_makeKey 32 = .ok (.invokevirtual 68, 3) := by decide +kernel
theorem dX8_makeKey_35 : decode cX8_makeKey 35 = .ok (.aload_n 0, 1) := by decide +kernel
theorem dX8_makeKey_36 : decode cX8_makeKey 36 = .ok (.getfield 7, 3) := by decide +kernel
theorem dX8_makeKey_39 : decode cX8_makeKey 39 = .ok (.iconst 1, 1) := by decide +kernel
theorem dX8_makeKey_40 : decode cX8_makeKey 40 = .ok (.dup2, 1) := by decide +kernel
theorem dX8_makeKey_41 : decode cX8_makeKey 41 = .ok (.iaload, 1) := by decide +kernel
theorem dX8_makeKey_42 : decode cX8_makeKey 42 = .ok (.iconst 1, 1) := by decide +kernel
theorem dX8_makeKey_43 : decode cX8_makeKey 43 = .ok (.iadd, 1) := by decide +kernel
theorem dX8_makeKey_44 : decode cX8_makeKey 44 = .ok (.iastore, 1) := by decide +kernel
theorem dX8_makeKey_45 : decode cX8_makeKey 45 = .ok (.iload_n 1, 1) := by decide +kernel
theorem dX8_makeKey_46 : decode cX8_makeKey 46 = .ok (.bipush (-6), 2) := by decide +kernel
theorem dX8_makeKey_48 : decode cX8_makeKey 48 = .ok (.if_icmp .eq 8, 3) := by decide +kernel
theorem dX8_makeKey_51 : decode cX8_makeKey 51 = .ok (.aload_n 0, 1) := by decide +kernel
theorem dX8_makeKey_52 : decode cX8_makeKey 52 = .ok (.iload_n 2, 1) := by decide +kernel
theorem dX8_makeKey_53 : decode cX8_makeKey 53 = .ok (.invokevirtual 74, 3) := by decide +kernel
theorem dX8_makeKey_56 : decode cX8_makeKey 56 = .ok (.iload_n 2, 1) := by decide +kernel
theorem dX8_makeKey_57 : decode cX8_makeKey 57 = .ok (.ireturn, 1) := by decide +kernel
theorem dX8_key_0 : decode cX8_key 0 = .ok (.aload_n 0, 1) := by decide +kernel
theorem dX8_key_1 : decode cX8_key 1 = .ok (.iload_n 1, 1) := by decide +kernel
theorem dX8_key_2 : decode cX8_key 2 = .ok (.invokevirtual 111, 3) := by decide +kernel
theorem dX8_key_5 : decode cX8_key 5 = .ok (.istore_n 2, 1) := by decide +kernel
theorem dX8_key_6 : decode cX8_key 6 = .ok (.iload_n 2, 1) := by decide +kernel
theorem dX8_key_7 : decode cX8_key 7 = .ok (.ifCond .ge 5, 3) := by decide +kernel
theorem dX8_key_10 : decode cX8_key 10 = .ok (.iload_n 2, 1) := by decide +kernel
theorem dX8_key_11 : decode cX8_key 11 = .ok (.ireturn, 1) := by decide +kernel
theorem dX8_key_12 : decode cX8_key 12 = .ok (.aload_n 0, 1) := by decide +kernel
theorem dX8_key_13 : decode cX8_key 13 = .ok (.invokevirtual 102, 3) := by decide +kernel
theorem dX8_key_16 : decode cX8_key 16 = .ok (.aload_n 0, 1) := by decide +kernel
theorem dX8_key_17 : decode cX8_key 17 = .ok (.iload_n 1, 1) := by decide +kernel
theorem dX8_key_18 : decode cX8_key 18 = .ok (.invokevirtual 114, 3) := by decide +kernel
theorem dX8_key_21 : decode cX8_key 21 = .ok (.ireturn, 1) := by decide +kernel
theorem dX8_whyNoBox_0 : decode cX8_whyNoBox 0 = .ok (.aload_n 0, 1) := by decide +kernel
theorem dX8_whyNoBox_1 : decode cX8_whyNoBox 1 = .ok (.iload_n 1, 1) := by decide +kernel
theorem dX8_whyNoBox_2 : decode cX8_whyNoBox 2 = .ok (.invokevirtual 105, 3) := by decide +kernel
theorem dX8_whyNoBox_5 : decode cX8_whyNoBox 5 = .ok (.ifCond .ne 5, 3) := by decide +kernel
theorem dX8_whyNoBox_8 : decode cX8_whyNoBox 8 = .ok (.iconst (-1), 1) := by decide +kernel
theorem dX8_whyNoBox_9 : decode cX8_whyNoBox 9 = .ok (.ireturn, 1) := by decide +kernel
theorem dX8_whyNoBox_10 : decode cX8_whyNoBox 10 = .ok (.aload_n 0, 1) := by decide +kernel
theorem dX8_whyNoBox_11 : decode cX8_whyNoBox 11 = .ok (.getfield 7, 3) := by decide +kernel
theorem dX8_whyNoBox_14 : decode cX8_whyNoBox 14 = .ok (.iconst 2, 1) := by decide +kernel
theorem dX8_whyNoBox_15 : decode cX8_whyNoBox 15 = .ok (.iaload, 1) := by decide +kernel
theorem dX8_whyNoBox_16 : decode cX8_whyNoBox 16 = .ok (.bipush 20, 2) := by decide +kernel
theorem dX8_whyNoBox_18 : decode cX8_whyNoBox 18 = .ok (.if_icmp .eq 14, 3) := by decide +kernel
theorem dX8_whyNoBox_21 : decode cX8_whyNoBox 21 = .ok (.aload_n 0, 1) := by decide +kernel
theorem dX8_whyNoBox_22 : decode cX8_whyNoBox 22 = .ok (.getfield 7, 3) := by decide +kernel
theorem dX8_whyNoBox_25 : decode cX8_whyNoBox 25 = .ok (.iconst 3, 1) := by decide +kernel
theorem dX8_whyNoBox_26 : decode cX8_whyNoBox 26 = .ok (.iaload, 1) := by decide +kernel
theorem dX8_whyNoBox_27 : decode cX8_whyNoBox 27 = .ok (.bipush 120, 2) := by decide +kernel
theorem dX8_whyNoBox_29 : decode cX8_whyNoBox 29 = .ok (.if_icmp .ne 8, 3) := by decide +kernel
theorem dX8_whyNoBox_32 : decode cX8_whyNoBox 32 = .ok (.bipush (-4), 2) := by decide +kernel
theorem dX8_whyNoBox_34 : decode cX8_whyNoBox 34 = .ok (.goto 17, 3) := by decide +kernel
theorem dX8_whyNoBox_37 : decode cX8_whyNoBox 37 = .ok (.aload_n 0, 1) := by decide +kernel
theorem dX8_whyNoBox_38 : decode cX8_whyNoBox 38 = .ok (.iload_n 1, 1) := by decide +kernel
theorem dX8_whyNoBox_39 : decode cX8_whyNoBox 39 = .ok (.invokevirtual 108, 3) := by decide +kernel
theorem dX8_whyNoBox_42 : decode cX8_whyNoBox 42 = .ok (.ifCond .eq 7, 3) := by decide +kernel
theorem dX8_whyNoBox_45 : decode cX8_whyNoBox 45 = .ok (.iconst 0, 1) := by decide +kernel
theorem dX8_whyNoBox_46 : decode cX8_whyNoBox 46 = .ok (.goto 5, 3) := by decide +kernel
theorem dX8_whyNoBox_49 : decode cX8_whyNoBox 49 = .ok (.bipush (-5), 2) := by decide +kernel
theorem dX8_whyNoBox_51 : decode cX8_whyNoBox 51 = .ok (.ireturn, 1) := by decide +kernel
theorem dX8_makeBox_0 : decode cX8_makeBox 0 = .ok (.aload_n 0, 1) := by decide +kernel
theorem dX8_makeBox_1 : decode cX8_makeBox 1 = .ok (.getfield 7, 3) := by decide +kernel
theorem dX8_makeBox_4 : decode cX8_makeBox 4 = .ok (.iconst 2, 1) := by decide +kernel
theorem dX8_makeBox_5 : decode cX8_makeBox 5 = .ok (.iaload, 1) := by decide +kernel
theorem dX8_makeBox_6 : decode cX8_makeBox 6 = .ok (.istore_n 2, 1) := by decide +kernel
theorem dX8_makeBox_7 : decode cX8_makeBox 7 = .ok (.aload_n 0, 1) := by decide +kernel
theorem dX8_makeBox_8 : decode cX8_makeBox 8 = .ok (.iload_n 2, 1) := by decide +kernel
theorem dX8_makeBox_9 : decode cX8_makeBox 9 = .ok (.iconst 0, 1) := by decide +kernel
theorem dX8_makeBox_10 : decode cX8_makeBox 10 = .ok (.iload_n 1, 1) := by decide +kernel
theorem dX8_makeBox_11 : decode cX8_makeBox 11 = .ok (.invokevirtual 117, 3) := by decide +kernel
theorem dX8_makeBox_14 : decode cX8_makeBox 14 = .ok (.aload_n 0, 1) := by decide +kernel
theorem dX8_makeBox_15 : decode cX8_makeBox 15 = .ok (.iload_n 2, 1) := by decide +kernel
theorem dX8_makeBox_16 : decode cX8_makeBox 16 = .ok (.iconst 1, 1) := by decide +kernel
theorem dX8_makeBox_17 : decode cX8_makeBox 17 = .ok (.iconst 1, 1) := by decide +kernel
theorem dX8_makeBox_18 : decode cX8_makeBox 18 = .ok (.invokevirtual 117, 3) := by decide +kernel
theorem dX8_makeBox_21 : decode cX8_makeBox 21 = .ok (.aload_n 0, 1) := by decide +kernel
theorem dX8_makeBox_22 : decode cX8_makeBox 22 = .ok (.getfield 7, 3) := by decide +kernel
theorem dX8_makeBox_25 : decode cX8_makeBox 25 = .ok (.iconst 2, 1) := by decide +kernel
theorem dX8_makeBox_26 : decode cX8_makeBox 26 = .ok (.dup2, 1) := by decide +kernel
theorem dX8_makeBox_27 : decode cX8_makeBox 27 = .ok (.iaload, 1) := by decide +kernel
theorem dX8_makeBox_28 : decode cX8_makeBox 28 = .ok (.iconst 1, 1) := by decide +kernel
theorem dX8_makeBox_29 : decode cX8_makeBox 29 = .ok (.iadd, 1) := by decide +kernel
theorem dX8_makeBox_30 : decode cX8_makeBox 30 = .ok (.iastore, 1) := by decide +kernel
theorem dX8_makeBox_31 : decode cX8_makeBox 31 = .ok (.aload_n 0, 1) := by decide +kernel
theorem dX8_makeBox_32 : decode cX8_makeBox 32 = .ok (.iload_n 2, 1) := by decide +kernel
theorem dX8_makeBox_33 : decode cX8_makeBox 33 = .ok (.invokevirtual 78, 3) := by decide +kernel
theorem dX8_makeBox_36 : decode cX8_makeBox 36 = .ok (.iload_n 2, 1) := by decide +kernel
theorem dX8_makeBox_37 : decode cX8_makeBox 37 = .ok (.ireturn, 1) := by decide +kernel
theorem dX8_box_0 : decode cX8_box 0 = .ok (.aload_n 0, 1) := by decide +kernel
theorem dX8_box_1 : decode cX8_box 1 = .ok (.iload_n 1, 1) := by decide +kernel
theorem dX8_box_2 : decode cX8_box 2 = .ok (.invokevirtual 120, 3) := by decide +kernel
theorem dX8_box_5 : decode cX8_box 5 = .ok (.istore_n 2, 1) := by decide +kernel
theorem dX8_box_6 : decode cX8_box 6 = .ok (.iload_n 2, 1) := by decide +kernel
theorem dX8_box_7 : decode cX8_box 7 = .ok (.ifCond .ge 5, 3) := by decide +kernel
theorem dX8_box_10 : decode cX8_box 10 = .ok (.iload_n 2, 1) := by decide +kernel
theorem dX8_box_11 : decode cX8_box 11 = .ok (.ireturn, 1) := by decide +kernel
theorem dX8_box_12 : decode cX8_box 12 = .ok (.aload_n 0, 1) := by decide +kernel
theorem dX8_box_13 : decode cX8_box 13 = .ok (.invokevirtual 102, 3) := by decide +kernel
theorem dX8_box_16 : decode cX8_box 16 = .ok (.aload_n 0, 1) := by decide +kernel
theorem dX8_box_17 : decode cX8_box 17 = .ok (.iload_n 1, 1) := by decide +kernel
theorem dX8_box_18 : decode cX8_box 18 = .ok (.invokevirtual 123, 3) := by decide +kernel
theorem dX8_box_21 : decode cX8_box 21 = .ok (.ireturn, 1) := by decide +kernel
theorem dX8_whyNoCopy_0 : decode cX8_whyNoCopy 0 = .ok (.iload_n 1, 1) := by decide +kernel
theorem dX8_whyNoCopy_1 : decode cX8_whyNoCopy 1 = .ok (.iconst 0, 1) := by decide +kernel
theorem dX8_whyNoCopy_2 : decode cX8_whyNoCopy 2 = .ok (.aload_n 0, 1) := by decide +kernel
theorem dX8_whyNoCopy_3 : decode cX8_whyNoCopy 3 = .ok (.getfield 7, 3) := by decide +kernel
theorem dX8_whyNoCopy_6 : decode cX8_whyNoCopy 6 = .ok (.iconst 3, 1) := by decide +kernel
theorem dX8_whyNoCopy_7 : decode cX8_whyNoCopy 7 = .ok (.iaload, 1) := by decide +kernel
theorem dX8_whyNoCopy_8 : decode cX8_whyNoCopy 8 = .ok (.iconst 1, 1) := by decide +kernel
theorem dX8_whyNoCopy_9 : decode cX8_whyNoCopy 9 = .ok (.isub, 1) := by decide +kernel
theorem dX8_whyNoCopy_10 : decode cX8_whyNoCopy 10 = .ok (.invokestatic 36, 3) := by decide +kernel
theorem dX8_whyNoCopy_13 : decode cX8_whyNoCopy 13 = .ok (.ifCond .ne 5, 3) := by decide +kernel
theorem dX8_whyNoCopy_16 : decode cX8_whyNoCopy 16 = .ok (.iconst (-1), 1) := by decide +kernel
theorem dX8_whyNoCopy_17 : decode cX8_whyNoCopy 17 = .ok (.ireturn, 1) := by decide +kernel
theorem dX8_whyNoCopy_18 : decode cX8_whyNoCopy 18 = .ok (.iload_n 2, 1) := by decide +kernel
theorem dX8_whyNoCopy_19 : decode cX8_whyNoCopy 19 = .ok (.iconst 0, 1) := by decide +kernel
theorem dX8_whyNoCopy_20 : decode cX8_whyNoCopy 20 = .ok (.iconst 2, 1) := by decide +kernel
theorem dX8_whyNoCopy_21 : decode cX8_whyNoCopy 21 = .ok (.invokestatic 36, 3) := by decide +kernel
theorem dX8_whyNoCopy_24 : decode cX8_whyNoCopy 24 = .ok (.ifCond .ne 6, 3) := by decide +kernel
theorem dX8_whyNoCopy_27 : decode cX8_whyNoCopy 27 = .ok (.bipush (-2), 2) := by decide +kernel
theorem dX8_whyNoCopy_29 : decode cX8_whyNoCopy 29 = .ok (.ireturn, 1) := by decide +kernel
theorem dX8_whyNoCopy_30 : decode cX8_whyNoCopy 30 = .ok (.aload_n 0, 1) := by decide +kernel
theorem dX8_whyNoCopy_31 : decode cX8_whyNoCopy 31 = .ok (.iload_n 1, 1) := by decide +kernel
theorem dX8_whyNoCopy_32 : decode cX8_whyNoCopy 32 = .ok (.iconst 4, 1) := by decide +kernel
theorem dX8_whyNoCopy_33 : decode cX8_whyNoCopy 33 = .ok (.invokevirtual 81, 3) := by decide +kernel
theorem dX8_whyNoCopy_36 : decode cX8_whyNoCopy 36 = .ok (.ifCond .eq 17, 3) := by decide +kernel
theorem dX8_whyNoCopy_39 : decode cX8_whyNoCopy 39 = .ok (.aload_n 0, 1) := by decide +kernel
theorem dX8_whyNoCopy_40 : decode cX8_whyNoCopy 40 = .ok (.iload_n 1, 1) := by decide +kernel
theorem dX8_whyNoCopy_41 : decode cX8_whyNoCopy 41 = .ok (.iconst 5, 1) := by decide +kernel
theorem dX8_whyNoCopy_42 : decode cX8_whyNoCopy 42 = .ok (.invokevirtual 81, 3) := by decide +kernel
theorem dX8_whyNoCopy_45 : decode cX8_whyNoCopy 45 = .ok (.iload_n 2, 1) := by decide +kernel
theorem dX8_whyNoCopy_46 : decode cX8_whyNoCopy 46 = .ok (.ishr, 1) := by decide +kernel
theorem dX8_whyNoCopy_47 : decode cX8_whyNoCopy 47 = .ok (.iconst 1, 1) := by decide +kernel
theorem dX8_whyNoCopy_48 : decode cX8_whyNoCopy 48 = .ok (.iand, 1) := by decide +kernel
theorem dX8_whyNoCopy_49 : decode cX8_whyNoCopy 49 = .ok (.iconst 1, 1) := by decide +kernel
theorem dX8_whyNoCopy_50 : decode cX8_whyNoCopy 50 = .ok (.if_icmp .ne 8, 3) := by decide +kernel
theorem dX8_whyNoCopy_53 : decode cX8_whyNoCopy 53 = .ok (.bipush (-5), 2) := by decide +kernel
theorem dX8_whyNoCopy_55 : decode cX8_whyNoCopy 55 = .ok (.goto 4, 3) := by decide +kernel
theorem dX8_whyNoCopy_58 : decode cX8_whyNoCopy 58 = .ok (.iconst 0, 1) := by decide +kernel
theorem dX8_whyNoCopy_59 : decode cX8_whyNoCopy 59 = .ok (.ireturn, 1) := by decide +kernel
theorem dX8_copied_0 : decode cX8_copied 0 = .ok (.aload_n 0, 1) := by decide +kernel
theorem dX8_copied_1 : decode cX8_copied 1 = .ok (.iload_n 1, 1) := by decide +kernel
theorem dX8_copied_2 : decode cX8_copied 2 = .ok (.iconst 5, 1) := by decide +kernel
theorem dX8_copied_3 : decode cX8_copied 3 = .ok (.aload_n 0, 1) := by decide +kernel
theorem dX8_copied_4 : decode cX8_copied 4 = .ok (.iload_n 1, 1) := by decide +kernel
theorem dX8_copied_5 : decode cX8_copied 5 = .ok (.iconst 5, 1) := by decide +kernel
theorem dX8_copied_6 : decode cX8_copied 6 = .ok (.invokevirtual 81, 3) := by decide +kernel
theorem dX8_copied_9 : decode cX8_copied 9 = .ok (.iconst 1, 1) := by decide +kernel
theorem dX8_copied_10 : decode cX8_copied 10 = .ok (.iload_n 2, 1) := by decide +kernel
theorem dX8_copied_11 : decode cX8_copied 11 = .ok (.ishl, 1) := by decide +kernel
theorem dX8_copied_12 : decode cX8_copied 12 = .ok (.ior, 1) := by decide +kernel
theorem dX8_copied_13 : decode cX8_copied 13 = .ok (.invokevirtual 64, 3) := by decide +kernel
theorem dX8_copied_16 : decode cX8_copied 16 = .ok (.iconst 0, 1) := by decide +kernel
theorem dX8_copied_17 : decode cX8_copied 17 = .ok (.istore_n 3, 1) := by decide +kernel
theorem dX8_copied_18 : decode cX8_copied 18 = .ok (.iconst 0, 1) := by decide +kernel
theorem dX8_copied_19 : decode cX8_copied 19 = .ok (.istore 4, 2) := by decide +kernel
theorem dX8_copied_21 : decode cX8_copied 21 = .ok (.iload 4, 2) := by decide +kernel
theorem dX8_copied_23 : decode cX8_copied 23 = .ok (.aload_n 0, 1) := by decide +kernel
theorem dX8_copied_24 : decode cX8_copied 24 = .ok (.getfield 7, 3) := by decide +kernel
theorem dX8_copied_27 : decode cX8_copied 27 = .ok (.iconst 3, 1) := by decide +kernel
theorem dX8_copied_28 : decode cX8_copied 28 = .ok (.iaload, 1) := by decide +kernel
theorem dX8_copied_29 : decode cX8_copied 29 = .ok (.if_icmp .ge 23, 3) := by decide +kernel
theorem dX8_copied_32 : decode cX8_copied 32 = .ok (.iload_n 3, 1) := by decide +kernel
theorem dX8_copied_33 : decode cX8_copied 33 = .ok (.aload_n 0, 1) := by decide +kernel
theorem dX8_copied_34 : decode cX8_copied 34 = .ok (.iload 4, 2) := by decide +kernel
theorem dX8_copied_36 : decode cX8_copied 36 = .ok (.iconst 5, 1) := by decide +kernel
theorem dX8_copied_37 : decode cX8_copied 37 = .ok (.invokevirtual 81, 3) := by decide +kernel
theorem dX8_copied_40 : decode cX8_copied 40 = .ok (.iload_n 2, 1) := by decide +kernel
theorem dX8_copied_41 : decode cX8_copied 41 = .ok (.ishr, 1) := by decide +kernel
theorem dX8_copied_42 : decode cX8_copied 42 = .ok (.iconst 1, 1) := by decide +kernel
theorem dX8_copied_43 : decode cX8_copied 43 = .ok (.iand, 1) := by decide +kernel
theorem dX8_copied_44 : decode cX8_copied 44 = .ok (.iadd, 1) := by decide +kernel
theorem dX8_copied_45 : decode cX8_copied 45 = .ok (.istore_n 3, 1) := by decide +kernel
theorem dX8_copied_46 : decode cX8_copied 46 = .ok (.iinc 4 1, 3) := by decide +kernel
theorem dX8_copied_49 : decode cX8_copied 49 = .ok (.goto (-28), 3) := by decide +kernel
theorem dX8_copied_52 : decode cX8_copied 52 = .ok (.iload_n 3, 1) := by decide +kernel
theorem dX8_copied_53 : decode cX8_copied 53 = .ok (.ireturn, 1) := by decide +kernel
theorem dX8_copy_0 : decode cX8_copy 0 = .ok (.aload_n 0, 1) := by decide +kernel
theorem dX8_copy_1 : decode cX8_copy 1 = .ok (.iload_n 1, 1) := by decide +kernel
theorem dX8_copy_2 : decode cX8_copy 2 = .ok (.iload_n 2, 1) := by decide +kernel
theorem dX8_copy_3 : decode cX8_copy 3 = .ok (.invokevirtual 126, 3) := by decide +kernel
theorem dX8_copy_6 : decode cX8_copy 6 = .ok (.istore_n 3, 1) := by decide +kernel
theorem dX8_copy_7 : decode cX8_copy 7 = .ok (.iload_n 3, 1) := by decide +kernel
theorem dX8_copy_8 : decode cX8_copy 8 = .ok (.ifCond .ge 5, 3) := by decide +kernel
theorem dX8_copy_11 : decode cX8_copy 11 = .ok (.iload_n 3, 1) := by decide +kernel
theorem dX8_copy_12 : decode cX8_copy 12 = .ok (.ireturn, 1) := by decide +kernel
theorem dX8_copy_13 : decode cX8_copy 13 = .ok (.aload_n 0, 1) := by decide +kernel
theorem dX8_copy_14 : decode cX8_copy 14 = .ok (.invokevirtual 102, 3) := by decide +kernel
theorem dX8_copy_17 : decode cX8_copy 17 = .ok (.aload_n 0, 1) := by decide +kernel
theorem dX8_copy_18 : decode cX8_copy 18 = .ok (.iload_n 1, 1) := by decide +kernel
theorem dX8_copy_19 : decode cX8_copy 19 = .ok (.iload_n 2, 1) := by decide +kernel
theorem dX8_copy_20 : decode cX8_copy 20 = .ok (.invokevirtual 129, 3) := by decide +kernel
theorem dX8_copy_23 : decode cX8_copy 23 = .ok (.ireturn, 1) := by decide +kernel
theorem dX8_renewMakes_0 : decode cX8_renewMakes 0 = .ok (.aload_n 0, 1) := by decide +kernel
theorem dX8_renewMakes_1 : decode cX8_renewMakes 1 = .ok (.iload_n 1, 1) := by decide +kernel
theorem dX8_renewMakes_2 : decode cX8_renewMakes 2 = .ok (.invokevirtual 132, 3) := by decide +kernel
theorem dX8_renewMakes_5 : decode cX8_renewMakes 5 = .ok (.aload_n 0, 1) := by decide +kernel
theorem dX8_renewMakes_6 : decode cX8_renewMakes 6 = .ok (.iload_n 1, 1) := by decide +kernel
theorem dX8_renewMakes_7 : decode cX8_renewMakes 7 = .ok (.invokevirtual 84, 3) := by decide +kernel
theorem dX8_renewMakes_10 : decode cX8_renewMakes 10 = .ok (.ifCond .eq 7, 3) := by decide +kernel
theorem dX8_renewMakes_13 : decode cX8_renewMakes 13 = .ok (.iconst 0, 1) := by decide +kernel
theorem dX8_renewMakes_14 : decode cX8_renewMakes 14 = .ok (.goto 4, 3) := by decide +kernel
theorem dX8_renewMakes_17 : decode cX8_renewMakes 17 = .ok (.iconst 1, 1) := by decide +kernel
theorem dX8_renewMakes_18 : decode cX8_renewMakes 18 = .ok (.iadd, 1) := by decide +kernel
theorem dX8_renewMakes_19 : decode cX8_renewMakes 19 = .ok (.ireturn, 1) := by decide +kernel
theorem dX8_whyNotRenewed_0 : decode cX8_whyNotRenewed 0 = .ok (.aload_n 0, 1) := by decide +kernel
theorem dX8_whyNotRenewed_1 : decode cX8_whyNotRenewed 1 = .ok (.iload_n 1, 1) := by decide +kernel
theorem dX8_whyNotRenewed_2 : decode cX8_whyNotRenewed 2 = .ok (.invokevirtual 105, 3) := by decide +kernel
theorem dX8_whyNotRenewed_5 : decode cX8_whyNotRenewed 5 = .ok (.ifCond .ne 5, 3) := by decide +kernel
theorem dX8_whyNotRenewed_8 : decode cX8_whyNotRenewed 8 = .ok (.iconst (-1), 1) := by decide +kernel
theorem dX8_whyNotRenewed_9 : decode cX8_whyNotRenewed 9 = .ok (.ireturn, 1) := by decide +kernel
theorem dX8_whyNotRenewed_10 : decode cX8_whyNotRenewed 10 = .ok (.aload_n 0, 1) := by decide +kernel
theorem dX8_whyNotRenewed_11 : decode cX8_whyNotRenewed 11 = .ok (.getfield 7, 3) := by decide +kernel
theorem dX8_whyNotRenewed_14 : decode cX8_whyNotRenewed 14 = .ok (.iconst 3, 1) := by decide +kernel
theorem dX8_whyNotRenewed_15 : decode cX8_whyNotRenewed 15 = .ok (.iaload, 1) := by decide +kernel
theorem dX8_whyNotRenewed_16 : decode cX8_whyNotRenewed 16 = .ok (.aload_n 0, 1) := by decide +kernel
theorem dX8_whyNotRenewed_17 : decode cX8_whyNotRenewed 17 = .ok (.iload_n 1, 1) := by decide +kernel
theorem dX8_whyNotRenewed_18 : decode cX8_whyNotRenewed 18 = .ok (.invokevirtual 135, 3) := by decide +kernel
theorem dX8_whyNotRenewed_21 : decode cX8_whyNotRenewed 21 = .ok (.iadd, 1) := by decide +kernel
theorem dX8_whyNotRenewed_22 : decode cX8_whyNotRenewed 22 = .ok (.bipush 120, 2) := by decide +kernel
theorem dX8_whyNotRenewed_24 : decode cX8_whyNotRenewed 24 = .ok (.if_icmp .le 6, 3) := by decide +kernel
theorem dX8_whyNotRenewed_27 : decode cX8_whyNotRenewed 27 = .ok (.bipush (-4), 2) := by decide +kernel
theorem dX8_whyNotRenewed_29 : decode cX8_whyNotRenewed 29 = .ok (.ireturn, 1) := by decide +kernel
theorem dX8_whyNotRenewed_30 : decode cX8_whyNotRenewed 30 = .ok (.aload_n 0, 1) := by decide +kernel
theorem dX8_whyNotRenewed_31 : decode cX8_whyNotRenewed 31 = .ok (.iload_n 1, 1) := by decide +kernel
theorem dX8_whyNotRenewed_32 : decode cX8_whyNotRenewed 32 = .ok (.invokevirtual 84, 3) := by decide +kernel
theorem dX8_whyNotRenewed_35 : decode cX8_whyNotRenewed 35 = .ok (.ifCond .ne 16, 3) := by decide +kernel
theorem dX8_whyNotRenewed_38 : decode cX8_whyNotRenewed 38 = .ok (.aload_n 0, 1) := by decide +kernel
theorem dX8_whyNotRenewed_39 : decode cX8_whyNotRenewed 39 = .ok (.aload_n 0, 1) := by decide +kernel
theorem dX8_whyNotRenewed_40 : decode cX8_whyNotRenewed 40 = .ok (.iload_n 1, 1) := by decide +kernel
theorem dX8_whyNotRenewed_41 : decode cX8_whyNotRenewed 41 = .ok (.iconst 0, 1) := by decide +kernel
theorem dX8_whyNotRenewed_42 : decode cX8_whyNotRenewed 42 = .ok (.invokevirtual 44, 3) := by decide +kernel
theorem dX8_whyNotRenewed_45 : decode cX8_whyNotRenewed 45 = .ok (.invokevirtual 108, 3) := by decide +kernel
theorem dX8_whyNotRenewed_48 : decode cX8_whyNotRenewed 48 = .ok (.ifCond .eq 17, 3) := by decide +kernel
theorem dX8_whyNotRenewed_51 : decode cX8_whyNotRenewed 51 = .ok (.aload_n 0, 1) := by decide +kernel
theorem dX8_whyNotRenewed_52 : decode cX8_whyNotRenewed 52 = .ok (.iload_n 1, 1) := by decide +kernel
theorem dX8_whyNotRenewed_53 : decode cX8_whyNotRenewed 53 = .ok (.invokevirtual 132, 3) := by decide +kernel
theorem dX8_whyNotRenewed_56 : decode cX8_whyNotRenewed 56 = .ok (.aload_n 0, 1) := by decide +kernel
theorem dX8_whyNotRenewed_57 : decode cX8_whyNotRenewed 57 = .ok (.getfield 7, 3) := by decide +kernel
theorem dX8_whyNotRenewed_60 : decode cX8_whyNotRenewed 60 = .ok (.iconst 0, 1) := by decide +kernel
theorem dX8_whyNotRenewed_61 : decode cX8_whyNotRenewed 61 = .ok (.iaload, 1) := by decide +kernel
theorem dX8_whyNotRenewed_62 : decode cX8_whyNotRenewed 62 = .ok (.if_icmp .le 8, 3) := by decide +kernel
theorem dX8_whyNotRenewed_65 : decode cX8_whyNotRenewed 65 = .ok (.bipush (-5), 2) := by decide +kernel
theorem dX8_whyNotRenewed_67 : decode cX8_whyNotRenewed 67 = .ok (.goto 4, 3) := by decide +kernel
theorem dX8_whyNotRenewed_70 : decode cX8_whyNotRenewed 70 = .ok (.iconst 0, 1) := by decide +kernel
theorem dX8_whyNotRenewed_71 : decode cX8_whyNotRenewed 71 = .ok (.ireturn, 1) := by decide +kernel
theorem dX8_makesAnew_0 : decode cX8_makesAnew 0 = .ok (.aload_n 0, 1) := by decide +kernel
theorem dX8_makesAnew_1 : decode cX8_makesAnew 1 = .ok (.iload_n 1, 1) := by decide +kernel
theorem dX8_makesAnew_2 : decode cX8_makesAnew 2 = .ok (.iconst 2, 1) := by decide +kernel
theorem dX8_makesAnew_3 : decode cX8_makesAnew 3 = .ok (.aload_n 0, 1) := by decide +kernel
theorem dX8_makesAnew_4 : decode cX8_makesAnew 4 = .ok (.iload_n 1, 1) := by decide +kernel
theorem dX8_makesAnew_5 : decode cX8_makesAnew 5 = .ok (.iconst 2, 1) := by decide +kernel
theorem dX8_makesAnew_6 : decode cX8_makesAnew 6 = .ok (.invokevirtual 44, 3) := by decide +kernel
theorem dX8_makesAnew_9 : decode cX8_makesAnew 9 = .ok (.iconst 1, 1) := by decide +kernel
theorem dX8_makesAnew_10 : decode cX8_makesAnew 10 = .ok (.iadd, 1) := by decide +kernel
theorem dX8_makesAnew_11 : decode cX8_makesAnew 11 = .ok (.invokevirtual 68, 3) := by decide +kernel
theorem dX8_makesAnew_14 : decode cX8_makesAnew 14 = .ok (.aload_n 0, 1) := by decide +kernel
theorem dX8_makesAnew_15 : decode cX8_makesAnew 15 = .ok (.iload_n 1, 1) := by decide +kernel
theorem dX8_makesAnew_16 : decode cX8_makesAnew 16 = .ok (.iconst 3, 1) := by decide +kernel
theorem dX8_makesAnew_17 : decode cX8_makesAnew 17 = .ok (.iconst 0, 1) := by decide +kernel
theorem dX8_makesAnew_18 : decode cX8_makesAnew 18 = .ok (.invokevirtual 68, 3) := by decide +kernel
theorem dX8_makesAnew_21 : decode cX8_makesAnew 21 = .ok (.return_, 1) := by decide +kernel
theorem dX8_renewed_0 : decode cX8_renewed 0 = .ok (.aload_n 0, 1) := by decide +kernel
theorem dX8_renewed_1 : decode cX8_renewed 1 = .ok (.iload_n 1, 1) := by decide +kernel
theorem dX8_renewed_2 : decode cX8_renewed 2 = .ok (.invokevirtual 135, 3) := by decide +kernel
theorem dX8_renewed_5 : decode cX8_renewed 5 = .ok (.istore_n 2, 1) := by decide +kernel
theorem dX8_renewed_6 : decode cX8_renewed 6 = .ok (.aload_n 0, 1) := by decide +kernel
theorem dX8_renewed_7 : decode cX8_renewed 7 = .ok (.iload_n 1, 1) := by decide +kernel
theorem dX8_renewed_8 : decode cX8_renewed 8 = .ok (.invokevirtual 138, 3) := by decide +kernel
theorem dX8_renewed_11 : decode cX8_renewed 11 = .ok (.aload_n 0, 1) := by decide +kernel
theorem dX8_renewed_12 : decode cX8_renewed 12 = .ok (.invokevirtual 141, 3) := by decide +kernel
theorem dX8_renewed_15 : decode cX8_renewed 15 = .ok (.aload_n 0, 1) := by decide +kernel
theorem dX8_renewed_16 : decode cX8_renewed 16 = .ok (.iload_n 1, 1) := by decide +kernel
theorem dX8_renewed_17 : decode cX8_renewed 17 = .ok (.invokevirtual 84, 3) := by decide +kernel
theorem dX8_renewed_20 : decode cX8_renewed 20 = .ok (.ifCond .ne 8, 3) := by decide +kernel
theorem dX8_renewed_23 : decode cX8_renewed 23 = .ok (.aload_n 0, 1) := by decide +kernel
theorem dX8_renewed_24 : decode cX8_renewed 24 = .ok (.iload_n 1, 1) := by decide +kernel
theorem dX8_renewed_25 : decode cX8_renewed 25 = .ok (.invokevirtual 74, 3) := by decide +kernel
theorem dX8_renewed_28 : decode cX8_renewed 28 = .ok (.aload_n 0, 1) := by decide +kernel
theorem dX8_renewed_29 : decode cX8_renewed 29 = .ok (.iload_n 1, 1) := by decide +kernel
theorem dX8_renewed_30 : decode cX8_renewed 30 = .ok (.invokevirtual 144, 3) := by decide +kernel
theorem dX8_renewed_33 : decode cX8_renewed 33 = .ok (.iload_n 2, 1) := by decide +kernel
theorem dX8_renewed_34 : decode cX8_renewed 34 = .ok (.ireturn, 1) := by decide +kernel
theorem dX8_renew_0 : decode cX8_renew 0 = .ok (.aload_n 0, 1) := by decide +kernel
theorem dX8_renew_1 : decode cX8_renew 1 = .ok (.iload_n 1, 1) := by decide +kernel
theorem dX8_renew_2 : decode cX8_renew 2 = .ok (.invokevirtual 147, 3) := by decide +kernel
theorem dX8_renew_5 : decode cX8_renew 5 = .ok (.istore_n 2, 1) := by decide +kernel
theorem dX8_renew_6 : decode cX8_renew 6 = .ok (.iload_n 2, 1) := by decide +kernel
theorem dX8_renew_7 : decode cX8_renew 7 = .ok (.ifCond .ge 5, 3) := by decide +kernel
theorem dX8_renew_10 : decode cX8_renew 10 = .ok (.iload_n 2, 1) := by decide +kernel
theorem dX8_renew_11 : decode cX8_renew 11 = .ok (.ireturn, 1) := by decide +kernel
theorem dX8_renew_12 : decode cX8_renew 12 = .ok (.aload_n 0, 1) := by decide +kernel
theorem dX8_renew_13 : decode cX8_renew 13 = .ok (.invokevirtual 102, 3) := by decide +kernel
theorem dX8_renew_16 : decode cX8_renew 16 = .ok (.aload_n 0, 1) := by decide +kernel
theorem dX8_renew_17 : decode cX8_renew 17 = .ok (.iload_n 1, 1) := by decide +kernel
theorem dX8_renew_18 : decode cX8_renew 18 = .ok (.invokevirtual 150, 3) := by decide +kernel
theorem dX8_renew_21 : decode cX8_renew 21 = .ok (.ireturn, 1) := by decide +kernel
theorem dX8_throwMakes_0 : decode cX8_throwMakes 0 = .ok (.iconst 0, 1) := by decide +kernel
theorem dX8_throwMakes_1 : decode cX8_throwMakes 1 = .ok (.istore_n 2, 1) := by decide +kernel
theorem dX8_throwMakes_2 : decode cX8_throwMakes 2 = .ok (.iconst 1, 1) := by decide +kernel
theorem dX8_throwMakes_3 : decode cX8_throwMakes 3 = .ok (.istore_n 3, 1) := by decide +kernel
theorem dX8_throwMakes_4 : decode cX8_throwMakes 4 = .ok (.iload_n 1, 1) := by decide +kernel
theorem dX8_throwMakes_5 : decode cX8_throwMakes 5 = .ok (.istore 4, 2) := by decide +kernel
theorem dX8_throwMakes_7 : decode cX8_throwMakes 7 = .ok (.iload 4, 2) := by decide +kernel
theorem dX8_throwMakes_9 : decode cX8_throwMakes 9 = .ok (.bipush (-6), 2) := by decide +kernel
theorem dX8_throwMakes_11 : decode cX8_throwMakes 11 = .ok (.if_icmp .eq 61, 3) := by decide +kernel
theorem dX8_throwMakes_14 : decode cX8_throwMakes 14 = .ok (.aload_n 0, 1) := by decide +kernel
theorem dX8_throwMakes_15 : decode cX8_throwMakes 15 = .ok (.iload 4, 2) := by decide +kernel
theorem dX8_throwMakes_17 : decode cX8_throwMakes 17 = .ok (.invokevirtual 132, 3) := by decide +kernel
theorem dX8_throwMakes_20 : decode cX8_throwMakes 20 = .ok (.iload 4, 2) := by decide +kernel
theorem dX8_throwMakes_22 : decode cX8_throwMakes 22 = .ok (.iload_n 1, 1) := by decide +kernel
theorem dX8_throwMakes_23 : decode cX8_throwMakes 23 = .ok (.if_icmp .ne 7, 3) := by decide +kernel
theorem dX8_throwMakes_26 : decode cX8_throwMakes 26 = .ok (.iconst 1, 1) := by decide +kernel
theorem dX8_throwMakes_27 : decode cX8_throwMakes 27 = .ok (.goto 4, 3) := by decide +kernel
theorem dX8_throwMakes_30 : decode cX8_throwMakes 30 = .ok (.iconst 0, 1) := by decide +kernel
theorem dX8_throwMakes_31 : decode cX8_throwMakes 31 = .ok (.isub, 1) := by decide +kernel
theorem dX8_throwMakes_32 : decode cX8_throwMakes 32 = .ok (.istore 5, 2) := by decide +kernel
theorem dX8_throwMakes_34 : decode cX8_throwMakes 34 = .ok (.iload_n 3, 1) := by decide +kernel
theorem dX8_throwMakes_35 : decode cX8_throwMakes 35 = .ok (.ifCond .eq 18, 3) := by decide +kernel
theorem dX8_throwMakes_38 : decode cX8_throwMakes 38 = .ok (.iload 5, 2) := by decide +kernel
theorem dX8_throwMakes_40 : decode cX8_throwMakes 40 = .ok (.aload_n 0, 1) := by decide +kernel
theorem dX8_throwMakes_41 : decode cX8_throwMakes 41 = .ok (.getfield 7, 3) := by decide +kernel
theorem dX8_throwMakes_44 : decode cX8_throwMakes 44 = .ok (.iconst 0, 1) := by decide +kernel
theorem dX8_throwMakes_45 : decode cX8_throwMakes 45 = .ok (.iaload, 1) := by decide +kernel
theorem dX8_throwMakes_46 : decode cX8_throwMakes 46 = .ok (.if_icmp .gt 7, 3) := by decide +kernel
theorem dX8_throwMakes_49 : decode cX8_throwMakes 49 = .ok (.iconst 1, 1) := by decide +kernel
theorem dX8_throwMakes_50 : decode cX8_throwMakes 50 = .ok (.goto 4, 3) := by decide +kernel
theorem dX8_throwMakes_53 : decode cX8_throwMakes 53 = .ok (.iconst 0, 1) := by decide +kernel
theorem dX8_throwMakes_54 : decode cX8_throwMakes 54 = .ok (.istore_n 3, 1) := by decide +kernel
theorem dX8_throwMakes_55 : decode cX8_throwMakes 55 = .ok (.iload_n 2, 1) := by decide +kernel
theorem dX8_throwMakes_56 : decode cX8_throwMakes 56 = .ok (.iload 5, 2) := by decide +kernel
theorem dX8_throwMakes_58 : decode cX8_throwMakes 58 = .ok (.iadd, 1) := by decide +kernel
theorem dX8_throwMakes_59 : decode cX8_throwMakes 59 = .ok (.istore_n 2, 1) := by decide +kernel
theorem dX8_throwMakes_60 : decode cX8_throwMakes 60 = .ok (.aload_n 0, 1) := by decide +kernel
theorem dX8_throwMakes_61 : decode cX8_throwMakes 61 = .ok (.iload 4, 2) := by decide +kernel
theorem dX8_throwMakes_63 : decode cX8_throwMakes 63 = .ok (.iconst 0, 1) := by decide +kernel
theorem dX8_throwMakes_64 : decode cX8_throwMakes 64 = .ok (.invokevirtual 44, 3) := by decide +kernel
theorem dX8_throwMakes_67 : decode cX8_throwMakes 67 = .ok (.istore 4, 2) := by decide +kernel
theorem dX8_throwMakes_69 : decode cX8_throwMakes 69 = .ok (.goto (-62), 3) := by decide +kernel
theorem dX8_throwMakes_72 : decode cX8_throwMakes 72 = .ok (.iload_n 3, 1) := by decide +kernel
theorem dX8_throwMakes_73 : decode cX8_throwMakes 73 = .ok (.ifCond .eq 7, 3) := by decide +kernel
theorem dX8_throwMakes_76 : decode cX8_throwMakes 76 = .ok (.iload_n 2, 1) := by decide +kernel
theorem dX8_throwMakes_77 : decode cX8_throwMakes 77 = .ok (.goto 5, 3) := by decide +kernel
theorem dX8_throwMakes_80 : decode cX8_throwMakes 80 = .ok (.bipush (-5), 2) := by decide +kernel
theorem dX8_throwMakes_82 : decode cX8_throwMakes 82 = .ok (.ireturn, 1) := by decide +kernel
theorem dX8_whyNotThrown_0 : decode cX8_whyNotThrown 0 = .ok (.iconst 0, 1) := by decide +kernel
theorem dX8_whyNotThrown_1 : decode cX8_whyNotThrown 1 = .ok (.istore_n 2, 1) := by decide +kernel
theorem dX8_whyNotThrown_2 : decode cX8_whyNotThrown 2 = .ok (.iload_n 1, 1) := by decide +kernel
theorem dX8_whyNotThrown_3 : decode cX8_whyNotThrown 3 = .ok (.istore_n 3, 1) := by decide +kernel
theorem dX8_whyNotThrown_4 : decode cX8_whyNotThrown 4 = .ok (.iload_n 3, 1) := by decide +kernel
theorem dX8_whyNotThrown_5 : decode cX8_whyNotThrown 5 = .ok (.bipush (-6), 2) := by decide +kernel
theorem dX8_whyNotThrown_7 : decode cX8_whyNotThrown 7 = .ok (.if_icmp .eq 32, 3) := by decide +kernel
theorem dX8_whyNotThrown_10 : decode cX8_whyNotThrown 10 = .ok (.iload_n 2, 1) := by decide +kernel
theorem dX8_whyNotThrown_11 : decode cX8_whyNotThrown 11 = .ok (.aload_n 0, 1) := by decide +kernel
theorem dX8_whyNotThrown_12 : decode cX8_whyNotThrown 12 = .ok (.iload_n 3, 1) := by decide +kernel
theorem dX8_whyNotThrown_13 : decode cX8_whyNotThrown 13 = .ok (.invokevirtual 132, 3) := by decide +kernel
theorem dX8_whyNotThrown_16 : decode cX8_whyNotThrown 16 = .ok (.iload_n 3, 1) := by decide +kernel
theorem dX8_whyNotThrown_17 : decode cX8_whyNotThrown 17 = .ok (.iload_n 1, 1) := by decide +kernel
theorem dX8_whyNotThrown_18 : decode cX8_whyNotThrown 18 = .ok (.if_icmp .ne 7, 3) := by decide +kernel
theorem dX8_whyNotThrown_21 : decode cX8_whyNotThrown 21 = .ok (.iconst 1, 1) := by decide +kernel
theorem dX8_whyNotThrown_22 : decode cX8_whyNotThrown 22 = .ok (.goto 4, 3) := by decide +kernel
theorem dX8_whyNotThrown_25 : decode cX8_whyNotThrown 25 = .ok (.iconst 0, 1) := by decide +kernel
theorem dX8_whyNotThrown_26 : decode cX8_whyNotThrown 26 = .ok (.isub, 1) := by decide +kernel
theorem dX8_whyNotThrown_27 : decode cX8_whyNotThrown 27 = .ok (.iadd, 1) := by decide +kernel
theorem dX8_whyNotThrown_28 : decode cX8_whyNotThrown 28 = .ok (.istore_n 2, 1) := by decide +kernel
theorem dX8_whyNotThrown_29 : decode cX8_whyNotThrown 29 = .ok (.aload_n 0, 1) := by decide +kernel
theorem dX8_whyNotThrown_30 : decode cX8_whyNotThrown 30 = .ok (.iload_n 3, 1) := by decide +kernel
theorem dX8_whyNotThrown_31 : decode cX8_whyNotThrown 31 = .ok (.iconst 0, 1) := by decide +kernel
theorem dX8_whyNotThrown_32 : decode cX8_whyNotThrown 32 = .ok (.invokevirtual 44, 3) := by decide +kernel
theorem dX8_whyNotThrown_35 : decode cX8_whyNotThrown 35 = .ok (.istore_n 3, 1) := by decide +kernel
theorem dX8_whyNotThrown_36 : decode cX8_whyNotThrown 36 = .ok (.goto (-32), 3) := by decide +kernel
theorem dX8_whyNotThrown_39 : decode cX8_whyNotThrown 39 = .ok (.aload_n 0, 1) := by decide +kernel
theorem dX8_whyNotThrown_40 : decode cX8_whyNotThrown 40 = .ok (.getfield 7, 3) := by decide +kernel
theorem dX8_whyNotThrown_43 : decode cX8_whyNotThrown 43 = .ok (.iconst 3, 1) := by decide +kernel
theorem dX8_whyNotThrown_44 : decode cX8_whyNotThrown 44 = .ok (.iaload, 1) := by decide +kernel
theorem dX8_whyNotThrown_45 : decode cX8_whyNotThrown 45 = .ok (.iload_n 2, 1) := by decide +kernel
theorem dX8_whyNotThrown_46 : decode cX8_whyNotThrown 46 = .ok (.iadd, 1) := by decide +kernel
theorem dX8_whyNotThrown_47 : decode cX8_whyNotThrown 47 = .ok (.bipush 120, 2) := by decide +kernel
theorem dX8_whyNotThrown_49 : decode cX8_whyNotThrown 49 = .ok (.if_icmp .le 8, 3) := by decide +kernel
theorem dX8_whyNotThrown_52 : decode cX8_whyNotThrown 52 = .ok (.bipush (-4), 2) := by decide +kernel
theorem dX8_whyNotThrown_54 : decode cX8_whyNotThrown 54 = .ok (.goto 17, 3) := by decide +kernel
theorem dX8_whyNotThrown_57 : decode cX8_whyNotThrown 57 = .ok (.aload_n 0, 1) := by decide +kernel
theorem dX8_whyNotThrown_58 : decode cX8_whyNotThrown 58 = .ok (.iload_n 1, 1) := by decide +kernel
theorem dX8_whyNotThrown_59 : decode cX8_whyNotThrown 59 = .ok (.invokevirtual 153, 3) := by decide +kernel
theorem dX8_whyNotThrown_62 : decode cX8_whyNotThrown 62 = .ok (.ifCond .ge 8, 3) := by decide +kernel
theorem dX8_whyNotThrown_65 : decode cX8_whyNotThrown 65 = .ok (.bipush (-5), 2) := by decide +kernel
theorem dX8_whyNotThrown_67 : decode cX8_whyNotThrown 67 = .ok (.goto 4, 3) := by decide +kernel
theorem dX8_whyNotThrown_70 : decode cX8_whyNotThrown 70 = .ok (.iconst 0, 1) := by decide +kernel
theorem dX8_whyNotThrown_71 : decode cX8_whyNotThrown 71 = .ok (.ireturn, 1) := by decide +kernel
theorem dX8_makesAboveAnew_0 : decode cX8_makesAboveAnew 0 = .ok (.iload_n 1, 1) := by decide +kernel
theorem dX8_makesAboveAnew_1 : decode cX8_makesAboveAnew 1 = .ok (.istore_n 2, 1) := by decide +kernel
theorem dX8_makesAboveAnew_2 : decode cX8_makesAboveAnew 2 = .ok (.iload_n 2, 1) := by decide +kernel
theorem dX8_makesAboveAnew_3 : decode cX8_makesAboveAnew 3 = .ok (.bipush (-6), 2) := by decide +kernel
theorem dX8_makesAboveAnew_5 : decode cX8_makesAboveAnew 5 = .ok (.if_icmp .eq 18, 3) := by decide +kernel
theorem dX8_makesAboveAnew_8 : decode cX8_makesAboveAnew 8 = .ok (.aload_n 0, 1) := by decide +kernel
theorem dX8_makesAboveAnew_9 : decode cX8_makesAboveAnew 9 = .ok (.iload_n 2, 1) := by decide +kernel
theorem dX8_makesAboveAnew_10 : decode cX8_makesAboveAnew 10 = .ok (.invokevirtual 138, 3) := by decide +kernel
theorem dX8_makesAboveAnew_13 : decode cX8_makesAboveAnew 13 = .ok (.aload_n 0, 1) := by decide +kernel
theorem dX8_makesAboveAnew_14 : decode cX8_makesAboveAnew 14 = .ok (.iload_n 2, 1) := by decide +kernel
theorem dX8_makesAboveAnew_15 : decode cX8_makesAboveAnew 15 = .ok (.iconst 0, 1) := by decide +kernel
theorem dX8_makesAboveAnew_16 : decode cX8_makesAboveAnew 16 = .ok (.invokevirtual 44, 3) := by decide +kernel
theorem dX8_makesAboveAnew_19 : decode cX8_makesAboveAnew 19 = .ok (.istore_n 2, 1) := by decide +kernel
theorem dX8_makesAboveAnew_20 : decode cX8_makesAboveAnew 20 = .ok (.goto (-18), 3) := by decide +kernel
theorem dX8_makesAboveAnew_23 : decode cX8_makesAboveAnew 23 = .ok (.aload_n 0, 1) := by decide +kernel
theorem dX8_makesAboveAnew_24 : decode cX8_makesAboveAnew 24 = .ok (.invokevirtual 141, 3) := by decide +kernel
theorem dX8_makesAboveAnew_27 : decode cX8_makesAboveAnew 27 = .ok (.iload_n 1, 1) := by decide +kernel
theorem dX8_makesAboveAnew_28 : decode cX8_makesAboveAnew 28 = .ok (.bipush (-6), 2) := by decide +kernel
theorem dX8_makesAboveAnew_30 : decode cX8_makesAboveAnew 30 = .ok (.if_icmp .ne 7, 3) := by decide +kernel
theorem dX8_makesAboveAnew_33 : decode cX8_makesAboveAnew 33 = .ok (.iconst (-1), 1) := by decide +kernel
theorem dX8_makesAboveAnew_34 : decode cX8_makesAboveAnew 34 = .ok (.goto 8, 3) := by decide +kernel
theorem dX8_makesAboveAnew_37 : decode cX8_makesAboveAnew 37 = .ok (.aload_n 0, 1) := by decide +kernel
theorem dX8_makesAboveAnew_38 : decode cX8_makesAboveAnew 38 = .ok (.iload_n 1, 1) := by decide +kernel
theorem dX8_makesAboveAnew_39 : decode cX8_makesAboveAnew 39 = .ok (.invokevirtual 156, 3) := by decide +kernel
theorem dX8_makesAboveAnew_42 : decode cX8_makesAboveAnew 42 = .ok (.istore_n 2, 1) := by decide +kernel
theorem dX8_makesAboveAnew_43 : decode cX8_makesAboveAnew 43 = .ok (.iload_n 2, 1) := by decide +kernel
theorem dX8_makesAboveAnew_44 : decode cX8_makesAboveAnew 44 = .ok (.ifCond .lt 19, 3) := by decide +kernel
theorem dX8_makesAboveAnew_47 : decode cX8_makesAboveAnew 47 = .ok (.aload_n 0, 1) := by decide +kernel
theorem dX8_makesAboveAnew_48 : decode cX8_makesAboveAnew 48 = .ok (.aload_n 0, 1) := by decide +kernel
theorem dX8_makesAboveAnew_49 : decode cX8_makesAboveAnew 49 = .ok (.iload_n 1, 1) := by decide +kernel
theorem dX8_makesAboveAnew_50 : decode cX8_makesAboveAnew 50 = .ok (.iload_n 2, 1) := by decide +kernel
theorem dX8_makesAboveAnew_51 : decode cX8_makesAboveAnew 51 = .ok (.invokevirtual 159, 3) := by decide +kernel
theorem dX8_makesAboveAnew_54 : decode cX8_makesAboveAnew 54 = .ok (.invokevirtual 144, 3) := by decide +kernel
theorem dX8_makesAboveAnew_57 : decode cX8_makesAboveAnew 57 = .ok (.iinc 2 (-1), 3) := by decide +kernel
theorem dX8_makesAboveAnew_60 : decode cX8_makesAboveAnew 60 = .ok (.goto (-17), 3) := by decide +kernel
theorem dX8_makesAboveAnew_63 : decode cX8_makesAboveAnew 63 = .ok (.return_, 1) := by decide +kernel
theorem dX8_whyKeyNotThrown_0 : decode cX8_whyKeyNotThrown 0 = .ok (.aload_n 0, 1) := by decide +kernel
theorem dX8_whyKeyNotThrown_1 : decode cX8_whyKeyNotThrown 1 = .ok (.iload_n 1, 1) := by decide +kernel
theorem dX8_whyKeyNotThrown_2 : decode cX8_whyKeyNotThrown 2 = .ok (.invokevirtual 105, 3) := by decide +kernel
theorem dX8_whyKeyNotThrown_5 : decode cX8_whyKeyNotThrown 5 = .ok (.ifCond .eq 16, 3) := by decide +kernel
theorem dX8_whyKeyNotThrown_8 : decode cX8_whyKeyNotThrown 8 = .ok (.aload_n 0, 1) := by decide +kernel
theorem dX8_whyKeyNotThrown_9 : decode cX8_whyKeyNotThrown 9 = .ok (.aload_n 0, 1) := by decide +kernel
theorem dX8_whyKeyNotThrown_10 : decode cX8_whyKeyNotThrown 10 = .ok (.iload_n 1, 1) := by decide +kernel
theorem dX8_whyKeyNotThrown_11 : decode cX8_whyKeyNotThrown 11 = .ok (.iconst 0, 1) := by decide +kernel
theorem dX8_whyKeyNotThrown_12 : decode cX8_whyKeyNotThrown 12 = .ok (.invokevirtual 44, 3) := by decide +kernel
theorem dX8_whyKeyNotThrown_15 : decode cX8_whyKeyNotThrown 15 = .ok (.invokevirtual 162, 3) := by decide +kernel
theorem dX8_whyKeyNotThrown_18 : decode cX8_whyKeyNotThrown 18 = .ok (.goto 4, 3) := by decide +kernel
theorem dX8_whyKeyNotThrown_21 : decode cX8_whyKeyNotThrown 21 = .ok (.iconst (-1), 1) := by decide +kernel
theorem dX8_whyKeyNotThrown_22 : decode cX8_whyKeyNotThrown 22 = .ok (.ireturn, 1) := by decide +kernel
theorem dX8_keyThrown_0 : decode cX8_keyThrown 0 = .ok (.aload_n 0, 1) := by decide +kernel
theorem dX8_keyThrown_1 : decode cX8_keyThrown 1 = .ok (.aload_n 0, 1) := by decide +kernel
theorem dX8_keyThrown_2 : decode cX8_keyThrown 2 = .ok (.iload_n 1, 1) := by decide +kernel
theorem dX8_keyThrown_3 : decode cX8_keyThrown 3 = .ok (.iconst 0, 1) := by decide +kernel
theorem dX8_keyThrown_4 : decode cX8_keyThrown 4 = .ok (.invokevirtual 44, 3) := by decide +kernel
theorem dX8_keyThrown_7 : decode cX8_keyThrown 7 = .ok (.invokevirtual 153, 3) := by decide +kernel
theorem dX8_keyThrown_10 : decode cX8_keyThrown 10 = .ok (.istore_n 2, 1) := by decide +kernel
theorem dX8_keyThrown_11 : decode cX8_keyThrown 11 = .ok (.iconst 0, 1) := by decide +kernel
theorem dX8_keyThrown_12 : decode cX8_keyThrown 12 = .ok (.istore_n 3, 1) := by decide +kernel
theorem dX8_keyThrown_13 : decode cX8_keyThrown 13 = .ok (.iload_n 3, 1) := by decide +kernel
theorem dX8_keyThrown_14 : decode cX8_keyThrown 14 = .ok (.aload_n 0, 1) := by decide +kernel
theorem dX8_keyThrown_15 : decode cX8_keyThrown 15 = .ok (.getfield 7, 3) := by decide +kernel
theorem dX8_keyThrown_18 : decode cX8_keyThrown 18 = .ok (.iconst 2, 1) := by decide +kernel
theorem dX8_keyThrown_19 : decode cX8_keyThrown 19 = .ok (.iaload, 1) := by decide +kernel
theorem dX8_keyThrown_20 : decode cX8_keyThrown 20 = .ok (.if_icmp .ge 30, 3) := by decide +kernel
theorem dX8_keyThrown_23 : decode cX8_keyThrown 23 = .ok (.aload_n 0, 1) := by decide +kernel
theorem dX8_keyThrown_24 : decode cX8_keyThrown 24 = .ok (.aload_n 0, 1) := by decide +kernel
theorem dX8_keyThrown_25 : decode cX8_keyThrown 25 = .ok (.iload_n 3, 1) := by decide +kernel
theorem dX8_keyThrown_26 : decode cX8_keyThrown 26 = .ok (.iconst 0, 1) := by decide +kernel
theorem dX8_keyThrown_27 : decode cX8_keyThrown 27 = .ok (.invokevirtual 51, 3) := by decide +kernel
theorem dX8_keyThrown_30 : decode cX8_keyThrown 30 = .ok (.iload_n 1, 1) := by decide +kernel
theorem dX8_keyThrown_31 : decode cX8_keyThrown 31 = .ok (.invokevirtual 165, 3) := by decide +kernel
theorem dX8_keyThrown_34 : decode cX8_keyThrown 34 = .ok (.ifCond .eq 10, 3) := by decide +kernel
theorem dX8_keyThrown_37 : decode cX8_keyThrown 37 = .ok (.aload_n 0, 1) := by decide +kernel
theorem dX8_keyThrown_38 : decode cX8_keyThrown 38 = .ok (.iload_n 3, 1) := by decide +kernel
theorem dX8_keyThrown_39 : decode cX8_keyThrown 39 = .ok (.iconst 1, 1) := by decide +kernel
theorem dX8_keyThrown_40 : decode cX8_keyThrown 40 = .ok (.iconst 0, 1) := by decide +kernel
theorem dX8_keyThrown_41 : decode cX8_keyThrown 41 = .ok (.invokevirtual 117, 3) := by decide +kernel
theorem dX8_keyThrown_44 : decode cX8_keyThrown 44 = .ok (.iinc 3 1, 3) := by decide +kernel
theorem dX8_keyThrown_47 : decode cX8_keyThrown 47 = .ok (.goto (-34), 3) := by decide +kernel
theorem dX8_keyThrown_50 : decode cX8_keyThrown 50 = .ok (.iconst 0, 1) := by decide +kernel
theorem dX8_keyThrown_51 : decode cX8_keyThrown 51 = .ok (.istore_n 3, 1) := by decide +kernel
theorem dX8_keyThrown_52 : decode cX8_keyThrown 52 = .ok (.iload_n 3, 1) := by decide +kernel
theorem dX8_keyThrown_53 : decode cX8_keyThrown 53 = .ok (.aload_n 0, 1) := by decide +kernel
theorem dX8_keyThrown_54 : decode cX8_keyThrown 54 = .ok (.getfield 7, 3) := by decide +kernel
theorem dX8_keyThrown_57 : decode cX8_keyThrown 57 = .ok (.iconst 1, 1) := by decide +kernel
theorem dX8_keyThrown_58 : decode cX8_keyThrown 58 = .ok (.iaload, 1) := by decide +kernel
theorem dX8_keyThrown_59 : decode cX8_keyThrown 59 = .ok (.if_icmp .ge 25, 3) := by decide +kernel
theorem dX8_keyThrown_62 : decode cX8_keyThrown 62 = .ok (.aload_n 0, 1) := by decide +kernel
theorem dX8_keyThrown_63 : decode cX8_keyThrown 63 = .ok (.iload_n 3, 1) := by decide +kernel
theorem dX8_keyThrown_64 : decode cX8_keyThrown 64 = .ok (.iload_n 1, 1) := by decide +kernel
theorem dX8_keyThrown_65 : decode cX8_keyThrown 65 = .ok (.invokevirtual 165, 3) := by decide +kernel
theorem dX8_keyThrown_68 : decode cX8_keyThrown 68 = .ok (.ifCond .eq 10, 3) := by decide +kernel
theorem dX8_keyThrown_71 : decode cX8_keyThrown 71 = .ok (.aload_n 0, 1) := by decide +kernel
theorem dX8_keyThrown_72 : decode cX8_keyThrown 72 = .ok (.iload_n 3, 1) := by decide +kernel
theorem dX8_keyThrown_73 : decode cX8_keyThrown 73 = .ok (.iconst 1, 1) := by decide +kernel
theorem dX8_keyThrown_74 : decode cX8_keyThrown 74 = .ok (.iconst 0, 1) := by decide +kernel
theorem dX8_keyThrown_75 : decode cX8_keyThrown 75 = .ok (.invokevirtual 68, 3) := by decide +kernel
theorem dX8_keyThrown_78 : decode cX8_keyThrown 78 = .ok (.iinc 3 1, 3) := by decide +kernel
theorem dX8_keyThrown_81 : decode cX8_keyThrown 81 = .ok (.goto (-29), 3) := by decide +kernel
theorem dX8_keyThrown_84 : decode cX8_keyThrown 84 = .ok (.aload_n 0, 1) := by decide +kernel
theorem dX8_keyThrown_85 : decode cX8_keyThrown 85 = .ok (.aload_n 0, 1) := by decide +kernel
theorem dX8_keyThrown_86 : decode cX8_keyThrown 86 = .ok (.iload_n 1, 1) := by decide +kernel
theorem dX8_keyThrown_87 : decode cX8_keyThrown 87 = .ok (.iconst 0, 1) := by decide +kernel
theorem dX8_keyThrown_88 : decode cX8_keyThrown 88 = .ok (.invokevirtual 44, 3) := by decide +kernel
theorem dX8_keyThrown_91 : decode cX8_keyThrown 91 = .ok (.invokevirtual 168, 3) := by decide +kernel
theorem dX8_keyThrown_94 : decode cX8_keyThrown 94 = .ok (.iload_n 2, 1) := by decide +kernel
theorem dX8_keyThrown_95 : decode cX8_keyThrown 95 = .ok (.ireturn, 1) := by decide +kernel
theorem dX8_throwKey_0 : decode cX8_throwKey 0 = .ok (.aload_n 0, 1) := by decide +kernel
theorem dX8_throwKey_1 : decode cX8_throwKey 1 = .ok (.iload_n 1, 1) := by decide +kernel
theorem dX8_throwKey_2 : decode cX8_throwKey 2 = .ok (.invokevirtual 171, 3) := by decide +kernel
theorem dX8_throwKey_5 : decode cX8_throwKey 5 = .ok (.istore_n 2, 1) := by decide +kernel
theorem dX8_throwKey_6 : decode cX8_throwKey 6 = .ok (.iload_n 2, 1) := by decide +kernel
theorem dX8_throwKey_7 : decode cX8_throwKey 7 = .ok (.ifCond .ge 5, 3) := by decide +kernel
theorem dX8_throwKey_10 : decode cX8_throwKey 10 = .ok (.iload_n 2, 1) := by decide +kernel
theorem dX8_throwKey_11 : decode cX8_throwKey 11 = .ok (.ireturn, 1) := by decide +kernel
theorem dX8_throwKey_12 : decode cX8_throwKey 12 = .ok (.aload_n 0, 1) := by decide +kernel
theorem dX8_throwKey_13 : decode cX8_throwKey 13 = .ok (.invokevirtual 102, 3) := by decide +kernel
theorem dX8_throwKey_16 : decode cX8_throwKey 16 = .ok (.aload_n 0, 1) := by decide +kernel
theorem dX8_throwKey_17 : decode cX8_throwKey 17 = .ok (.iload_n 1, 1) := by decide +kernel
theorem dX8_throwKey_18 : decode cX8_throwKey 18 = .ok (.invokevirtual 174, 3) := by decide +kernel
theorem dX8_throwKey_21 : decode cX8_throwKey 21 = .ok (.ireturn, 1) := by decide +kernel
theorem dX8_whyBoxNotThrown_0 : decode cX8_whyBoxNotThrown 0 = .ok (.aload_n 0, 1) := by decide +kernel
theorem dX8_whyBoxNotThrown_1 : decode cX8_whyBoxNotThrown 1 = .ok (.iload_n 1, 1) := by decide +kernel
theorem dX8_whyBoxNotThrown_2 : decode cX8_whyBoxNotThrown 2 = .ok (.invokevirtual 177, 3) := by decide +kernel
theorem dX8_whyBoxNotThrown_5 : decode cX8_whyBoxNotThrown 5 = .ok (.ifCond .eq 16, 3) := by decide +kernel
theorem dX8_whyBoxNotThrown_8 : decode cX8_whyBoxNotThrown 8 = .ok (.aload_n 0, 1) := by decide +kernel
theorem dX8_whyBoxNotThrown_9 : decode cX8_whyBoxNotThrown 9 = .ok (.aload_n 0, 1) := by decide +kernel
theorem dX8_whyBoxNotThrown_10 : decode cX8_whyBoxNotThrown 10 = .ok (.iload_n 1, 1) := by decide +kernel
theorem dX8_whyBoxNotThrown_11 : decode cX8_whyBoxNotThrown 11 = .ok (.iconst 0, 1) := by decide +kernel
theorem dX8_whyBoxNotThrown_12 : decode cX8_whyBoxNotThrown 12 = .ok (.invokevirtual 51, 3) := by decide +kernel
theorem dX8_whyBoxNotThrown_15 : decode cX8_whyBoxNotThrown 15 = .ok (.invokevirtual 162, 3) := by decide +kernel
theorem dX8_whyBoxNotThrown_18 : decode cX8_whyBoxNotThrown 18 = .ok (.goto 4, 3) := by decide +kernel
theorem dX8_whyBoxNotThrown_21 : decode cX8_whyBoxNotThrown 21 = .ok (.iconst (-1), 1) := by decide +kernel
theorem dX8_whyBoxNotThrown_22 : decode cX8_whyBoxNotThrown 22 = .ok (.ireturn, 1) := by decide +kernel
theorem dX8_boxThrown_0 : decode cX8_boxThrown 0 = .ok (.aload_n 0, 1) := by decide +kernel
theorem dX8_boxThrown_1 : decode cX8_boxThrown 1 = .ok (.aload_n 0, 1) := by decide +kernel
theorem dX8_boxThrown_2 : decode cX8_boxThrown 2 = .ok (.iload_n 1, 1) := by decide +kernel
theorem dX8_boxThrown_3 : decode cX8_boxThrown 3 = .ok (.iconst 0, 1) := by decide +kernel
theorem dX8_boxThrown_4 : decode cX8_boxThrown 4 = .ok (.invokevirtual 51, 3) := by decide +kernel
theorem dX8_boxThrown_7 : decode cX8_boxThrown 7 = .ok (.invokevirtual 153, 3) := by decide +kernel
theorem dX8_boxThrown_10 : decode cX8_boxThrown 10 = .ok (.istore_n 2, 1) := by decide +kernel
theorem dX8_boxThrown_11 : decode cX8_boxThrown 11 = .ok (.aload_n 0, 1) := by decide +kernel
theorem dX8_boxThrown_12 : decode cX8_boxThrown 12 = .ok (.iload_n 1, 1) := by decide +kernel
theorem dX8_boxThrown_13 : decode cX8_boxThrown 13 = .ok (.iconst 1, 1) := by decide +kernel
theorem dX8_boxThrown_14 : decode cX8_boxThrown 14 = .ok (.iconst 0, 1) := by decide +kernel
theorem dX8_boxThrown_15 : decode cX8_boxThrown 15 = .ok (.invokevirtual 117, 3) := by decide +kernel
theorem dX8_boxThrown_18 : decode cX8_boxThrown 18 = .ok (.aload_n 0, 1) := by decide +kernel
theorem dX8_boxThrown_19 : decode cX8_boxThrown 19 = .ok (.aload_n 0, 1) := by decide +kernel
theorem dX8_boxThrown_20 : decode cX8_boxThrown 20 = .ok (.iload_n 1, 1) := by decide +kernel
theorem dX8_boxThrown_21 : decode cX8_boxThrown 21 = .ok (.iconst 0, 1) := by decide +kernel
theorem dX8_boxThrown_22 : decode cX8_boxThrown 22 = .ok (.invokevirtual 51, 3) := by decide +kernel
theorem dX8_boxThrown_25 : decode cX8_boxThrown 25 = .ok (.invokevirtual 168, 3) := by decide +kernel
theorem dX8_boxThrown_28 : decode cX8_boxThrown 28 = .ok (.iload_n 2, 1) := by decide +kernel
theorem dX8_boxThrown_29 : decode cX8_boxThrown 29 = .ok (.ireturn, 1) := by decide +kernel
theorem dX8_throwBox_0 : decode cX8_throwBox 0 = .ok (.aload_n 0, 1) := by decide +kernel
theorem dX8_throwBox_1 : decode cX8_throwBox 1 = .ok (.iload_n 1, 1) := by decide +kernel
theorem dX8_throwBox_2 : decode cX8_throwBox 2 = .ok (.invokevirtual 180, 3) := by decide +kernel
theorem dX8_throwBox_5 : decode cX8_throwBox 5 = .ok (.istore_n 2, 1) := by decide +kernel
theorem dX8_throwBox_6 : decode cX8_throwBox 6 = .ok (.iload_n 2, 1) := by decide +kernel
theorem dX8_throwBox_7 : decode cX8_throwBox 7 = .ok (.ifCond .ge 5, 3) := by decide +kernel
theorem dX8_throwBox_10 : decode cX8_throwBox 10 = .ok (.iload_n 2, 1) := by decide +kernel
theorem dX8_throwBox_11 : decode cX8_throwBox 11 = .ok (.ireturn, 1) := by decide +kernel
theorem dX8_throwBox_12 : decode cX8_throwBox 12 = .ok (.aload_n 0, 1) := by decide +kernel
theorem dX8_throwBox_13 : decode cX8_throwBox 13 = .ok (.invokevirtual 102, 3) := by decide +kernel
theorem dX8_throwBox_16 : decode cX8_throwBox 16 = .ok (.aload_n 0, 1) := by decide +kernel
theorem dX8_throwBox_17 : decode cX8_throwBox 17 = .ok (.iload_n 1, 1) := by decide +kernel
theorem dX8_throwBox_18 : decode cX8_throwBox 18 = .ok (.invokevirtual 183, 3) := by decide +kernel
theorem dX8_throwBox_21 : decode cX8_throwBox 21 = .ok (.ireturn, 1) := by decide +kernel
theorem dX8_ofKey_0 : decode cX8_ofKey 0 = .ok (.aload_n 0, 1) := by decide +kernel
theorem dX8_ofKey_1 : decode cX8_ofKey 1 = .ok (.iload_n 1, 1) := by decide +kernel
theorem dX8_ofKey_2 : decode cX8_ofKey 2 = .ok (.invokevirtual 40, 3) := by decide +kernel
theorem dX8_ofKey_5 : decode cX8_ofKey 5 = .ok (.ifCond .ne 5, 3) := by decide +kernel
theorem dX8_ofKey_8 : decode cX8_ofKey 8 = .ok (.iconst (-1), 1) := by decide +kernel
theorem dX8_ofKey_9 : decode cX8_ofKey 9 = .ok (.ireturn, 1) := by decide +kernel
theorem dX8_ofKey_10 : decode cX8_ofKey 10 = .ok (.iload_n 2, 1) := by decide +kernel
theorem dX8_ofKey_11 : decode cX8_ofKey 11 = .ok (.tableswitch 66 0 6 #[41, 41, 41, 41, 48, 54, 60], 41) := by decide +kernel
theorem dX8_ofKey_52 : decode cX8_ofKey 52 = .ok (.aload_n 0, 1) := by decide +kernel
theorem dX8_ofKey_53 : decode cX8_ofKey 53 = .ok (.iload_n 1, 1) := by decide +kernel
theorem dX8_ofKey_54 : decode cX8_ofKey 54 = .ok (.iload_n 2, 1) := by decide +kernel
theorem dX8_ofKey_55 : decode cX8_ofKey 55 = .ok (.invokevirtual 44, 3) := by decide +kernel
theorem dX8_ofKey_58 : decode cX8_ofKey 58 = .ok (.ireturn, 1) := by decide +kernel
theorem dX8_ofKey_59 : decode cX8_ofKey 59 = .ok (.aload_n 0, 1) := by decide +kernel
theorem dX8_ofKey_60 : decode cX8_ofKey 60 = .ok (.iload_n 1, 1) := by decide +kernel
theorem dX8_ofKey_61 : decode cX8_ofKey 61 = .ok (.invokevirtual 54, 3) := by decide +kernel
theorem dX8_ofKey_64 : decode cX8_ofKey 64 = .ok (.ireturn, 1) := by decide +kernel
theorem dX8_ofKey_65 : decode cX8_ofKey 65 = .ok (.aload_n 0, 1) := by decide +kernel
theorem dX8_ofKey_66 : decode cX8_ofKey 66 = .ok (.iload_n 1, 1) := by decide +kernel
theorem dX8_ofKey_67 : decode cX8_ofKey 67 = .ok (.invokevirtual 61, 3) := by decide +kernel
theorem dX8_ofKey_70 : decode cX8_ofKey 70 = .ok (.ireturn, 1) := by decide +kernel
theorem dX8_ofKey_71 : decode cX8_ofKey 71 = .ok (.aload_n 0, 1) := by decide +kernel
theorem dX8_ofKey_72 : decode cX8_ofKey 72 = .ok (.iload_n 1, 1) := by decide +kernel
theorem dX8_ofKey_73 : decode cX8_ofKey 73 = .ok (.invokevirtual 156, 3) := by decide +kernel
theorem dX8_ofKey_76 : decode cX8_ofKey 76 = .ok (.ireturn, 1) := by decide +kernel
theorem dX8_ofKey_77 : decode cX8_ofKey 77 = .ok (.bipush (-2), 2) := by decide +kernel
theorem dX8_ofKey_79 : decode cX8_ofKey 79 = .ok (.ireturn, 1) := by decide +kernel
theorem dX8_ofBox_0 : decode cX8_ofBox 0 = .ok (.aload_n 0, 1) := by decide +kernel
theorem dX8_ofBox_1 : decode cX8_ofBox 1 = .ok (.iload_n 1, 1) := by decide +kernel
theorem dX8_ofBox_2 : decode cX8_ofBox 2 = .ok (.invokevirtual 48, 3) := by decide +kernel
theorem dX8_ofBox_5 : decode cX8_ofBox 5 = .ok (.ifCond .ne 5, 3) := by decide +kernel
theorem dX8_ofBox_8 : decode cX8_ofBox 8 = .ok (.iconst (-1), 1) := by decide +kernel
theorem dX8_ofBox_9 : decode cX8_ofBox 9 = .ok (.ireturn, 1) := by decide +kernel
theorem dX8_ofBox_10 : decode cX8_ofBox 10 = .ok (.iload_n 2, 1) := by decide +kernel
theorem dX8_ofBox_11 : decode cX8_ofBox 11 = .ok (.tableswitch 57 0 3 #[29, 29, 36, 46], 29) := by decide +kernel
theorem dX8_ofBox_40 : decode cX8_ofBox 40 = .ok (.aload_n 0, 1) := by decide +kernel
theorem dX8_ofBox_41 : decode cX8_ofBox 41 = .ok (.iload_n 1, 1) := by decide +kernel
theorem dX8_ofBox_42 : decode cX8_ofBox 42 = .ok (.iload_n 2, 1) := by decide +kernel
theorem dX8_ofBox_43 : decode cX8_ofBox 43 = .ok (.invokevirtual 51, 3) := by decide +kernel
theorem dX8_ofBox_46 : decode cX8_ofBox 46 = .ok (.ireturn, 1) := by decide +kernel
theorem dX8_ofBox_47 : decode cX8_ofBox 47 = .ok (.aload_n 0, 1) := by decide +kernel
theorem dX8_ofBox_48 : decode cX8_ofBox 48 = .ok (.iconst 0, 1) := by decide +kernel
theorem dX8_ofBox_49 : decode cX8_ofBox 49 = .ok (.invokevirtual 186, 3) := by decide +kernel
theorem dX8_ofBox_52 : decode cX8_ofBox 52 = .ok (.iload_n 1, 1) := by decide +kernel
theorem dX8_ofBox_53 : decode cX8_ofBox 53 = .ok (.ishr, 1) := by decide +kernel
theorem dX8_ofBox_54 : decode cX8_ofBox 54 = .ok (.iconst 1, 1) := by decide +kernel
theorem dX8_ofBox_55 : decode cX8_ofBox 55 = .ok (.iand, 1) := by decide +kernel
theorem dX8_ofBox_56 : decode cX8_ofBox 56 = .ok (.ireturn, 1) := by decide +kernel
theorem dX8_ofBox_57 : decode cX8_ofBox 57 = .ok (.aload_n 0, 1) := by decide +kernel
theorem dX8_ofBox_58 : decode cX8_ofBox 58 = .ok (.bipush 7, 2) := by decide +kernel
theorem dX8_ofBox_60 : decode cX8_ofBox 60 = .ok (.invokevirtual 186, 3) := by decide +kernel
theorem dX8_ofBox_63 : decode cX8_ofBox 63 = .ok (.iload_n 1, 1) := by decide +kernel
theorem dX8_ofBox_64 : decode cX8_ofBox 64 = .ok (.ishr, 1) := by decide +kernel
theorem dX8_ofBox_65 : decode cX8_ofBox 65 = .ok (.iconst 1, 1) := by decide +kernel
theorem dX8_ofBox_66 : decode cX8_ofBox 66 = .ok (.iand, 1) := by decide +kernel
theorem dX8_ofBox_67 : decode cX8_ofBox 67 = .ok (.ireturn, 1) := by decide +kernel
theorem dX8_ofBox_68 : decode cX8_ofBox 68 = .ok (.bipush (-2), 2) := by decide +kernel
theorem dX8_ofBox_70 : decode cX8_ofBox 70 = .ok (.ireturn, 1) := by decide +kernel
theorem dX8_wrap_0 : decode cX8_wrap 0 = .ok (.iload_n 1, 1) := by decide +kernel
theorem dX8_wrap_1 : decode cX8_wrap 1 = .ok (.iconst 0, 1) := by decide +kernel
theorem dX8_wrap_2 : decode cX8_wrap 2 = .ok (.aload_n 0, 1) := by decide +kernel
theorem dX8_wrap_3 : decode cX8_wrap 3 = .ok (.getfield 7, 3) := by decide +kernel
theorem dX8_wrap_6 : decode cX8_wrap 6 = .ok (.iconst 3, 1) := by decide +kernel
theorem dX8_wrap_7 : decode cX8_wrap 7 = .ok (.iaload, 1) := by decide +kernel
theorem dX8_wrap_8 : decode cX8_wrap 8 = .ok (.iconst 1, 1) := by decide +kernel
theorem dX8_wrap_9 : decode cX8_wrap 9 = .ok (.isub, 1) := by decide +kernel
theorem dX8_wrap_10 : decode cX8_wrap 10 = .ok (.invokestatic 36, 3) := by decide +kernel
theorem dX8_wrap_13 : decode cX8_wrap 13 = .ok (.ifCond .ne 5, 3) := by decide +kernel
theorem dX8_wrap_16 : decode cX8_wrap 16 = .ok (.iconst (-1), 1) := by decide +kernel
theorem dX8_wrap_17 : decode cX8_wrap 17 = .ok (.ireturn, 1) := by decide +kernel
theorem dX8_wrap_18 : decode cX8_wrap 18 = .ok (.iload_n 2, 1) := by decide +kernel
theorem dX8_wrap_19 : decode cX8_wrap 19 = .ok (.iconst 0, 1) := by decide +kernel
theorem dX8_wrap_20 : decode cX8_wrap 20 = .ok (.iconst 5, 1) := by decide +kernel
theorem dX8_wrap_21 : decode cX8_wrap 21 = .ok (.invokestatic 36, 3) := by decide +kernel
theorem dX8_wrap_24 : decode cX8_wrap 24 = .ok (.ifCond .eq 12, 3) := by decide +kernel
theorem dX8_wrap_27 : decode cX8_wrap 27 = .ok (.aload_n 0, 1) := by decide +kernel
theorem dX8_wrap_28 : decode cX8_wrap 28 = .ok (.iload_n 1, 1) := by decide +kernel
theorem dX8_wrap_29 : decode cX8_wrap 29 = .ok (.iload_n 2, 1) := by decide +kernel
theorem dX8_wrap_30 : decode cX8_wrap 30 = .ok (.invokevirtual 81, 3) := by decide +kernel
theorem dX8_wrap_33 : decode cX8_wrap 33 = .ok (.goto 5, 3) := by decide +kernel
theorem dX8_wrap_36 : decode cX8_wrap 36 = .ok (.bipush (-2), 2) := by decide +kernel
theorem dX8_wrap_38 : decode cX8_wrap 38 = .ok (.ireturn, 1) := by decide +kernel
theorem dX8_liveKeys_0 : decode cX8_liveKeys 0 = .ok (.iconst 0, 1) := by decide +kernel
theorem dX8_liveKeys_1 : decode cX8_liveKeys 1 = .ok (.istore_n 1, 1) := by decide +kernel
theorem dX8_liveKeys_2 : decode cX8_liveKeys 2 = .ok (.iconst 0, 1) := by decide +kernel
theorem dX8_liveKeys_3 : decode cX8_liveKeys 3 = .ok (.istore_n 2, 1) := by decide +kernel
theorem dX8_liveKeys_4 : decode cX8_liveKeys 4 = .ok (.iload_n 2, 1) := by decide +kernel
theorem dX8_liveKeys_5 : decode cX8_liveKeys 5 = .ok (.aload_n 0, 1) := by decide +kernel
theorem dX8_liveKeys_6 : decode cX8_liveKeys 6 = .ok (.getfield 7, 3) := by decide +kernel
theorem dX8_liveKeys_9 : decode cX8_liveKeys 9 = .ok (.iconst 1, 1) := by decide +kernel
theorem dX8_liveKeys_10 : decode cX8_liveKeys 10 = .ok (.iaload, 1) := by decide +kernel
theorem dX8_liveKeys_11 : decode cX8_liveKeys 11 = .ok (.if_icmp .ge 18, 3) := by decide +kernel
theorem dX8_liveKeys_14 : decode cX8_liveKeys 14 = .ok (.iload_n 1, 1) := by decide +kernel
theorem dX8_liveKeys_15 : decode cX8_liveKeys 15 = .ok (.aload_n 0, 1) := by decide +kernel
theorem dX8_liveKeys_16 : decode cX8_liveKeys 16 = .ok (.iload_n 2, 1) := by decide +kernel
theorem dX8_liveKeys_17 : decode cX8_liveKeys 17 = .ok (.iconst 1, 1) := by decide +kernel
theorem dX8_liveKeys_18 : decode cX8_liveKeys 18 = .ok (.invokevirtual 44, 3) := by decide +kernel
theorem dX8_liveKeys_21 : decode cX8_liveKeys 21 = .ok (.iadd, 1) := by decide +kernel
theorem dX8_liveKeys_22 : decode cX8_liveKeys 22 = .ok (.istore_n 1, 1) := by decide +kernel
theorem dX8_liveKeys_23 : decode cX8_liveKeys 23 = .ok (.iinc 2 1, 3) := by decide +kernel
theorem dX8_liveKeys_26 : decode cX8_liveKeys 26 = .ok (.goto (-22), 3) := by decide +kernel
theorem dX8_liveKeys_29 : decode cX8_liveKeys 29 = .ok (.iload_n 1, 1) := by decide +kernel
theorem dX8_liveKeys_30 : decode cX8_liveKeys 30 = .ok (.ireturn, 1) := by decide +kernel
theorem dX8_liveBoxes_0 : decode cX8_liveBoxes 0 = .ok (.iconst 0, 1) := by decide +kernel
theorem dX8_liveBoxes_1 : decode cX8_liveBoxes 1 = .ok (.istore_n 1, 1) := by decide +kernel
theorem dX8_liveBoxes_2 : decode cX8_liveBoxes 2 = .ok (.iconst 0, 1) := by decide +kernel
theorem dX8_liveBoxes_3 : decode cX8_liveBoxes 3 = .ok (.istore_n 2, 1) := by decide +kernel
theorem dX8_liveBoxes_4 : decode cX8_liveBoxes 4 = .ok (.iload_n 2, 1) := by decide +kernel
theorem dX8_liveBoxes_5 : decode cX8_liveBoxes 5 = .ok (.aload_n 0, 1) := by decide +kernel
theorem dX8_liveBoxes_6 : decode cX8_liveBoxes 6 = .ok (.getfield 7, 3) := by decide +kernel
theorem dX8_liveBoxes_9 : decode cX8_liveBoxes 9 = .ok (.iconst 2, 1) := by decide +kernel
theorem dX8_liveBoxes_10 : decode cX8_liveBoxes 10 = .ok (.iaload, 1) := by decide +kernel
theorem dX8_liveBoxes_11 : decode cX8_liveBoxes 11 = .ok (.if_icmp .ge 18, 3) := by decide +kernel
theorem dX8_liveBoxes_14 : decode cX8_liveBoxes 14 = .ok (.iload_n 1, 1) := by decide +kernel
theorem dX8_liveBoxes_15 : decode cX8_liveBoxes 15 = .ok (.aload_n 0, 1) := by decide +kernel
theorem dX8_liveBoxes_16 : decode cX8_liveBoxes 16 = .ok (.iload_n 2, 1) := by decide +kernel
theorem dX8_liveBoxes_17 : decode cX8_liveBoxes 17 = .ok (.iconst 1, 1) := by decide +kernel
theorem dX8_liveBoxes_18 : decode cX8_liveBoxes 18 = .ok (.invokevirtual 51, 3) := by decide +kernel
theorem dX8_liveBoxes_21 : decode cX8_liveBoxes 21 = .ok (.iadd, 1) := by decide +kernel
theorem dX8_liveBoxes_22 : decode cX8_liveBoxes 22 = .ok (.istore_n 1, 1) := by decide +kernel
theorem dX8_liveBoxes_23 : decode cX8_liveBoxes 23 = .ok (.iinc 2 1, 3) := by decide +kernel
theorem dX8_liveBoxes_26 : decode cX8_liveBoxes 26 = .ok (.goto (-22), 3) := by decide +kernel
theorem dX8_liveBoxes_29 : decode cX8_liveBoxes 29 = .ok (.iload_n 1, 1) := by decide +kernel
theorem dX8_liveBoxes_30 : decode cX8_liveBoxes 30 = .ok (.ireturn, 1) := by decide +kernel
theorem dX8_inHouse_0 : decode cX8_inHouse 0 = .ok (.iconst 0, 1) := by decide +kernel
theorem dX8_inHouse_1 : decode cX8_inHouse 1 = .ok (.istore_n 1, 1) := by decide +kernel
theorem dX8_inHouse_2 : decode cX8_inHouse 2 = .ok (.iconst 0, 1) := by decide +kernel
theorem dX8_inHouse_3 : decode cX8_inHouse 3 = .ok (.istore_n 2, 1) := by decide +kernel
theorem dX8_inHouse_4 : decode cX8_inHouse 4 = .ok (.iload_n 2, 1) := by decide +kernel
theorem dX8_inHouse_5 : decode cX8_inHouse 5 = .ok (.aload_n 0, 1) := by decide +kernel
theorem dX8_inHouse_6 : decode cX8_inHouse 6 = .ok (.getfield 7, 3) := by decide +kernel
theorem dX8_inHouse_9 : decode cX8_inHouse 9 = .ok (.iconst 3, 1) := by decide +kernel
theorem dX8_inHouse_10 : decode cX8_inHouse 10 = .ok (.iaload, 1) := by decide +kernel
theorem dX8_inHouse_11 : decode cX8_inHouse 11 = .ok (.if_icmp .ge 18, 3) := by decide +kernel
theorem dX8_inHouse_14 : decode cX8_inHouse 14 = .ok (.iload_n 1, 1) := by decide +kernel
theorem dX8_inHouse_15 : decode cX8_inHouse 15 = .ok (.aload_n 0, 1) := by decide +kernel
theorem dX8_inHouse_16 : decode cX8_inHouse 16 = .ok (.iload_n 2, 1) := by decide +kernel
theorem dX8_inHouse_17 : decode cX8_inHouse 17 = .ok (.iconst 4, 1) := by decide +kernel
theorem dX8_inHouse_18 : decode cX8_inHouse 18 = .ok (.invokevirtual 81, 3) := by decide +kernel
theorem dX8_inHouse_21 : decode cX8_inHouse 21 = .ok (.iadd, 1) := by decide +kernel
theorem dX8_inHouse_22 : decode cX8_inHouse 22 = .ok (.istore_n 1, 1) := by decide +kernel
theorem dX8_inHouse_23 : decode cX8_inHouse 23 = .ok (.iinc 2 1, 3) := by decide +kernel
theorem dX8_inHouse_26 : decode cX8_inHouse 26 = .ok (.goto (-22), 3) := by decide +kernel
theorem dX8_inHouse_29 : decode cX8_inHouse 29 = .ok (.iload_n 1, 1) := by decide +kernel
theorem dX8_inHouse_30 : decode cX8_inHouse 30 = .ok (.ireturn, 1) := by decide +kernel
theorem dX8_outside_0 : decode cX8_outside 0 = .ok (.iconst 0, 1) := by decide +kernel
theorem dX8_outside_1 : decode cX8_outside 1 = .ok (.istore_n 1, 1) := by decide +kernel
theorem dX8_outside_2 : decode cX8_outside 2 = .ok (.iconst 0, 1) := by decide +kernel
theorem dX8_outside_3 : decode cX8_outside 3 = .ok (.istore_n 2, 1) := by decide +kernel
theorem dX8_outside_4 : decode cX8_outside 4 = .ok (.iload_n 2, 1) := by decide +kernel
theorem dX8_outside_5 : decode cX8_outside 5 = .ok (.aload_n 0, 1) := by decide +kernel
theorem dX8_outside_6 : decode cX8_outside 6 = .ok (.getfield 7, 3) := by decide +kernel
theorem dX8_outside_9 : decode cX8_outside 9 = .ok (.iconst 3, 1) := by decide +kernel
theorem dX8_outside_10 : decode cX8_outside 10 = .ok (.iaload, 1) := by decide +kernel
theorem dX8_outside_11 : decode cX8_outside 11 = .ok (.if_icmp .ge 21, 3) := by decide +kernel
theorem dX8_outside_14 : decode cX8_outside 14 = .ok (.iload_n 1, 1) := by decide +kernel
theorem dX8_outside_15 : decode cX8_outside 15 = .ok (.aload_n 0, 1) := by decide +kernel
theorem dX8_outside_16 : decode cX8_outside 16 = .ok (.iload_n 2, 1) := by decide +kernel
theorem dX8_outside_17 : decode cX8_outside 17 = .ok (.iconst 5, 1) := by decide +kernel
theorem dX8_outside_18 : decode cX8_outside 18 = .ok (.invokevirtual 81, 3) := by decide +kernel
theorem dX8_outside_21 : decode cX8_outside 21 = .ok (.invokestatic 58, 3) := by decide +kernel
theorem dX8_outside_24 : decode cX8_outside 24 = .ok (.iadd, 1) := by decide +kernel
theorem dX8_outside_25 : decode cX8_outside 25 = .ok (.istore_n 1, 1) := by decide +kernel
theorem dX8_outside_26 : decode cX8_outside 26 = .ok (.iinc 2 1, 3) := by decide +kernel
theorem dX8_outside_29 : decode cX8_outside 29 = .ok (.goto (-25), 3) := by decide +kernel
theorem dX8_outside_32 : decode cX8_outside 32 = .ok (.iload_n 1, 1) := by decide +kernel
theorem dX8_outside_33 : decode cX8_outside 33 = .ok (.ireturn, 1) := by decide +kernel
theorem dX8_wornKeys_0 : decode cX8_wornKeys 0 = .ok (.iconst 0, 1) := by decide +kernel
theorem dX8_wornKeys_1 : decode cX8_wornKeys 1 = .ok (.istore_n 1, 1) := by decide +kernel
theorem dX8_wornKeys_2 : decode cX8_wornKeys 2 = .ok (.iconst 0, 1) := by decide +kernel
theorem dX8_wornKeys_3 : decode cX8_wornKeys 3 = .ok (.istore_n 2, 1) := by decide +kernel
theorem dX8_wornKeys_4 : decode cX8_wornKeys 4 = .ok (.iload_n 2, 1) := by decide +kernel
theorem dX8_wornKeys_5 : decode cX8_wornKeys 5 = .ok (.aload_n 0, 1) := by decide +kernel
theorem dX8_wornKeys_6 : decode cX8_wornKeys 6 = .ok (.getfield 7, 3) := by decide +kernel
theorem dX8_wornKeys_9 : decode cX8_wornKeys 9 = .ok (.iconst 1, 1) := by decide +kernel
theorem dX8_wornKeys_10 : decode cX8_wornKeys 10 = .ok (.iaload, 1) := by decide +kernel
theorem dX8_wornKeys_11 : decode cX8_wornKeys 11 = .ok (.if_icmp .ge 37, 3) := by decide +kernel
theorem dX8_wornKeys_14 : decode cX8_wornKeys 14 = .ok (.iload_n 1, 1) := by decide +kernel
theorem dX8_wornKeys_15 : decode cX8_wornKeys 15 = .ok (.aload_n 0, 1) := by decide +kernel
theorem dX8_wornKeys_16 : decode cX8_wornKeys 16 = .ok (.iload_n 2, 1) := by decide +kernel
theorem dX8_wornKeys_17 : decode cX8_wornKeys 17 = .ok (.iconst 1, 1) := by decide +kernel
theorem dX8_wornKeys_18 : decode cX8_wornKeys 18 = .ok (.invokevirtual 44, 3) := by decide +kernel
theorem dX8_wornKeys_21 : decode cX8_wornKeys 21 = .ok (.iconst 1, 1) := by decide +kernel
theorem dX8_wornKeys_22 : decode cX8_wornKeys 22 = .ok (.if_icmp .ne 17, 3) := by decide +kernel
theorem dX8_wornKeys_25 : decode cX8_wornKeys 25 = .ok (.aload_n 0, 1) := by decide +kernel
theorem dX8_wornKeys_26 : decode cX8_wornKeys 26 = .ok (.iload_n 2, 1) := by decide +kernel
theorem dX8_wornKeys_27 : decode cX8_wornKeys 27 = .ok (.invokevirtual 108, 3) := by decide +kernel
theorem dX8_wornKeys_30 : decode cX8_wornKeys 30 = .ok (.ifCond .ne 9, 3) := by decide +kernel
theorem dX8_wornKeys_33 : decode cX8_wornKeys 33 = .ok (.iconst 1, 1) := by decide +kernel
theorem dX8_wornKeys_34 : decode cX8_wornKeys 34 = .ok (.iload_n 2, 1) := by decide +kernel
theorem dX8_wornKeys_35 : decode cX8_wornKeys 35 = .ok (.ishl, 1) := by decide +kernel
theorem dX8_wornKeys_36 : decode cX8_wornKeys 36 = .ok (.goto 4, 3) := by decide +kernel
theorem dX8_wornKeys_39 : decode cX8_wornKeys 39 = .ok (.iconst 0, 1) := by decide +kernel
theorem dX8_wornKeys_40 : decode cX8_wornKeys 40 = .ok (.ior, 1) := by decide +kernel
theorem dX8_wornKeys_41 : decode cX8_wornKeys 41 = .ok (.istore_n 1, 1) := by decide +kernel
theorem dX8_wornKeys_42 : decode cX8_wornKeys 42 = .ok (.iinc 2 1, 3) := by decide +kernel
theorem dX8_wornKeys_45 : decode cX8_wornKeys 45 = .ok (.goto (-41), 3) := by decide +kernel
theorem dX8_wornKeys_48 : decode cX8_wornKeys 48 = .ok (.iload_n 1, 1) := by decide +kernel
theorem dX8_wornKeys_49 : decode cX8_wornKeys 49 = .ok (.ireturn, 1) := by decide +kernel
theorem dX8_count_0 : decode cX8_count 0 = .ok (.iload_n 1, 1) := by decide +kernel
theorem dX8_count_1 : decode cX8_count 1 = .ok (.tableswitch 132 0 11 #[63, 70, 75, 82, 87, 94, 99, 104, 111, 116, 122, 127], 63) := by decide +kernel
theorem dX8_count_64 : decode cX8_count 64 = .ok (.aload_n 0, 1) := by decide +kernel
theorem dX8_count_65 : decode cX8_count 65 = .ok (.getfield 7, 3) := by decide +kernel
theorem dX8_count_68 : decode cX8_count 68 = .ok (.iconst 1, 1) := by decide +kernel
theorem dX8_count_69 : decode cX8_count 69 = .ok (.iaload, 1) := by decide +kernel
theorem dX8_count_70 : decode cX8_count 70 = .ok (.ireturn, 1) := by decide +kernel
theorem dX8_count_71 : decode cX8_count 71 = .ok (.aload_n 0, 1) := by decide +kernel
theorem dX8_count_72 : decode cX8_count 72 = .ok (.invokevirtual 189, 3) := by decide +kernel
theorem dX8_count_75 : decode cX8_count 75 = .ok (.ireturn, 1) := by decide +kernel
theorem dX8_count_76 : decode cX8_count 76 = .ok (.aload_n 0, 1) := by decide +kernel
theorem dX8_count_77 : decode cX8_count 77 = .ok (.getfield 7, 3) := by decide +kernel
theorem dX8_count_80 : decode cX8_count 80 = .ok (.iconst 2, 1) := by decide +kernel
theorem dX8_count_81 : decode cX8_count 81 = .ok (.iaload, 1) := by decide +kernel
theorem dX8_count_82 : decode cX8_count 82 = .ok (.ireturn, 1) := by decide +kernel
theorem dX8_count_83 : decode cX8_count 83 = .ok (.aload_n 0, 1) := by decide +kernel
theorem dX8_count_84 : decode cX8_count 84 = .ok (.invokevirtual 192, 3) := by decide +kernel
theorem dX8_count_87 : decode cX8_count 87 = .ok (.ireturn, 1) := by decide +kernel
theorem dX8_count_88 : decode cX8_count 88 = .ok (.aload_n 0, 1) := by decide +kernel
theorem dX8_count_89 : decode cX8_count 89 = .ok (.getfield 7, 3) := by decide +kernel
theorem dX8_count_92 : decode cX8_count 92 = .ok (.iconst 3, 1) := by decide +kernel
theorem dX8_count_93 : decode cX8_count 93 = .ok (.iaload, 1) := by decide +kernel
theorem dX8_count_94 : decode cX8_count 94 = .ok (.ireturn, 1) := by decide +kernel
theorem dX8_count_95 : decode cX8_count 95 = .ok (.aload_n 0, 1) := by decide +kernel
theorem dX8_count_96 : decode cX8_count 96 = .ok (.invokevirtual 195, 3) := by decide +kernel
theorem dX8_count_99 : decode cX8_count 99 = .ok (.ireturn, 1) := by decide +kernel
theorem dX8_count_100 : decode cX8_count 100 = .ok (.aload_n 0, 1) := by decide +kernel
theorem dX8_count_101 : decode cX8_count 101 = .ok (.invokevirtual 198, 3) := by decide +kernel
theorem dX8_count_104 : decode cX8_count 104 = .ok (.ireturn, 1) := by decide +kernel
theorem dX8_count_105 : decode cX8_count 105 = .ok (.aload_n 0, 1) := by decide +kernel
theorem dX8_count_106 : decode cX8_count 106 = .ok (.getfield 7, 3) := by decide +kernel
theorem dX8_count_109 : decode cX8_count 109 = .ok (.iconst 0, 1) := by decide +kernel
theorem dX8_count_110 : decode cX8_count 110 = .ok (.iaload, 1) := by decide +kernel
theorem dX8_count_111 : decode cX8_count 111 = .ok (.ireturn, 1) := by decide +kernel
theorem dX8_count_112 : decode cX8_count 112 = .ok (.aload_n 0, 1) := by decide +kernel
theorem dX8_count_113 : decode cX8_count 113 = .ok (.invokevirtual 201, 3) := by decide +kernel
theorem dX8_count_116 : decode cX8_count 116 = .ok (.ireturn, 1) := by decide +kernel
theorem dX8_count_117 : decode cX8_count 117 = .ok (.aload_n 0, 1) := by decide +kernel
theorem dX8_count_118 : decode cX8_count 118 = .ok (.iconst 0, 1) := by decide +kernel
theorem dX8_count_119 : decode cX8_count 119 = .ok (.invokevirtual 186, 3) := by decide +kernel
theorem dX8_count_122 : decode cX8_count 122 = .ok (.ireturn, 1) := by decide +kernel
theorem dX8_count_123 : decode cX8_count 123 = .ok (.aload_n 0, 1) := by decide +kernel
theorem dX8_count_124 : decode cX8_count 124 = .ok (.getfield 204, 3) := by decide +kernel
theorem dX8_count_127 : decode cX8_count 127 = .ok (.ireturn, 1) := by decide +kernel
theorem dX8_count_128 : decode cX8_count 128 = .ok (.aload_n 0, 1) := by decide +kernel
theorem dX8_count_129 : decode cX8_count 129 = .ok (.getfield 28, 3) := by decide +kernel
theorem dX8_count_132 : decode cX8_count 132 = .ok (.ireturn, 1) := by decide +kernel
theorem dX8_count_133 : decode cX8_count 133 = .ok (.bipush (-2), 2) := by decide +kernel
theorem dX8_count_135 : decode cX8_count 135 = .ok (.ireturn, 1) := by decide +kernel
theorem dX8_canOpen_0 : decode cX8_canOpen 0 = .ok (.aload_n 0, 1) := by decide +kernel
theorem dX8_canOpen_1 : decode cX8_canOpen 1 = .ok (.iload_n 1, 1) := by decide +kernel
theorem dX8_canOpen_2 : decode cX8_canOpen 2 = .ok (.invokevirtual 48, 3) := by decide +kernel
theorem dX8_canOpen_5 : decode cX8_canOpen 5 = .ok (.ifCond .eq 13, 3) := by decide +kernel
theorem dX8_canOpen_8 : decode cX8_canOpen 8 = .ok (.iload_n 2, 1) := by decide +kernel
theorem dX8_canOpen_9 : decode cX8_canOpen 9 = .ok (.iconst 0, 1) := by decide +kernel
theorem dX8_canOpen_10 : decode cX8_canOpen 10 = .ok (.bipush 7, 2) := by decide +kernel
theorem dX8_canOpen_12 : decode cX8_canOpen 12 = .ok (.invokestatic 36, 3) := by decide +kernel
theorem dX8_canOpen_15 : decode cX8_canOpen 15 = .ok (.ifCond .ne 18, 3) := by decide +kernel
theorem dX8_canOpen_18 : decode cX8_canOpen 18 = .ok (.aload_n 0, 1) := by decide +kernel
theorem dX8_canOpen_19 : decode cX8_canOpen 19 = .ok (.iload_n 1, 1) := by decide +kernel
theorem dX8_canOpen_20 : decode cX8_canOpen 20 = .ok (.invokevirtual 48, 3) := by decide +kernel
theorem dX8_canOpen_23 : decode cX8_canOpen 23 = .ok (.ifCond .eq 8, 3) := by decide +kernel
theorem dX8_canOpen_26 : decode cX8_canOpen 26 = .ok (.bipush (-2), 2) := by decide +kernel
theorem dX8_canOpen_28 : decode cX8_canOpen 28 = .ok (.goto 4, 3) := by decide +kernel
theorem dX8_canOpen_31 : decode cX8_canOpen 31 = .ok (.iconst (-1), 1) := by decide +kernel
theorem dX8_canOpen_32 : decode cX8_canOpen 32 = .ok (.ireturn, 1) := by decide +kernel
theorem dX8_canOpen_33 : decode cX8_canOpen 33 = .ok (.aload_n 0, 1) := by decide +kernel
theorem dX8_canOpen_34 : decode cX8_canOpen 34 = .ok (.iload_n 2, 1) := by decide +kernel
theorem dX8_canOpen_35 : decode cX8_canOpen 35 = .ok (.invokevirtual 186, 3) := by decide +kernel
theorem dX8_canOpen_38 : decode cX8_canOpen 38 = .ok (.iload_n 1, 1) := by decide +kernel
theorem dX8_canOpen_39 : decode cX8_canOpen 39 = .ok (.ishr, 1) := by decide +kernel
theorem dX8_canOpen_40 : decode cX8_canOpen 40 = .ok (.iconst 1, 1) := by decide +kernel
theorem dX8_canOpen_41 : decode cX8_canOpen 41 = .ok (.iand, 1) := by decide +kernel
theorem dX8_canOpen_42 : decode cX8_canOpen 42 = .ok (.ireturn, 1) := by decide +kernel
theorem dX8_canHave_0 : decode cX8_canHave 0 = .ok (.aload_n 0, 1) := by decide +kernel
theorem dX8_canHave_1 : decode cX8_canHave 1 = .ok (.iload_n 1, 1) := by decide +kernel
theorem dX8_canHave_2 : decode cX8_canHave 2 = .ok (.invokevirtual 40, 3) := by decide +kernel
theorem dX8_canHave_5 : decode cX8_canHave 5 = .ok (.ifCond .eq 17, 3) := by decide +kernel
theorem dX8_canHave_8 : decode cX8_canHave 8 = .ok (.iload_n 2, 1) := by decide +kernel
theorem dX8_canHave_9 : decode cX8_canHave 9 = .ok (.ifCond .lt 13, 3) := by decide +kernel
theorem dX8_canHave_12 : decode cX8_canHave 12 = .ok (.iload_n 3, 1) := by decide +kernel
theorem dX8_canHave_13 : decode cX8_canHave 13 = .ok (.iconst 0, 1) := by decide +kernel
theorem dX8_canHave_14 : decode cX8_canHave 14 = .ok (.bipush 7, 2) := by decide +kernel
theorem dX8_canHave_16 : decode cX8_canHave 16 = .ok (.invokestatic 36, 3) := by decide +kernel
theorem dX8_canHave_19 : decode cX8_canHave 19 = .ok (.ifCond .ne 18, 3) := by decide +kernel
theorem dX8_canHave_22 : decode cX8_canHave 22 = .ok (.aload_n 0, 1) := by decide +kernel
theorem dX8_canHave_23 : decode cX8_canHave 23 = .ok (.iload_n 1, 1) := by decide +kernel
theorem dX8_canHave_24 : decode cX8_canHave 24 = .ok (.invokevirtual 40, 3) := by decide +kernel
theorem dX8_canHave_27 : decode cX8_canHave 27 = .ok (.ifCond .eq 8, 3) := by decide +kernel
theorem dX8_canHave_30 : decode cX8_canHave 30 = .ok (.bipush (-2), 2) := by decide +kernel
theorem dX8_canHave_32 : decode cX8_canHave 32 = .ok (.goto 4, 3) := by decide +kernel
theorem dX8_canHave_35 : decode cX8_canHave 35 = .ok (.iconst (-1), 1) := by decide +kernel
theorem dX8_canHave_36 : decode cX8_canHave 36 = .ok (.ireturn, 1) := by decide +kernel
theorem dX8_canHave_37 : decode cX8_canHave 37 = .ok (.aload_n 0, 1) := by decide +kernel
theorem dX8_canHave_38 : decode cX8_canHave 38 = .ok (.iload_n 3, 1) := by decide +kernel
theorem dX8_canHave_39 : decode cX8_canHave 39 = .ok (.bipush (-6), 2) := by decide +kernel
theorem dX8_canHave_41 : decode cX8_canHave 41 = .ok (.iconst 0, 1) := by decide +kernel
theorem dX8_canHave_42 : decode cX8_canHave 42 = .ok (.invokevirtual 95, 3) := by decide +kernel
theorem dX8_canHave_45 : decode cX8_canHave 45 = .ok (.aload_n 0, 1) := by decide +kernel
theorem dX8_canHave_46 : decode cX8_canHave 46 = .ok (.iload_n 1, 1) := by decide +kernel
theorem dX8_canHave_47 : decode cX8_canHave 47 = .ok (.iload_n 2, 1) := by decide +kernel
theorem dX8_canHave_48 : decode cX8_canHave 48 = .ok (.bipush (-6), 2) := by decide +kernel
theorem dX8_canHave_50 : decode cX8_canHave 50 = .ok (.iconst 0, 1) := by decide +kernel
theorem dX8_canHave_51 : decode cX8_canHave 51 = .ok (.invokevirtual 91, 3) := by decide +kernel
theorem dX8_canHave_54 : decode cX8_canHave 54 = .ok (.ifCond .eq 7, 3) := by decide +kernel
theorem dX8_canHave_57 : decode cX8_canHave 57 = .ok (.iconst 1, 1) := by decide +kernel
theorem dX8_canHave_58 : decode cX8_canHave 58 = .ok (.goto 4, 3) := by decide +kernel
theorem dX8_canHave_61 : decode cX8_canHave 61 = .ok (.iconst 0, 1) := by decide +kernel
theorem dX8_canHave_62 : decode cX8_canHave 62 = .ok (.ireturn, 1) := by decide +kernel
theorem dX8_houseWrap_0 : decode cX8_houseWrap 0 = .ok (.bipush (-6), 2) := by decide +kernel
theorem dX8_houseWrap_2 : decode cX8_houseWrap 2 = .ok (.istore_n 3, 1) := by decide +kernel
theorem dX8_houseWrap_3 : decode cX8_houseWrap 3 = .ok (.iconst 0, 1) := by decide +kernel
theorem dX8_houseWrap_4 : decode cX8_houseWrap 4 = .ok (.istore 4, 2) := by decide +kernel
theorem dX8_houseWrap_6 : decode cX8_houseWrap 6 = .ok (.iload 4, 2) := by decide +kernel
theorem dX8_houseWrap_8 : decode cX8_houseWrap 8 = .ok (.aload_n 0, 1) := by decide +kernel
theorem dX8_houseWrap_9 : decode cX8_houseWrap 9 = .ok (.getfield 7, 3) := by decide +kernel
theorem dX8_houseWrap_12 : decode cX8_houseWrap 12 = .ok (.iconst 3, 1) := by decide +kernel
theorem dX8_houseWrap_13 : decode cX8_houseWrap 13 = .ok (.iaload, 1) := by decide +kernel
theorem dX8_houseWrap_14 : decode cX8_houseWrap 14 = .ok (.if_icmp .ge 49, 3) := by decide +kernel
theorem dX8_houseWrap_17 : decode cX8_houseWrap 17 = .ok (.aload_n 0, 1) := by decide +kernel
theorem dX8_houseWrap_18 : decode cX8_houseWrap 18 = .ok (.iload 4, 2) := by decide +kernel
theorem dX8_houseWrap_20 : decode cX8_houseWrap 20 = .ok (.iconst 4, 1) := by decide +kernel
theorem dX8_houseWrap_21 : decode cX8_houseWrap 21 = .ok (.invokevirtual 81, 3) := by decide +kernel
theorem dX8_houseWrap_24 : decode cX8_houseWrap 24 = .ok (.iconst 1, 1) := by decide +kernel
theorem dX8_houseWrap_25 : decode cX8_houseWrap 25 = .ok (.if_icmp .ne 30, 3) := by decide +kernel
theorem dX8_houseWrap_28 : decode cX8_houseWrap 28 = .ok (.aload_n 0, 1) := by decide +kernel
theorem dX8_houseWrap_29 : decode cX8_houseWrap 29 = .ok (.iload 4, 2) := by decide +kernel
theorem dX8_houseWrap_31 : decode cX8_houseWrap 31 = .ok (.iconst 0, 1) := by decide +kernel
theorem dX8_houseWrap_32 : decode cX8_houseWrap 32 = .ok (.invokevirtual 81, 3) := by decide +kernel
theorem dX8_houseWrap_35 : decode cX8_houseWrap 35 = .ok (.iload_n 1, 1) := by decide +kernel
theorem dX8_houseWrap_36 : decode cX8_houseWrap 36 = .ok (.if_icmp .ne 19, 3) := by decide +kernel
theorem dX8_houseWrap_39 : decode cX8_houseWrap 39 = .ok (.aload_n 0, 1) := by decide +kernel
theorem dX8_houseWrap_40 : decode cX8_houseWrap 40 = .ok (.iload 4, 2) := by decide +kernel
theorem dX8_houseWrap_42 : decode cX8_houseWrap 42 = .ok (.iconst 1, 1) := by decide +kernel
theorem dX8_houseWrap_43 : decode cX8_houseWrap 43 = .ok (.invokevirtual 81, 3) := by decide +kernel
theorem dX8_houseWrap_46 : decode cX8_houseWrap 46 = .ok (.iload_n 2, 1) := by decide +kernel
theorem dX8_houseWrap_47 : decode cX8_houseWrap 47 = .ok (.if_icmp .ne 8, 3) := by decide +kernel
theorem dX8_houseWrap_50 : decode cX8_houseWrap 50 = .ok (.iload 4, 2) := by decide +kernel
theorem dX8_houseWrap_52 : decode cX8_houseWrap 52 = .ok (.goto 4, 3) := by decide +kernel
theorem dX8_houseWrap_55 : decode cX8_houseWrap 55 = .ok (.iload_n 3, 1) := by decide +kernel
theorem dX8_houseWrap_56 : decode cX8_houseWrap 56 = .ok (.istore_n 3, 1) := by decide +kernel
theorem dX8_houseWrap_57 : decode cX8_houseWrap 57 = .ok (.iinc 4 1, 3) := by decide +kernel
theorem dX8_houseWrap_60 : decode cX8_houseWrap 60 = .ok (.goto (-54), 3) := by decide +kernel
theorem dX8_houseWrap_63 : decode cX8_houseWrap 63 = .ok (.iload_n 3, 1) := by decide +kernel
theorem dX8_houseWrap_64 : decode cX8_houseWrap 64 = .ok (.ireturn, 1) := by decide +kernel
theorem dX8_way_0 : decode cX8_way 0 = .ok (.aload_n 0, 1) := by decide +kernel
theorem dX8_way_1 : decode cX8_way 1 = .ok (.iload_n 1, 1) := by decide +kernel
theorem dX8_way_2 : decode cX8_way 2 = .ok (.invokevirtual 177, 3) := by decide +kernel
theorem dX8_way_5 : decode cX8_way 5 = .ok (.ifCond .eq 7, 3) := by decide +kernel
theorem dX8_way_8 : decode cX8_way 8 = .ok (.iload_n 2, 1) := by decide +kernel
theorem dX8_way_9 : decode cX8_way 9 = .ok (.ifCond .ge 18, 3) := by decide +kernel
theorem dX8_way_12 : decode cX8_way 12 = .ok (.aload_n 0, 1) := by decide +kernel
theorem dX8_way_13 : decode cX8_way 13 = .ok (.iload_n 1, 1) := by decide +kernel
theorem dX8_way_14 : decode cX8_way 14 = .ok (.invokevirtual 177, 3) := by decide +kernel
theorem dX8_way_17 : decode cX8_way 17 = .ok (.ifCond .eq 8, 3) := by decide +kernel
theorem dX8_way_20 : decode cX8_way 20 = .ok (.bipush (-2), 2) := by decide +kernel
theorem dX8_way_22 : decode cX8_way 22 = .ok (.goto 4, 3) := by decide +kernel
theorem dX8_way_25 : decode cX8_way 25 = .ok (.iconst (-1), 1) := by decide +kernel
theorem dX8_way_26 : decode cX8_way 26 = .ok (.ireturn, 1) := by decide +kernel
theorem dX8_way_27 : decode cX8_way 27 = .ok (.aload_n 0, 1) := by decide +kernel
theorem dX8_way_28 : decode cX8_way 28 = .ok (.iload_n 1, 1) := by decide +kernel
theorem dX8_way_29 : decode cX8_way 29 = .ok (.iconst 0, 1) := by decide +kernel
theorem dX8_way_30 : decode cX8_way 30 = .ok (.invokevirtual 51, 3) := by decide +kernel
theorem dX8_way_33 : decode cX8_way 33 = .ok (.istore_n 3, 1) := by decide +kernel
theorem dX8_way_34 : decode cX8_way 34 = .ok (.aload_n 0, 1) := by decide +kernel
theorem dX8_way_35 : decode cX8_way 35 = .ok (.iload_n 3, 1) := by decide +kernel
theorem dX8_way_36 : decode cX8_way 36 = .ok (.invokevirtual 156, 3) := by decide +kernel
theorem dX8_way_39 : decode cX8_way 39 = .ok (.istore 4, 2) := by decide +kernel
theorem dX8_way_41 : decode cX8_way 41 = .ok (.iload_n 2, 1) := by decide +kernel
theorem dX8_way_42 : decode cX8_way 42 = .ok (.iload 4, 2) := by decide +kernel
theorem dX8_way_44 : decode cX8_way 44 = .ok (.if_icmp .le 6, 3) := by decide +kernel
theorem dX8_way_47 : decode cX8_way 47 = .ok (.bipush (-6), 2) := by decide +kernel
theorem dX8_way_49 : decode cX8_way 49 = .ok (.ireturn, 1) := by decide +kernel
theorem dX8_way_50 : decode cX8_way 50 = .ok (.iload_n 2, 1) := by decide +kernel
theorem dX8_way_51 : decode cX8_way 51 = .ok (.iload 4, 2) := by decide +kernel
theorem dX8_way_53 : decode cX8_way 53 = .ok (.if_icmp .ne 8, 3) := by decide +kernel
theorem dX8_way_56 : decode cX8_way 56 = .ok (.bipush (-6), 2) := by decide +kernel
theorem dX8_way_58 : decode cX8_way 58 = .ok (.goto 14, 3) := by decide +kernel
theorem dX8_way_61 : decode cX8_way 61 = .ok (.aload_n 0, 1) := by decide +kernel
theorem dX8_way_62 : decode cX8_way 62 = .ok (.iload_n 3, 1) := by decide +kernel
theorem dX8_way_63 : decode cX8_way 63 = .ok (.iload 4, 2) := by decide +kernel
theorem dX8_way_65 : decode cX8_way 65 = .ok (.iconst 1, 1) := by decide +kernel
theorem dX8_way_66 : decode cX8_way 66 = .ok (.isub, 1) := by decide +kernel
theorem dX8_way_67 : decode cX8_way 67 = .ok (.iload_n 2, 1) := by decide +kernel
theorem dX8_way_68 : decode cX8_way 68 = .ok (.isub, 1) := by decide +kernel
theorem dX8_way_69 : decode cX8_way 69 = .ok (.invokevirtual 159, 3) := by decide +kernel
theorem dX8_way_72 : decode cX8_way 72 = .ok (.istore 5, 2) := by decide +kernel
theorem dX8_way_74 : decode cX8_way 74 = .ok (.aload_n 0, 1) := by decide +kernel
theorem dX8_way_75 : decode cX8_way 75 = .ok (.iload 5, 2) := by decide +kernel
theorem dX8_way_77 : decode cX8_way 77 = .ok (.iload_n 2, 1) := by decide +kernel
theorem dX8_way_78 : decode cX8_way 78 = .ok (.iload 4, 2) := by decide +kernel
theorem dX8_way_80 : decode cX8_way 80 = .ok (.if_icmp .ne 7, 3) := by decide +kernel
theorem dX8_way_83 : decode cX8_way 83 = .ok (.iload_n 1, 1) := by decide +kernel
theorem dX8_way_84 : decode cX8_way 84 = .ok (.goto 10, 3) := by decide +kernel
theorem dX8_way_87 : decode cX8_way 87 = .ok (.aload_n 0, 1) := by decide +kernel
theorem dX8_way_88 : decode cX8_way 88 = .ok (.iload 5, 2) := by decide +kernel
theorem dX8_way_90 : decode cX8_way 90 = .ok (.iconst 2, 1) := by decide +kernel
theorem dX8_way_91 : decode cX8_way 91 = .ok (.invokevirtual 44, 3) := by decide +kernel
theorem dX8_way_94 : decode cX8_way 94 = .ok (.invokevirtual 207, 3) := by decide +kernel
theorem dX8_way_97 : decode cX8_way 97 = .ok (.ireturn, 1) := by decide +kernel
theorem dX8_leaks_0 : decode cX8_leaks 0 = .ok (.aload_n 0, 1) := by decide +kernel
theorem dX8_leaks_1 : decode cX8_leaks 1 = .ok (.iload_n 1, 1) := by decide +kernel
theorem dX8_leaks_2 : decode cX8_leaks 2 = .ok (.invokevirtual 40, 3) := by decide +kernel
theorem dX8_leaks_5 : decode cX8_leaks 5 = .ok (.ifCond .eq 11, 3) := by decide +kernel
theorem dX8_leaks_8 : decode cX8_leaks 8 = .ok (.aload_n 0, 1) := by decide +kernel
theorem dX8_leaks_9 : decode cX8_leaks 9 = .ok (.iload_n 1, 1) := by decide +kernel
theorem dX8_leaks_10 : decode cX8_leaks 10 = .ok (.invokevirtual 84, 3) := by decide +kernel
theorem dX8_leaks_13 : decode cX8_leaks 13 = .ok (.ifCond .ne 5, 3) := by decide +kernel
theorem dX8_leaks_16 : decode cX8_leaks 16 = .ok (.iconst (-1), 1) := by decide +kernel
theorem dX8_leaks_17 : decode cX8_leaks 17 = .ok (.ireturn, 1) := by decide +kernel
theorem dX8_leaks_18 : decode cX8_leaks 18 = .ok (.iload_n 2, 1) := by decide +kernel
theorem dX8_leaks_19 : decode cX8_leaks 19 = .ok (.ifCond .lt 13, 3) := by decide +kernel
theorem dX8_leaks_22 : decode cX8_leaks 22 = .ok (.iload_n 3, 1) := by decide +kernel
theorem dX8_leaks_23 : decode cX8_leaks 23 = .ok (.iconst 0, 1) := by decide +kernel
theorem dX8_leaks_24 : decode cX8_leaks 24 = .ok (.bipush 7, 2) := by decide +kernel
theorem dX8_leaks_26 : decode cX8_leaks 26 = .ok (.invokestatic 36, 3) := by decide +kernel
theorem dX8_leaks_29 : decode cX8_leaks 29 = .ok (.ifCond .ne 6, 3) := by decide +kernel
theorem dX8_leaks_32 : decode cX8_leaks 32 = .ok (.bipush (-2), 2) := by decide +kernel
theorem dX8_leaks_34 : decode cX8_leaks 34 = .ok (.ireturn, 1) := by decide +kernel
theorem dX8_leaks_35 : decode cX8_leaks 35 = .ok (.aload_n 0, 1) := by decide +kernel
theorem dX8_leaks_36 : decode cX8_leaks 36 = .ok (.iload_n 3, 1) := by decide +kernel
theorem dX8_leaks_37 : decode cX8_leaks 37 = .ok (.iload_n 1, 1) := by decide +kernel
theorem dX8_leaks_38 : decode cX8_leaks 38 = .ok (.iload_n 2, 1) := by decide +kernel
theorem dX8_leaks_39 : decode cX8_leaks 39 = .ok (.invokevirtual 95, 3) := by decide +kernel
theorem dX8_leaks_42 : decode cX8_leaks 42 = .ok (.aload_n 0, 1) := by decide +kernel
theorem dX8_leaks_43 : decode cX8_leaks 43 = .ok (.invokevirtual 98, 3) := by decide +kernel
theorem dX8_leaks_46 : decode cX8_leaks 46 = .ok (.ireturn, 1) := by decide +kernel
theorem dX8_lostBy_0 : decode cX8_lostBy 0 = .ok (.aload_n 0, 1) := by decide +kernel
theorem dX8_lostBy_1 : decode cX8_lostBy 1 = .ok (.iload_n 1, 1) := by decide +kernel
theorem dX8_lostBy_2 : decode cX8_lostBy 2 = .ok (.invokevirtual 105, 3) := by decide +kernel
theorem dX8_lostBy_5 : decode cX8_lostBy 5 = .ok (.ifCond .ne 5, 3) := by decide +kernel
theorem dX8_lostBy_8 : decode cX8_lostBy 8 = .ok (.iconst (-1), 1) := by decide +kernel
theorem dX8_lostBy_9 : decode cX8_lostBy 9 = .ok (.ireturn, 1) := by decide +kernel
theorem dX8_lostBy_10 : decode cX8_lostBy 10 = .ok (.iconst 0, 1) := by decide +kernel
theorem dX8_lostBy_11 : decode cX8_lostBy 11 = .ok (.istore_n 2, 1) := by decide +kernel
theorem dX8_lostBy_12 : decode cX8_lostBy 12 = .ok (.iconst 0, 1) := by decide +kernel
theorem dX8_lostBy_13 : decode cX8_lostBy 13 = .ok (.istore_n 3, 1) := by decide +kernel
theorem dX8_lostBy_14 : decode cX8_lostBy 14 = .ok (.iload_n 3, 1) := by decide +kernel
theorem dX8_lostBy_15 : decode cX8_lostBy 15 = .ok (.aload_n 0, 1) := by decide +kernel
theorem dX8_lostBy_16 : decode cX8_lostBy 16 = .ok (.getfield 7, 3) := by decide +kernel
theorem dX8_lostBy_19 : decode cX8_lostBy 19 = .ok (.iconst 2, 1) := by decide +kernel
theorem dX8_lostBy_20 : decode cX8_lostBy 20 = .ok (.iaload, 1) := by decide +kernel
theorem dX8_lostBy_21 : decode cX8_lostBy 21 = .ok (.if_icmp .ge 43, 3) := by decide +kernel
theorem dX8_lostBy_24 : decode cX8_lostBy 24 = .ok (.iload_n 2, 1) := by decide +kernel
theorem dX8_lostBy_25 : decode cX8_lostBy 25 = .ok (.aload_n 0, 1) := by decide +kernel
theorem dX8_lostBy_26 : decode cX8_lostBy 26 = .ok (.iload_n 3, 1) := by decide +kernel
theorem dX8_lostBy_27 : decode cX8_lostBy 27 = .ok (.iconst 1, 1) := by decide +kernel
theorem dX8_lostBy_28 : decode cX8_lostBy 28 = .ok (.invokevirtual 51, 3) := by decide +kernel
theorem dX8_lostBy_31 : decode cX8_lostBy 31 = .ok (.iconst 1, 1) := by decide +kernel
theorem dX8_lostBy_32 : decode cX8_lostBy 32 = .ok (.if_icmp .ne 23, 3) := by decide +kernel
theorem dX8_lostBy_35 : decode cX8_lostBy 35 = .ok (.aload_n 0, 1) := by decide +kernel
theorem dX8_lostBy_36 : decode cX8_lostBy 36 = .ok (.aload_n 0, 1) := by decide +kernel
theorem dX8_lostBy_37 : decode cX8_lostBy 37 = .ok (.iload_n 3, 1) := by decide +kernel
theorem dX8_lostBy_38 : decode cX8_lostBy 38 = .ok (.iconst 0, 1) := by decide +kernel
theorem dX8_lostBy_39 : decode cX8_lostBy 39 = .ok (.invokevirtual 51, 3) := by decide +kernel
theorem dX8_lostBy_42 : decode cX8_lostBy 42 = .ok (.iload_n 1, 1) := by decide +kernel
theorem dX8_lostBy_43 : decode cX8_lostBy 43 = .ok (.invokevirtual 165, 3) := by decide +kernel
theorem dX8_lostBy_46 : decode cX8_lostBy 46 = .ok (.ifCond .eq 9, 3) := by decide +kernel
theorem dX8_lostBy_49 : decode cX8_lostBy 49 = .ok (.iconst 1, 1) := by decide +kernel
theorem dX8_lostBy_50 : decode cX8_lostBy 50 = .ok (.iload_n 3, 1) := by decide +kernel
theorem dX8_lostBy_51 : decode cX8_lostBy 51 = .ok (.ishl, 1) := by decide +kernel
theorem dX8_lostBy_52 : decode cX8_lostBy 52 = .ok (.goto 4, 3) := by decide +kernel
theorem dX8_lostBy_55 : decode cX8_lostBy 55 = .ok (.iconst 0, 1) := by decide +kernel
theorem dX8_lostBy_56 : decode cX8_lostBy 56 = .ok (.ior, 1) := by decide +kernel
theorem dX8_lostBy_57 : decode cX8_lostBy 57 = .ok (.istore_n 2, 1) := by decide +kernel
theorem dX8_lostBy_58 : decode cX8_lostBy 58 = .ok (.iinc 3 1, 3) := by decide +kernel
theorem dX8_lostBy_61 : decode cX8_lostBy 61 = .ok (.goto (-47), 3) := by decide +kernel
theorem dX8_lostBy_64 : decode cX8_lostBy 64 = .ok (.iload_n 2, 1) := by decide +kernel
theorem dX8_lostBy_65 : decode cX8_lostBy 65 = .ok (.ireturn, 1) := by decide +kernel
theorem dX8_throwingMakes_0 : decode cX8_throwingMakes 0 = .ok (.iload_n 1, 1) := by decide +kernel
theorem dX8_throwingMakes_1 : decode cX8_throwingMakes 1 = .ok (.iconst 0, 1) := by decide +kernel
theorem dX8_throwingMakes_2 : decode cX8_throwingMakes 2 = .ok (.iconst 1, 1) := by decide +kernel
theorem dX8_throwingMakes_3 : decode cX8_throwingMakes 3 = .ok (.invokestatic 36, 3) := by decide +kernel
theorem dX8_throwingMakes_6 : decode cX8_throwingMakes 6 = .ok (.ifCond .ne 6, 3) := by decide +kernel
theorem dX8_throwingMakes_9 : decode cX8_throwingMakes 9 = .ok (.bipush (-2), 2) := by decide +kernel
theorem dX8_throwingMakes_11 : decode cX8_throwingMakes 11 = .ok (.ireturn, 1) := by decide +kernel
theorem dX8_throwingMakes_12 : decode cX8_throwingMakes 12 = .ok (.iload_n 1, 1) := by decide +kernel
theorem dX8_throwingMakes_13 : decode cX8_throwingMakes 13 = .ok (.ifCond .ne 14, 3) := by decide +kernel
theorem dX8_throwingMakes_16 : decode cX8_throwingMakes 16 = .ok (.aload_n 0, 1) := by decide +kernel
theorem dX8_throwingMakes_17 : decode cX8_throwingMakes 17 = .ok (.iload_n 2, 1) := by decide +kernel
theorem dX8_throwingMakes_18 : decode cX8_throwingMakes 18 = .ok (.invokevirtual 105, 3) := by decide +kernel
theorem dX8_throwingMakes_21 : decode cX8_throwingMakes 21 = .ok (.ifCond .ne 16, 3) := by decide +kernel
theorem dX8_throwingMakes_24 : decode cX8_throwingMakes 24 = .ok (.goto 11, 3) := by decide +kernel
theorem dX8_throwingMakes_27 : decode cX8_throwingMakes 27 = .ok (.aload_n 0, 1) := by decide +kernel
theorem dX8_throwingMakes_28 : decode cX8_throwingMakes 28 = .ok (.iload_n 2, 1) := by decide +kernel
theorem dX8_throwingMakes_29 : decode cX8_throwingMakes 29 = .ok (.invokevirtual 177, 3) := by decide +kernel
theorem dX8_throwingMakes_32 : decode cX8_throwingMakes 32 = .ok (.ifCond .ne 5, 3) := by decide +kernel
theorem dX8_throwingMakes_35 : decode cX8_throwingMakes 35 = .ok (.iconst (-1), 1) := by decide +kernel
theorem dX8_throwingMakes_36 : decode cX8_throwingMakes 36 = .ok (.ireturn, 1) := by decide +kernel
theorem dX8_throwingMakes_37 : decode cX8_throwingMakes 37 = .ok (.aload_n 0, 1) := by decide +kernel
theorem dX8_throwingMakes_38 : decode cX8_throwingMakes 38 = .ok (.iload_n 1, 1) := by decide +kernel
theorem dX8_throwingMakes_39 : decode cX8_throwingMakes 39 = .ok (.ifCond .ne 12, 3) := by decide +kernel
theorem dX8_throwingMakes_42 : decode cX8_throwingMakes 42 = .ok (.aload_n 0, 1) := by decide +kernel
theorem dX8_throwingMakes_43 : decode cX8_throwingMakes 43 = .ok (.iload_n 2, 1) := by decide +kernel
theorem dX8_throwingMakes_44 : decode cX8_throwingMakes 44 = .ok (.iconst 0, 1) := by decide +kernel
theorem dX8_throwingMakes_45 : decode cX8_throwingMakes 45 = .ok (.invokevirtual 44, 3) := by decide +kernel
theorem dX8_throwingMakes_48 : decode cX8_throwingMakes 48 = .ok (.goto 9, 3) := by decide +kernel
theorem dX8_throwingMakes_51 : decode cX8_throwingMakes 51 = .ok (.aload_n 0, 1) := by decide +kernel
theorem dX8_throwingMakes_52 : decode cX8_throwingMakes 52 = .ok (.iload_n 2, 1) := by decide +kernel
theorem dX8_throwingMakes_53 : decode cX8_throwingMakes 53 = .ok (.iconst 0, 1) := by decide +kernel
theorem dX8_throwingMakes_54 : decode cX8_throwingMakes 54 = .ok (.invokevirtual 51, 3) := by decide +kernel
theorem dX8_throwingMakes_57 : decode cX8_throwingMakes 57 = .ok (.invokevirtual 153, 3) := by decide +kernel
theorem dX8_throwingMakes_60 : decode cX8_throwingMakes 60 = .ok (.ireturn, 1) := by decide +kernel
theorem dX8_leftOf_0 : decode cX8_leftOf 0 = .ok (.aload_n 0, 1) := by decide +kernel
theorem dX8_leftOf_1 : decode cX8_leftOf 1 = .ok (.getfield 7, 3) := by decide +kernel
theorem dX8_leftOf_4 : decode cX8_leftOf 4 = .ok (.iconst 0, 1) := by decide +kernel
theorem dX8_leftOf_5 : decode cX8_leftOf 5 = .ok (.iaload, 1) := by decide +kernel
theorem dX8_leftOf_6 : decode cX8_leftOf 6 = .ok (.aload_n 0, 1) := by decide +kernel
theorem dX8_leftOf_7 : decode cX8_leftOf 7 = .ok (.iload_n 1, 1) := by decide +kernel
theorem dX8_leftOf_8 : decode cX8_leftOf 8 = .ok (.iconst 3, 1) := by decide +kernel
theorem dX8_leftOf_9 : decode cX8_leftOf 9 = .ok (.invokevirtual 44, 3) := by decide +kernel
theorem dX8_leftOf_12 : decode cX8_leftOf 12 = .ok (.isub, 1) := by decide +kernel
theorem dX8_leftOf_13 : decode cX8_leftOf 13 = .ok (.istore_n 2, 1) := by decide +kernel
theorem dX8_leftOf_14 : decode cX8_leftOf 14 = .ok (.iload_n 2, 1) := by decide +kernel
theorem dX8_leftOf_15 : decode cX8_leftOf 15 = .ok (.ifCond .le 7, 3) := by decide +kernel
theorem dX8_leftOf_18 : decode cX8_leftOf 18 = .ok (.iload_n 2, 1) := by decide +kernel
theorem dX8_leftOf_19 : decode cX8_leftOf 19 = .ok (.goto 4, 3) := by decide +kernel
theorem dX8_leftOf_22 : decode cX8_leftOf 22 = .ok (.iconst 0, 1) := by decide +kernel
theorem dX8_leftOf_23 : decode cX8_leftOf 23 = .ok (.ireturn, 1) := by decide +kernel
theorem dX8_mostWorn_0 : decode cX8_mostWorn 0 = .ok (.iload_n 1, 1) := by decide +kernel
theorem dX8_mostWorn_1 : decode cX8_mostWorn 1 = .ok (.iconst 0, 1) := by decide +kernel
theorem dX8_mostWorn_2 : decode cX8_mostWorn 2 = .ok (.iconst 1, 1) := by decide +kernel
theorem dX8_mostWorn_3 : decode cX8_mostWorn 3 = .ok (.invokestatic 36, 3) := by decide +kernel
theorem dX8_mostWorn_6 : decode cX8_mostWorn 6 = .ok (.ifCond .ne 6, 3) := by decide +kernel
theorem dX8_mostWorn_9 : decode cX8_mostWorn 9 = .ok (.bipush (-2), 2) := by decide +kernel
theorem dX8_mostWorn_11 : decode cX8_mostWorn 11 = .ok (.ireturn, 1) := by decide +kernel
theorem dX8_mostWorn_12 : decode cX8_mostWorn 12 = .ok (.bipush (-6), 2) := by decide +kernel
theorem dX8_mostWorn_14 : decode cX8_mostWorn 14 = .ok (.istore_n 2, 1) := by decide +kernel
theorem dX8_mostWorn_15 : decode cX8_mostWorn 15 = .ok (.iconst 0, 1) := by decide +kernel
theorem dX8_mostWorn_16 : decode cX8_mostWorn 16 = .ok (.istore_n 3, 1) := by decide +kernel
theorem dX8_mostWorn_17 : decode cX8_mostWorn 17 = .ok (.iload_n 3, 1) := by decide +kernel
theorem dX8_mostWorn_18 : decode cX8_mostWorn 18 = .ok (.aload_n 0, 1) := by decide +kernel
theorem dX8_mostWorn_19 : decode cX8_mostWorn 19 = .ok (.getfield 7, 3) := by decide +kernel
theorem dX8_mostWorn_22 : decode cX8_mostWorn 22 = .ok (.iconst 1, 1) := by decide +kernel
theorem dX8_mostWorn_23 : decode cX8_mostWorn 23 = .ok (.iaload, 1) := by decide +kernel
theorem dX8_mostWorn_24 : decode cX8_mostWorn 24 = .ok (.if_icmp .ge 44, 3) := by decide +kernel
theorem dX8_mostWorn_27 : decode cX8_mostWorn 27 = .ok (.aload_n 0, 1) := by decide +kernel
theorem dX8_mostWorn_28 : decode cX8_mostWorn 28 = .ok (.iload_n 3, 1) := by decide +kernel
theorem dX8_mostWorn_29 : decode cX8_mostWorn 29 = .ok (.iconst 1, 1) := by decide +kernel
theorem dX8_mostWorn_30 : decode cX8_mostWorn 30 = .ok (.invokevirtual 44, 3) := by decide +kernel
theorem dX8_mostWorn_33 : decode cX8_mostWorn 33 = .ok (.iconst 1, 1) := by decide +kernel
theorem dX8_mostWorn_34 : decode cX8_mostWorn 34 = .ok (.if_icmp .ne 26, 3) := by decide +kernel
theorem dX8_mostWorn_37 : decode cX8_mostWorn 37 = .ok (.iload_n 2, 1) := by decide +kernel
theorem dX8_mostWorn_38 : decode cX8_mostWorn 38 = .ok (.bipush (-6), 2) := by decide +kernel
theorem dX8_mostWorn_40 : decode cX8_mostWorn 40 = .ok (.if_icmp .eq 16, 3) := by decide +kernel
theorem dX8_mostWorn_43 : decode cX8_mostWorn 43 = .ok (.aload_n 0, 1) := by decide +kernel
theorem dX8_mostWorn_44 : decode cX8_mostWorn 44 = .ok (.iload_n 3, 1) := by decide +kernel
theorem dX8_mostWorn_45 : decode cX8_mostWorn 45 = .ok (.invokevirtual 210, 3) := by decide +kernel
theorem dX8_mostWorn_48 : decode cX8_mostWorn 48 = .ok (.aload_n 0, 1) := by decide +kernel
theorem dX8_mostWorn_49 : decode cX8_mostWorn 49 = .ok (.iload_n 2, 1) := by decide +kernel
theorem dX8_mostWorn_50 : decode cX8_mostWorn 50 = .ok (.invokevirtual 210, 3) := by decide +kernel
theorem dX8_mostWorn_53 : decode cX8_mostWorn 53 = .ok (.if_icmp .ge 7, 3) := by decide +kernel
theorem dX8_mostWorn_56 : decode cX8_mostWorn 56 = .ok (.iload_n 3, 1) := by decide +kernel
theorem dX8_mostWorn_57 : decode cX8_mostWorn 57 = .ok (.goto 4, 3) := by decide +kernel
theorem dX8_mostWorn_60 : decode cX8_mostWorn 60 = .ok (.iload_n 2, 1) := by decide +kernel
theorem dX8_mostWorn_61 : decode cX8_mostWorn 61 = .ok (.istore_n 2, 1) := by decide +kernel
theorem dX8_mostWorn_62 : decode cX8_mostWorn 62 = .ok (.iinc 3 1, 3) := by decide +kernel
theorem dX8_mostWorn_65 : decode cX8_mostWorn 65 = .ok (.goto (-48), 3) := by decide +kernel
theorem dX8_mostWorn_68 : decode cX8_mostWorn 68 = .ok (.iload_n 2, 1) := by decide +kernel
theorem dX8_mostWorn_69 : decode cX8_mostWorn 69 = .ok (.bipush (-6), 2) := by decide +kernel
theorem dX8_mostWorn_71 : decode cX8_mostWorn 71 = .ok (.if_icmp .eq 7, 3) := by decide +kernel
theorem dX8_mostWorn_74 : decode cX8_mostWorn 74 = .ok (.iload_n 1, 1) := by decide +kernel
theorem dX8_mostWorn_75 : decode cX8_mostWorn 75 = .ok (.ifCond .ne 7, 3) := by decide +kernel
theorem dX8_mostWorn_78 : decode cX8_mostWorn 78 = .ok (.iload_n 2, 1) := by decide +kernel
theorem dX8_mostWorn_79 : decode cX8_mostWorn 79 = .ok (.goto 8, 3) := by decide +kernel
theorem dX8_mostWorn_82 : decode cX8_mostWorn 82 = .ok (.aload_n 0, 1) := by decide +kernel
theorem dX8_mostWorn_83 : decode cX8_mostWorn 83 = .ok (.iload_n 2, 1) := by decide +kernel
theorem dX8_mostWorn_84 : decode cX8_mostWorn 84 = .ok (.invokevirtual 210, 3) := by decide +kernel
theorem dX8_mostWorn_87 : decode cX8_mostWorn 87 = .ok (.ireturn, 1) := by decide +kernel
theorem dX8_put_0 : decode cX8_put 0 = .ok (.iconst 0, 1) := by decide +kernel
theorem dX8_put_1 : decode cX8_put 1 = .ok (.istore_n 3, 1) := by decide +kernel
theorem dX8_put_2 : decode cX8_put 2 = .ok (.lload_n 1, 1) := by decide +kernel
theorem dX8_put_3 : decode cX8_put 3 = .ok (.lstore 4, 2) := by decide +kernel
theorem dX8_put_5 : decode cX8_put 5 = .ok (.iconst 1, 1) := by decide +kernel
theorem dX8_put_6 : decode cX8_put 6 = .ok (.istore 6, 2) := by decide +kernel
theorem dX8_put_8 : decode cX8_put 8 = .ok (.iload_n 3, 1) := by decide +kernel
theorem dX8_put_9 : decode cX8_put 9 = .ok (.bipush 8, 2) := by decide +kernel
theorem dX8_put_11 : decode cX8_put 11 = .ok (.if_icmp .ge 56, 3) := by decide +kernel
theorem dX8_put_14 : decode cX8_put 14 = .ok (.lload 4, 2) := by decide +kernel
theorem dX8_put_16 : decode cX8_put 16 = .ok (.ldc2_w 213, 3) := by decide +kernel
theorem dX8_put_19 : decode cX8_put 19 = .ok (.land, 1) := by decide +kernel
theorem dX8_put_20 : decode cX8_put 20 = .ok (.lconst 0, 1) := by decide +kernel
theorem dX8_put_21 : decode cX8_put 21 = .ok (.lcmp, 1) := by decide +kernel
theorem dX8_put_22 : decode cX8_put 22 = .ok (.ifCond .eq 45, 3) := by decide +kernel
theorem dX8_put_25 : decode cX8_put 25 = .ok (.iload 6, 2) := by decide +kernel
theorem dX8_put_27 : decode cX8_put 27 = .ok (.ifCond .eq 24, 3) := by decide +kernel
theorem dX8_put_30 : decode cX8_put 30 = .ok (.lload 4, 2) := by decide +kernel
theorem dX8_put_32 : decode cX8_put 32 = .ok (.ldc2_w 213, 3) := by decide +kernel
theorem dX8_put_35 : decode cX8_put 35 = .ok (.land, 1) := by decide +kernel
theorem dX8_put_36 : decode cX8_put 36 = .ok (.l2i, 1) := by decide +kernel
theorem dX8_put_37 : decode cX8_put 37 = .ok (.bipush 33, 2) := by decide +kernel
theorem dX8_put_39 : decode cX8_put 39 = .ok (.bipush 126, 2) := by decide +kernel
theorem dX8_put_41 : decode cX8_put 41 = .ok (.invokestatic 36, 3) := by decide +kernel
theorem dX8_put_44 : decode cX8_put 44 = .ok (.ifCond .eq 7, 3) := by decide +kernel
theorem dX8_put_47 : decode cX8_put 47 = .ok (.iconst 1, 1) := by decide +kernel
theorem dX8_put_48 : decode cX8_put 48 = .ok (.goto 4, 3) := by decide +kernel
theorem dX8_put_51 : decode cX8_put 51 = .ok (.iconst 0, 1) := by decide +kernel
theorem dX8_put_52 : decode cX8_put 52 = .ok (.istore 6, 2) := by decide +kernel
theorem dX8_put_54 : decode cX8_put 54 = .ok (.lload 4, 2) := by decide +kernel
theorem dX8_put_56 : decode cX8_put 56 = .ok (.bipush 8, 2) := by decide +kernel
theorem dX8_put_58 : decode cX8_put 58 = .ok (.lushr, 1) := by decide +kernel
theorem dX8_put_59 : decode cX8_put 59 = .ok (.lstore 4, 2) := by decide +kernel
theorem dX8_put_61 : decode cX8_put 61 = .ok (.iinc 3 1, 3) := by decide +kernel
theorem dX8_put_64 : decode cX8_put 64 = .ok (.goto (-56), 3) := by decide +kernel
theorem dX8_put_67 : decode cX8_put 67 = .ok (.iload_n 3, 1) := by decide +kernel
theorem dX8_put_68 : decode cX8_put 68 = .ok (.ifCond .eq 15, 3) := by decide +kernel
theorem dX8_put_71 : decode cX8_put 71 = .ok (.iload 6, 2) := by decide +kernel
theorem dX8_put_73 : decode cX8_put 73 = .ok (.ifCond .eq 10, 3) := by decide +kernel
theorem dX8_put_76 : decode cX8_put 76 = .ok (.lload 4, 2) := by decide +kernel
theorem dX8_put_78 : decode cX8_put 78 = .ok (.lconst 0, 1) := by decide +kernel
theorem dX8_put_79 : decode cX8_put 79 = .ok (.lcmp, 1) := by decide +kernel
theorem dX8_put_80 : decode cX8_put 80 = .ok (.ifCond .eq 6, 3) := by decide +kernel
theorem dX8_put_83 : decode cX8_put 83 = .ok (.bipush (-2), 2) := by decide +kernel
theorem dX8_put_85 : decode cX8_put 85 = .ok (.ireturn, 1) := by decide +kernel
theorem dX8_put_86 : decode cX8_put 86 = .ok (.aload_n 0, 1) := by decide +kernel
theorem dX8_put_87 : decode cX8_put 87 = .ok (.getfield 204, 3) := by decide +kernel
theorem dX8_put_90 : decode cX8_put 90 = .ok (.iload_n 3, 1) := by decide +kernel
theorem dX8_put_91 : decode cX8_put 91 = .ok (.iadd, 1) := by decide +kernel
theorem dX8_put_92 : decode cX8_put 92 = .ok (.bipush 60, 2) := by decide +kernel
theorem dX8_put_94 : decode cX8_put 94 = .ok (.if_icmp .le 6, 3) := by decide +kernel
theorem dX8_put_97 : decode cX8_put 97 = .ok (.bipush (-4), 2) := by decide +kernel
theorem dX8_put_99 : decode cX8_put 99 = .ok (.ireturn, 1) := by decide +kernel
theorem dX8_put_100 : decode cX8_put 100 = .ok (.iload_n 3, 1) := by decide +kernel
theorem dX8_put_101 : decode cX8_put 101 = .ok (.iconst 1, 1) := by decide +kernel
theorem dX8_put_102 : decode cX8_put 102 = .ok (.isub, 1) := by decide +kernel
theorem dX8_put_103 : decode cX8_put 103 = .ok (.istore 7, 2) := by decide +kernel
theorem dX8_put_105 : decode cX8_put 105 = .ok (.iload 7, 2) := by decide +kernel
theorem dX8_put_107 : decode cX8_put 107 = .ok (.ifCond .lt 40, 3) := by decide +kernel
theorem dX8_put_110 : decode cX8_put 110 = .ok (.aload_n 0, 1) := by decide +kernel
theorem dX8_put_111 : decode cX8_put 111 = .ok (.getfield 22, 3) := by decide +kernel
theorem dX8_put_114 : decode cX8_put 114 = .ok (.aload_n 0, 1) := by decide +kernel
theorem dX8_put_115 : decode cX8_put 115 = .ok (.getfield 204, 3) := by decide +kernel
theorem dX8_put_118 : decode cX8_put 118 = .ok (.lload_n 1, 1) := by decide +kernel
theorem dX8_put_119 : decode cX8_put 119 = .ok (.bipush 8, 2) := by decide +kernel
theorem dX8_put_121 : decode cX8_put 121 = .ok (.iload 7, 2) := by decide +kernel
theorem dX8_put_123 : decode cX8_put 123 = .ok (.imul, 1) := by decide +kernel
theorem dX8_put_124 : decode cX8_put 124 = .ok (.lushr, 1) := by decide +kernel
theorem dX8_put_125 : decode cX8_put 125 = .ok (.ldc2_w 213, 3) := by decide +kernel
theorem dX8_put_128 : decode cX8_put 128 = .ok (.land, 1) := by decide +kernel
theorem dX8_put_129 : decode cX8_put 129 = .ok (.l2i, 1) := by decide +kernel
theorem dX8_put_130 : decode cX8_put 130 = .ok (.iastore, 1) := by decide +kernel
theorem dX8_put_131 : decode cX8_put 131 = .ok (.aload_n 0, 1) := by decide +kernel
theorem dX8_put_132 : decode cX8_put 132 = .ok (.dup, 1) := by decide +kernel
theorem dX8_put_133 : decode cX8_put 133 = .ok (.getfield 204, 3) := by decide +kernel
theorem dX8_put_136 : decode cX8_put 136 = .ok (.iconst 1, 1) := by decide +kernel
theorem dX8_put_137 : decode cX8_put 137 = .ok (.iadd, 1) := by decide +kernel
theorem dX8_put_138 : decode cX8_put 138 = .ok (.putfield 204, 3) := by decide +kernel
theorem dX8_put_141 : decode cX8_put 141 = .ok (.iinc 7 (-1), 3) := by decide +kernel
theorem dX8_put_144 : decode cX8_put 144 = .ok (.goto (-39), 3) := by decide +kernel
theorem dX8_put_147 : decode cX8_put 147 = .ok (.aload_n 0, 1) := by decide +kernel
theorem dX8_put_148 : decode cX8_put 148 = .ok (.getfield 204, 3) := by decide +kernel
theorem dX8_put_151 : decode cX8_put 151 = .ok (.ireturn, 1) := by decide +kernel
theorem dX8_wipe_0 : decode cX8_wipe 0 = .ok (.aload_n 0, 1) := by decide +kernel
theorem dX8_wipe_1 : decode cX8_wipe 1 = .ok (.getfield 204, 3) := by decide +kernel
theorem dX8_wipe_4 : decode cX8_wipe 4 = .ok (.istore_n 1, 1) := by decide +kernel
theorem dX8_wipe_5 : decode cX8_wipe 5 = .ok (.aload_n 0, 1) := by decide +kernel
theorem dX8_wipe_6 : decode cX8_wipe 6 = .ok (.iconst 0, 1) := by decide +kernel
theorem dX8_wipe_7 : decode cX8_wipe 7 = .ok (.putfield 204, 3) := by decide +kernel
theorem dX8_wipe_10 : decode cX8_wipe 10 = .ok (.iload_n 1, 1) := by decide +kernel
theorem dX8_wipe_11 : decode cX8_wipe 11 = .ok (.ireturn, 1) := by decide +kernel
theorem dX8_character_0 : decode cX8_character 0 = .ok (.iload_n 1, 1) := by decide +kernel
theorem dX8_character_1 : decode cX8_character 1 = .ok (.aload_n 0, 1) := by decide +kernel
theorem dX8_character_2 : decode cX8_character 2 = .ok (.getfield 204, 3) := by decide +kernel
theorem dX8_character_5 : decode cX8_character 5 = .ok (.if_icmp .ge 12, 3) := by decide +kernel
theorem dX8_character_8 : decode cX8_character 8 = .ok (.aload_n 0, 1) := by decide +kernel
theorem dX8_character_9 : decode cX8_character 9 = .ok (.getfield 22, 3) := by decide +kernel
theorem dX8_character_12 : decode cX8_character 12 = .ok (.iload_n 1, 1) := by decide +kernel
theorem dX8_character_13 : decode cX8_character 13 = .ok (.iaload, 1) := by decide +kernel
theorem dX8_character_14 : decode cX8_character 14 = .ok (.goto 4, 3) := by decide +kernel
theorem dX8_character_17 : decode cX8_character 17 = .ok (.iconst (-1), 1) := by decide +kernel
theorem dX8_character_18 : decode cX8_character 18 = .ok (.ireturn, 1) := by decide +kernel
theorem dX8_takes_0 : decode cX8_takes 0 = .ok (.aload_n 0, 1) := by decide +kernel
theorem dX8_takes_1 : decode cX8_takes 1 = .ok (.aload_n 0, 1) := by decide +kernel
theorem dX8_takes_2 : decode cX8_takes 2 = .ok (.getfield 215, 3) := by decide +kernel
theorem dX8_takes_5 : decode cX8_takes 5 = .ok (.invokevirtual 218, 3) := by decide +kernel
theorem dX8_takes_8 : decode cX8_takes 8 = .ok (.iload_n 1, 1) := by decide +kernel
theorem dX8_takes_9 : decode cX8_takes 9 = .ok (.if_icmp .ne 7, 3) := by decide +kernel
theorem dX8_takes_12 : decode cX8_takes 12 = .ok (.iconst 1, 1) := by decide +kernel
theorem dX8_takes_13 : decode cX8_takes 13 = .ok (.goto 4, 3) := by decide +kernel
theorem dX8_takes_16 : decode cX8_takes 16 = .ok (.iconst 0, 1) := by decide +kernel
theorem dX8_takes_17 : decode cX8_takes 17 = .ok (.istore_n 2, 1) := by decide +kernel
theorem dX8_takes_18 : decode cX8_takes 18 = .ok (.aload_n 0, 1) := by decide +kernel
theorem dX8_takes_19 : decode cX8_takes 19 = .ok (.dup, 1) := by decide +kernel
theorem dX8_takes_20 : decode cX8_takes 20 = .ok (.getfield 215, 3) := by decide +kernel
theorem dX8_takes_23 : decode cX8_takes 23 = .ok (.iload_n 2, 1) := by decide +kernel
theorem dX8_takes_24 : decode cX8_takes 24 = .ok (.ifCond .eq 7, 3) := by decide +kernel
theorem dX8_takes_27 : decode cX8_takes 27 = .ok (.iconst 1, 1) := by decide +kernel
theorem dX8_takes_28 : decode cX8_takes 28 = .ok (.goto 4, 3) := by decide +kernel
theorem dX8_takes_31 : decode cX8_takes 31 = .ok (.iconst 0, 1) := by decide +kernel
theorem dX8_takes_32 : decode cX8_takes 32 = .ok (.iadd, 1) := by decide +kernel
theorem dX8_takes_33 : decode cX8_takes 33 = .ok (.putfield 215, 3) := by decide +kernel
theorem dX8_takes_36 : decode cX8_takes 36 = .ok (.iload_n 2, 1) := by decide +kernel
theorem dX8_takes_37 : decode cX8_takes 37 = .ok (.ireturn, 1) := by decide +kernel
theorem dX8_takeNumber_0 : decode cX8_takeNumber 0 = .ok (.iconst (-1), 1) := by decide +kernel
theorem dX8_takeNumber_1 : decode cX8_takeNumber 1 = .ok (.istore_n 1, 1) := by decide +kernel
theorem dX8_takeNumber_2 : decode cX8_takeNumber 2 = .ok (.aload_n 0, 1) := by decide +kernel
theorem dX8_takeNumber_3 : decode cX8_takeNumber 3 = .ok (.aload_n 0, 1) := by decide +kernel
theorem dX8_takeNumber_4 : decode cX8_takeNumber 4 = .ok (.getfield 215, 3) := by decide +kernel
theorem dX8_takeNumber_7 : decode cX8_takeNumber 7 = .ok (.invokevirtual 218, 3) := by decide +kernel
theorem dX8_takeNumber_10 : decode cX8_takeNumber 10 = .ok (.bipush 48, 2) := by decide +kernel
theorem dX8_takeNumber_12 : decode cX8_takeNumber 12 = .ok (.bipush 57, 2) := by decide +kernel
theorem dX8_takeNumber_14 : decode cX8_takeNumber 14 = .ok (.invokestatic 36, 3) := by decide +kernel
theorem dX8_takeNumber_17 : decode cX8_takeNumber 17 = .ok (.istore_n 2, 1) := by decide +kernel
theorem dX8_takeNumber_18 : decode cX8_takeNumber 18 = .ok (.iload_n 2, 1) := by decide +kernel
theorem dX8_takeNumber_19 : decode cX8_takeNumber 19 = .ok (.ifCond .eq 90, 3) := by decide +kernel
theorem dX8_takeNumber_22 : decode cX8_takeNumber 22 = .ok (.iload_n 1, 1) := by decide +kernel
theorem dX8_takeNumber_23 : decode cX8_takeNumber 23 = .ok (.ifCond .ge 7, 3) := by decide +kernel
theorem dX8_takeNumber_26 : decode cX8_takeNumber 26 = .ok (.iconst 0, 1) := by decide +kernel
theorem dX8_takeNumber_27 : decode cX8_takeNumber 27 = .ok (.goto 7, 3) := by decide +kernel
theorem dX8_takeNumber_30 : decode cX8_takeNumber 30 = .ok (.bipush 10, 2) := by decide +kernel
theorem dX8_takeNumber_32 : decode cX8_takeNumber 32 = .ok (.iload_n 1, 1) := by decide +kernel
theorem dX8_takeNumber_33 : decode cX8_takeNumber 33 = .ok (.imul, 1) := by decide +kernel
theorem dX8_takeNumber_34 : decode cX8_takeNumber 34 = .ok (.aload_n 0, 1) := by decide +kernel
theorem dX8_takeNumber_35 : decode cX8_takeNumber 35 = .ok (.aload_n 0, 1) := by decide +kernel
theorem dX8_takeNumber_36 : decode cX8_takeNumber 36 = .ok (.getfield 215, 3) := by decide +kernel
theorem dX8_takeNumber_39 : decode cX8_takeNumber 39 = .ok (.invokevirtual 218, 3) := by decide +kernel
theorem dX8_takeNumber_42 : decode cX8_takeNumber 42 = .ok (.iadd, 1) := by decide +kernel
theorem dX8_takeNumber_43 : decode cX8_takeNumber 43 = .ok (.bipush 48, 2) := by decide +kernel
theorem dX8_takeNumber_45 : decode cX8_takeNumber 45 = .ok (.isub, 1) := by decide +kernel
theorem dX8_takeNumber_46 : decode cX8_takeNumber 46 = .ok (.istore_n 1, 1) := by decide +kernel
theorem dX8_takeNumber_47 : decode cX8_takeNumber 47 = .ok (.aload_n 0, 1) := by decide +kernel
theorem dX8_takeNumber_48 : decode cX8_takeNumber 48 = .ok (.dup, 1) := by decide +kernel
theorem dX8_takeNumber_49 : decode cX8_takeNumber 49 = .ok (.getfield 215, 3) := by decide +kernel
theorem dX8_takeNumber_52 : decode cX8_takeNumber 52 = .ok (.iconst 1, 1) := by decide +kernel
theorem dX8_takeNumber_53 : decode cX8_takeNumber 53 = .ok (.iadd, 1) := by decide +kernel
theorem dX8_takeNumber_54 : decode cX8_takeNumber 54 = .ok (.putfield 215, 3) := by decide +kernel
theorem dX8_takeNumber_57 : decode cX8_takeNumber 57 = .ok (.iload_n 1, 1) := by decide +kernel
theorem dX8_takeNumber_58 : decode cX8_takeNumber 58 = .ok (.ifCond .le 46, 3) := by decide +kernel
theorem dX8_takeNumber_61 : decode cX8_takeNumber 61 = .ok (.aload_n 0, 1) := by decide +kernel
theorem dX8_takeNumber_62 : decode cX8_takeNumber 62 = .ok (.aload_n 0, 1) := by decide +kernel
theorem dX8_takeNumber_63 : decode cX8_takeNumber 63 = .ok (.getfield 215, 3) := by decide +kernel
theorem dX8_takeNumber_66 : decode cX8_takeNumber 66 = .ok (.invokevirtual 218, 3) := by decide +kernel
theorem dX8_takeNumber_69 : decode cX8_takeNumber 69 = .ok (.bipush 48, 2) := by decide +kernel
theorem dX8_takeNumber_71 : decode cX8_takeNumber 71 = .ok (.bipush 57, 2) := by decide +kernel
theorem dX8_takeNumber_73 : decode cX8_takeNumber 73 = .ok (.invokestatic 36, 3) := by decide +kernel
theorem dX8_takeNumber_76 : decode cX8_takeNumber 76 = .ok (.ifCond .eq 28, 3) := by decide +kernel
theorem dX8_takeNumber_79 : decode cX8_takeNumber 79 = .ok (.bipush 10, 2) := by decide +kernel
theorem dX8_takeNumber_81 : decode cX8_takeNumber 81 = .ok (.iload_n 1, 1) := by decide +kernel
theorem dX8_takeNumber_82 : decode cX8_takeNumber 82 = .ok (.imul, 1) := by decide +kernel
theorem dX8_takeNumber_83 : decode cX8_takeNumber 83 = .ok (.aload_n 0, 1) := by decide +kernel
theorem dX8_takeNumber_84 : decode cX8_takeNumber 84 = .ok (.aload_n 0, 1) := by decide +kernel
theorem dX8_takeNumber_85 : decode cX8_takeNumber 85 = .ok (.getfield 215, 3) := by decide +kernel
theorem dX8_takeNumber_88 : decode cX8_takeNumber 88 = .ok (.invokevirtual 218, 3) := by decide +kernel
theorem dX8_takeNumber_91 : decode cX8_takeNumber 91 = .ok (.iadd, 1) := by decide +kernel
theorem dX8_takeNumber_92 : decode cX8_takeNumber 92 = .ok (.bipush 48, 2) := by decide +kernel
theorem dX8_takeNumber_94 : decode cX8_takeNumber 94 = .ok (.isub, 1) := by decide +kernel
theorem dX8_takeNumber_95 : decode cX8_takeNumber 95 = .ok (.bipush 119, 2) := by decide +kernel
theorem dX8_takeNumber_97 : decode cX8_takeNumber 97 = .ok (.if_icmp .gt 7, 3) := by decide +kernel
theorem dX8_takeNumber_100 : decode cX8_takeNumber 100 = .ok (.iconst 1, 1) := by decide +kernel
theorem dX8_takeNumber_101 : decode cX8_takeNumber 101 = .ok (.goto 4, 3) := by decide +kernel
theorem dX8_takeNumber_104 : decode cX8_takeNumber 104 = .ok (.iconst 0, 1) := by decide +kernel
theorem dX8_takeNumber_105 : decode cX8_takeNumber 105 = .ok (.istore_n 2, 1) := by decide +kernel
theorem dX8_takeNumber_106 : decode cX8_takeNumber 106 = .ok (.goto (-88), 3) := by decide +kernel
theorem dX8_takeNumber_109 : decode cX8_takeNumber 109 = .ok (.iload_n 1, 1) := by decide +kernel
theorem dX8_takeNumber_110 : decode cX8_takeNumber 110 = .ok (.ireturn, 1) := by decide +kernel
theorem dX8_isOrder_0 : decode cX8_isOrder 0 = .ok (.iload_n 0, 1) := by decide +kernel
theorem dX8_isOrder_1 : decode cX8_isOrder 1 = .ok (.bipush 107, 2) := by decide +kernel
theorem dX8_isOrder_3 : decode cX8_isOrder 3 = .ok (.if_icmp .eq 33, 3) := by decide +kernel
theorem dX8_isOrder_6 : decode cX8_isOrder 6 = .ok (.iload_n 0, 1) := by decide +kernel
theorem dX8_isOrder_7 : decode cX8_isOrder 7 = .ok (.bipush 98, 2) := by decide +kernel
theorem dX8_isOrder_9 : decode cX8_isOrder 9 = .ok (.if_icmp .eq 27, 3) := by decide +kernel
theorem dX8_isOrder_12 : decode cX8_isOrder 12 = .ok (.iload_n 0, 1) := by decide +kernel
theorem dX8_isOrder_13 : decode cX8_isOrder 13 = .ok (.bipush 114, 2) := by decide +kernel
theorem dX8_isOrder_15 : decode cX8_isOrder 15 = .ok (.if_icmp .eq 21, 3) := by decide +kernel
theorem dX8_isOrder_18 : decode cX8_isOrder 18 = .ok (.iload_n 0, 1) := by decide +kernel
theorem dX8_isOrder_19 : decode cX8_isOrder 19 = .ok (.bipush 120, 2) := by decide +kernel
theorem dX8_isOrder_21 : decode cX8_isOrder 21 = .ok (.if_icmp .eq 15, 3) := by decide +kernel
theorem dX8_isOrder_24 : decode cX8_isOrder 24 = .ok (.iload_n 0, 1) := by decide +kernel
theorem dX8_isOrder_25 : decode cX8_isOrder 25 = .ok (.bipush 121, 2) := by decide +kernel
theorem dX8_isOrder_27 : decode cX8_isOrder 27 = .ok (.if_icmp .eq 9, 3) := by decide +kernel
theorem dX8_isOrder_30 : decode cX8_isOrder 30 = .ok (.iload_n 0, 1) := by decide +kernel
theorem dX8_isOrder_31 : decode cX8_isOrder 31 = .ok (.bipush 99, 2) := by decide +kernel
theorem dX8_isOrder_33 : decode cX8_isOrder 33 = .ok (.if_icmp .ne 7, 3) := by decide +kernel
theorem dX8_isOrder_36 : decode cX8_isOrder 36 = .ok (.iconst 1, 1) := by decide +kernel
theorem dX8_isOrder_37 : decode cX8_isOrder 37 = .ok (.goto 4, 3) := by decide +kernel
theorem dX8_isOrder_40 : decode cX8_isOrder 40 = .ok (.iconst 0, 1) := by decide +kernel
theorem dX8_isOrder_41 : decode cX8_isOrder 41 = .ok (.ireturn, 1) := by decide +kernel
theorem dX8_readsOrder_0 : decode cX8_readsOrder 0 = .ok (.aload_n 0, 1) := by decide +kernel
theorem dX8_readsOrder_1 : decode cX8_readsOrder 1 = .ok (.aload_n 0, 1) := by decide +kernel
theorem dX8_readsOrder_2 : decode cX8_readsOrder 2 = .ok (.aload_n 0, 1) := by decide +kernel
theorem dX8_readsOrder_3 : decode cX8_readsOrder 3 = .ok (.getfield 215, 3) := by decide +kernel
theorem dX8_readsOrder_6 : decode cX8_readsOrder 6 = .ok (.invokevirtual 218, 3) := by decide +kernel
theorem dX8_readsOrder_9 : decode cX8_readsOrder 9 = .ok (.putfield 221, 3) := by decide +kernel
theorem dX8_readsOrder_12 : decode cX8_readsOrder 12 = .ok (.aload_n 0, 1) := by decide +kernel
theorem dX8_readsOrder_13 : decode cX8_readsOrder 13 = .ok (.getfield 221, 3) := by decide +kernel
theorem dX8_readsOrder_16 : decode cX8_readsOrder 16 = .ok (.invokestatic 224, 3) := by decide +kernel
theorem dX8_readsOrder_19 : decode cX8_readsOrder 19 = .ok (.ifCond .ne 5, 3) := by decide +kernel
theorem dX8_readsOrder_22 : decode cX8_readsOrder 22 = .ok (.iconst 0, 1) := by decide +kernel
theorem dX8_readsOrder_23 : decode cX8_readsOrder 23 = .ok (.ireturn, 1) := by decide +kernel
theorem dX8_readsOrder_24 : decode cX8_readsOrder 24 = .ok (.aload_n 0, 1) := by decide +kernel
theorem dX8_readsOrder_25 : decode cX8_readsOrder 25 = .ok (.dup, 1) := by decide +kernel
theorem dX8_readsOrder_26 : decode cX8_readsOrder 26 = .ok (.getfield 215, 3) := by decide +kernel
theorem dX8_readsOrder_29 : decode cX8_readsOrder 29 = .ok (.iconst 1, 1) := by decide +kernel
theorem dX8_readsOrder_30 : decode cX8_readsOrder 30 = .ok (.iadd, 1) := by decide +kernel
theorem dX8_readsOrder_31 : decode cX8_readsOrder 31 = .ok (.putfield 215, 3) := by decide +kernel
theorem dX8_readsOrder_34 : decode cX8_readsOrder 34 = .ok (.aload_n 0, 1) := by decide +kernel
theorem dX8_readsOrder_35 : decode cX8_readsOrder 35 = .ok (.getfield 221, 3) := by decide +kernel
theorem dX8_readsOrder_38 : decode cX8_readsOrder 38 = .ok (.bipush 107, 2) := by decide +kernel
theorem dX8_readsOrder_40 : decode cX8_readsOrder 40 = .ok (.if_icmp .ne 20, 3) := by decide +kernel
theorem dX8_readsOrder_43 : decode cX8_readsOrder 43 = .ok (.aload_n 0, 1) := by decide +kernel
theorem dX8_readsOrder_44 : decode cX8_readsOrder 44 = .ok (.bipush 45, 2) := by decide +kernel
theorem dX8_readsOrder_46 : decode cX8_readsOrder 46 = .ok (.invokevirtual 227, 3) := by decide +kernel
theorem dX8_readsOrder_49 : decode cX8_readsOrder 49 = .ok (.ifCond .eq 11, 3) := by decide +kernel
theorem dX8_readsOrder_52 : decode cX8_readsOrder 52 = .ok (.aload_n 0, 1) := by decide +kernel
theorem dX8_readsOrder_53 : decode cX8_readsOrder 53 = .ok (.bipush (-6), 2) := by decide +kernel
theorem dX8_readsOrder_55 : decode cX8_readsOrder 55 = .ok (.putfield 230, 3) := by decide +kernel
theorem dX8_readsOrder_58 : decode cX8_readsOrder 58 = .ok (.iconst 1, 1) := by decide +kernel
theorem dX8_readsOrder_59 : decode cX8_readsOrder 59 = .ok (.ireturn, 1) := by decide +kernel
theorem dX8_readsOrder_60 : decode cX8_readsOrder 60 = .ok (.aload_n 0, 1) := by decide +kernel
theorem dX8_readsOrder_61 : decode cX8_readsOrder 61 = .ok (.aload_n 0, 1) := by decide +kernel
theorem dX8_readsOrder_62 : decode cX8_readsOrder 62 = .ok (.invokevirtual 233, 3) := by decide +kernel
theorem dX8_readsOrder_65 : decode cX8_readsOrder 65 = .ok (.putfield 230, 3) := by decide +kernel
theorem dX8_readsOrder_68 : decode cX8_readsOrder 68 = .ok (.aload_n 0, 1) := by decide +kernel
theorem dX8_readsOrder_69 : decode cX8_readsOrder 69 = .ok (.getfield 230, 3) := by decide +kernel
theorem dX8_readsOrder_72 : decode cX8_readsOrder 72 = .ok (.ifCond .lt 12, 3) := by decide +kernel
theorem dX8_readsOrder_75 : decode cX8_readsOrder 75 = .ok (.aload_n 0, 1) := by decide +kernel
theorem dX8_readsOrder_76 : decode cX8_readsOrder 76 = .ok (.getfield 221, 3) := by decide +kernel
theorem dX8_readsOrder_79 : decode cX8_readsOrder 79 = .ok (.bipush 99, 2) := by decide +kernel
theorem dX8_readsOrder_81 : decode cX8_readsOrder 81 = .ok (.if_icmp .eq 16, 3) := by decide +kernel
theorem dX8_readsOrder_84 : decode cX8_readsOrder 84 = .ok (.aload_n 0, 1) := by decide +kernel
theorem dX8_readsOrder_85 : decode cX8_readsOrder 85 = .ok (.getfield 230, 3) := by decide +kernel
theorem dX8_readsOrder_88 : decode cX8_readsOrder 88 = .ok (.ifCond .lt 7, 3) := by decide +kernel
theorem dX8_readsOrder_91 : decode cX8_readsOrder 91 = .ok (.iconst 1, 1) := by decide +kernel
theorem dX8_readsOrder_92 : decode cX8_readsOrder 92 = .ok (.goto 4, 3) := by decide +kernel
theorem dX8_readsOrder_95 : decode cX8_readsOrder 95 = .ok (.iconst 0, 1) := by decide +kernel
theorem dX8_readsOrder_96 : decode cX8_readsOrder 96 = .ok (.ireturn, 1) := by decide +kernel
theorem dX8_readsOrder_97 : decode cX8_readsOrder 97 = .ok (.aload_n 0, 1) := by decide +kernel
theorem dX8_readsOrder_98 : decode cX8_readsOrder 98 = .ok (.bipush 64, 2) := by decide +kernel
theorem dX8_readsOrder_100 : decode cX8_readsOrder 100 = .ok (.invokevirtual 227, 3) := by decide +kernel
theorem dX8_readsOrder_103 : decode cX8_readsOrder 103 = .ok (.ifCond .eq 21, 3) := by decide +kernel
theorem dX8_readsOrder_106 : decode cX8_readsOrder 106 = .ok (.aload_n 0, 1) := by decide +kernel
theorem dX8_readsOrder_107 : decode cX8_readsOrder 107 = .ok (.aload_n 0, 1) := by decide +kernel
theorem dX8_readsOrder_108 : decode cX8_readsOrder 108 = .ok (.getfield 215, 3) := by decide +kernel
theorem dX8_readsOrder_111 : decode cX8_readsOrder 111 = .ok (.invokevirtual 218, 3) := by decide +kernel
theorem dX8_readsOrder_114 : decode cX8_readsOrder 114 = .ok (.bipush 48, 2) := by decide +kernel
theorem dX8_readsOrder_116 : decode cX8_readsOrder 116 = .ok (.bipush 50, 2) := by decide +kernel
theorem dX8_readsOrder_118 : decode cX8_readsOrder 118 = .ok (.invokestatic 36, 3) := by decide +kernel
theorem dX8_readsOrder_121 : decode cX8_readsOrder 121 = .ok (.ifCond .ne 5, 3) := by decide +kernel
theorem dX8_readsOrder_124 : decode cX8_readsOrder 124 = .ok (.iconst 0, 1) := by decide +kernel
theorem dX8_readsOrder_125 : decode cX8_readsOrder 125 = .ok (.ireturn, 1) := by decide +kernel
theorem dX8_readsOrder_126 : decode cX8_readsOrder 126 = .ok (.aload_n 0, 1) := by decide +kernel
theorem dX8_readsOrder_127 : decode cX8_readsOrder 127 = .ok (.aload_n 0, 1) := by decide +kernel
theorem dX8_readsOrder_128 : decode cX8_readsOrder 128 = .ok (.aload_n 0, 1) := by decide +kernel
theorem dX8_readsOrder_129 : decode cX8_readsOrder 129 = .ok (.getfield 215, 3) := by decide +kernel
theorem dX8_readsOrder_132 : decode cX8_readsOrder 132 = .ok (.invokevirtual 218, 3) := by decide +kernel
theorem dX8_readsOrder_135 : decode cX8_readsOrder 135 = .ok (.bipush 48, 2) := by decide +kernel
theorem dX8_readsOrder_137 : decode cX8_readsOrder 137 = .ok (.isub, 1) := by decide +kernel
theorem dX8_readsOrder_138 : decode cX8_readsOrder 138 = .ok (.putfield 236, 3) := by decide +kernel
theorem dX8_readsOrder_141 : decode cX8_readsOrder 141 = .ok (.aload_n 0, 1) := by decide +kernel
theorem dX8_readsOrder_142 : decode cX8_readsOrder 142 = .ok (.dup, 1) := by decide +kernel
theorem dX8_readsOrder_143 : decode cX8_readsOrder 143 = .ok (.getfield 215, 3) := by decide +kernel
theorem dX8_readsOrder_146 : decode cX8_readsOrder 146 = .ok (.iconst 1, 1) := by decide +kernel
theorem dX8_readsOrder_147 : decode cX8_readsOrder 147 = .ok (.iadd, 1) := by decide +kernel
theorem dX8_readsOrder_148 : decode cX8_readsOrder 148 = .ok (.putfield 215, 3) := by decide +kernel
theorem dX8_readsOrder_151 : decode cX8_readsOrder 151 = .ok (.iconst 1, 1) := by decide +kernel
theorem dX8_readsOrder_152 : decode cX8_readsOrder 152 = .ok (.ireturn, 1) := by decide +kernel
theorem dX8_findFault_0 : decode cX8_findFault 0 = .ok (.aload_n 0, 1) := by decide +kernel
theorem dX8_findFault_1 : decode cX8_findFault 1 = .ok (.iconst 0, 1) := by decide +kernel
theorem dX8_findFault_2 : decode cX8_findFault 2 = .ok (.putfield 215, 3) := by decide +kernel
theorem dX8_findFault_5 : decode cX8_findFault 5 = .ok (.aload_n 0, 1) := by decide +kernel
theorem dX8_findFault_6 : decode cX8_findFault 6 = .ok (.invokevirtual 239, 3) := by decide +kernel
theorem dX8_findFault_9 : decode cX8_findFault 9 = .ok (.ifCond .ne 8, 3) := by decide +kernel
theorem dX8_findFault_12 : decode cX8_findFault 12 = .ok (.aload_n 0, 1) := by decide +kernel
theorem dX8_findFault_13 : decode cX8_findFault 13 = .ok (.getfield 215, 3) := by decide +kernel
theorem dX8_findFault_16 : decode cX8_findFault 16 = .ok (.ireturn, 1) := by decide +kernel
theorem dX8_findFault_17 : decode cX8_findFault 17 = .ok (.aload_n 0, 1) := by decide +kernel
theorem dX8_findFault_18 : decode cX8_findFault 18 = .ok (.getfield 215, 3) := by decide +kernel
theorem dX8_findFault_21 : decode cX8_findFault 21 = .ok (.aload_n 0, 1) := by decide +kernel
theorem dX8_findFault_22 : decode cX8_findFault 22 = .ok (.getfield 204, 3) := by decide +kernel
theorem dX8_findFault_25 : decode cX8_findFault 25 = .ok (.if_icmp .ne 6, 3) := by decide +kernel
theorem dX8_findFault_28 : decode cX8_findFault 28 = .ok (.bipush (-6), 2) := by decide +kernel
theorem dX8_findFault_30 : decode cX8_findFault 30 = .ok (.ireturn, 1) := by decide +kernel
theorem dX8_findFault_31 : decode cX8_findFault 31 = .ok (.aload_n 0, 1) := by decide +kernel
theorem dX8_findFault_32 : decode cX8_findFault 32 = .ok (.bipush 59, 2) := by decide +kernel
theorem dX8_findFault_34 : decode cX8_findFault 34 = .ok (.invokevirtual 227, 3) := by decide +kernel
theorem dX8_findFault_37 : decode cX8_findFault 37 = .ok (.ifCond .ne (-32), 3) := by decide +kernel
theorem dX8_findFault_40 : decode cX8_findFault 40 = .ok (.aload_n 0, 1) := by decide +kernel
theorem dX8_findFault_41 : decode cX8_findFault 41 = .ok (.getfield 215, 3) := by decide +kernel
theorem dX8_findFault_44 : decode cX8_findFault 44 = .ok (.ireturn, 1) := by decide +kernel
theorem dX8_fault_0 : decode cX8_fault 0 = .ok (.aload_n 0, 1) := by decide +kernel
theorem dX8_fault_1 : decode cX8_fault 1 = .ok (.invokevirtual 243, 3) := by decide +kernel
theorem dX8_fault_4 : decode cX8_fault 4 = .ok (.ireturn, 1) := by decide +kernel
theorem dX8_whyNotDone_0 : decode cX8_whyNotDone 0 = .ok (.aload_n 0, 1) := by decide +kernel
theorem dX8_whyNotDone_1 : decode cX8_whyNotDone 1 = .ok (.getfield 221, 3) := by decide +kernel
theorem dX8_whyNotDone_4 : decode cX8_whyNotDone 4 = .ok (.lookupswitch 97 #[(98, 61), (107, 52), (114, 70), (120, 79), (121, 88)], 52) := by decide +kernel
theorem dX8_whyNotDone_56 : decode cX8_whyNotDone 56 = .ok (.aload_n 0, 1) := by decide +kernel
theorem dX8_whyNotDone_57 : decode cX8_whyNotDone 57 = .ok (.aload_n 0, 1) := by decide +kernel
theorem dX8_whyNotDone_58 : decode cX8_whyNotDone 58 = .ok (.getfield 230, 3) := by decide +kernel
theorem dX8_whyNotDone_61 : decode cX8_whyNotDone 61 = .ok (.invokevirtual 111, 3) := by decide +kernel
theorem dX8_whyNotDone_64 : decode cX8_whyNotDone 64 = .ok (.ireturn, 1) := by decide +kernel
theorem dX8_whyNotDone_65 : decode cX8_whyNotDone 65 = .ok (.aload_n 0, 1) := by decide +kernel
theorem dX8_whyNotDone_66 : decode cX8_whyNotDone 66 = .ok (.aload_n 0, 1) := by decide +kernel
theorem dX8_whyNotDone_67 : decode cX8_whyNotDone 67 = .ok (.getfield 230, 3) := by decide +kernel
theorem dX8_whyNotDone_70 : decode cX8_whyNotDone 70 = .ok (.invokevirtual 120, 3) := by decide +kernel
theorem dX8_whyNotDone_73 : decode cX8_whyNotDone 73 = .ok (.ireturn, 1) := by decide +kernel
theorem dX8_whyNotDone_74 : decode cX8_whyNotDone 74 = .ok (.aload_n 0, 1) := by decide +kernel
theorem dX8_whyNotDone_75 : decode cX8_whyNotDone 75 = .ok (.aload_n 0, 1) := by decide +kernel
theorem dX8_whyNotDone_76 : decode cX8_whyNotDone 76 = .ok (.getfield 230, 3) := by decide +kernel
theorem dX8_whyNotDone_79 : decode cX8_whyNotDone 79 = .ok (.invokevirtual 147, 3) := by decide +kernel
theorem dX8_whyNotDone_82 : decode cX8_whyNotDone 82 = .ok (.ireturn, 1) := by decide +kernel
theorem dX8_whyNotDone_83 : decode cX8_whyNotDone 83 = .ok (.aload_n 0, 1) := by decide +kernel
theorem dX8_whyNotDone_84 : decode cX8_whyNotDone 84 = .ok (.aload_n 0, 1) := by decide +kernel
theorem dX8_whyNotDone_85 : decode cX8_whyNotDone 85 = .ok (.getfield 230, 3) := by decide +kernel
theorem dX8_whyNotDone_88 : decode cX8_whyNotDone 88 = .ok (.invokevirtual 171, 3) := by decide +kernel
theorem dX8_whyNotDone_91 : decode cX8_whyNotDone 91 = .ok (.ireturn, 1) := by decide +kernel
theorem dX8_whyNotDone_92 : decode cX8_whyNotDone 92 = .ok (.aload_n 0, 1) := by decide +kernel
theorem dX8_whyNotDone_93 : decode cX8_whyNotDone 93 = .ok (.aload_n 0, 1) := by decide +kernel
theorem dX8_whyNotDone_94 : decode cX8_whyNotDone 94 = .ok (.getfield 230, 3) := by decide +kernel
theorem dX8_whyNotDone_97 : decode cX8_whyNotDone 97 = .ok (.invokevirtual 180, 3) := by decide +kernel
theorem dX8_whyNotDone_100 : decode cX8_whyNotDone 100 = .ok (.ireturn, 1) := by decide +kernel
theorem dX8_whyNotDone_101 : decode cX8_whyNotDone 101 = .ok (.aload_n 0, 1) := by decide +kernel
theorem dX8_whyNotDone_102 : decode cX8_whyNotDone 102 = .ok (.aload_n 0, 1) := by decide +kernel
theorem dX8_whyNotDone_103 : decode cX8_whyNotDone 103 = .ok (.getfield 230, 3) := by decide +kernel
theorem dX8_whyNotDone_106 : decode cX8_whyNotDone 106 = .ok (.aload_n 0, 1) := by decide +kernel
theorem dX8_whyNotDone_107 : decode cX8_whyNotDone 107 = .ok (.getfield 236, 3) := by decide +kernel
theorem dX8_whyNotDone_110 : decode cX8_whyNotDone 110 = .ok (.invokevirtual 126, 3) := by decide +kernel
theorem dX8_whyNotDone_113 : decode cX8_whyNotDone 113 = .ok (.ireturn, 1) := by decide +kernel
theorem dX8_does_0 : decode cX8_does 0 = .ok (.aload_n 0, 1) := by decide +kernel
theorem dX8_does_1 : decode cX8_does 1 = .ok (.getfield 221, 3) := by decide +kernel
theorem dX8_does_4 : decode cX8_does 4 = .ok (.lookupswitch 112 #[(98, 64), (107, 52), (114, 76), (120, 88), (121, 100)], 52) := by decide +kernel
theorem dX8_does_56 : decode cX8_does 56 = .ok (.aload_n 0, 1) := by decide +kernel
theorem dX8_does_57 : decode cX8_does 57 = .ok (.aload_n 0, 1) := by decide +kernel
theorem dX8_does_58 : decode cX8_does 58 = .ok (.getfield 230, 3) := by decide +kernel
theorem dX8_does_61 : decode cX8_does 61 = .ok (.invokevirtual 114, 3) := by decide +kernel
theorem dX8_does_64 : decode cX8_does 64 = .ok (.pop, 1) := by decide +kernel
theorem dX8_does_65 : decode cX8_does 65 = .ok (.goto 64, 3) := by decide +kernel
theorem dX8_does_68 : decode cX8_does 68 = .ok (.aload_n 0, 1) := by decide +kernel
theorem dX8_does_69 : decode cX8_does 69 = .ok (.aload_n 0, 1) := by decide +kernel
theorem dX8_does_70 : decode cX8_does 70 = .ok (.getfield 230, 3) := by decide +kernel
theorem dX8_does_73 : decode cX8_does 73 = .ok (.invokevirtual 123, 3) := by decide +kernel
theorem dX8_does_76 : decode cX8_does 76 = .ok (.pop, 1) := by decide +kernel
theorem dX8_does_77 : decode cX8_does 77 = .ok (.goto 52, 3) := by decide +kernel
theorem dX8_does_80 : decode cX8_does 80 = .ok (.aload_n 0, 1) := by decide +kernel
theorem dX8_does_81 : decode cX8_does 81 = .ok (.aload_n 0, 1) := by decide +kernel
theorem dX8_does_82 : decode cX8_does 82 = .ok (.getfield 230, 3) := by decide +kernel
theorem dX8_does_85 : decode cX8_does 85 = .ok (.invokevirtual 150, 3) := by decide +kernel
theorem dX8_does_88 : decode cX8_does 88 = .ok (.pop, 1) := by decide +kernel
theorem dX8_does_89 : decode cX8_does 89 = .ok (.goto 40, 3) := by decide +kernel
theorem dX8_does_92 : decode cX8_does 92 = .ok (.aload_n 0, 1) := by decide +kernel
theorem dX8_does_93 : decode cX8_does 93 = .ok (.aload_n 0, 1) := by decide +kernel
theorem dX8_does_94 : decode cX8_does 94 = .ok (.getfield 230, 3) := by decide +kernel
theorem dX8_does_97 : decode cX8_does 97 = .ok (.invokevirtual 174, 3) := by decide +kernel
theorem dX8_does_100 : decode cX8_does 100 = .ok (.pop, 1) := by decide +kernel
theorem dX8_does_101 : decode cX8_does 101 = .ok (.goto 28, 3) := by decide +kernel
theorem dX8_does_104 : decode cX8_does 104 = .ok (.aload_n 0, 1) := by decide +kernel
theorem dX8_does_105 : decode cX8_does 105 = .ok (.aload_n 0, 1) := by decide +kernel
theorem dX8_does_106 : decode cX8_does 106 = .ok (.getfield 230, 3) := by decide +kernel
theorem dX8_does_109 : decode cX8_does 109 = .ok (.invokevirtual 183, 3) := by decide +kernel
theorem dX8_does_112 : decode cX8_does 112 = .ok (.pop, 1) := by decide +kernel
theorem dX8_does_113 : decode cX8_does 113 = .ok (.goto 16, 3) := by decide +kernel
theorem dX8_does_116 : decode cX8_does 116 = .ok (.aload_n 0, 1) := by decide +kernel
theorem dX8_does_117 : decode cX8_does 117 = .ok (.aload_n 0, 1) := by decide +kernel
theorem dX8_does_118 : decode cX8_does 118 = .ok (.getfield 230, 3) := by decide +kernel
theorem dX8_does_121 : decode cX8_does 121 = .ok (.aload_n 0, 1) := by decide +kernel
theorem dX8_does_122 : decode cX8_does 122 = .ok (.getfield 236, 3) := by decide +kernel
theorem dX8_does_125 : decode cX8_does 125 = .ok (.invokevirtual 129, 3) := by decide +kernel
theorem dX8_does_128 : decode cX8_does 128 = .ok (.pop, 1) := by decide +kernel
theorem dX8_does_129 : decode cX8_does 129 = .ok (.return_, 1) := by decide +kernel
theorem dX8_carryOut_0 : decode cX8_carryOut 0 = .ok (.aload_n 0, 1) := by decide +kernel
theorem dX8_carryOut_1 : decode cX8_carryOut 1 = .ok (.invokevirtual 243, 3) := by decide +kernel
theorem dX8_carryOut_4 : decode cX8_carryOut 4 = .ok (.bipush (-6), 2) := by decide +kernel
theorem dX8_carryOut_6 : decode cX8_carryOut 6 = .ok (.if_icmp .eq 6, 3) := by decide +kernel
theorem dX8_carryOut_9 : decode cX8_carryOut 9 = .ok (.bipush (-3), 2) := by decide +kernel
theorem dX8_carryOut_11 : decode cX8_carryOut 11 = .ok (.ireturn, 1) := by decide +kernel
theorem dX8_carryOut_12 : decode cX8_carryOut 12 = .ok (.aload_n 0, 1) := by decide +kernel
theorem dX8_carryOut_13 : decode cX8_carryOut 13 = .ok (.invokevirtual 102, 3) := by decide +kernel
theorem dX8_carryOut_16 : decode cX8_carryOut 16 = .ok (.iconst 0, 1) := by decide +kernel
theorem dX8_carryOut_17 : decode cX8_carryOut 17 = .ok (.istore_n 1, 1) := by decide +kernel
theorem dX8_carryOut_18 : decode cX8_carryOut 18 = .ok (.aload_n 0, 1) := by decide +kernel
theorem dX8_carryOut_19 : decode cX8_carryOut 19 = .ok (.iconst 0, 1) := by decide +kernel
theorem dX8_carryOut_20 : decode cX8_carryOut 20 = .ok (.putfield 215, 3) := by decide +kernel
theorem dX8_carryOut_23 : decode cX8_carryOut 23 = .ok (.iconst 1, 1) := by decide +kernel
theorem dX8_carryOut_24 : decode cX8_carryOut 24 = .ok (.istore_n 2, 1) := by decide +kernel
theorem dX8_carryOut_25 : decode cX8_carryOut 25 = .ok (.iload_n 2, 1) := by decide +kernel
theorem dX8_carryOut_26 : decode cX8_carryOut 26 = .ok (.ifCond .eq 53, 3) := by decide +kernel
theorem dX8_carryOut_29 : decode cX8_carryOut 29 = .ok (.aload_n 0, 1) := by decide +kernel
theorem dX8_carryOut_30 : decode cX8_carryOut 30 = .ok (.getfield 215, 3) := by decide +kernel
theorem dX8_carryOut_33 : decode cX8_carryOut 33 = .ok (.aload_n 0, 1) := by decide +kernel
theorem dX8_carryOut_34 : decode cX8_carryOut 34 = .ok (.getfield 204, 3) := by decide +kernel
theorem dX8_carryOut_37 : decode cX8_carryOut 37 = .ok (.if_icmp .ge 42, 3) := by decide +kernel
theorem dX8_carryOut_40 : decode cX8_carryOut 40 = .ok (.aload_n 0, 1) := by decide +kernel
theorem dX8_carryOut_41 : decode cX8_carryOut 41 = .ok (.invokevirtual 239, 3) := by decide +kernel
theorem dX8_carryOut_44 : decode cX8_carryOut 44 = .ok (.pop, 1) := by decide +kernel
theorem dX8_carryOut_45 : decode cX8_carryOut 45 = .ok (.aload_n 0, 1) := by decide +kernel
theorem dX8_carryOut_46 : decode cX8_carryOut 46 = .ok (.bipush 59, 2) := by decide +kernel
theorem dX8_carryOut_48 : decode cX8_carryOut 48 = .ok (.invokevirtual 227, 3) := by decide +kernel
theorem dX8_carryOut_51 : decode cX8_carryOut 51 = .ok (.pop, 1) := by decide +kernel
theorem dX8_carryOut_52 : decode cX8_carryOut 52 = .ok (.aload_n 0, 1) := by decide +kernel
theorem dX8_carryOut_53 : decode cX8_carryOut 53 = .ok (.invokevirtual 246, 3) := by decide +kernel
theorem dX8_carryOut_56 : decode cX8_carryOut 56 = .ok (.ifCond .ne 7, 3) := by decide +kernel
theorem dX8_carryOut_59 : decode cX8_carryOut 59 = .ok (.iconst 1, 1) := by decide +kernel
theorem dX8_carryOut_60 : decode cX8_carryOut 60 = .ok (.goto 4, 3) := by decide +kernel
theorem dX8_carryOut_63 : decode cX8_carryOut 63 = .ok (.iconst 0, 1) := by decide +kernel
theorem dX8_carryOut_64 : decode cX8_carryOut 64 = .ok (.istore_n 2, 1) := by decide +kernel
theorem dX8_carryOut_65 : decode cX8_carryOut 65 = .ok (.iload_n 2, 1) := by decide +kernel
theorem dX8_carryOut_66 : decode cX8_carryOut 66 = .ok (.ifCond .eq (-41), 3) := by decide +kernel
theorem dX8_carryOut_69 : decode cX8_carryOut 69 = .ok (.aload_n 0, 1) := by decide +kernel
theorem dX8_carryOut_70 : decode cX8_carryOut 70 = .ok (.invokevirtual 249, 3) := by decide +kernel
theorem dX8_carryOut_73 : decode cX8_carryOut 73 = .ok (.iinc 1 1, 3) := by decide +kernel
theorem dX8_carryOut_76 : decode cX8_carryOut 76 = .ok (.goto (-51), 3) := by decide +kernel
theorem dX8_carryOut_79 : decode cX8_carryOut 79 = .ok (.aload_n 0, 1) := by decide +kernel
theorem dX8_carryOut_80 : decode cX8_carryOut 80 = .ok (.iconst 0, 1) := by decide +kernel
theorem dX8_carryOut_81 : decode cX8_carryOut 81 = .ok (.putfield 204, 3) := by decide +kernel
theorem dX8_carryOut_84 : decode cX8_carryOut 84 = .ok (.iload_n 1, 1) := by decide +kernel
theorem dX8_carryOut_85 : decode cX8_carryOut 85 = .ok (.ireturn, 1) := by decide +kernel
theorem dX8_undo_0 : decode cX8_undo 0 = .ok (.aload_n 0, 1) := by decide +kernel
theorem dX8_undo_1 : decode cX8_undo 1 = .ok (.getfield 28, 3) := by decide +kernel
theorem dX8_undo_4 : decode cX8_undo 4 = .ok (.ifCond .ne 6, 3) := by decide +kernel
theorem dX8_undo_7 : decode cX8_undo 7 = .ok (.bipush (-5), 2) := by decide +kernel
theorem dX8_undo_9 : decode cX8_undo 9 = .ok (.ireturn, 1) := by decide +kernel
theorem dX8_undo_10 : decode cX8_undo 10 = .ok (.aload_n 0, 1) := by decide +kernel
theorem dX8_undo_11 : decode cX8_undo 11 = .ok (.dup, 1) := by decide +kernel
theorem dX8_undo_12 : decode cX8_undo 12 = .ok (.getfield 28, 3) := by decide +kernel
theorem dX8_undo_15 : decode cX8_undo 15 = .ok (.iconst 1, 1) := by decide +kernel
theorem dX8_undo_16 : decode cX8_undo 16 = .ok (.isub, 1) := by decide +kernel
theorem dX8_undo_17 : decode cX8_undo 17 = .ok (.putfield 28, 3) := by decide +kernel
theorem dX8_undo_20 : decode cX8_undo 20 = .ok (.aload_n 0, 1) := by decide +kernel
theorem dX8_undo_21 : decode cX8_undo 21 = .ok (.getfield 13, 3) := by decide +kernel
theorem dX8_undo_24 : decode cX8_undo 24 = .ok (.aload_n 0, 1) := by decide +kernel
theorem dX8_undo_25 : decode cX8_undo 25 = .ok (.getfield 28, 3) := by decide +kernel
theorem dX8_undo_28 : decode cX8_undo 28 = .ok (.sipush 844, 3) := by decide +kernel
theorem dX8_undo_31 : decode cX8_undo 31 = .ok (.imul, 1) := by decide +kernel
theorem dX8_undo_32 : decode cX8_undo 32 = .ok (.aload_n 0, 1) := by decide +kernel
theorem dX8_undo_33 : decode cX8_undo 33 = .ok (.getfield 7, 3) := by decide +kernel
theorem dX8_undo_36 : decode cX8_undo 36 = .ok (.iconst 0, 1) := by decide +kernel
theorem dX8_undo_37 : decode cX8_undo 37 = .ok (.invokestatic 32, 3) := by decide +kernel
theorem dX8_undo_40 : decode cX8_undo 40 = .ok (.aload_n 0, 1) := by decide +kernel
theorem dX8_undo_41 : decode cX8_undo 41 = .ok (.getfield 28, 3) := by decide +kernel
theorem dX8_undo_44 : decode cX8_undo 44 = .ok (.ireturn, 1) := by decide +kernel
theorem dX8_save_0 : decode cX8_save 0 = .ok (.iload_n 1, 1) := by decide +kernel
theorem dX8_save_1 : decode cX8_save 1 = .ok (.iconst 0, 1) := by decide +kernel
theorem dX8_save_2 : decode cX8_save 2 = .ok (.iconst 1, 1) := by decide +kernel
theorem dX8_save_3 : decode cX8_save 3 = .ok (.invokestatic 36, 3) := by decide +kernel
theorem dX8_save_6 : decode cX8_save 6 = .ok (.ifCond .ne 6, 3) := by decide +kernel
theorem dX8_save_9 : decode cX8_save 9 = .ok (.bipush (-2), 2) := by decide +kernel
theorem dX8_save_11 : decode cX8_save 11 = .ok (.ireturn, 1) := by decide +kernel
theorem dX8_save_12 : decode cX8_save 12 = .ok (.aload_n 0, 1) := by decide +kernel
theorem dX8_save_13 : decode cX8_save 13 = .ok (.getfield 7, 3) := by decide +kernel
theorem dX8_save_16 : decode cX8_save 16 = .ok (.iconst 0, 1) := by decide +kernel
theorem dX8_save_17 : decode cX8_save 17 = .ok (.aload_n 0, 1) := by decide +kernel
theorem dX8_save_18 : decode cX8_save 18 = .ok (.getfield 16, 3) := by decide +kernel
theorem dX8_save_21 : decode cX8_save 21 = .ok (.sipush 844, 3) := by decide +kernel
theorem dX8_save_24 : decode cX8_save 24 = .ok (.iload_n 1, 1) := by decide +kernel
theorem dX8_save_25 : decode cX8_save 25 = .ok (.imul, 1) := by decide +kernel
theorem dX8_save_26 : decode cX8_save 26 = .ok (.invokestatic 32, 3) := by decide +kernel
theorem dX8_save_29 : decode cX8_save 29 = .ok (.aload_n 0, 1) := by decide +kernel
theorem dX8_save_30 : decode cX8_save 30 = .ok (.getfield 19, 3) := by decide +kernel
theorem dX8_save_33 : decode cX8_save 33 = .ok (.iload_n 1, 1) := by decide +kernel
theorem dX8_save_34 : decode cX8_save 34 = .ok (.iconst 1, 1) := by decide +kernel
theorem dX8_save_35 : decode cX8_save 35 = .ok (.iastore, 1) := by decide +kernel
theorem dX8_save_36 : decode cX8_save 36 = .ok (.aload_n 0, 1) := by decide +kernel
theorem dX8_save_37 : decode cX8_save 37 = .ok (.getfield 7, 3) := by decide +kernel
theorem dX8_save_40 : decode cX8_save 40 = .ok (.iconst 1, 1) := by decide +kernel
theorem dX8_save_41 : decode cX8_save 41 = .ok (.iaload, 1) := by decide +kernel
theorem dX8_save_42 : decode cX8_save 42 = .ok (.ireturn, 1) := by decide +kernel
theorem dX8_restore_0 : decode cX8_restore 0 = .ok (.iload_n 1, 1) := by decide +kernel
theorem dX8_restore_1 : decode cX8_restore 1 = .ok (.iconst 0, 1) := by decide +kernel
theorem dX8_restore_2 : decode cX8_restore 2 = .ok (.iconst 1, 1) := by decide +kernel
theorem dX8_restore_3 : decode cX8_restore 3 = .ok (.invokestatic 36, 3) := by decide +kernel
theorem dX8_restore_6 : decode cX8_restore 6 = .ok (.ifCond .ne 6, 3) := by decide +kernel
theorem dX8_restore_9 : decode cX8_restore 9 = .ok (.bipush (-2), 2) := by decide +kernel
theorem dX8_restore_11 : decode cX8_restore 11 = .ok (.ireturn, 1) := by decide +kernel
theorem dX8_restore_12 : decode cX8_restore 12 = .ok (.aload_n 0, 1) := by decide +kernel
theorem dX8_restore_13 : decode cX8_restore 13 = .ok (.getfield 19, 3) := by decide +kernel
theorem dX8_restore_16 : decode cX8_restore 16 = .ok (.iload_n 1, 1) := by decide +kernel
theorem dX8_restore_17 : decode cX8_restore 17 = .ok (.iaload, 1) := by decide +kernel
theorem dX8_restore_18 : decode cX8_restore 18 = .ok (.ifCond .ne 6, 3) := by decide +kernel
theorem dX8_restore_21 : decode cX8_restore 21 = .ok (.bipush (-5), 2) := by decide +kernel
theorem dX8_restore_23 : decode cX8_restore 23 = .ok (.ireturn, 1) := by decide +kernel
theorem dX8_restore_24 : decode cX8_restore 24 = .ok (.aload_n 0, 1) := by decide +kernel
theorem dX8_restore_25 : decode cX8_restore 25 = .ok (.invokevirtual 102, 3) := by decide +kernel
theorem dX8_restore_28 : decode cX8_restore 28 = .ok (.aload_n 0, 1) := by decide +kernel
theorem dX8_restore_29 : decode cX8_restore 29 = .ok (.getfield 16, 3) := by decide +kernel
theorem dX8_restore_32 : decode cX8_restore 32 = .ok (.sipush 844, 3) := by decide +kernel
theorem dX8_restore_35 : decode cX8_restore 35 = .ok (.iload_n 1, 1) := by decide +kernel
theorem dX8_restore_36 : decode cX8_restore 36 = .ok (.imul, 1) := by decide +kernel
theorem dX8_restore_37 : decode cX8_restore 37 = .ok (.aload_n 0, 1) := by decide +kernel
theorem dX8_restore_38 : decode cX8_restore 38 = .ok (.getfield 7, 3) := by decide +kernel
theorem dX8_restore_41 : decode cX8_restore 41 = .ok (.iconst 0, 1) := by decide +kernel
theorem dX8_restore_42 : decode cX8_restore 42 = .ok (.invokestatic 32, 3) := by decide +kernel
theorem dX8_restore_45 : decode cX8_restore 45 = .ok (.aload_n 0, 1) := by decide +kernel
theorem dX8_restore_46 : decode cX8_restore 46 = .ok (.getfield 7, 3) := by decide +kernel
theorem dX8_restore_49 : decode cX8_restore 49 = .ok (.iconst 1, 1) := by decide +kernel
theorem dX8_restore_50 : decode cX8_restore 50 = .ok (.iaload, 1) := by decide +kernel
theorem dX8_restore_51 : decode cX8_restore 51 = .ok (.ireturn, 1) := by decide +kernel
