theorem dL_cell_0 : decode cL_cell 0 = .ok (.iload_n 1, 1) := by decide +kernel
theorem dL_cell_1 : decode cL_cell 1 = .ok (.aload_n 0, 1) := by decide +kernel
theorem dL_cell_2 : decode cL_cell 2 = .ok (.arraylength, 1) := by decide +kernel
theorem dL_cell_3 : decode cL_cell 3 = .ok (.if_icmp .ge 9, 3) := by decide +kernel
theorem dL_cell_6 : decode cL_cell 6 = .ok (.aload_n 0, 1) := by decide +kernel
theorem dL_cell_7 : decode cL_cell 7 = .ok (.iload_n 1, 1) := by decide +kernel
theorem dL_cell_8 : decode cL_cell 8 = .ok (.iaload, 1) := by decide +kernel
theorem dL_cell_9 : decode cL_cell 9 = .ok (.goto 12, 3) := by decide +kernel
theorem dL_cell_12 : decode cL_cell 12 = .ok (.ldc 7, 2) := by decide +kernel
theorem dL_cell_14 : decode cL_cell 14 = .ok (.iload_n 1, 1) := by decide +kernel
theorem dL_cell_15 : decode cL_cell 15 = .ok (.iconst 1, 1) := by decide +kernel
theorem dL_cell_16 : decode cL_cell 16 = .ok (.iadd, 1) := by decide +kernel
theorem dL_cell_17 : decode cL_cell 17 = .ok (.imul, 1) := by decide +kernel
theorem dL_cell_18 : decode cL_cell 18 = .ok (.ldc 8, 2) := by decide +kernel
theorem dL_cell_20 : decode cL_cell 20 = .ok (.iadd, 1) := by decide +kernel
theorem dL_cell_21 : decode cL_cell 21 = .ok (.ireturn, 1) := by decide +kernel
theorem dL_low_0 : decode cL_low 0 = .ok (.iload_n 0, 1) := by decide +kernel
theorem dL_low_1 : decode cL_low 1 = .ok (.ldc 9, 2) := by decide +kernel
theorem dL_low_3 : decode cL_low 3 = .ok (.iand, 1) := by decide +kernel
theorem dL_low_4 : decode cL_low 4 = .ok (.iload_n 1, 1) := by decide +kernel
theorem dL_low_5 : decode cL_low 5 = .ok (.irem, 1) := by decide +kernel
theorem dL_low_6 : decode cL_low 6 = .ok (.ireturn, 1) := by decide +kernel
theorem dL_made_0 : decode cL_made 0 = .ok (.iload_n 0, 1) := by decide +kernel
theorem dL_made_1 : decode cL_made 1 = .ok (.iload_n 1, 1) := by decide +kernel
theorem dL_made_2 : decode cL_made 2 = .ok (.iconst 3, 1) := by decide +kernel
theorem dL_made_3 : decode cL_made 3 = .ok (.ishl, 1) := by decide +kernel
theorem dL_made_4 : decode cL_made 4 = .ok (.ior, 1) := by decide +kernel
theorem dL_made_5 : decode cL_made 5 = .ok (.iload_n 2, 1) := by decide +kernel
theorem dL_made_6 : decode cL_made 6 = .ok (.bipush 9, 2) := by decide +kernel
theorem dL_made_8 : decode cL_made 8 = .ok (.ishl, 1) := by decide +kernel
theorem dL_made_9 : decode cL_made 9 = .ok (.ior, 1) := by decide +kernel
theorem dL_made_10 : decode cL_made 10 = .ok (.iload_n 3, 1) := by decide +kernel
theorem dL_made_11 : decode cL_made 11 = .ok (.bipush 12, 2) := by decide +kernel
theorem dL_made_13 : decode cL_made 13 = .ok (.ishl, 1) := by decide +kernel
theorem dL_made_14 : decode cL_made 14 = .ok (.ior, 1) := by decide +kernel
theorem dL_made_15 : decode cL_made 15 = .ok (.ldc 10, 2) := by decide +kernel
theorem dL_made_17 : decode cL_made 17 = .ok (.ior, 1) := by decide +kernel
theorem dL_made_18 : decode cL_made 18 = .ok (.ireturn, 1) := by decide +kernel
theorem dL_key_0 : decode cL_key 0 = .ok (.iload_n 0, 1) := by decide +kernel
theorem dL_key_1 : decode cL_key 1 = .ok (.bipush 7, 2) := by decide +kernel
theorem dL_key_3 : decode cL_key 3 = .ok (.iand, 1) := by decide +kernel
theorem dL_key_4 : decode cL_key 4 = .ok (.ireturn, 1) := by decide +kernel
theorem dL_which_0 : decode cL_which 0 = .ok (.iload_n 0, 1) := by decide +kernel
theorem dL_which_1 : decode cL_which 1 = .ok (.iconst 3, 1) := by decide +kernel
theorem dL_which_2 : decode cL_which 2 = .ok (.ishr, 1) := by decide +kernel
theorem dL_which_3 : decode cL_which 3 = .ok (.bipush 63, 2) := by decide +kernel
theorem dL_which_5 : decode cL_which 5 = .ok (.iand, 1) := by decide +kernel
theorem dL_which_6 : decode cL_which 6 = .ok (.ireturn, 1) := by decide +kernel
theorem dL_closer_0 : decode cL_closer 0 = .ok (.iload_n 0, 1) := by decide +kernel
theorem dL_closer_1 : decode cL_closer 1 = .ok (.bipush 9, 2) := by decide +kernel
theorem dL_closer_3 : decode cL_closer 3 = .ok (.ishr, 1) := by decide +kernel
theorem dL_closer_4 : decode cL_closer 4 = .ok (.bipush 7, 2) := by decide +kernel
theorem dL_closer_6 : decode cL_closer 6 = .ok (.iand, 1) := by decide +kernel
theorem dL_closer_7 : decode cL_closer 7 = .ok (.ireturn, 1) := by decide +kernel
theorem dL_closed_0 : decode cL_closed 0 = .ok (.iload_n 0, 1) := by decide +kernel
theorem dL_closed_1 : decode cL_closed 1 = .ok (.bipush 12, 2) := by decide +kernel
theorem dL_closed_3 : decode cL_closed 3 = .ok (.ishr, 1) := by decide +kernel
theorem dL_closed_4 : decode cL_closed 4 = .ok (.bipush 63, 2) := by decide +kernel
theorem dL_closed_6 : decode cL_closed 6 = .ok (.iand, 1) := by decide +kernel
theorem dL_closed_7 : decode cL_closed 7 = .ok (.ireturn, 1) := by decide +kernel
theorem dL_wrap_0 : decode cL_wrap 0 = .ok (.aload 5, 2) := by decide +kernel
theorem dL_wrap_2 : decode cL_wrap 2 = .ok (.aload_n 3, 1) := by decide +kernel
theorem dL_wrap_3 : decode cL_wrap 3 = .ok (.iconst 3, 1) := by decide +kernel
theorem dL_wrap_4 : decode cL_wrap 4 = .ok (.dup2, 1) := by decide +kernel
theorem dL_wrap_5 : decode cL_wrap 5 = .ok (.iaload, 1) := by decide +kernel
theorem dL_wrap_6 : decode cL_wrap 6 = .ok (.dup_x2, 1) := by decide +kernel
theorem dL_wrap_7 : decode cL_wrap 7 = .ok (.iconst 1, 1) := by decide +kernel
theorem dL_wrap_8 : decode cL_wrap 8 = .ok (.iadd, 1) := by decide +kernel
theorem dL_wrap_9 : decode cL_wrap 9 = .ok (.iastore, 1) := by decide +kernel
theorem dL_wrap_10 : decode cL_wrap 10 = .ok (.iload_n 0, 1) := by decide +kernel
theorem dL_wrap_11 : decode cL_wrap 11 = .ok (.iload_n 1, 1) := by decide +kernel
theorem dL_wrap_12 : decode cL_wrap 12 = .ok (.iload_n 2, 1) := by decide +kernel
theorem dL_wrap_13 : decode cL_wrap 13 = .ok (.aload 4, 2) := by decide +kernel
theorem dL_wrap_15 : decode cL_wrap 15 = .ok (.iconst 4, 1) := by decide +kernel
theorem dL_wrap_16 : decode cL_wrap 16 = .ok (.iload_n 2, 1) := by decide +kernel
theorem dL_wrap_17 : decode cL_wrap 17 = .ok (.imul, 1) := by decide +kernel
theorem dL_wrap_18 : decode cL_wrap 18 = .ok (.iconst 2, 1) := by decide +kernel
theorem dL_wrap_19 : decode cL_wrap 19 = .ok (.iadd, 1) := by decide +kernel
theorem dL_wrap_20 : decode cL_wrap 20 = .ok (.iaload, 1) := by decide +kernel
theorem dL_wrap_21 : decode cL_wrap 21 = .ok (.invokestatic 11, 3) := by decide +kernel
theorem dL_wrap_24 : decode cL_wrap 24 = .ok (.iastore, 1) := by decide +kernel
theorem dL_wrap_25 : decode cL_wrap 25 = .ok (.aload 4, 2) := by decide +kernel
theorem dL_wrap_27 : decode cL_wrap 27 = .ok (.iconst 4, 1) := by decide +kernel
theorem dL_wrap_28 : decode cL_wrap 28 = .ok (.iload_n 2, 1) := by decide +kernel
theorem dL_wrap_29 : decode cL_wrap 29 = .ok (.imul, 1) := by decide +kernel
theorem dL_wrap_30 : decode cL_wrap 30 = .ok (.iconst 3, 1) := by decide +kernel
theorem dL_wrap_31 : decode cL_wrap 31 = .ok (.iadd, 1) := by decide +kernel
theorem dL_wrap_32 : decode cL_wrap 32 = .ok (.dup2, 1) := by decide +kernel
theorem dL_wrap_33 : decode cL_wrap 33 = .ok (.iaload, 1) := by decide +kernel
theorem dL_wrap_34 : decode cL_wrap 34 = .ok (.iconst 1, 1) := by decide +kernel
theorem dL_wrap_35 : decode cL_wrap 35 = .ok (.iadd, 1) := by decide +kernel
theorem dL_wrap_36 : decode cL_wrap 36 = .ok (.iastore, 1) := by decide +kernel
theorem dL_wrap_37 : decode cL_wrap 37 = .ok (.return_, 1) := by decide +kernel
theorem dL_hang_0 : decode cL_hang 0 = .ok (.iconst 0, 1) := by decide +kernel
theorem dL_hang_1 : decode cL_hang 1 = .ok (.istore 4, 2) := by decide +kernel
theorem dL_hang_3 : decode cL_hang 3 = .ok (.iconst 0, 1) := by decide +kernel
theorem dL_hang_4 : decode cL_hang 4 = .ok (.istore 5, 2) := by decide +kernel
theorem dL_hang_6 : decode cL_hang 6 = .ok (.iload 5, 2) := by decide +kernel
theorem dL_hang_8 : decode cL_hang 8 = .ok (.aload_n 1, 1) := by decide +kernel
theorem dL_hang_9 : decode cL_hang 9 = .ok (.iconst 1, 1) := by decide +kernel
theorem dL_hang_10 : decode cL_hang 10 = .ok (.iaload, 1) := by decide +kernel
theorem dL_hang_11 : decode cL_hang 11 = .ok (.if_icmp .ge 41, 3) := by decide +kernel
theorem dL_hang_14 : decode cL_hang 14 = .ok (.iload 4, 2) := by decide +kernel
theorem dL_hang_16 : decode cL_hang 16 = .ok (.aload_n 2, 1) := by decide +kernel
theorem dL_hang_17 : decode cL_hang 17 = .ok (.iconst 4, 1) := by decide +kernel
theorem dL_hang_18 : decode cL_hang 18 = .ok (.iload 5, 2) := by decide +kernel
theorem dL_hang_20 : decode cL_hang 20 = .ok (.imul, 1) := by decide +kernel
theorem dL_hang_21 : decode cL_hang 21 = .ok (.iaload, 1) := by decide +kernel
theorem dL_hang_22 : decode cL_hang 22 = .ok (.iload_n 0, 1) := by decide +kernel
theorem dL_hang_23 : decode cL_hang 23 = .ok (.if_icmp .ne 19, 3) := by decide +kernel
theorem dL_hang_26 : decode cL_hang 26 = .ok (.aload_n 2, 1) := by decide +kernel
theorem dL_hang_27 : decode cL_hang 27 = .ok (.iconst 4, 1) := by decide +kernel
theorem dL_hang_28 : decode cL_hang 28 = .ok (.iload 5, 2) := by decide +kernel
theorem dL_hang_30 : decode cL_hang 30 = .ok (.imul, 1) := by decide +kernel
theorem dL_hang_31 : decode cL_hang 31 = .ok (.iconst 1, 1) := by decide +kernel
theorem dL_hang_32 : decode cL_hang 32 = .ok (.iadd, 1) := by decide +kernel
theorem dL_hang_33 : decode cL_hang 33 = .ok (.iaload, 1) := by decide +kernel
theorem dL_hang_34 : decode cL_hang 34 = .ok (.iconst 1, 1) := by decide +kernel
theorem dL_hang_35 : decode cL_hang 35 = .ok (.if_icmp .ne 7, 3) := by decide +kernel
theorem dL_hang_38 : decode cL_hang 38 = .ok (.iconst 1, 1) := by decide +kernel
theorem dL_hang_39 : decode cL_hang 39 = .ok (.goto 4, 3) := by decide +kernel
theorem dL_hang_42 : decode cL_hang 42 = .ok (.iconst 0, 1) := by decide +kernel
theorem dL_hang_43 : decode cL_hang 43 = .ok (.iadd, 1) := by decide +kernel
theorem dL_hang_44 : decode cL_hang 44 = .ok (.istore 4, 2) := by decide +kernel
theorem dL_hang_46 : decode cL_hang 46 = .ok (.iinc 5 1, 3) := by decide +kernel
theorem dL_hang_49 : decode cL_hang 49 = .ok (.goto (-43), 3) := by decide +kernel
theorem dL_hang_52 : decode cL_hang 52 = .ok (.iconst 0, 1) := by decide +kernel
theorem dL_hang_53 : decode cL_hang 53 = .ok (.istore 5, 2) := by decide +kernel
theorem dL_hang_55 : decode cL_hang 55 = .ok (.iload 5, 2) := by decide +kernel
theorem dL_hang_57 : decode cL_hang 57 = .ok (.aload_n 1, 1) := by decide +kernel
theorem dL_hang_58 : decode cL_hang 58 = .ok (.iconst 2, 1) := by decide +kernel
theorem dL_hang_59 : decode cL_hang 59 = .ok (.iaload, 1) := by decide +kernel
theorem dL_hang_60 : decode cL_hang 60 = .ok (.if_icmp .ge 41, 3) := by decide +kernel
theorem dL_hang_63 : decode cL_hang 63 = .ok (.iload 4, 2) := by decide +kernel
theorem dL_hang_65 : decode cL_hang 65 = .ok (.aload_n 3, 1) := by decide +kernel
theorem dL_hang_66 : decode cL_hang 66 = .ok (.iconst 2, 1) := by decide +kernel
theorem dL_hang_67 : decode cL_hang 67 = .ok (.iload 5, 2) := by decide +kernel
theorem dL_hang_69 : decode cL_hang 69 = .ok (.imul, 1) := by decide +kernel
theorem dL_hang_70 : decode cL_hang 70 = .ok (.iaload, 1) := by decide +kernel
theorem dL_hang_71 : decode cL_hang 71 = .ok (.iload_n 0, 1) := by decide +kernel
theorem dL_hang_72 : decode cL_hang 72 = .ok (.if_icmp .ne 19, 3) := by decide +kernel
theorem dL_hang_75 : decode cL_hang 75 = .ok (.aload_n 3, 1) := by decide +kernel
theorem dL_hang_76 : decode cL_hang 76 = .ok (.iconst 2, 1) := by decide +kernel
theorem dL_hang_77 : decode cL_hang 77 = .ok (.iload 5, 2) := by decide +kernel
theorem dL_hang_79 : decode cL_hang 79 = .ok (.imul, 1) := by decide +kernel
theorem dL_hang_80 : decode cL_hang 80 = .ok (.iconst 1, 1) := by decide +kernel
theorem dL_hang_81 : decode cL_hang 81 = .ok (.iadd, 1) := by decide +kernel
theorem dL_hang_82 : decode cL_hang 82 = .ok (.iaload, 1) := by decide +kernel
theorem dL_hang_83 : decode cL_hang 83 = .ok (.iconst 1, 1) := by decide +kernel
theorem dL_hang_84 : decode cL_hang 84 = .ok (.if_icmp .ne 7, 3) := by decide +kernel
theorem dL_hang_87 : decode cL_hang 87 = .ok (.iconst 1, 1) := by decide +kernel
theorem dL_hang_88 : decode cL_hang 88 = .ok (.goto 4, 3) := by decide +kernel
theorem dL_hang_91 : decode cL_hang 91 = .ok (.iconst 0, 1) := by decide +kernel
theorem dL_hang_92 : decode cL_hang 92 = .ok (.iadd, 1) := by decide +kernel
theorem dL_hang_93 : decode cL_hang 93 = .ok (.istore 4, 2) := by decide +kernel
theorem dL_hang_95 : decode cL_hang 95 = .ok (.iinc 5 1, 3) := by decide +kernel
theorem dL_hang_98 : decode cL_hang 98 = .ok (.goto (-43), 3) := by decide +kernel
theorem dL_hang_101 : decode cL_hang 101 = .ok (.iload 4, 2) := by decide +kernel
theorem dL_hang_103 : decode cL_hang 103 = .ok (.ireturn, 1) := by decide +kernel
theorem dL_wrapAll_0 : decode cL_wrapAll 0 = .ok (.aload_n 1, 1) := by decide +kernel
theorem dL_wrapAll_1 : decode cL_wrapAll 1 = .ok (.iconst 3, 1) := by decide +kernel
theorem dL_wrapAll_2 : decode cL_wrapAll 2 = .ok (.iaload, 1) := by decide +kernel
theorem dL_wrapAll_3 : decode cL_wrapAll 3 = .ok (.istore 5, 2) := by decide +kernel
theorem dL_wrapAll_5 : decode cL_wrapAll 5 = .ok (.iconst 0, 1) := by decide +kernel
theorem dL_wrapAll_6 : decode cL_wrapAll 6 = .ok (.istore 6, 2) := by decide +kernel
theorem dL_wrapAll_8 : decode cL_wrapAll 8 = .ok (.iload 6, 2) := by decide +kernel
theorem dL_wrapAll_10 : decode cL_wrapAll 10 = .ok (.aload_n 1, 1) := by decide +kernel
theorem dL_wrapAll_11 : decode cL_wrapAll 11 = .ok (.iconst 1, 1) := by decide +kernel
theorem dL_wrapAll_12 : decode cL_wrapAll 12 = .ok (.iaload, 1) := by decide +kernel
theorem dL_wrapAll_13 : decode cL_wrapAll 13 = .ok (.if_icmp .ge 49, 3) := by decide +kernel
theorem dL_wrapAll_16 : decode cL_wrapAll 16 = .ok (.aload_n 2, 1) := by decide +kernel
theorem dL_wrapAll_17 : decode cL_wrapAll 17 = .ok (.iconst 4, 1) := by decide +kernel
theorem dL_wrapAll_18 : decode cL_wrapAll 18 = .ok (.iload 6, 2) := by decide +kernel
theorem dL_wrapAll_20 : decode cL_wrapAll 20 = .ok (.imul, 1) := by decide +kernel
theorem dL_wrapAll_21 : decode cL_wrapAll 21 = .ok (.iaload, 1) := by decide +kernel
theorem dL_wrapAll_22 : decode cL_wrapAll 22 = .ok (.iload_n 0, 1) := by decide +kernel
theorem dL_wrapAll_23 : decode cL_wrapAll 23 = .ok (.if_icmp .ne 33, 3) := by decide +kernel
theorem dL_wrapAll_26 : decode cL_wrapAll 26 = .ok (.aload_n 2, 1) := by decide +kernel
theorem dL_wrapAll_27 : decode cL_wrapAll 27 = .ok (.iconst 4, 1) := by decide +kernel
theorem dL_wrapAll_28 : decode cL_wrapAll 28 = .ok (.iload 6, 2) := by decide +kernel
theorem dL_wrapAll_30 : decode cL_wrapAll 30 = .ok (.imul, 1) := by decide +kernel
theorem dL_wrapAll_31 : decode cL_wrapAll 31 = .ok (.iconst 1, 1) := by decide +kernel
theorem dL_wrapAll_32 : decode cL_wrapAll 32 = .ok (.iadd, 1) := by decide +kernel
theorem dL_wrapAll_33 : decode cL_wrapAll 33 = .ok (.iaload, 1) := by decide +kernel
theorem dL_wrapAll_34 : decode cL_wrapAll 34 = .ok (.iconst 1, 1) := by decide +kernel
theorem dL_wrapAll_35 : decode cL_wrapAll 35 = .ok (.if_icmp .ne 21, 3) := by decide +kernel
theorem dL_wrapAll_38 : decode cL_wrapAll 38 = .ok (.iload 6, 2) := by decide +kernel
theorem dL_wrapAll_40 : decode cL_wrapAll 40 = .ok (.aload_n 2, 1) := by decide +kernel
theorem dL_wrapAll_41 : decode cL_wrapAll 41 = .ok (.iconst 4, 1) := by decide +kernel
theorem dL_wrapAll_42 : decode cL_wrapAll 42 = .ok (.iload 6, 2) := by decide +kernel
theorem dL_wrapAll_44 : decode cL_wrapAll 44 = .ok (.imul, 1) := by decide +kernel
theorem dL_wrapAll_45 : decode cL_wrapAll 45 = .ok (.iconst 2, 1) := by decide +kernel
theorem dL_wrapAll_46 : decode cL_wrapAll 46 = .ok (.iadd, 1) := by decide +kernel
theorem dL_wrapAll_47 : decode cL_wrapAll 47 = .ok (.iaload, 1) := by decide +kernel
theorem dL_wrapAll_48 : decode cL_wrapAll 48 = .ok (.iload_n 0, 1) := by decide +kernel
theorem dL_wrapAll_49 : decode cL_wrapAll 49 = .ok (.aload_n 1, 1) := by decide +kernel
theorem dL_wrapAll_50 : decode cL_wrapAll 50 = .ok (.aload_n 2, 1) := by decide +kernel
theorem dL_wrapAll_51 : decode cL_wrapAll 51 = .ok (.aload 4, 2) := by decide +kernel
theorem dL_wrapAll_53 : decode cL_wrapAll 53 = .ok (.invokestatic 17, 3) := by decide +kernel
theorem dL_wrapAll_56 : decode cL_wrapAll 56 = .ok (.iinc 6 1, 3) := by decide +kernel
theorem dL_wrapAll_59 : decode cL_wrapAll 59 = .ok (.goto (-51), 3) := by decide +kernel
theorem dL_wrapAll_62 : decode cL_wrapAll 62 = .ok (.iconst 0, 1) := by decide +kernel
theorem dL_wrapAll_63 : decode cL_wrapAll 63 = .ok (.istore 6, 2) := by decide +kernel
theorem dL_wrapAll_65 : decode cL_wrapAll 65 = .ok (.iload 6, 2) := by decide +kernel
theorem dL_wrapAll_67 : decode cL_wrapAll 67 = .ok (.aload_n 1, 1) := by decide +kernel
theorem dL_wrapAll_68 : decode cL_wrapAll 68 = .ok (.iconst 2, 1) := by decide +kernel
theorem dL_wrapAll_69 : decode cL_wrapAll 69 = .ok (.iaload, 1) := by decide +kernel
theorem dL_wrapAll_70 : decode cL_wrapAll 70 = .ok (.if_icmp .ge 43, 3) := by decide +kernel
theorem dL_wrapAll_73 : decode cL_wrapAll 73 = .ok (.aload_n 3, 1) := by decide +kernel
theorem dL_wrapAll_74 : decode cL_wrapAll 74 = .ok (.iconst 2, 1) := by decide +kernel
theorem dL_wrapAll_75 : decode cL_wrapAll 75 = .ok (.iload 6, 2) := by decide +kernel
theorem dL_wrapAll_77 : decode cL_wrapAll 77 = .ok (.imul, 1) := by decide +kernel
theorem dL_wrapAll_78 : decode cL_wrapAll 78 = .ok (.iaload, 1) := by decide +kernel
theorem dL_wrapAll_79 : decode cL_wrapAll 79 = .ok (.iload_n 0, 1) := by decide +kernel
theorem dL_wrapAll_80 : decode cL_wrapAll 80 = .ok (.if_icmp .ne 27, 3) := by decide +kernel
theorem dL_wrapAll_83 : decode cL_wrapAll 83 = .ok (.aload_n 3, 1) := by decide +kernel
theorem dL_wrapAll_84 : decode cL_wrapAll 84 = .ok (.iconst 2, 1) := by decide +kernel
theorem dL_wrapAll_85 : decode cL_wrapAll 85 = .ok (.iload 6, 2) := by decide +kernel
theorem dL_wrapAll_87 : decode cL_wrapAll 87 = .ok (.imul, 1) := by decide +kernel
theorem dL_wrapAll_88 : decode cL_wrapAll 88 = .ok (.iconst 1, 1) := by decide +kernel
theorem dL_wrapAll_89 : decode cL_wrapAll 89 = .ok (.iadd, 1) := by decide +kernel
theorem dL_wrapAll_90 : decode cL_wrapAll 90 = .ok (.iaload, 1) := by decide +kernel
theorem dL_wrapAll_91 : decode cL_wrapAll 91 = .ok (.iconst 1, 1) := by decide +kernel
theorem dL_wrapAll_92 : decode cL_wrapAll 92 = .ok (.if_icmp .ne 15, 3) := by decide +kernel
theorem dL_wrapAll_95 : decode cL_wrapAll 95 = .ok (.bipush 7, 2) := by decide +kernel
theorem dL_wrapAll_97 : decode cL_wrapAll 97 = .ok (.iload 6, 2) := by decide +kernel
theorem dL_wrapAll_99 : decode cL_wrapAll 99 = .ok (.iload_n 0, 1) := by decide +kernel
theorem dL_wrapAll_100 : decode cL_wrapAll 100 = .ok (.aload_n 1, 1) := by decide +kernel
theorem dL_wrapAll_101 : decode cL_wrapAll 101 = .ok (.aload_n 2, 1) := by decide +kernel
theorem dL_wrapAll_102 : decode cL_wrapAll 102 = .ok (.aload 4, 2) := by decide +kernel
theorem dL_wrapAll_104 : decode cL_wrapAll 104 = .ok (.invokestatic 17, 3) := by decide +kernel
theorem dL_wrapAll_107 : decode cL_wrapAll 107 = .ok (.iinc 6 1, 3) := by decide +kernel
theorem dL_wrapAll_110 : decode cL_wrapAll 110 = .ok (.goto (-45), 3) := by decide +kernel
theorem dL_wrapAll_113 : decode cL_wrapAll 113 = .ok (.aload_n 1, 1) := by decide +kernel
theorem dL_wrapAll_114 : decode cL_wrapAll 114 = .ok (.iconst 3, 1) := by decide +kernel
theorem dL_wrapAll_115 : decode cL_wrapAll 115 = .ok (.iaload, 1) := by decide +kernel
theorem dL_wrapAll_116 : decode cL_wrapAll 116 = .ok (.iload 5, 2) := by decide +kernel
theorem dL_wrapAll_118 : decode cL_wrapAll 118 = .ok (.isub, 1) := by decide +kernel
theorem dL_wrapAll_119 : decode cL_wrapAll 119 = .ok (.ireturn, 1) := by decide +kernel
theorem dL_burn_0 : decode cL_burn 0 = .ok (.iconst 0, 1) := by decide +kernel
theorem dL_burn_1 : decode cL_burn 1 = .ok (.istore 5, 2) := by decide +kernel
theorem dL_burn_3 : decode cL_burn 3 = .ok (.iload 5, 2) := by decide +kernel
theorem dL_burn_5 : decode cL_burn 5 = .ok (.aload_n 1, 1) := by decide +kernel
theorem dL_burn_6 : decode cL_burn 6 = .ok (.iconst 3, 1) := by decide +kernel
theorem dL_burn_7 : decode cL_burn 7 = .ok (.iaload, 1) := by decide +kernel
theorem dL_burn_8 : decode cL_burn 8 = .ok (.if_icmp .ge 97, 3) := by decide +kernel
theorem dL_burn_11 : decode cL_burn 11 = .ok (.aload 4, 2) := by decide +kernel
theorem dL_burn_13 : decode cL_burn 13 = .ok (.iload 5, 2) := by decide +kernel
theorem dL_burn_15 : decode cL_burn 15 = .ok (.iaload, 1) := by decide +kernel
theorem dL_burn_16 : decode cL_burn 16 = .ok (.istore 6, 2) := by decide +kernel
theorem dL_burn_18 : decode cL_burn 18 = .ok (.iload 6, 2) := by decide +kernel
theorem dL_burn_20 : decode cL_burn 20 = .ok (.invokestatic 21, 3) := by decide +kernel
theorem dL_burn_23 : decode cL_burn 23 = .ok (.iload_n 0, 1) := by decide +kernel
theorem dL_burn_24 : decode cL_burn 24 = .ok (.if_icmp .eq 53, 3) := by decide +kernel
theorem dL_burn_27 : decode cL_burn 27 = .ok (.iload 6, 2) := by decide +kernel
theorem dL_burn_29 : decode cL_burn 29 = .ok (.invokestatic 25, 3) := by decide +kernel
theorem dL_burn_32 : decode cL_burn 32 = .ok (.iload_n 0, 1) := by decide +kernel
theorem dL_burn_33 : decode cL_burn 33 = .ok (.if_icmp .eq 44, 3) := by decide +kernel
theorem dL_burn_36 : decode cL_burn 36 = .ok (.iload 6, 2) := by decide +kernel
theorem dL_burn_38 : decode cL_burn 38 = .ok (.invokestatic 21, 3) := by decide +kernel
theorem dL_burn_41 : decode cL_burn 41 = .ok (.bipush 7, 2) := by decide +kernel
theorem dL_burn_43 : decode cL_burn 43 = .ok (.if_icmp .ne 20, 3) := by decide +kernel
theorem dL_burn_46 : decode cL_burn 46 = .ok (.aload_n 3, 1) := by decide +kernel
theorem dL_burn_47 : decode cL_burn 47 = .ok (.iconst 2, 1) := by decide +kernel
theorem dL_burn_48 : decode cL_burn 48 = .ok (.iload 6, 2) := by decide +kernel
theorem dL_burn_50 : decode cL_burn 50 = .ok (.invokestatic 28, 3) := by decide +kernel
theorem dL_burn_53 : decode cL_burn 53 = .ok (.imul, 1) := by decide +kernel
theorem dL_burn_54 : decode cL_burn 54 = .ok (.iconst 1, 1) := by decide +kernel
theorem dL_burn_55 : decode cL_burn 55 = .ok (.iadd, 1) := by decide +kernel
theorem dL_burn_56 : decode cL_burn 56 = .ok (.iaload, 1) := by decide +kernel
theorem dL_burn_57 : decode cL_burn 57 = .ok (.ifCond .ne 24, 3) := by decide +kernel
theorem dL_burn_60 : decode cL_burn 60 = .ok (.goto 17, 3) := by decide +kernel
theorem dL_burn_63 : decode cL_burn 63 = .ok (.aload_n 2, 1) := by decide +kernel
theorem dL_burn_64 : decode cL_burn 64 = .ok (.iconst 4, 1) := by decide +kernel
theorem dL_burn_65 : decode cL_burn 65 = .ok (.iload 6, 2) := by decide +kernel
theorem dL_burn_67 : decode cL_burn 67 = .ok (.invokestatic 21, 3) := by decide +kernel
theorem dL_burn_70 : decode cL_burn 70 = .ok (.imul, 1) := by decide +kernel
theorem dL_burn_71 : decode cL_burn 71 = .ok (.iconst 1, 1) := by decide +kernel
theorem dL_burn_72 : decode cL_burn 72 = .ok (.iadd, 1) := by decide +kernel
theorem dL_burn_73 : decode cL_burn 73 = .ok (.iaload, 1) := by decide +kernel
theorem dL_burn_74 : decode cL_burn 74 = .ok (.ifCond .ne 7, 3) := by decide +kernel
theorem dL_burn_77 : decode cL_burn 77 = .ok (.iconst 1, 1) := by decide +kernel
theorem dL_burn_78 : decode cL_burn 78 = .ok (.goto 4, 3) := by decide +kernel
theorem dL_burn_81 : decode cL_burn 81 = .ok (.iconst 0, 1) := by decide +kernel
theorem dL_burn_82 : decode cL_burn 82 = .ok (.istore 7, 2) := by decide +kernel
theorem dL_burn_84 : decode cL_burn 84 = .ok (.iload 7, 2) := by decide +kernel
theorem dL_burn_86 : decode cL_burn 86 = .ok (.ifCond .eq 13, 3) := by decide +kernel
theorem dL_burn_89 : decode cL_burn 89 = .ok (.aload 4, 2) := by decide +kernel
theorem dL_burn_91 : decode cL_burn 91 = .ok (.iload 5, 2) := by decide +kernel
theorem dL_burn_93 : decode cL_burn 93 = .ok (.iload 6, 2) := by decide +kernel
theorem dL_burn_95 : decode cL_burn 95 = .ok (.ldc 31, 2) := by decide +kernel
theorem dL_burn_97 : decode cL_burn 97 = .ok (.iand, 1) := by decide +kernel
theorem dL_burn_98 : decode cL_burn 98 = .ok (.iastore, 1) := by decide +kernel
theorem dL_burn_99 : decode cL_burn 99 = .ok (.iinc 5 1, 3) := by decide +kernel
theorem dL_burn_102 : decode cL_burn 102 = .ok (.goto (-99), 3) := by decide +kernel
theorem dL_burn_105 : decode cL_burn 105 = .ok (.return_, 1) := by decide +kernel
theorem dL_under_0 : decode cL_under 0 = .ok (.iload_n 0, 1) := by decide +kernel
theorem dL_under_1 : decode cL_under 1 = .ok (.istore_n 3, 1) := by decide +kernel
theorem dL_under_2 : decode cL_under 2 = .ok (.iload_n 3, 1) := by decide +kernel
theorem dL_under_3 : decode cL_under 3 = .ok (.ifCond .lt 19, 3) := by decide +kernel
theorem dL_under_6 : decode cL_under 6 = .ok (.iload_n 3, 1) := by decide +kernel
theorem dL_under_7 : decode cL_under 7 = .ok (.iload_n 1, 1) := by decide +kernel
theorem dL_under_8 : decode cL_under 8 = .ok (.if_icmp .ne 5, 3) := by decide +kernel
theorem dL_under_11 : decode cL_under 11 = .ok (.iconst 1, 1) := by decide +kernel
theorem dL_under_12 : decode cL_under 12 = .ok (.ireturn, 1) := by decide +kernel
theorem dL_under_13 : decode cL_under 13 = .ok (.aload_n 2, 1) := by decide +kernel
theorem dL_under_14 : decode cL_under 14 = .ok (.iconst 4, 1) := by decide +kernel
theorem dL_under_15 : decode cL_under 15 = .ok (.iload_n 3, 1) := by decide +kernel
theorem dL_under_16 : decode cL_under 16 = .ok (.imul, 1) := by decide +kernel
theorem dL_under_17 : decode cL_under 17 = .ok (.iaload, 1) := by decide +kernel
theorem dL_under_18 : decode cL_under 18 = .ok (.istore_n 3, 1) := by decide +kernel
theorem dL_under_19 : decode cL_under 19 = .ok (.goto (-17), 3) := by decide +kernel
theorem dL_under_22 : decode cL_under 22 = .ok (.iconst 0, 1) := by decide +kernel
theorem dL_under_23 : decode cL_under 23 = .ok (.ireturn, 1) := by decide +kernel
theorem dL_anew_0 : decode cL_anew 0 = .ok (.iconst 0, 1) := by decide +kernel
theorem dL_anew_1 : decode cL_anew 1 = .ok (.istore 5, 2) := by decide +kernel
theorem dL_anew_3 : decode cL_anew 3 = .ok (.iload_n 0, 1) := by decide +kernel
theorem dL_anew_4 : decode cL_anew 4 = .ok (.istore 6, 2) := by decide +kernel
theorem dL_anew_6 : decode cL_anew 6 = .ok (.iload 6, 2) := by decide +kernel
theorem dL_anew_8 : decode cL_anew 8 = .ok (.ifCond .lt 45, 3) := by decide +kernel
theorem dL_anew_11 : decode cL_anew 11 = .ok (.aload_n 2, 1) := by decide +kernel
theorem dL_anew_12 : decode cL_anew 12 = .ok (.iconst 4, 1) := by decide +kernel
theorem dL_anew_13 : decode cL_anew 13 = .ok (.iload 6, 2) := by decide +kernel
theorem dL_anew_15 : decode cL_anew 15 = .ok (.imul, 1) := by decide +kernel
theorem dL_anew_16 : decode cL_anew 16 = .ok (.iconst 2, 1) := by decide +kernel
theorem dL_anew_17 : decode cL_anew 17 = .ok (.iadd, 1) := by decide +kernel
theorem dL_anew_18 : decode cL_anew 18 = .ok (.dup2, 1) := by decide +kernel
theorem dL_anew_19 : decode cL_anew 19 = .ok (.iaload, 1) := by decide +kernel
theorem dL_anew_20 : decode cL_anew 20 = .ok (.iconst 1, 1) := by decide +kernel
theorem dL_anew_21 : decode cL_anew 21 = .ok (.iadd, 1) := by decide +kernel
theorem dL_anew_22 : decode cL_anew 22 = .ok (.iastore, 1) := by decide +kernel
theorem dL_anew_23 : decode cL_anew 23 = .ok (.aload_n 2, 1) := by decide +kernel
theorem dL_anew_24 : decode cL_anew 24 = .ok (.iconst 4, 1) := by decide +kernel
theorem dL_anew_25 : decode cL_anew 25 = .ok (.iload 6, 2) := by decide +kernel
theorem dL_anew_27 : decode cL_anew 27 = .ok (.imul, 1) := by decide +kernel
theorem dL_anew_28 : decode cL_anew 28 = .ok (.iconst 3, 1) := by decide +kernel
theorem dL_anew_29 : decode cL_anew 29 = .ok (.iadd, 1) := by decide +kernel
theorem dL_anew_30 : decode cL_anew 30 = .ok (.iconst 0, 1) := by decide +kernel
theorem dL_anew_31 : decode cL_anew 31 = .ok (.iastore, 1) := by decide +kernel
theorem dL_anew_32 : decode cL_anew 32 = .ok (.iload 6, 2) := by decide +kernel
theorem dL_anew_34 : decode cL_anew 34 = .ok (.aload_n 1, 1) := by decide +kernel
theorem dL_anew_35 : decode cL_anew 35 = .ok (.aload_n 2, 1) := by decide +kernel
theorem dL_anew_36 : decode cL_anew 36 = .ok (.aload_n 3, 1) := by decide +kernel
theorem dL_anew_37 : decode cL_anew 37 = .ok (.aload 4, 2) := by decide +kernel
theorem dL_anew_39 : decode cL_anew 39 = .ok (.invokestatic 32, 3) := by decide +kernel
theorem dL_anew_42 : decode cL_anew 42 = .ok (.aload_n 2, 1) := by decide +kernel
theorem dL_anew_43 : decode cL_anew 43 = .ok (.iconst 4, 1) := by decide +kernel
theorem dL_anew_44 : decode cL_anew 44 = .ok (.iload 6, 2) := by decide +kernel
theorem dL_anew_46 : decode cL_anew 46 = .ok (.imul, 1) := by decide +kernel
theorem dL_anew_47 : decode cL_anew 47 = .ok (.iaload, 1) := by decide +kernel
theorem dL_anew_48 : decode cL_anew 48 = .ok (.istore 6, 2) := by decide +kernel
theorem dL_anew_50 : decode cL_anew 50 = .ok (.goto (-44), 3) := by decide +kernel
theorem dL_anew_53 : decode cL_anew 53 = .ok (.iconst (-1), 1) := by decide +kernel
theorem dL_anew_54 : decode cL_anew 54 = .ok (.istore 6, 2) := by decide +kernel
theorem dL_anew_56 : decode cL_anew 56 = .ok (.iload 6, 2) := by decide +kernel
theorem dL_anew_58 : decode cL_anew 58 = .ok (.iload_n 0, 1) := by decide +kernel
theorem dL_anew_59 : decode cL_anew 59 = .ok (.if_icmp .eq 59, 3) := by decide +kernel
theorem dL_anew_62 : decode cL_anew 62 = .ok (.iload_n 0, 1) := by decide +kernel
theorem dL_anew_63 : decode cL_anew 63 = .ok (.istore 7, 2) := by decide +kernel
theorem dL_anew_65 : decode cL_anew 65 = .ok (.aload_n 2, 1) := by decide +kernel
theorem dL_anew_66 : decode cL_anew 66 = .ok (.iconst 4, 1) := by decide +kernel
theorem dL_anew_67 : decode cL_anew 67 = .ok (.iload 7, 2) := by decide +kernel
theorem dL_anew_69 : decode cL_anew 69 = .ok (.imul, 1) := by decide +kernel
theorem dL_anew_70 : decode cL_anew 70 = .ok (.iaload, 1) := by decide +kernel
theorem dL_anew_71 : decode cL_anew 71 = .ok (.iload 6, 2) := by decide +kernel
theorem dL_anew_73 : decode cL_anew 73 = .ok (.if_icmp .eq 23, 3) := by decide +kernel
theorem dL_anew_76 : decode cL_anew 76 = .ok (.aload_n 2, 1) := by decide +kernel
theorem dL_anew_77 : decode cL_anew 77 = .ok (.iconst 4, 1) := by decide +kernel
theorem dL_anew_78 : decode cL_anew 78 = .ok (.iload 7, 2) := by decide +kernel
theorem dL_anew_80 : decode cL_anew 80 = .ok (.imul, 1) := by decide +kernel
theorem dL_anew_81 : decode cL_anew 81 = .ok (.iaload, 1) := by decide +kernel
theorem dL_anew_82 : decode cL_anew 82 = .ok (.ifCond .lt 14, 3) := by decide +kernel
theorem dL_anew_85 : decode cL_anew 85 = .ok (.aload_n 2, 1) := by decide +kernel
theorem dL_anew_86 : decode cL_anew 86 = .ok (.iconst 4, 1) := by decide +kernel
theorem dL_anew_87 : decode cL_anew 87 = .ok (.iload 7, 2) := by decide +kernel
theorem dL_anew_89 : decode cL_anew 89 = .ok (.imul, 1) := by decide +kernel
theorem dL_anew_90 : decode cL_anew 90 = .ok (.iaload, 1) := by decide +kernel
theorem dL_anew_91 : decode cL_anew 91 = .ok (.istore 7, 2) := by decide +kernel
theorem dL_anew_93 : decode cL_anew 93 = .ok (.goto (-28), 3) := by decide +kernel
theorem dL_anew_96 : decode cL_anew 96 = .ok (.iload 5, 2) := by decide +kernel
theorem dL_anew_98 : decode cL_anew 98 = .ok (.iload 7, 2) := by decide +kernel
theorem dL_anew_100 : decode cL_anew 100 = .ok (.aload_n 1, 1) := by decide +kernel
theorem dL_anew_101 : decode cL_anew 101 = .ok (.aload_n 2, 1) := by decide +kernel
theorem dL_anew_102 : decode cL_anew 102 = .ok (.aload_n 3, 1) := by decide +kernel
theorem dL_anew_103 : decode cL_anew 103 = .ok (.aload 4, 2) := by decide +kernel
theorem dL_anew_105 : decode cL_anew 105 = .ok (.invokestatic 36, 3) := by decide +kernel
theorem dL_anew_108 : decode cL_anew 108 = .ok (.iadd, 1) := by decide +kernel
theorem dL_anew_109 : decode cL_anew 109 = .ok (.istore 5, 2) := by decide +kernel
theorem dL_anew_111 : decode cL_anew 111 = .ok (.iload 7, 2) := by decide +kernel
theorem dL_anew_113 : decode cL_anew 113 = .ok (.istore 6, 2) := by decide +kernel
theorem dL_anew_115 : decode cL_anew 115 = .ok (.goto (-59), 3) := by decide +kernel
theorem dL_anew_118 : decode cL_anew 118 = .ok (.iload 5, 2) := by decide +kernel
theorem dL_anew_120 : decode cL_anew 120 = .ok (.ireturn, 1) := by decide +kernel
theorem dL_open_0 : decode cL_open 0 = .ok (.aload 6, 2) := by decide +kernel
theorem dL_open_2 : decode cL_open 2 = .ok (.iconst 0, 1) := by decide +kernel
theorem dL_open_3 : decode cL_open 3 = .ok (.lconst 0, 1) := by decide +kernel
theorem dL_open_4 : decode cL_open 4 = .ok (.lastore, 1) := by decide +kernel
theorem dL_open_5 : decode cL_open 5 = .ok (.aload 6, 2) := by decide +kernel
theorem dL_open_7 : decode cL_open 7 = .ok (.iconst 1, 1) := by decide +kernel
theorem dL_open_8 : decode cL_open 8 = .ok (.lconst 0, 1) := by decide +kernel
theorem dL_open_9 : decode cL_open 9 = .ok (.lastore, 1) := by decide +kernel
theorem dL_open_10 : decode cL_open 10 = .ok (.iconst 1, 1) := by decide +kernel
theorem dL_open_11 : decode cL_open 11 = .ok (.istore 7, 2) := by decide +kernel
theorem dL_open_13 : decode cL_open 13 = .ok (.iload 7, 2) := by decide +kernel
theorem dL_open_15 : decode cL_open 15 = .ok (.ifCond .eq 140, 3) := by decide +kernel
theorem dL_open_18 : decode cL_open 18 = .ok (.iconst 0, 1) := by decide +kernel
theorem dL_open_19 : decode cL_open 19 = .ok (.istore 7, 2) := by decide +kernel
theorem dL_open_21 : decode cL_open 21 = .ok (.iconst 0, 1) := by decide +kernel
theorem dL_open_22 : decode cL_open 22 = .ok (.istore 8, 2) := by decide +kernel
theorem dL_open_24 : decode cL_open 24 = .ok (.iload 8, 2) := by decide +kernel
theorem dL_open_26 : decode cL_open 26 = .ok (.aload_n 3, 1) := by decide +kernel
theorem dL_open_27 : decode cL_open 27 = .ok (.iconst 3, 1) := by decide +kernel
theorem dL_open_28 : decode cL_open 28 = .ok (.iaload, 1) := by decide +kernel
theorem dL_open_29 : decode cL_open 29 = .ok (.if_icmp .ge 123, 3) := by decide +kernel
theorem dL_open_32 : decode cL_open 32 = .ok (.aload 5, 2) := by decide +kernel
theorem dL_open_34 : decode cL_open 34 = .ok (.iload 8, 2) := by decide +kernel
theorem dL_open_36 : decode cL_open 36 = .ok (.iaload, 1) := by decide +kernel
theorem dL_open_37 : decode cL_open 37 = .ok (.istore 9, 2) := by decide +kernel
theorem dL_open_39 : decode cL_open 39 = .ok (.iload 9, 2) := by decide +kernel
theorem dL_open_41 : decode cL_open 41 = .ok (.bipush 19, 2) := by decide +kernel
theorem dL_open_43 : decode cL_open 43 = .ok (.ishr, 1) := by decide +kernel
theorem dL_open_44 : decode cL_open 44 = .ok (.iload_n 0, 1) := by decide +kernel
theorem dL_open_45 : decode cL_open 45 = .ok (.iand, 1) := by decide +kernel
theorem dL_open_46 : decode cL_open 46 = .ok (.ifCond .ne 18, 3) := by decide +kernel
theorem dL_open_49 : decode cL_open 49 = .ok (.iload_n 1, 1) := by decide +kernel
theorem dL_open_50 : decode cL_open 50 = .ok (.ifCond .ge 18, 3) := by decide +kernel
theorem dL_open_53 : decode cL_open 53 = .ok (.iload 9, 2) := by decide +kernel
theorem dL_open_55 : decode cL_open 55 = .ok (.bipush 18, 2) := by decide +kernel
theorem dL_open_57 : decode cL_open 57 = .ok (.ishr, 1) := by decide +kernel
theorem dL_open_58 : decode cL_open 58 = .ok (.iconst 1, 1) := by decide +kernel
theorem dL_open_59 : decode cL_open 59 = .ok (.iand, 1) := by decide +kernel
theorem dL_open_60 : decode cL_open 60 = .ok (.iconst 1, 1) := by decide +kernel
theorem dL_open_61 : decode cL_open 61 = .ok (.if_icmp .ne 7, 3) := by decide +kernel
theorem dL_open_64 : decode cL_open 64 = .ok (.iconst 1, 1) := by decide +kernel
theorem dL_open_65 : decode cL_open 65 = .ok (.goto 4, 3) := by decide +kernel
theorem dL_open_68 : decode cL_open 68 = .ok (.iconst 0, 1) := by decide +kernel
theorem dL_open_69 : decode cL_open 69 = .ok (.istore 10, 2) := by decide +kernel
theorem dL_open_71 : decode cL_open 71 = .ok (.iload 10, 2) := by decide +kernel
theorem dL_open_73 : decode cL_open 73 = .ok (.ifCond .eq 73, 3) := by decide +kernel
theorem dL_open_76 : decode cL_open 76 = .ok (.aload 6, 2) := by decide +kernel
theorem dL_open_78 : decode cL_open 78 = .ok (.iload 8, 2) := by decide +kernel
theorem dL_open_80 : decode cL_open 80 = .ok (.bipush 64, 2) := by decide +kernel
theorem dL_open_82 : decode cL_open 82 = .ok (.idiv, 1) := by decide +kernel
theorem dL_open_83 : decode cL_open 83 = .ok (.laload, 1) := by decide +kernel
theorem dL_open_84 : decode cL_open 84 = .ok (.iload 8, 2) := by decide +kernel
theorem dL_open_86 : decode cL_open 86 = .ok (.bipush 64, 2) := by decide +kernel
theorem dL_open_88 : decode cL_open 88 = .ok (.irem, 1) := by decide +kernel
theorem dL_open_89 : decode cL_open 89 = .ok (.lushr, 1) := by decide +kernel
theorem dL_open_90 : decode cL_open 90 = .ok (.lconst 1, 1) := by decide +kernel
theorem dL_open_91 : decode cL_open 91 = .ok (.land, 1) := by decide +kernel
theorem dL_open_92 : decode cL_open 92 = .ok (.lconst 1, 1) := by decide +kernel
theorem dL_open_93 : decode cL_open 93 = .ok (.lcmp, 1) := by decide +kernel
theorem dL_open_94 : decode cL_open 94 = .ok (.ifCond .eq 52, 3) := by decide +kernel
theorem dL_open_97 : decode cL_open 97 = .ok (.iload 9, 2) := by decide +kernel
theorem dL_open_99 : decode cL_open 99 = .ok (.invokestatic 25, 3) := by decide +kernel
theorem dL_open_102 : decode cL_open 102 = .ok (.iload 9, 2) := by decide +kernel
theorem dL_open_104 : decode cL_open 104 = .ok (.invokestatic 40, 3) := by decide +kernel
theorem dL_open_107 : decode cL_open 107 = .ok (.iload_n 1, 1) := by decide +kernel
theorem dL_open_108 : decode cL_open 108 = .ok (.iload_n 2, 1) := by decide +kernel
theorem dL_open_109 : decode cL_open 109 = .ok (.aload_n 3, 1) := by decide +kernel
theorem dL_open_110 : decode cL_open 110 = .ok (.aload 4, 2) := by decide +kernel
theorem dL_open_112 : decode cL_open 112 = .ok (.aload 5, 2) := by decide +kernel
theorem dL_open_114 : decode cL_open 114 = .ok (.aload 6, 2) := by decide +kernel
theorem dL_open_116 : decode cL_open 116 = .ok (.invokestatic 43, 3) := by decide +kernel
theorem dL_open_119 : decode cL_open 119 = .ok (.ifCond .ne 6, 3) := by decide +kernel
theorem dL_open_122 : decode cL_open 122 = .ok (.goto 24, 3) := by decide +kernel
theorem dL_open_125 : decode cL_open 125 = .ok (.aload 6, 2) := by decide +kernel
theorem dL_open_127 : decode cL_open 127 = .ok (.iload 8, 2) := by decide +kernel
theorem dL_open_129 : decode cL_open 129 = .ok (.bipush 64, 2) := by decide +kernel
theorem dL_open_131 : decode cL_open 131 = .ok (.idiv, 1) := by decide +kernel
theorem dL_open_132 : decode cL_open 132 = .ok (.dup2, 1) := by decide +kernel
theorem dL_open_133 : decode cL_open 133 = .ok (.laload, 1) := by decide +kernel
theorem dL_open_134 : decode cL_open 134 = .ok (.lconst 1, 1) := by decide +kernel
theorem dL_open_135 : decode cL_open 135 = .ok (.iload 8, 2) := by decide +kernel
theorem dL_open_137 : decode cL_open 137 = .ok (.bipush 64, 2) := by decide +kernel
theorem dL_open_139 : decode cL_open 139 = .ok (.irem, 1) := by decide +kernel
theorem dL_open_140 : decode cL_open 140 = .ok (.lshl, 1) := by decide +kernel
theorem dL_open_141 : decode cL_open 141 = .ok (.lor, 1) := by decide +kernel
theorem dL_open_142 : decode cL_open 142 = .ok (.lastore, 1) := by decide +kernel
theorem dL_open_143 : decode cL_open 143 = .ok (.iconst 1, 1) := by decide +kernel
theorem dL_open_144 : decode cL_open 144 = .ok (.istore 7, 2) := by decide +kernel
theorem dL_open_146 : decode cL_open 146 = .ok (.iinc 8 1, 3) := by decide +kernel
theorem dL_open_149 : decode cL_open 149 = .ok (.goto (-125), 3) := by decide +kernel
theorem dL_open_152 : decode cL_open 152 = .ok (.goto (-139), 3) := by decide +kernel
theorem dL_open_155 : decode cL_open 155 = .ok (.return_, 1) := by decide +kernel
theorem dL_had_0 : decode cL_had 0 = .ok (.iload_n 2, 1) := by decide +kernel
theorem dL_had_1 : decode cL_had 1 = .ok (.ifCond .ge 39, 3) := by decide +kernel
theorem dL_had_4 : decode cL_had 4 = .ok (.aload 5, 2) := by decide +kernel
theorem dL_had_6 : decode cL_had 6 = .ok (.iconst 4, 1) := by decide +kernel
theorem dL_had_7 : decode cL_had 7 = .ok (.iload_n 0, 1) := by decide +kernel
theorem dL_had_8 : decode cL_had 8 = .ok (.imul, 1) := by decide +kernel
theorem dL_had_9 : decode cL_had 9 = .ok (.iaload, 1) := by decide +kernel
theorem dL_had_10 : decode cL_had 10 = .ok (.ifCond .ge 42, 3) := by decide +kernel
theorem dL_had_13 : decode cL_had 13 = .ok (.aload 5, 2) := by decide +kernel
theorem dL_had_15 : decode cL_had 15 = .ok (.iconst 4, 1) := by decide +kernel
theorem dL_had_16 : decode cL_had 16 = .ok (.iload_n 0, 1) := by decide +kernel
theorem dL_had_17 : decode cL_had 17 = .ok (.imul, 1) := by decide +kernel
theorem dL_had_18 : decode cL_had 18 = .ok (.iconst 1, 1) := by decide +kernel
theorem dL_had_19 : decode cL_had 19 = .ok (.iadd, 1) := by decide +kernel
theorem dL_had_20 : decode cL_had 20 = .ok (.iaload, 1) := by decide +kernel
theorem dL_had_21 : decode cL_had 21 = .ok (.iconst 1, 1) := by decide +kernel
theorem dL_had_22 : decode cL_had 22 = .ok (.if_icmp .ne 30, 3) := by decide +kernel
theorem dL_had_25 : decode cL_had 25 = .ok (.aload 5, 2) := by decide +kernel
theorem dL_had_27 : decode cL_had 27 = .ok (.iconst 4, 1) := by decide +kernel
theorem dL_had_28 : decode cL_had 28 = .ok (.iload_n 0, 1) := by decide +kernel
theorem dL_had_29 : decode cL_had 29 = .ok (.imul, 1) := by decide +kernel
theorem dL_had_30 : decode cL_had 30 = .ok (.iconst 2, 1) := by decide +kernel
theorem dL_had_31 : decode cL_had 31 = .ok (.iadd, 1) := by decide +kernel
theorem dL_had_32 : decode cL_had 32 = .ok (.iaload, 1) := by decide +kernel
theorem dL_had_33 : decode cL_had 33 = .ok (.iload_n 1, 1) := by decide +kernel
theorem dL_had_34 : decode cL_had 34 = .ok (.if_icmp .ne 18, 3) := by decide +kernel
theorem dL_had_37 : decode cL_had 37 = .ok (.goto 13, 3) := by decide +kernel
theorem dL_had_40 : decode cL_had 40 = .ok (.iload_n 0, 1) := by decide +kernel
theorem dL_had_41 : decode cL_had 41 = .ok (.iload_n 2, 1) := by decide +kernel
theorem dL_had_42 : decode cL_had 42 = .ok (.if_icmp .ne 10, 3) := by decide +kernel
theorem dL_had_45 : decode cL_had 45 = .ok (.iload_n 1, 1) := by decide +kernel
theorem dL_had_46 : decode cL_had 46 = .ok (.iload_n 3, 1) := by decide +kernel
theorem dL_had_47 : decode cL_had 47 = .ok (.if_icmp .ne 5, 3) := by decide +kernel
theorem dL_had_50 : decode cL_had 50 = .ok (.iconst 1, 1) := by decide +kernel
theorem dL_had_51 : decode cL_had 51 = .ok (.ireturn, 1) := by decide +kernel
theorem dL_had_52 : decode cL_had 52 = .ok (.iconst 0, 1) := by decide +kernel
theorem dL_had_53 : decode cL_had 53 = .ok (.istore 8, 2) := by decide +kernel
theorem dL_had_55 : decode cL_had 55 = .ok (.iload 8, 2) := by decide +kernel
theorem dL_had_57 : decode cL_had 57 = .ok (.aload 4, 2) := by decide +kernel
theorem dL_had_59 : decode cL_had 59 = .ok (.iconst 3, 1) := by decide +kernel
theorem dL_had_60 : decode cL_had 60 = .ok (.iaload, 1) := by decide +kernel
theorem dL_had_61 : decode cL_had 61 = .ok (.if_icmp .ge 56, 3) := by decide +kernel
theorem dL_had_64 : decode cL_had 64 = .ok (.aload 7, 2) := by decide +kernel
theorem dL_had_66 : decode cL_had 66 = .ok (.iload 8, 2) := by decide +kernel
theorem dL_had_68 : decode cL_had 68 = .ok (.bipush 64, 2) := by decide +kernel
theorem dL_had_70 : decode cL_had 70 = .ok (.idiv, 1) := by decide +kernel
theorem dL_had_71 : decode cL_had 71 = .ok (.laload, 1) := by decide +kernel
theorem dL_had_72 : decode cL_had 72 = .ok (.iload 8, 2) := by decide +kernel
theorem dL_had_74 : decode cL_had 74 = .ok (.bipush 64, 2) := by decide +kernel
theorem dL_had_76 : decode cL_had 76 = .ok (.irem, 1) := by decide +kernel
theorem dL_had_77 : decode cL_had 77 = .ok (.lushr, 1) := by decide +kernel
theorem dL_had_78 : decode cL_had 78 = .ok (.lconst 1, 1) := by decide +kernel
theorem dL_had_79 : decode cL_had 79 = .ok (.land, 1) := by decide +kernel
theorem dL_had_80 : decode cL_had 80 = .ok (.lconst 1, 1) := by decide +kernel
theorem dL_had_81 : decode cL_had 81 = .ok (.lcmp, 1) := by decide +kernel
theorem dL_had_82 : decode cL_had 82 = .ok (.ifCond .ne 29, 3) := by decide +kernel
theorem dL_had_85 : decode cL_had 85 = .ok (.aload 6, 2) := by decide +kernel
theorem dL_had_87 : decode cL_had 87 = .ok (.iload 8, 2) := by decide +kernel
theorem dL_had_89 : decode cL_had 89 = .ok (.iaload, 1) := by decide +kernel
theorem dL_had_90 : decode cL_had 90 = .ok (.invokestatic 21, 3) := by decide +kernel
theorem dL_had_93 : decode cL_had 93 = .ok (.iload_n 0, 1) := by decide +kernel
theorem dL_had_94 : decode cL_had 94 = .ok (.if_icmp .ne 17, 3) := by decide +kernel
theorem dL_had_97 : decode cL_had 97 = .ok (.aload 6, 2) := by decide +kernel
theorem dL_had_99 : decode cL_had 99 = .ok (.iload 8, 2) := by decide +kernel
theorem dL_had_101 : decode cL_had 101 = .ok (.iaload, 1) := by decide +kernel
theorem dL_had_102 : decode cL_had 102 = .ok (.invokestatic 28, 3) := by decide +kernel
theorem dL_had_105 : decode cL_had 105 = .ok (.iload_n 1, 1) := by decide +kernel
theorem dL_had_106 : decode cL_had 106 = .ok (.if_icmp .ne 5, 3) := by decide +kernel
theorem dL_had_109 : decode cL_had 109 = .ok (.iconst 1, 1) := by decide +kernel
theorem dL_had_110 : decode cL_had 110 = .ok (.ireturn, 1) := by decide +kernel
theorem dL_had_111 : decode cL_had 111 = .ok (.iinc 8 1, 3) := by decide +kernel
theorem dL_had_114 : decode cL_had 114 = .ok (.goto (-59), 3) := by decide +kernel
theorem dL_had_117 : decode cL_had 117 = .ok (.iconst 0, 1) := by decide +kernel
theorem dL_had_118 : decode cL_had 118 = .ok (.ireturn, 1) := by decide +kernel
theorem dL_boxes_0 : decode cL_boxes 0 = .ok (.iconst 0, 1) := by decide +kernel
theorem dL_boxes_1 : decode cL_boxes 1 = .ok (.istore_n 3, 1) := by decide +kernel
theorem dL_boxes_2 : decode cL_boxes 2 = .ok (.iconst 0, 1) := by decide +kernel
theorem dL_boxes_3 : decode cL_boxes 3 = .ok (.istore 4, 2) := by decide +kernel
theorem dL_boxes_5 : decode cL_boxes 5 = .ok (.iload 4, 2) := by decide +kernel
theorem dL_boxes_7 : decode cL_boxes 7 = .ok (.aload_n 0, 1) := by decide +kernel
theorem dL_boxes_8 : decode cL_boxes 8 = .ok (.iconst 3, 1) := by decide +kernel
theorem dL_boxes_9 : decode cL_boxes 9 = .ok (.iaload, 1) := by decide +kernel
theorem dL_boxes_10 : decode cL_boxes 10 = .ok (.if_icmp .ge 53, 3) := by decide +kernel
theorem dL_boxes_13 : decode cL_boxes 13 = .ok (.aload_n 2, 1) := by decide +kernel
theorem dL_boxes_14 : decode cL_boxes 14 = .ok (.iload 4, 2) := by decide +kernel
theorem dL_boxes_16 : decode cL_boxes 16 = .ok (.bipush 64, 2) := by decide +kernel
theorem dL_boxes_18 : decode cL_boxes 18 = .ok (.idiv, 1) := by decide +kernel
theorem dL_boxes_19 : decode cL_boxes 19 = .ok (.laload, 1) := by decide +kernel
theorem dL_boxes_20 : decode cL_boxes 20 = .ok (.iload 4, 2) := by decide +kernel
theorem dL_boxes_22 : decode cL_boxes 22 = .ok (.bipush 64, 2) := by decide +kernel
theorem dL_boxes_24 : decode cL_boxes 24 = .ok (.irem, 1) := by decide +kernel
theorem dL_boxes_25 : decode cL_boxes 25 = .ok (.lushr, 1) := by decide +kernel
theorem dL_boxes_26 : decode cL_boxes 26 = .ok (.lconst 1, 1) := by decide +kernel
theorem dL_boxes_27 : decode cL_boxes 27 = .ok (.land, 1) := by decide +kernel
theorem dL_boxes_28 : decode cL_boxes 28 = .ok (.lconst 1, 1) := by decide +kernel
theorem dL_boxes_29 : decode cL_boxes 29 = .ok (.lcmp, 1) := by decide +kernel
theorem dL_boxes_30 : decode cL_boxes 30 = .ok (.ifCond .ne 27, 3) := by decide +kernel
theorem dL_boxes_33 : decode cL_boxes 33 = .ok (.aload_n 1, 1) := by decide +kernel
theorem dL_boxes_34 : decode cL_boxes 34 = .ok (.iload 4, 2) := by decide +kernel
theorem dL_boxes_36 : decode cL_boxes 36 = .ok (.iaload, 1) := by decide +kernel
theorem dL_boxes_37 : decode cL_boxes 37 = .ok (.invokestatic 21, 3) := by decide +kernel
theorem dL_boxes_40 : decode cL_boxes 40 = .ok (.bipush 7, 2) := by decide +kernel
theorem dL_boxes_42 : decode cL_boxes 42 = .ok (.if_icmp .ne 15, 3) := by decide +kernel
theorem dL_boxes_45 : decode cL_boxes 45 = .ok (.iload_n 3, 1) := by decide +kernel
theorem dL_boxes_46 : decode cL_boxes 46 = .ok (.iconst 1, 1) := by decide +kernel
theorem dL_boxes_47 : decode cL_boxes 47 = .ok (.aload_n 1, 1) := by decide +kernel
theorem dL_boxes_48 : decode cL_boxes 48 = .ok (.iload 4, 2) := by decide +kernel
theorem dL_boxes_50 : decode cL_boxes 50 = .ok (.iaload, 1) := by decide +kernel
theorem dL_boxes_51 : decode cL_boxes 51 = .ok (.invokestatic 28, 3) := by decide +kernel
theorem dL_boxes_54 : decode cL_boxes 54 = .ok (.ishl, 1) := by decide +kernel
theorem dL_boxes_55 : decode cL_boxes 55 = .ok (.ior, 1) := by decide +kernel
theorem dL_boxes_56 : decode cL_boxes 56 = .ok (.istore_n 3, 1) := by decide +kernel
theorem dL_boxes_57 : decode cL_boxes 57 = .ok (.iinc 4 1, 3) := by decide +kernel
theorem dL_boxes_60 : decode cL_boxes 60 = .ok (.goto (-55), 3) := by decide +kernel
theorem dL_boxes_63 : decode cL_boxes 63 = .ok (.iload_n 3, 1) := by decide +kernel
theorem dL_boxes_64 : decode cL_boxes 64 = .ok (.ireturn, 1) := by decide +kernel
