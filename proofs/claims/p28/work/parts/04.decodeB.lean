theorem dL_cell_0 : decode cL_cell 0 = .ok (.iload_n 1, 1) := by decide +kernel
theorem dL_cell_1 : decode cL_cell 1 = .ok (.aload_n 0, 1) := by decide +kernel
theorem dL_cell_2 : decode cL_cell 2 = .ok (.arraylength, 1) := by decide +kernel
theorem dL_cell_3 : decode cL_cell 3 = .ok (.if_icmp .ge 9, 3) := by decide +kernel
theorem dL_cell_6 : decode cL_cell 6 = .ok (.aload_n 0, 1) := by decide +kernel
theorem dL_cell_7 : decode cL_cell 7 = .ok (.iload_n 1, 1) := by decide +kernel
theorem dL_cell_8 : decode cL_cell 8 = .ok (.iaload, 1) := by decide +kernel
theorem dL_cell_9 : decode cL_cell 9 = .ok (.goto 12, 3) := by decide +kernel
theorem dL_cell_12 : decode cL_cell 12 = .ok (.ldc 7, 2) := by decide +kernel
theorem dL_cell_14 : decode cL_cell 14 = .ok (.iload_n 1, 1) := by decide +kernel
theorem dL_cell_15 : decode cL_cell 15 = .ok (.iconst 1, 1) := by decide +kernel
theorem dL_cell_16 : decode cL_cell 16 = .ok (.iadd, 1) := by decide +kernel
theorem dL_cell_17 : decode cL_cell 17 = .ok (.imul, 1) := by decide +kernel
theorem dL_cell_18 : decode cL_cell 18 = .ok (.ldc 8, 2) := by decide +kernel
theorem dL_cell_20 : decode cL_cell 20 = .ok (.iadd, 1) := by decide +kernel
theorem dL_cell_21 : decode cL_cell 21 = .ok (.ireturn, 1) := by decide +kernel
theorem dL_low_0 : decode cL_low 0 = .ok (.iload_n 0, 1) := by decide +kernel
theorem dL_low_1 : decode cL_low 1 = .ok (.ldc 9, 2) := by decide +kernel
theorem dL_low_3 : decode cL_low 3 = .ok (.iand, 1) := by decide +kernel
theorem dL_low_4 : decode cL_low 4 = .ok (.iload_n 1, 1) := by decide +kernel
theorem dL_low_5 : decode cL_low 5 = .ok (.irem, 1) := by decide +kernel
theorem dL_low_6 : decode cL_low 6 = .ok (.ireturn, 1) := by decide +kernel
theorem dL_made_0 : decode cL_made 0 = .ok (.iload_n 0, 1) := by decide +kernel
theorem dL_made_1 : decode cL_made 1 = .ok (.iload_n 1, 1) := by decide +kernel
theorem dL_made_2 : decode cL_made 2 = .ok (.iconst 3, 1) := by decide +kernel
theorem dL_made_3 : decode cL_made 3 = .ok (.ishl, 1) := by decide +kernel
theorem dL_made_4 : decode cL_made 4 = .ok (.ior, 1) := by decide +kernel
theorem dL_made_5 : decode cL_made 5 = .ok (.iload_n 2, 1) := by decide +kernel
theorem dL_made_6 : decode cL_made 6 = .ok (.bipush 9, 2) := by decide +kernel
theorem dL_made_8 : decode cL_made 8 = .ok (.ishl, 1) := by decide +kernel
theorem dL_made_9 : decode cL_made 9 = .ok (.ior, 1) := by decide +kernel
theorem dL_made_10 : decode cL_made 10 = .ok (.iload_n 3, 1) := by decide +kernel
theorem dL_made_11 : decode cL_made 11 = .ok (.bipush 12, 2) := by decide +kernel
theorem dL_made_13 : decode cL_made 13 = .ok (.ishl, 1) := by decide +kernel
theorem dL_made_14 : decode cL_made 14 = .ok (.ior, 1) := by decide +kernel
theorem dL_made_15 : decode cL_made 15 = .ok (.ldc 10, 2) := by decide +kernel
theorem dL_made_17 : decode cL_made 17 = .ok (.ior, 1) := by decide +kernel
theorem dL_made_18 : decode cL_made 18 = .ok (.ireturn, 1) := by decide +kernel
theorem dL_key_0 : decode cL_key 0 = .ok (.iload_n 0, 1) := by decide +kernel
theorem dL_key_1 : decode cL_key 1 = .ok (.bipush 7, 2) := by decide +kernel
theorem dL_key_3 : decode cL_key 3 = .ok (.iand, 1) := by decide +kernel
theorem dL_key_4 : decode cL_key 4 = .ok (.ireturn, 1) := by decide +kernel
theorem dL_which_0 : decode cL_which 0 = .ok (.iload_n 0, 1) := by decide +kernel
theorem dL_which_1 : decode cL_which 1 = .ok (.iconst 3, 1) := by decide +kernel
theorem dL_which_2 : decode cL_which 2 = .ok (.ishr, 1) := by decide +kernel
theorem dL_which_3 : decode cL_which 3 = .ok (.bipush 63, 2) := by decide +kernel
theorem dL_which_5 : decode cL_which 5 = .ok (.iand, 1) := by decide +kernel
theorem dL_which_6 : decode cL_which 6 = .ok (.ireturn, 1) := by decide +kernel
theorem dL_closer_0 : decode cL_closer 0 = .ok (.iload_n 0, 1) := by decide +kernel
theorem dL_closer_1 : decode cL_closer 1 = .ok (.bipush 9, 2) := by decide +kernel
theorem dL_closer_3 : decode cL_closer 3 = .ok (.ishr, 1) := by decide +kernel
theorem dL_closer_4 : decode cL_closer 4 = .ok (.bipush 7, 2) := by decide +kernel
theorem dL_closer_6 : decode cL_closer 6 = .ok (.iand, 1) := by decide +kernel
theorem dL_closer_7 : decode cL_closer 7 = .ok (.ireturn, 1) := by decide +kernel
theorem dL_closed_0 : decode cL_closed 0 = .ok (.iload_n 0, 1) := by decide +kernel
theorem dL_closed_1 : decode cL_closed 1 = .ok (.bipush 12, 2) := by decide +kernel
theorem dL_closed_3 : decode cL_closed 3 = .ok (.ishr, 1) := by decide +kernel
theorem dL_closed_4 : decode cL_closed 4 = .ok (.bipush 63, 2) := by decide +kernel
theorem dL_closed_6 : decode cL_closed 6 = .ok (.iand, 1) := by decide +kernel
theorem dL_closed_7 : decode cL_closed 7 = .ok (.ireturn, 1) := by decide +kernel
theorem dL_wrap_0 : decode cL_wrap 0 = .ok (.aload 5, 2) := by decide +kernel
theorem dL_wrap_2 : decode cL_wrap 2 = .ok (.aload_n 3, 1) := by decide +kernel
theorem dL_wrap_3 : decode cL_wrap 3 = .ok (.iconst 3, 1) := by decide +kernel
theorem dL_wrap_4 : decode cL_wrap 4 = .ok (.dup2, 1) := by decide +kernel
theorem dL_wrap_5 : decode cL_wrap 5 = .ok (.iaload, 1) := by decide +kernel
theorem dL_wrap_6 : decode cL_wrap 6 = .ok (.dup_x2, 1) := by decide +kernel
theorem dL_wrap_7 : decode cL_wrap 7 = .ok (.iconst 1, 1) := by decide +kernel
theorem dL_wrap_8 : decode cL_wrap 8 = .ok (.iadd, 1) := by decide +kernel
theorem dL_wrap_9 : decode cL_wrap 9 = .ok (.iastore, 1) := by decide +kernel
theorem dL_wrap_10 : decode cL_wrap 10 = .ok (.iload_n 0, 1) := by decide +kernel
theorem dL_wrap_11 : decode cL_wrap 11 = .ok (.iload_n 1, 1) := by decide +kernel
theorem dL_wrap_12 : decode cL_wrap 12 = .ok (.iload_n 2, 1) := by decide +kernel
theorem dL_wrap_13 : decode cL_wrap 13 = .ok (.aload 4, 2) := by decide +kernel
theorem dL_wrap_15 : decode cL_wrap 15 = .ok (.iconst 4, 1) := by decide +kernel
theorem dL_wrap_16 : decode cL_wrap 16 = .ok (.iload_n 2, 1) := by decide +kernel
theorem dL_wrap_17 : decode cL_wrap 17 = .ok (.imul, 1) := by decide +kernel
theorem dL_wrap_18 : decode cL_wrap 18 = .ok (.iconst 2, 1) := by decide +kernel
theorem dL_wrap_19 : decode cL_wrap 19 = .ok (.iadd, 1) := by decide +kernel
theorem dL_wrap_20 : decode cL_wrap 20 = .ok (.iaload, 1) := by decide +kernel
theorem dL_wrap_21 : decode cL_wrap 21 = .ok (.invokestatic 11, 3) := by decide +kernel
theorem dL_wrap_24 : decode cL_wrap 24 = .ok (.iastore, 1) := by decide +kernel
theorem dL_wrap_25 : decode cL_wrap 25 = .ok (.aload 4, 2) := by decide +kernel
theorem dL_wrap_27 : decode cL_wrap 27 = .ok (.iconst 4, 1) := by decide +kernel
theorem dL_wrap_28 : decode cL_wrap 28 = .ok (.iload_n 2, 1) := by decide +kernel
theorem dL_wrap_29 : decode cL_wrap 29 = .ok (.imul, 1) := by decide +kernel
theorem dL_wrap_30 : decode cL_wrap 30 = .ok (.iconst 3, 1) := by decide +kernel
theorem dL_wrap_31 : decode cL_wrap 31 = .ok (.iadd, 1) := by decide +kernel
theorem dL_wrap_32 : decode cL_wrap 32 = .ok (.dup2, 1) := by decide +kernel
theorem dL_wrap_33 : decode cL_wrap 33 = .ok (.iaload, 1) := by decide +kernel
theorem dL_wrap_34 : decode cL_wrap 34 = .ok (.iconst 1, 1) := by decide +kernel
theorem dL_wrap_35 : decode cL_wrap 35 = .ok (.iadd, 1) := by decide +kernel
theorem dL_wrap_36 : decode cL_wrap 36 = .ok (.iastore, 1) := by decide +kernel
theorem dL_wrap_37 : decode cL_wrap 37 = .ok (.return_, 1) := by decide +kernel
theorem dL_hang_0 : decode cL_hang 0 = .ok (.iconst 0, 1) := by decide +kernel
theorem dL_hang_1 : decode cL_hang 1 = .ok (.istore 4, 2) := by decide +kernel
theorem dL_hang_3 : decode cL_hang 3 = .ok (.iconst 0, 1) := by decide +kernel
theorem dL_hang_4 : decode cL_hang 4 = .ok (.istore 5, 2) := by decide +kernel
theorem dL_hang_6 : decode cL_hang 6 = .ok (.iload 5, 2) := by decide +kernel
theorem dL_hang_8 : decode cL_hang 8 = .ok (.aload_n 1, 1) := by decide +kernel
theorem dL_hang_9 : decode cL_hang 9 = .ok (.iconst 1, 1) := by decide +kernel
theorem dL_hang_10 : decode cL_hang 10 = .ok (.iaload, 1) := by decide +kernel
theorem dL_hang_11 : decode cL_hang 11 = .ok (.if_icmp .ge 41, 3) := by decide +kernel
theorem dL_hang_14 : decode cL_hang 14 = .ok (.iload 4, 2) := by decide +kernel
theorem dL_hang_16 : decode cL_hang 16 = .ok (.aload_n 2, 1) := by decide +kernel
theorem dL_hang_17 : decode cL_hang 17 = .ok (.iconst 4, 1) := by decide +kernel
theorem dL_hang_18 : decode cL_hang 18 = .ok (.iload 5, 2) := by decide +kernel
theorem dL_hang_20 : decode cL_hang 20 = .ok (.imul, 1) := by decide +kernel
theorem dL_hang_21 : decode cL_hang 21 = .ok (.iaload, 1) := by decide +kernel
theorem dL_hang_22 : decode cL_hang 22 = .ok (.iload_n 0, 1) := by decide +kernel
theorem dL_hang_23 : decode cL_hang 23 = .ok (.if_icmp .ne 19, 3) := by decide +kernel
theorem dL_hang_26 : decode cL_hang 26 = .ok (.aload_n 2, 1) := by decide +kernel
theorem dL_hang_27 : decode cL_hang 27 = .ok (.iconst 4, 1) := by decide +kernel
theorem dL_hang_28 : decode cL_hang 28 = .ok (.iload 5, 2) := by decide +kernel
theorem dL_hang_30 : decode cL_hang 30 = .ok (.imul, 1) := by decide +kernel
theorem dL_hang_31 : decode cL_hang 31 = .ok (.iconst 1, 1) := by decide +kernel
theorem dL_hang_32 : decode cL_hang 32 = .ok (.iadd, 1) := by decide +kernel
theorem dL_hang_33 : decode cL_hang 33 = .ok (.iaload, 1) := by decide +kernel
theorem dL_hang_34 : decode cL_hang 34 = .ok (.iconst 1, 1) := by decide +kernel
theorem dL_hang_35 : decode cL_hang 35 = .ok (.if_icmp .ne 7, 3) := by decide +kernel
theorem dL_hang_38 : decode cL_hang 38 = .ok (.iconst 1, 1) := by decide +kernel
theorem dL_hang_39 : decode cL_hang 39 = .ok (.goto 4, 3) := by decide +kernel
theorem dL_hang_42 : decode cL_hang 42 = .ok (.iconst 0, 1) := by decide +kernel
theorem dL_hang_43 : decode cL_hang 43 = .ok (.iadd, 1) := by decide +kernel
theorem dL_hang_44 : decode cL_hang 44 = .ok (.istore 4, 2) := by decide +kernel
theorem dL_hang_46 : decode cL_hang 46 = .ok (.iinc 5 1, 3) := by decide +kernel
theorem dL_hang_49 : decode cL_hang 49 = .ok (.goto (-43), 3) := by decide +kernel
theorem dL_hang_52 : decode cL_hang 52 = .ok (.iconst 0, 1) := by decide +kernel
theorem dL_hang_53 : decode cL_hang 53 = .ok (.istore 5, 2) := by decide +kernel
theorem dL_hang_55 : decode cL_hang 55 = .ok (.iload 5, 2) := by decide +kernel
theorem dL_hang_57 : decode cL_hang 57 = .ok (.aload_n 1, 1) := by decide +kernel
theorem dL_hang_58 : decode cL_hang 58 = .ok (.iconst 2, 1) := by decide +kernel
theorem dL_hang_59 : decode cL_hang 59 = .ok (.iaload, 1) := by decide +kernel
theorem dL_hang_60 : decode cL_hang 60 = .ok (.if_icmp .ge 41, 3) := by decide +kernel
theorem dL_hang_63 : decode cL_hang 63 = .ok (.iload 4, 2) := by decide +kernel
theorem dL_hang_65 : decode cL_hang 65 = .ok (.aload_n 3, 1) := by decide +kernel
theorem dL_hang_66 : decode cL_hang 66 = .ok (.iconst 2, 1) := by decide +kernel
theorem dL_hang_67 : decode cL_hang 67 = .ok (.iload 5, 2) := by decide +kernel
theorem dL_hang_69 : decode cL_hang 69 = .ok (.imul, 1) := by decide +kernel
theorem dL_hang_70 : decode cL_hang 70 = .ok (.iaload, 1) := by decide +kernel
theorem dL_hang_71 : decode cL_hang 71 = .ok (.iload_n 0, 1) := by decide +kernel
theorem dL_hang_72 : decode cL_hang 72 = .ok (.if_icmp .ne 19, 3) := by decide +kernel
theorem dL_hang_75 : decode cL_hang 75 = .ok (.aload_n 3, 1) := by decide +kernel
theorem dL_hang_76 : decode cL_hang 76 = .ok (.iconst 2, 1) := by decide +kernel
theorem dL_hang_77 : decode cL_hang 77 = .ok (.iload 5, 2) := by decide +kernel
theorem dL_hang_79 : decode cL_hang 79 = .ok (.imul, 1) := by decide +kernel
theorem dL_hang_80 : decode cL_hang 80 = .ok (.iconst 1, 1) := by decide +kernel
theorem dL_hang_81 : decode cL_hang 81 = .ok (.iadd, 1) := by decide +kernel
theorem dL_hang_82 : decode cL_hang 82 = .ok (.iaload, 1) := by decide +kernel
theorem dL_hang_83 : decode cL_hang 83 = .ok (.iconst 1, 1) := by decide +kernel
theorem dL_hang_84 : decode cL_hang 84 = .ok (.if_icmp .ne 7, 3) := by decide +kernel
theorem dL_hang_87 : decode cL_hang 87 = .ok (.iconst 1, 1) := by decide +kernel
theorem dL_hang_88 : decode cL_hang 88 = .ok (.goto 4, 3) := by decide +kernel
theorem dL_hang_91 : decode cL_hang 91 = .ok (.iconst 0, 1) := by decide +kernel
theorem dL_hang_92 : decode cL_hang 92 = .ok (.iadd, 1) := by decide +kernel
theorem dL_hang_93 : decode cL_hang 93 = .ok (.istore 4, 2) := by decide +kernel
theorem dL_hang_95 : decode cL_hang 95 = .ok (.iinc 5 1, 3) := by decide +kernel
theorem dL_hang_98 : decode cL_hang 98 = .ok (.goto (-43), 3) := by decide +kernel
theorem dL_hang_101 : decode cL_hang 101 = .ok (.iload 4, 2) := by decide +kernel
theorem dL_hang_103 : decode cL_hang 103 = .ok (.ireturn, 1) := by decide +kernel
theorem dL_wrapAll_0 : decode cL_wrapAll 0 = .ok (.aload_n 1, 1) := by decide +kernel
theorem dL_wrapAll_1 : decode cL_wrapAll 1 = .ok (.iconst 3, 1) := by decide +kernel
theorem dL_wrapAll_2 : decode cL_wrapAll 2 = .ok (.iaload, 1) := by decide +kernel
theorem dL_wrapAll_3 : decode cL_wrapAll 3 = .ok (.istore 5, 2) := by decide +kernel
theorem dL_wrapAll_5 : decode cL_wrapAll 5 = .ok (.iconst 0, 1) := by decide +kernel
theorem dL_wrapAll_6 : decode cL_wrapAll 6 = .ok (.istore 6, 2) := by decide +kernel
theorem dL_wrapAll_8 : decode cL_wrapAll 8 = .ok (.iload 6, 2) := by decide +kernel
theorem dL_wrapAll_10 : decode cL_wrapAll 10 = .ok (.aload_n 1, 1) := by decide +kernel
theorem dL_wrapAll_11 : decode cL_wrapAll 11 = .ok (.iconst 1, 1) := by decide +kernel
theorem dL_wrapAll_12 : decode cL_wrapAll 12 = .ok (.iaload, 1) := by decide +kernel
theorem dL_wrapAll_13 : decode cL_wrapAll 13 = .ok (.if_icmp .ge 49, 3) := by decide +kernel
theorem dL_wrapAll_16 : decode cL_wrapAll 16 = .ok (.aload_n 2, 1) := by decide +kernel
theorem dL_wrapAll_17 : decode cL_wrapAll 17 = .ok (.iconst 4, 1) := by decide +kernel
theorem dL_wrapAll_18 : decode cL_wrapAll 18 = .ok (.iload 6, 2) := by decide +kernel
theorem dL_wrapAll_20 : decode cL_wrapAll 20 = .ok (.imul, 1) := by decide +kernel
theorem dL_wrapAll_21 : decode cL_wrapAll 21 = .ok (.iaload, 1) := by decide +kernel
theorem dL_wrapAll_22 : decode cL_wrapAll 22 = .ok (.iload_n 0, 1) := by decide +kernel
theorem dL_wrapAll_23 : decode cL_wrapAll 23 = .ok (.if_icmp .ne 33, 3) := by decide +kernel
theorem dL_wrapAll_26 : decode cL_wrapAll 26 = .ok (.aload_n 2, 1) := by decide +kernel
theorem dL_wrapAll_27 : decode cL_wrapAll 27 = .ok (.iconst 4, 1) := by decide +kernel
theorem dL_wrapAll_28 : decode cL_wrapAll 28 = .ok (.iload 6, 2) := by decide +kernel
theorem dL_wrapAll_30 : decode cL_wrapAll 30 = .ok (.imul, 1) := by decide +kernel
theorem dL_wrapAll_31 : decode cL_wrapAll 31 = .ok (.iconst 1, 1) := by decide +kernel
theorem dL_wrapAll_32 : decode cL_wrapAll 32 = .ok (.iadd, 1) := by decide +kernel
theorem dL_wrapAll_33 : decode cL_wrapAll 33 = .ok (.iaload, 1) := by decide +kernel
theorem dL_wrapAll_34 : decode cL_wrapAll 34 = .ok (.iconst 1, 1) := by decide +kernel
theorem dL_wrapAll_35 : decode cL_wrapAll 35 = .ok (.if_icmp .ne 21, 3) := by decide +kernel
theorem dL_wrapAll_38 : decode cL_wrapAll 38 = .ok (.iload 6, 2) := by decide +kernel
theorem dL_wrapAll_40 : decode cL_wrapAll 40 = .ok (.aload_n 2, 1) := by decide +kernel
theorem dL_wrapAll_41 : decode cL_wrapAll 41 = .ok (.iconst 4, 1) := by decide +kernel
theorem dL_wrapAll_42 : decode cL_wrapAll 42 = .ok (.iload 6, 2) := by decide +kernel
theorem dL_wrapAll_44 : decode cL_wrapAll 44 = .ok (.imul, 1) := by decide +kernel
theorem dL_wrapAll_45 : decode cL_wrapAll 45 = .ok (.iconst 2, 1) := by decide +kernel
theorem dL_wrapAll_46 : decode cL_wrapAll 46 = .ok (.iadd, 1) := by decide +kernel
theorem dL_wrapAll_47 : decode cL_wrapAll 47 = .ok (.iaload, 1) := by decide +kernel
theorem dL_wrapAll_48 : decode cL_wrapAll 48 = .ok (.iload_n 0, 1) := by decide +kernel
theorem dL_wrapAll_49 : decode cL_wrapAll 49 = .ok (.aload_n 1, 1) := by decide +kernel
theorem dL_wrapAll_50 : decode cL_wrapAll 50 = .ok (.aload_n 2, 1) := by decide +kernel
theorem dL_wrapAll_51 : decode cL_wrapAll 51 = .ok (.aload 4, 2) := by decide +kernel
theorem dL_wrapAll_53 : decode cL_wrapAll 53 = .ok (.invokestatic 17, 3) := by decide +kernel
theorem dL_wrapAll_56 : decode cL_wrapAll 56 = .ok (.iinc 6 1, 3) := by decide +kernel
theorem dL_wrapAll_59 : decode cL_wrapAll 59 = .ok (.goto (-51), 3) := by decide +kernel
theorem dL_wrapAll_62 : decode cL_wrapAll 62 = .ok (.iconst 0, 1) := by decide +kernel
theorem dL_wrapAll_63 : decode cL_wrapAll 63 = .ok (.istore 6, 2) := by decide +kernel
theorem dL_wrapAll_65 : decode cL_wrapAll 65 = .ok (.iload 6, 2) := by decide +kernel
theorem dL_wrapAll_67 : decode cL_wrapAll 67 = .ok (.aload_n 1, 1) := by decide +kernel
theorem dL_wrapAll_68 : decode cL_wrapAll 68 = .ok (.iconst 2, 1) := by decide +kernel
theorem dL_wrapAll_69 : decode cL_wrapAll 69 = .ok (.iaload, 1) := by decide +kernel
theorem dL_wrapAll_70 : decode cL_wrapAll 70 = .ok (.if_icmp .ge 43, 3) := by decide +kernel
theorem dL_wrapAll_73 : decode cL_wrapAll 73 = .ok (.aload_n 3, 1) := by decide +kernel
theorem dL_wrapAll_74 : decode cL_wrapAll 74 = .ok (.iconst 2, 1) := by decide +kernel
theorem dL_wrapAll_75 : decode cL_wrapAll 75 = .ok (.iload 6, 2) := by decide +kernel
theorem dL_wrapAll_77 : decode cL_wrapAll 77 = .ok (.imul, 1) := by decide +kernel
theorem dL_wrapAll_78 : decode cL_wrapAll 78 = .ok (.iaload, 1) := by decide +kernel
theorem dL_wrapAll_79 : decode cL_wrapAll 79 = .ok (.iload_n 0, 1) := by decide +kernel
theorem dL_wrapAll_80 : decode cL_wrapAll 80 = .ok (.if_icmp .ne 27, 3) := by decide +kernel
theorem dL_wrapAll_83 : decode cL_wrapAll 83 = .ok (.aload_n 3, 1) := by decide +kernel
theorem dL_wrapAll_84 : decode cL_wrapAll 84 = .ok (.iconst 2, 1) := by decide +kernel
theorem dL_wrapAll_85 : decode cL_wrapAll 85 = .ok (.iload 6, 2) := by decide +kernel
theorem dL_wrapAll_87 : decode cL_wrapAll 87 = .ok (.imul, 1) := by decide +kernel
theorem dL_wrapAll_88 : decode cL_wrapAll 88 = .ok (.iconst 1, 1) := by decide +kernel
theorem dL_wrapAll_89 : decode cL_wrapAll 89 = .ok (.iadd, 1) := by decide +kernel
theorem dL_wrapAll_90 : decode cL_wrapAll 90 = .ok (.iaload, 1) := by decide +kernel
theorem dL_wrapAll_91 : decode cL_wrapAll 91 = .ok (.iconst 1, 1) := by decide +kernel
theorem dL_wrapAll_92 : decode cL_wrapAll 92 = .ok (.if_icmp .ne 15, 3) := by decide +kernel
theorem dL_wrapAll_95 : decode cL_wrapAll 95 = .ok (.bipush 7, 2) := by decide +kernel
theorem dL_wrapAll_97 : decode cL_wrapAll 97 = .ok (.iload 6, 2) := by decide +kernel
theorem dL_wrapAll_99 : decode cL_wrapAll 99 = .ok (.iload_n 0, 1) := by decide +kernel
theorem dL_wrapAll_100 : decode cL_wrapAll 100 = .ok (.aload_n 1, 1) := by decide +kernel
theorem dL_wrapAll_101 : decode cL_wrapAll 101 = .ok (.aload_n 2, 1) := by decide +kernel
theorem dL_wrapAll_102 : decode cL_wrapAll 102 = .ok (.aload 4, 2) := by decide +kernel
theorem dL_wrapAll_104 : decode cL_wrapAll 104 = .ok (.invokestatic 17, 3) := by decide +kernel
theorem dL_wrapAll_107 : decode cL_wrapAll 107 = .ok (.iinc 6 1, 3) := by decide +kernel
theorem dL_wrapAll_110 : decode cL_wrapAll 110 = .ok (.goto (-45), 3) := by decide +kernel
theorem dL_wrapAll_113 : decode cL_wrapAll 113 = .ok (.aload_n 1, 1) := by decide +kernel
theorem dL_wrapAll_114 : decode cL_wrapAll 114 = .ok (.iconst 3, 1) := by decide +kernel
theorem dL_wrapAll_115 : decode cL_wrapAll 115 = .ok (.iaload, 1) := by decide +kernel
theorem dL_wrapAll_116 : decode cL_wrapAll 116 = .ok (.iload 5, 2) := by decide +kernel
theorem dL_wrapAll_118 : decode cL_wrapAll 118 = .ok (.isub, 1) := by decide +kernel
theorem dL_wrapAll_119 : decode cL_wrapAll 119 = .ok (.ireturn, 1) := by decide +kernel
theorem dL_burn_0 : decode cL_burn 0 = .ok (.iconst 0, 1) := by decide +kernel
theorem dL_burn_1 : decode cL_burn 1 = .ok (.istore 5, 2) := by decide +kernel
theorem dL_burn_3 : decode cL_burn 3 = .ok (.iload 5, 2) := by decide +kernel
theorem dL_burn_5 : decode cL_burn 5 = .ok (.aload_n 1, 1) := by decide +kernel
theorem dL_burn_6 : decode cL_burn 6 = .ok (.iconst 3, 1) := by decide +kernel
theorem dL_burn_7 : decode cL_burn 7 = .ok (.iaload, 1) := by decide +kernel
theorem dL_burn_8 : decode cL_burn 8 = .ok (.if_icmp .ge 97, 3) := by decide +kernel
theorem dL_burn_11 : decode cL_burn 11 = .ok (.aload 4, 2) := by decide +kernel
theorem dL_burn_13 : decode cL_burn 13 = .ok (.iload 5, 2) := by decide +kernel
theorem dL_burn_15 : decode cL_burn 15 = .ok (.iaload, 1) := by decide +kernel
theorem dL_burn_16 : decode cL_burn 16 = .ok (.istore 6, 2) := by decide +kernel
theorem dL_burn_18 : decode cL_burn 18 = .ok (.iload 6, 2) := by decide +kernel
theorem dL_burn_20 : decode cL_burn 20 = .ok (.invokestatic 21, 3) := by decide +kernel
theorem dL_burn_23 : decode cL_burn 23 = .ok (.iload_n 0, 1) := by decide +kernel
theorem dL_burn_24 : decode cL_burn 24 = .ok (.if_icmp .eq 53, 3) := by decide +kernel
theorem dL_burn_27 : decode cL_burn 27 = .ok (.iload 6, 2) := by decide +kernel
theorem dL_burn_29 : decode cL_burn 29 = .ok (.invokestatic 25, 3) := by decide +kernel
theorem dL_burn_32 : decode cL_burn 32 = .ok (.iload_n 0, 1) := by decide +kernel
theorem dL_burn_33 : decode cL_burn 33 = .ok (.if_icmp .eq 44, 3) := by decide +kernel
theorem dL_burn_36 : decode cL_burn 36 = .ok (.iload 6, 2) := by decide +kernel
theorem dL_burn_38 : decode cL_burn 38 = .ok (.invokestatic 21, 3) := by decide +kernel
theorem dL_burn_41 : decode cL_burn 41 = .ok (.bipush 7, 2) := by decide +kernel
theorem dL_burn_43 : decode cL_burn 43 = .ok (.if_icmp .ne 20, 3) := by decide +kernel
theorem dL_burn_46 : decode cL_burn 46 = .ok (.aload_n 3, 1) := by decide +kernel
theorem dL_burn_47 : decode cL_burn 47 = .ok (.iconst 2, 1) := by decide +kernel
theorem dL_burn_48 : decode cL_burn 48 = .ok (.iload 6, 2) := by decide +kernel
theorem dL_burn_50 : decode cL_burn 50 = .ok (.invokestatic 28, 3) := by decide +kernel
theorem dL_burn_53 : decode cL_burn 53 = .ok (.imul, 1) := by decide +kernel
theorem dL_burn_54 : decode cL_burn 54 = .ok (.iconst 1, 1) := by decide +kernel
theorem dL_burn_55 : decode cL_burn 55 = .ok (.iadd, 1) := by decide +kernel
theorem dL_burn_56 : decode cL_burn 56 = .ok (.iaload, 1) := by decide +kernel
theorem dL_burn_57 : decode cL_burn 57 = .ok (.ifCond .ne 24, 3) := by decide +kernel
theorem dL_burn_60 : decode cL_burn 60 = .ok (.goto 17, 3) := by decide +kernel
theorem dL_burn_63 : decode cL_burn 63 = .ok (.aload_n 2, 1) := by decide +kernel
theorem dL_burn_64 : decode cL_burn 64 = .ok (.iconst 4, 1) := by decide +kernel
theorem dL_burn_65 : decode cL_burn 65 = .ok (.iload 6, 2) := by decide +kernel
theorem dL_burn_67 : decode cL_burn 67 = .ok (.invokestatic 21, 3) := by decide +kernel
theorem dL_burn_70 : decode cL_burn 70 = .ok (.imul, 1) := by decide +kernel
theorem dL_burn_71 : decode cL_burn 71 = .ok (.iconst 1, 1) := by decide +kernel
theorem dL_burn_72 : decode cL_burn 72 = .ok (.iadd, 1) := by decide +kernel
theorem dL_burn_73 : decode cL_burn 73 = .ok (.iaload, 1) := by decide +kernel
theorem dL_burn_74 : decode cL_burn 74 = .ok (.ifCond .ne 7, 3) := by decide +kernel
theorem dL_burn_77 : decode cL_burn 77 = .ok (.iconst 1, 1) := by decide +kernel
theorem dL_burn_78 : decode cL_burn 78 = .ok (.goto 4, 3) := by decide +kernel
theorem dL_burn_81 : decode cL_burn 81 = .ok (.iconst 0, 1) := by decide +kernel
theorem dL_burn_82 : decode cL_burn 82 = .ok (.istore 7, 2) := by decide +kernel
theorem dL_burn_84 : decode cL_burn 84 = .ok (.iload 7, 2) := by decide +kernel
theorem dL_burn_86 : decode cL_burn 86 = .ok (.ifCond .eq 13, 3) := by decide +kernel
theorem dL_burn_89 : decode cL_burn 89 = .ok (.aload 4, 2) := by decide +kernel
theorem dL_burn_91 : decode cL_burn 91 = .ok (.iload 5, 2) := by decide +kernel
theorem dL_burn_93 : decode cL_burn 93 = .ok (.iload 6, 2) := by decide +kernel
theorem dL_burn_95 : decode cL_burn 95 = .ok (.ldc 31, 2) := by decide +kernel
theorem dL_burn_97 : decode cL_burn 97 = .ok (.iand, 1) := by decide +kernel
theorem dL_burn_98 : decode cL_burn 98 = .ok (.iastore, 1) := by decide +kernel
theorem dL_burn_99 : decode cL_burn 99 = .ok (.iinc 5 1, 3) := by decide +kernel
theorem dL_burn_102 : decode cL_burn 102 = .ok (.goto (-99), 3) := by decide +kernel
theorem dL_burn_105 : decode cL_burn 105 = .ok (.return_, 1) := by decide +kernel
theorem dL_under_0 : decode cL_under 0 = .ok (.iload_n 0, 1) := by decide +kernel
theorem dL_under_1 : decode cL_under 1 = .ok (.istore_n 3, 1) := by decide +kernel
theorem dL_under_2 : decode cL_under 2 = .ok (.iload_n 3, 1) := by decide +kernel
theorem dL_under_3 : decode cL_under 3 = .ok (.ifCond .lt 19, 3) := by decide +kernel
theorem dL_under_6 : decode cL_under 6 = .ok (.iload_n 3, 1) := by decide +kernel
theorem dL_under_7 : decode cL_under 7 = .ok (.iload_n 1, 1) := by decide +kernel
theorem dL_under_8 : decode cL_under 8 = .ok (.if_icmp .ne 5, 3) := by decide +kernel
theorem dL_under_11 : decode cL_under 11 = .ok (.iconst 1, 1) := by decide +kernel
theorem dL_under_12 : decode cL_under 12 = .ok (.ireturn, 1) := by decide +kernel
theorem dL_under_13 : decode cL_under 13 = .ok (.aload_n 2, 1) := by decide +kernel
theorem dL_under_14 : decode cL_under 14 = .ok (.iconst 4, 1) := by decide +kernel
theorem dL_under_15 : decode cL_under 15 = .ok (.iload_n 3, 1) := by decide +kernel
theorem dL_under_16 : decode cL_under 16 = .ok (.imul, 1) := by decide +kernel
theorem dL_under_17 : decode cL_under 17 = .ok (.iaload, 1) := by decide +kernel
theorem dL_under_18 : decode cL_under 18 = .ok (.istore_n 3, 1) := by decide +kernel
theorem dL_under_19 : decode cL_under 19 = .ok (.goto (-17), 3) := by decide +kernel
theorem dL_under_22 : decode cL_under 22 = .ok (.iconst 0, 1) := by decide +kernel
theorem dL_under_23 : decode cL_under 23 = .ok (.ireturn, 1) := by decide +kernel
theorem dL_anew_0 : decode cL_anew 0 = .ok (.iconst 0, 1) := by decide +kernel
theorem dL_anew_1 : decode cL_anew 1 = .ok (.istore 5, 2) := by decide +kernel
theorem dL_anew_3 : decode cL_anew 3 = .ok (.iload_n 0, 1) := by decide +kernel
theorem dL_anew_4 : decode cL_anew 4 = .ok (.istore 6, 2) := by decide +kernel
theorem dL_anew_6 : decode cL_anew 6 = .ok (.iload 6, 2) := by decide +kernel
theorem dL_anew_8 : decode cL_anew 8 = .ok (.ifCond .lt 45, 3) := by decide +kernel
theorem dL_anew_11 : decode cL_anew 11 = .ok (.aload_n 2, 1) := by decide +kernel
theorem dL_anew_12 : decode cL_anew 12 = .ok (.iconst 4, 1) := by decide +kernel
theorem dL_anew_13 : decode cL_anew 13 = .ok (.iload 6, 2) := by decide +kernel
theorem dL_anew_15 : decode cL_anew 15 = .ok (.imul, 1) := by decide +kernel
theorem dL_anew_16 : decode cL_anew 16 = .ok (.iconst 2, 1) := by decide +kernel
theorem dL_anew_17 : decode cL_anew 17 = .ok (.iadd, 1) := by decide +kernel
theorem dL_anew_18 : decode cL_anew 18 = .ok (.dup2, 1) := by decide +kernel
theorem dL_anew_19 : decode cL_anew 19 = .ok (.iaload, 1) := by decide +kernel
theorem dL_anew_20 : decode cL_anew 20 = .ok (.iconst 1, 1) := by decide +kernel
theorem dL_anew_21 : decode cL_anew 21 = .ok (.iadd, 1) := by decide +kernel
theorem dL_anew_22 : decode cL_anew 22 = .ok (.iastore, 1) := by decide +kernel
theorem dL_anew_23 : decode cL_anew 23 = .ok (.aload_n 2, 1) := by decide +kernel
theorem dL_anew_24 : decode cL_anew 24 = .ok (.iconst 4, 1) := by decide +kernel
theorem dL_anew_25 : decode cL_anew 25 = .ok (.iload 6, 2) := by decide +kernel
theorem dL_anew_27 : decode cL_anew 27 = .ok (.imul, 1) := by decide +kernel
theorem dL_anew_28 : decode cL_anew 28 = .ok (.iconst 3, 1) := by decide +kernel
theorem dL_anew_29 : decode cL_anew 29 = .ok (.iadd, 1) := by decide +kernel
theorem dL_anew_30 : decode cL_anew 30 = .ok (.iconst 0, 1) := by decide +kernel
theorem dL_anew_31 : decode cL_anew 31 = .ok (.iastore, 1) := by decide +kernel
theorem dL_anew_32 : decode cL_anew 32 = .ok (.iload 6, 2) := by decide +kernel
theorem dL_anew_34 : decode cL_anew 34 = .ok (.aload_n 1, 1) := by decide +kernel
theorem dL_anew_35 : decode cL_anew 35 = .ok (.aload_n 2, 1) := by decide +kernel
theorem dL_anew_36 : decode cL_anew 36 = .ok (.aload_n 3, 1) := by decide +kernel
theorem dL_anew_37 : decode cL_anew 37 = .ok (.aload 4, 2) := by decide +kernel
theorem dL_anew_39 : decode cL_anew 39 = .ok (.invokestatic 32, 3) := by decide +kernel
theorem dL_anew_42 : decode cL_anew 42 = .ok (.aload_n 2, 1) := by decide +kernel
theorem dL_anew_43 : decode cL_anew 43 = .ok (.iconst 4, 1) := by decide +kernel
theorem dL_anew_44 : decode cL_anew 44 = .ok (.iload 6, 2) := by decide +kernel
theorem dL_anew_46 : decode cL_anew 46 = .ok (.imul, 1) := by decide +kernel
theorem dL_anew_47 : decode cL_anew 47 = .ok (.iaload, 1) := by decide +kernel
theorem dL_anew_48 : decode cL_anew 48 = .ok (.istore 6, 2) := by decide +kernel
theorem dL_anew_50 : decode cL_anew 50 = .ok (.goto (-44), 3) := by decide +kernel
theorem dL_anew_53 : decode cL_anew 53 = .ok (.iconst (-1), 1) := by decide +kernel
theorem dL_anew_54 : decode cL_anew 54 = .ok (.istore 6, 2) := by decide +kernel
theorem dL_anew_56 : decode cL_anew 56 = .ok (.iload 6, 2) := by decide +kernel
theorem dL_anew_58 : decode cL_anew 58 = .ok (.iload_n 0, 1) := by decide +kernel
theorem dL_anew_59 : decode cL_anew 59 = .ok (.if_icmp .eq 59, 3) := by decide +kernel
theorem dL_anew_62 : decode cL_anew 62 = .ok (.iload_n 0, 1) := by decide +kernel
theorem dL_anew_63 : decode cL_anew 63 = .ok (.istore 7, 2) := by decide +kernel
theorem dL_anew_65 : decode cL_anew 65 = .ok (.aload_n 2, 1) := by decide +kernel
theorem dL_anew_66 : decode cL_anew 66 = .ok (.iconst 4, 1) := by decide +kernel
theorem dL_anew_67 : decode cL_anew 67 = .ok (.iload 7, 2) := by decide +kernel
theorem dL_anew_69 : decode cL_anew 69 = .ok (.imul, 1) := by decide +kernel
theorem dL_anew_70 : decode cL_anew 70 = .ok (.iaload, 1) := by decide +kernel
theorem dL_anew_71 : decode cL_anew 71 = .ok (.iload 6, 2) := by decide +kernel
theorem dL_anew_73 : decode cL_anew 73 = .ok (.if_icmp .eq 23, 3) := by decide +kernel
theorem dL_anew_76 : decode cL_anew 76 = .ok (.aload_n 2, 1) := by decide +kernel
theorem dL_anew_77 : decode cL_anew 77 = .ok (.iconst 4, 1) := by decide +kernel
theorem dL_anew_78 : decode cL_anew 78 = .ok (.iload 7, 2) := by decide +kernel
theorem dL_anew_80 : decode cL_anew 80 = .ok (.imul, 1) := by decide +kernel
theorem dL_anew_81 : decode cL_anew 81 = .ok (.iaload, 1) := by decide +kernel
theorem dL_anew_82 : decode cL_anew 82 = .ok (.ifCond .lt 14, 3) := by decide +kernel
theorem dL_anew_85 : decode cL_anew 85 = .ok (.aload_n 2, 1) := by decide +kernel
theorem dL_anew_86 : decode cL_anew 86 = .ok (.iconst 4, 1) := by decide +kernel
theorem dL_anew_87 : decode cL_anew 87 = .ok (.iload 7, 2) := by decide +kernel
theorem dL_anew_89 : decode cL_anew 89 = .ok (.imul, 1) := by decide +kernel
theorem dL_anew_90 : decode cL_anew 90 = .ok (.iaload, 1) := by decide +kernel
theorem dL_anew_91 : decode cL_anew 91 = .ok (.istore 7, 2) := by decide +kernel
theorem dL_anew_93 : decode cL_anew 93 = .ok (.goto (-28), 3) := by decide +kernel
theorem dL_anew_96 : decode cL_anew 96 = .ok (.iload 5, 2) := by decide +kernel
theorem dL_anew_98 : decode cL_anew 98 = .ok (.iload 7, 2) := by decide +kernel
theorem dL_anew_100 : decode cL_anew 100 = .ok (.aload_n 1, 1) := by decide +kernel
theorem dL_anew_101 : decode cL_anew 101 = .ok (.aload_n 2, 1) := by decide +kernel
theorem dL_anew_102 : decode cL_anew 102 = .ok (.aload_n 3, 1) := by decide +kernel
theorem dL_anew_103 : decode cL_anew 103 = .ok (.aload 4, 2) := by decide +kernel
theorem dL_anew_105 : decode cL_anew 105 = .ok (.invokestatic 36, 3) := by decide +kernel
theorem dL_anew_108 : decode cL_anew 108 = .ok (.iadd, 1) := by decide +kernel
theorem dL_anew_109 : decode cL_anew 109 = .ok (.istore 5, 2) := by decide +kernel
theorem dL_anew_111 : decode cL_anew 111 = .ok (.iload 7, 2) := by decide +kernel
theorem dL_anew_113 : decode cL_anew 113 = .ok (.istore 6, 2) := by decide +kernel
theorem dL_anew_115 : decode cL_anew 115 = .ok (.goto (-59), 3) := by decide +kernel
theorem dL_anew_118 : decode cL_anew 118 = .ok (.iload 5, 2) := by decide +kernel
theorem dL_anew_120 : decode cL_anew 120 = .ok (.ireturn, 1) := by decide +kernel
theorem dL_open_0 : decode cL_open 0 = .ok (.aload 6, 2) := by decide +kernel
theorem dL_open_2 : decode cL_open 2 = .ok (.iconst 0, 1) := by decide +kernel
theorem dL_open_3 : decode cL_open 3 = .ok (.lconst 0, 1) := by decide +kernel
theorem dL_open_4 : decode cL_open 4 = .ok (.lastore, 1) := by decide +kernel
theorem dL_open_5 : decode cL_open 5 = .ok (.aload 6, 2) := by decide +kernel
theorem dL_open_7 : decode cL_open 7 = .ok (.iconst 1, 1) := by decide +kernel
theorem dL_open_8 : decode cL_open 8 = .ok (.lconst 0, 1) := by decide +kernel
theorem dL_open_9 : decode cL_open 9 = .ok (.lastore, 1) := by decide +kernel
theorem dL_open_10 : decode cL_open 10 = .ok (.iconst 1, 1) := by decide +kernel
theorem dL_open_11 : decode cL_open 11 = .ok (.istore 7, 2) := by decide +kernel
theorem dL_open_13 : decode cL_open 13 = .ok (.iload 7, 2) := by decide +kernel
theorem dL_open_15 : decode cL_open 15 = .ok (.ifCond .eq 140, 3) := by decide +kernel
theorem dL_open_18 : decode cL_open 18 = .ok (.iconst 0, 1) := by decide +kernel
theorem dL_open_19 : decode cL_open 19 = .ok (.istore 7, 2) := by decide +kernel
theorem dL_open_21 : decode cL_open 21 = .ok (.iconst 0, 1) := by decide +kernel
theorem dL_open_22 : decode cL_open 22 = .ok (.istore 8, 2) := by decide +kernel
theorem dL_open_24 : decode cL_open 24 = .ok (.iload 8, 2) := by decide +kernel
theorem dL_open_26 : decode cL_open 26 = .ok (.aload_n 3, 1) := by decide +kernel
theorem dL_open_27 : decode cL_open 27 = .ok (.iconst 3, 1) := by decide +kernel
theorem dL_open_28 : decode cL_open 28 = .ok (.iaload, 1) := by decide +kernel
theorem dL_open_29 : decode cL_open 29 = .ok (.if_icmp .ge 123, 3) := by decide +kernel
theorem dL_open_32 : decode cL_open 32 = .ok (.aload 5, 2) := by decide +kernel
theorem dL_open_34 : decode cL_open 34 = .ok (.iload 8, 2) := by decide +kernel
theorem dL_open_36 : decode cL_open 36 = .ok (.iaload, 1) := by decide +kernel
theorem dL_open_37 : decode cL_open 37 = .ok (.istore 9, 2) := by decide +kernel
theorem dL_open_39 : decode cL_open 39 = .ok (.iload 9, 2) := by decide +kernel
theorem dL_open_41 : decode cL_open 41 = .ok (.bipush 19, 2) := by decide +kernel
theorem dL_open_43 : decode cL_open 43 = .ok (.ishr, 1) := by decide +kernel
theorem dL_open_44 : decode cL_open 44 = .ok (.iload_n 0, 1) := by decide +kernel
theorem dL_open_45 : decode cL_open 45 = .ok (.iand, 1) := by decide +kernel
theorem dL_open_46 : decode cL_open 46 = .ok (.ifCond .ne 18, 3) := by decide +kernel
theorem dL_open_49 : decode cL_open 49 = .ok (.iload_n 1, 1) := by decide +kernel
theorem dL_open_50 : decode cL_open 50 = .ok (.ifCond .ge 18, 3) := by decide +kernel
theorem dL_open_53 : decode cL_open 53 = .ok (.iload 9, 2) := by decide +kernel
theorem dL_open_55 : decode cL_open 55 = .ok (.bipush 18, 2) := by decide +kernel
theorem dL_open_57 : decode cL_open 57 = .ok (.ishr, 1) := by decide +kernel
theorem dL_open_58 : decode cL_open 58 = .ok (.iconst 1, 1) := by decide +kernel
theorem dL_open_59 : decode cL_open 59 = .ok (.iand, 1) := by decide +kernel
theorem dL_open_60 : decode cL_open 60 = .ok (.iconst 1, 1) := by decide +kernel
theorem dL_open_61 : decode cL_open 61 = .ok (.if_icmp .ne 7, 3) := by decide +kernel
theorem dL_open_64 : decode cL_open 64 = .ok (.iconst 1, 1) := by decide +kernel
theorem dL_open_65 : decode cL_open 65 = .ok (.goto 4, 3) := by decide +kernel
theorem dL_open_68 : decode cL_open 68 = .ok (.iconst 0, 1) := by decide +kernel
theorem dL_open_69 : decode cL_open 69 = .ok (.istore 10, 2) := by decide +kernel
theorem dL_open_71 : decode cL_open 71 = .ok (.iload 10, 2) := by decide +kernel
theorem dL_open_73 : decode cL_open 73 = .ok (.ifCond .eq 73, 3) := by decide +kernel
theorem dL_open_76 : decode cL_open 76 = .ok (.aload 6, 2) := by decide +kernel
theorem dL_open_78 : decode cL_open 78 = .ok (.iload 8, 2) := by decide +kernel
theorem dL_open_80 : decode cL_open 80 = .ok (.bipush 64, 2) := by decide +kernel
theorem dL_open_82 : decode cL_open 82 = .ok (.idiv, 1) := by decide +kernel
theorem dL_open_83 : decode cL_open 83 = .ok (.laload, 1) := by decide +kernel
theorem dL_open_84 : decode cL_open 84 = .ok (.iload 8, 2) := by decide +kernel
theorem dL_open_86 : decode cL_open 86 = .ok (.bipush 64, 2) := by decide +kernel
theorem dL_open_88 : decode cL_open 88 = .ok (.irem, 1) := by decide +kernel
theorem dL_open_89 : decode cL_open 89 = .ok (.lushr, 1) := by decide +kernel
theorem dL_open_90 : decode cL_open 90 = .ok (.lconst 1, 1) := by decide +kernel
theorem dL_open_91 : decode cL_open 91 = .ok (.land, 1) := by decide +kernel
theorem dL_open_92 : decode cL_open 92 = .ok (.lconst 1, 1) := by decide +kernel
theorem dL_open_93 : decode cL_open 93 = .ok (.lcmp, 1) := by decide +kernel
theorem dL_open_94 : decode cL_open 94 = .ok (.ifCond .eq 52, 3) := by decide +kernel
theorem dL_open_97 : decode cL_open 97 = .ok (.iload 9, 2) := by decide +kernel
theorem dL_open_99 : decode cL_open 99 = .ok (.invokestatic 25, 3) := by decide +kernel
theorem dL_open_102 : decode cL_open 102 = .ok (.iload 9, 2) := by decide +kernel
theorem dL_open_104 : decode cL_open 104 = .ok (.invokestatic 40, 3) := by decide +kernel
theorem dL_open_107 : decode cL_open 107 = .ok (.iload_n 1, 1) := by decide +kernel
theorem dL_open_108 : decode cL_open 108 = .ok (.iload_n 2, 1) := by decide +kernel
theorem dL_open_109 : decode cL_open 109 = .ok (.aload_n 3, 1) := by decide +kernel
theorem dL_open_110 : decode cL_open 110 = .ok (.aload 4, 2) := by decide +kernel
theorem dL_open_112 : decode cL_open 112 = .ok (.aload 5, 2) := by decide +kernel
theorem dL_open_114 : decode cL_open 114 = .ok (.aload 6, 2) := by decide +kernel
theorem dL_open_116 : decode cL_open 116 = .ok (.invokestatic 43, 3) := by decide +kernel
theorem dL_open_119 : decode cL_open 119 = .ok (.ifCond .ne 6, 3) := by decide +kernel
theorem dL_open_122 : decode cL_open 122 = .ok (.goto 24, 3) := by decide +kernel
theorem dL_open_125 : decode cL_open 125 = .ok (.aload 6, 2) := by decide +kernel
theorem dL_open_127 : decode cL_open 127 = .ok (.iload 8, 2) := by decide +kernel
theorem dL_open_129 : decode cL_open 129 = .ok (.bipush 64, 2) := by decide +kernel
theorem dL_open_131 : decode cL_open 131 = .ok (.idiv, 1) := by decide +kernel
theorem dL_open_132 : decode cL_open 132 = .ok (.dup2, 1) := by decide +kernel
theorem dL_open_133 : decode cL_open 133 = .ok (.laload, 1) := by decide +kernel
theorem dL_open_134 : decode cL_open 134 = .ok (.lconst 1, 1) := by decide +kernel
theorem dL_open_135 : decode cL_open 135 = .ok (.iload 8, 2) := by decide +kernel
theorem dL_open_137 : decode cL_open 137 = .ok (.bipush 64, 2) := by decide +kernel
theorem dL_open_139 : decode cL_open 139 = .ok (.irem, 1) := by decide +kernel
theorem dL_open_140 : decode cL_open 140 = .ok (.lshl, 1) := by decide +kernel
theorem dL_open_141 : decode cL_open 141 = .ok (.lor, 1) := by decide +kernel
theorem dL_open_142 : decode cL_open 142 = .ok (.lastore, 1) := by decide +kernel
theorem dL_open_143 : decode cL_open 143 = .ok (.iconst 1, 1) := by decide +kernel
theorem dL_open_144 : decode cL_open 144 = .ok (.istore 7, 2) := by decide +kernel
theorem dL_open_146 : decode cL_open 146 = .ok (.iinc 8 1, 3) := by decide +kernel
theorem dL_open_149 : decode cL_open 149 = .ok (.goto (-125), 3) := by decide +kernel
theorem dL_open_152 : decode cL_open 152 = .ok (.goto (-139), 3) := by decide +kernel
theorem dL_open_155 : decode cL_open 155 = .ok (.return_, 1) := by decide +kernel
theorem dL_had_0 : decode cL_had 0 = .ok (.iload_n 2, 1) := by decide +kernel
theorem dL_had_1 : decode cL_had 1 = .ok (.ifCond .ge 39, 3) := by decide +kernel
theorem dL_had_4 : decode cL_had 4 = .ok (.aload 5, 2) := by decide +kernel
theorem dL_had_6 : decode cL_had 6 = .ok (.iconst 4, 1) := by decide +kernel
theorem dL_had_7 : decode cL_had 7 = .ok (.iload_n 0, 1) := by decide +kernel
theorem dL_had_8 : decode cL_had 8 = .ok (.imul, 1) := by decide +kernel
theorem dL_had_9 : decode cL_had 9 = .ok (.iaload, 1) := by decide +kernel
theorem dL_had_10 : decode cL_had 10 = .ok (.ifCond .ge 42, 3) := by decide +kernel
theorem dL_had_13 : decode cL_had 13 = .ok (.aload 5, 2) := by decide +kernel
theorem dL_had_15 : decode cL_had 15 = .ok (.iconst 4, 1) := by decide +kernel
theorem dL_had_16 : decode cL_had 16 = .ok (.iload_n 0, 1) := by decide +kernel
theorem dL_had_17 : decode cL_had 17 = .ok (.imul, 1) := by decide +kernel
theorem dL_had_18 : decode cL_had 18 = .ok (.iconst 1, 1) := by decide +kernel
theorem dL_had_19 : decode cL_had 19 = .ok (.iadd, 1) := by decide +kernel
theorem dL_had_20 : decode cL_had 20 = .ok (.iaload, 1) := by decide +kernel
theorem dL_had_21 : decode cL_had 21 = .ok (.iconst 1, 1) := by decide +kernel
theorem dL_had_22 : decode cL_had 22 = .ok (.if_icmp .ne 30, 3) := by decide +kernel
theorem dL_had_25 : decode cL_had 25 = .ok (.aload 5, 2) := by decide +kernel
theorem dL_had_27 : decode cL_had 27 = .ok (.iconst 4, 1) := by decide +kernel
theorem dL_had_28 : decode cL_had 28 = .ok (.iload_n 0, 1) := by decide +kernel
theorem dL_had_29 : decode cL_had 29 = .ok (.imul, 1) := by decide +kernel
theorem dL_had_30 : decode cL_had 30 = .ok (.iconst 2, 1) := by decide +kernel
theorem dL_had_31 : decode cL_had 31 = .ok (.iadd, 1) := by decide +kernel
theorem dL_had_32 : decode cL_had 32 = .ok (.iaload, 1) := by decide +kernel
theorem dL_had_33 : decode cL_had 33 = .ok (.iload_n 1, 1) := by decide +kernel
theorem dL_had_34 : decode cL_had 34 = .ok (.if_icmp .ne 18, 3) := by decide +kernel
theorem dL_had_37 : decode cL_had 37 = .ok (.goto 13, 3) := by decide +kernel
theorem dL_had_40 : decode cL_had 40 = .ok (.iload_n 0, 1) := by decide +kernel
theorem dL_had_41 : decode cL_had 41 = .ok (.iload_n 2, 1) := by decide +kernel
theorem dL_had_42 : decode cL_had 42 = .ok (.if_icmp .ne 10, 3) := by decide +kernel
theorem dL_had_45 : decode cL_had 45 = .ok (.iload_n 1, 1) := by decide +kernel
theorem dL_had_46 : decode cL_had 46 = .ok (.iload_n 3, 1) := by decide +kernel
theorem dL_had_47 : decode cL_had 47 = .ok (.if_icmp .ne 5, 3) := by decide +kernel
theorem dL_had_50 : decode cL_had 50 = .ok (.iconst 1, 1) := by decide +kernel
theorem dL_had_51 : decode cL_had 51 = .ok (.ireturn, 1) := by decide +kernel
theorem dL_had_52 : decode cL_had 52 = .ok (.iconst 0, 1) := by decide +kernel
theorem dL_had_53 : decode cL_had 53 = .ok (.istore 8, 2) := by decide +kernel
theorem dL_had_55 : decode cL_had 55 = .ok (.iload 8, 2) := by decide +kernel
theorem dL_had_57 : decode cL_had 57 = .ok (.aload 4, 2) := by decide +kernel
theorem dL_had_59 : decode cL_had 59 = .ok (.iconst 3, 1) := by decide +kernel
theorem dL_had_60 : decode cL_had 60 = .ok (.iaload, 1) := by decide +kernel
theorem dL_had_61 : decode cL_had 61 = .ok (.if_icmp .ge 56, 3) := by decide +kernel
theorem dL_had_64 : decode cL_had 64 = .ok (.aload 7, 2) := by decide +kernel
theorem dL_had_66 : decode cL_had 66 = .ok (.iload 8, 2) := by decide +kernel
theorem dL_had_68 : decode cL_had 68 = .ok (.bipush 64, 2) := by decide +kernel
theorem dL_had_70 : decode cL_had 70 = .ok (.idiv, 1) := by decide +kernel
theorem dL_had_71 : decode cL_had 71 = .ok (.laload, 1) := by decide +kernel
theorem dL_had_72 : decode cL_had 72 = .ok (.iload 8, 2) := by decide +kernel
theorem dL_had_74 : decode cL_had 74 = .ok (.bipush 64, 2) := by decide +kernel
theorem dL_had_76 : decode cL_had 76 = .ok (.irem, 1) := by decide +kernel
theorem dL_had_77 : decode cL_had 77 = .ok (.lushr, 1) := by decide +kernel
theorem dL_had_78 : decode cL_had 78 = .ok (.lconst 1, 1) := by decide +kernel
theorem dL_had_79 : decode cL_had 79 = .ok (.land, 1) := by decide +kernel
theorem dL_had_80 : decode cL_had 80 = .ok (.lconst 1, 1) := by decide +kernel
theorem dL_had_81 : decode cL_had 81 = .ok (.lcmp, 1) := by decide +kernel
theorem dL_had_82 : decode cL_had 82 = .ok (.ifCond .ne 29, 3) := by decide +kernel
theorem dL_had_85 : decode cL_had 85 = .ok (.aload 6, 2) := by decide +kernel
theorem dL_had_87 : decode cL_had 87 = .ok (.iload 8, 2) := by decide +kernel
theorem dL_had_89 : decode cL_had 89 = .ok (.iaload, 1) := by decide +kernel
theorem dL_had_90 : decode cL_had 90 = .ok (.invokestatic 21, 3) := by decide +kernel
theorem dL_had_93 : decode cL_had 93 = .ok (.iload_n 0, 1) := by decide +kernel
theorem dL_had_94 : decode cL_had 94 = .ok (.if_icmp .ne 17, 3) := by decide +kernel
theorem dL_had_97 : decode cL_had 97 = .ok (.aload 6, 2) := by decide +kernel
theorem dL_had_99 : decode cL_had 99 = .ok (.iload 8, 2) := by decide +kernel
theorem dL_had_101 : decode cL_had 101 = .ok (.iaload, 1) := by decide +kernel
theorem dL_had_102 : decode cL_had 102 = .ok (.invokestatic 28, 3) := by decide +kernel
theorem dL_had_105 : decode cL_had 105 = .ok (.iload_n 1, 1) := by decide +kernel
theorem dL_had_106 : decode cL_had 106 = .ok (.if_icmp .ne 5, 3) := by decide +kernel
theorem dL_had_109 : decode cL_had 109 = .ok (.iconst 1, 1) := by decide +kernel
theorem dL_had_110 : decode cL_had 110 = .ok (.ireturn, 1) := by decide +kernel
theorem dL_had_111 : decode cL_had 111 = .ok (.iinc 8 1, 3) := by decide +kernel
theorem dL_had_114 : decode cL_had 114 = .ok (.goto (-59), 3) := by decide +kernel
theorem dL_had_117 : decode cL_had 117 = .ok (.iconst 0, 1) := by decide +kernel
theorem dL_had_118 : decode cL_had 118 = .ok (.ireturn, 1) := by decide +kernel
theorem dL_boxes_0 : decode cL_boxes 0 = .ok (.iconst 0, 1) := by decide +kernel
theorem dL_boxes_1 : decode cL_boxes 1 = .ok (.istore_n 3, 1) := by decide +kernel
theorem dL_boxes_2 : decode cL_boxes 2 = .ok (.iconst 0, 1) := by decide +kernel
theorem dL_boxes_3 : decode cL_boxes 3 = .ok (.istore 4, 2) := by decide +kernel
theorem dL_boxes_5 : decode cL_boxes 5 = .ok (.iload 4, 2) := by decide +kernel
theorem dL_boxes_7 : decode cL_boxes 7 = .ok (.aload_n 0, 1) := by decide +kernel
theorem dL_boxes_8 : decode cL_boxes 8 = .ok (.iconst 3, 1) := by decide +kernel
theorem dL_boxes_9 : decode cL_boxes 9 = .ok (.iaload, 1) := by decide +kernel
theorem dL_boxes_10 : decode cL_boxes 10 = .ok (.if_icmp .ge 53, 3) := by decide +kernel
theorem dL_boxes_13 : decode cL_boxes 13 = .ok (.aload_n 2, 1) := by decide +kernel
theorem dL_boxes_14 : decode cL_boxes 14 = .ok (.iload 4, 2) := by decide +kernel
theorem dL_boxes_16 : decode cL_boxes 16 = .ok (.bipush 64, 2) := by decide +kernel
theorem dL_boxes_18 : decode cL_boxes 18 = .ok (.idiv, 1) := by decide +kernel
theorem dL_boxes_19 : decode cL_boxes 19 = .ok (.laload, 1) := by decide +kernel
theorem dL_boxes_20 : decode cL_boxes 20 = .ok (.iload 4, 2) := by decide +kernel
theorem dL_boxes_22 : decode cL_boxes 22 = .ok (.bipush 64, 2) := by decide +kernel
theorem dL_boxes_24 : decode cL_boxes 24 = .ok (.irem, 1) := by decide +kernel
theorem dL_boxes_25 : decode cL_boxes 25 = .ok (.lushr, 1) := by decide +kernel
theorem dL_boxes_26 : decode cL_boxes 26 = .ok (.lconst 1, 1) := by decide +kernel
theorem dL_boxes_27 : decode cL_boxes 27 = .ok (.land, 1) := by decide +kernel
theorem dL_boxes_28 : decode cL_boxes 28 = .ok (.lconst 1, 1) := by decide +kernel
theorem dL_boxes_29 : decode cL_boxes 29 = .ok (.lcmp, 1) := by decide +kernel
theorem dL_boxes_30 : decode cL_boxes 30 = .ok (.ifCond .ne 27, 3) := by decide +kernel
theorem dL_boxes_33 : decode cL_boxes 33 = .ok (.aload_n 1, 1) := by decide +kernel
theorem dL_boxes_34 : decode cL_boxes 34 = .ok (.iload 4, 2) := by decide +kernel
theorem dL_boxes_36 : decode cL_boxes 36 = .ok (.iaload, 1) := by decide +kernel
theorem dL_boxes_37 : decode cL_boxes 37 = .ok (.invokestatic 21, 3) := by decide +kernel
theorem dL_boxes_40 : decode cL_boxes 40 = .ok (.bipush 7, 2) := by decide +kernel
theorem dL_boxes_42 : decode cL_boxes 42 = .ok (.if_icmp .ne 15, 3) := by decide +kernel
theorem dL_boxes_45 : decode cL_boxes 45 = .ok (.iload_n 3, 1) := by decide +kernel
theorem dL_boxes_46 : decode cL_boxes 46 = .ok (.iconst 1, 1) := by decide +kernel
theorem dL_boxes_47 : decode cL_boxes 47 = .ok (.aload_n 1, 1) := by decide +kernel
theorem dL_boxes_48 : decode cL_boxes 48 = .ok (.iload 4, 2) := by decide +kernel
theorem dL_boxes_50 : decode cL_boxes 50 = .ok (.iaload, 1) := by decide +kernel
theorem dL_boxes_51 : decode cL_boxes 51 = .ok (.invokestatic 28, 3) := by decide +kernel
theorem dL_boxes_54 : decode cL_boxes 54 = .ok (.ishl, 1) := by decide +kernel
theorem dL_boxes_55 : decode cL_boxes 55 = .ok (.ior, 1) := by decide +kernel
theorem dL_boxes_56 : decode cL_boxes 56 = .ok (.istore_n 3, 1) := by decide +kernel
theorem dL_boxes_57 : decode cL_boxes 57 = .ok (.iinc 4 1, 3) := by decide +kernel
theorem dL_boxes_60 : decode cL_boxes 60 = .ok (.goto (-55), 3) := by decide +kernel
theorem dL_boxes_63 : decode cL_boxes 63 = .ok (.iload_n 3, 1) := by decide +kernel
theorem dL_boxes_64 : decode cL_boxes 64 = .ok (.ireturn, 1) := by decide +kernel
theorem dL_same_0 : decode cL_same 0 = .ok (.iconst 0, 1) := by decide +kernel
theorem dL_same_1 : decode cL_same 1 = .ok (.istore 7, 2) := by decide +kernel
theorem dL_same_3 : decode cL_same 3 = .ok (.iconst 0, 1) := by decide +kernel
theorem dL_same_4 : decode cL_same 4 = .ok (.istore 8, 2) := by decide +kernel
theorem dL_same_6 : decode cL_same 6 = .ok (.iconst 0, 1) := by decide +kernel
theorem dL_same_7 : decode cL_same 7 = .ok (.istore 9, 2) := by decide +kernel
theorem dL_same_9 : decode cL_same 9 = .ok (.iconst 0, 1) := by decide +kernel
theorem dL_same_10 : decode cL_same 10 = .ok (.istore 10, 2) := by decide +kernel
theorem dL_same_12 : decode cL_same 12 = .ok (.iconst 0, 1) := by decide +kernel
theorem dL_same_13 : decode cL_same 13 = .ok (.istore 11, 2) := by decide +kernel
theorem dL_same_15 : decode cL_same 15 = .ok (.iload 11, 2) := by decide +kernel
theorem dL_same_17 : decode cL_same 17 = .ok (.aload_n 2, 1) := by decide +kernel
theorem dL_same_18 : decode cL_same 18 = .ok (.iconst 1, 1) := by decide +kernel
theorem dL_same_19 : decode cL_same 19 = .ok (.iaload, 1) := by decide +kernel
theorem dL_same_20 : decode cL_same 20 = .ok (.if_icmp .ge 510, 3) := by decide +kernel
theorem dL_same_23 : decode cL_same 23 = .ok (.iconst 0, 1) := by decide +kernel
theorem dL_same_24 : decode cL_same 24 = .ok (.istore 12, 2) := by decide +kernel
theorem dL_same_26 : decode cL_same 26 = .ok (.iconst 0, 1) := by decide +kernel
theorem dL_same_27 : decode cL_same 27 = .ok (.istore 13, 2) := by decide +kernel
theorem dL_same_29 : decode cL_same 29 = .ok (.iconst 0, 1) := by decide +kernel
theorem dL_same_30 : decode cL_same 30 = .ok (.istore 14, 2) := by decide +kernel
theorem dL_same_32 : decode cL_same 32 = .ok (.iload 14, 2) := by decide +kernel
theorem dL_same_34 : decode cL_same 34 = .ok (.aload_n 2, 1) := by decide +kernel
theorem dL_same_35 : decode cL_same 35 = .ok (.iconst 1, 1) := by decide +kernel
theorem dL_same_36 : decode cL_same 36 = .ok (.iaload, 1) := by decide +kernel
theorem dL_same_37 : decode cL_same 37 = .ok (.if_icmp .ge 45, 3) := by decide +kernel
theorem dL_same_40 : decode cL_same 40 = .ok (.iload 12, 2) := by decide +kernel
theorem dL_same_42 : decode cL_same 42 = .ok (.aload_n 3, 1) := by decide +kernel
theorem dL_same_43 : decode cL_same 43 = .ok (.iconst 4, 1) := by decide +kernel
theorem dL_same_44 : decode cL_same 44 = .ok (.iload 14, 2) := by decide +kernel
theorem dL_same_46 : decode cL_same 46 = .ok (.imul, 1) := by decide +kernel
theorem dL_same_47 : decode cL_same 47 = .ok (.iaload, 1) := by decide +kernel
theorem dL_same_48 : decode cL_same 48 = .ok (.iload 11, 2) := by decide +kernel
theorem dL_same_50 : decode cL_same 50 = .ok (.if_icmp .ne 22, 3) := by decide +kernel
theorem dL_same_53 : decode cL_same 53 = .ok (.aload_n 3, 1) := by decide +kernel
theorem dL_same_54 : decode cL_same 54 = .ok (.iconst 4, 1) := by decide +kernel
theorem dL_same_55 : decode cL_same 55 = .ok (.iload 14, 2) := by decide +kernel
theorem dL_same_57 : decode cL_same 57 = .ok (.imul, 1) := by decide +kernel
theorem dL_same_58 : decode cL_same 58 = .ok (.iconst 1, 1) := by decide +kernel
theorem dL_same_59 : decode cL_same 59 = .ok (.iadd, 1) := by decide +kernel
theorem dL_same_60 : decode cL_same 60 = .ok (.iaload, 1) := by decide +kernel
theorem dL_same_61 : decode cL_same 61 = .ok (.iconst 1, 1) := by decide +kernel
theorem dL_same_62 : decode cL_same 62 = .ok (.if_icmp .ne 10, 3) := by decide +kernel
theorem dL_same_65 : decode cL_same 65 = .ok (.iconst 1, 1) := by decide +kernel
theorem dL_same_66 : decode cL_same 66 = .ok (.iload 14, 2) := by decide +kernel
theorem dL_same_68 : decode cL_same 68 = .ok (.ishl, 1) := by decide +kernel
theorem dL_same_69 : decode cL_same 69 = .ok (.goto 4, 3) := by decide +kernel
theorem dL_same_72 : decode cL_same 72 = .ok (.iconst 0, 1) := by decide +kernel
theorem dL_same_73 : decode cL_same 73 = .ok (.ior, 1) := by decide +kernel
theorem dL_same_74 : decode cL_same 74 = .ok (.istore 12, 2) := by decide +kernel
theorem dL_same_76 : decode cL_same 76 = .ok (.iinc 14 1, 3) := by decide +kernel
theorem dL_same_79 : decode cL_same 79 = .ok (.goto (-47), 3) := by decide +kernel
theorem dL_same_82 : decode cL_same 82 = .ok (.iconst 0, 1) := by decide +kernel
theorem dL_same_83 : decode cL_same 83 = .ok (.istore 14, 2) := by decide +kernel
theorem dL_same_85 : decode cL_same 85 = .ok (.iload 14, 2) := by decide +kernel
theorem dL_same_87 : decode cL_same 87 = .ok (.aload_n 2, 1) := by decide +kernel
theorem dL_same_88 : decode cL_same 88 = .ok (.iconst 2, 1) := by decide +kernel
theorem dL_same_89 : decode cL_same 89 = .ok (.iaload, 1) := by decide +kernel
theorem dL_same_90 : decode cL_same 90 = .ok (.if_icmp .ge 47, 3) := by decide +kernel
theorem dL_same_93 : decode cL_same 93 = .ok (.iload 13, 2) := by decide +kernel
theorem dL_same_95 : decode cL_same 95 = .ok (.aload 4, 2) := by decide +kernel
theorem dL_same_97 : decode cL_same 97 = .ok (.iconst 2, 1) := by decide +kernel
theorem dL_same_98 : decode cL_same 98 = .ok (.iload 14, 2) := by decide +kernel
theorem dL_same_100 : decode cL_same 100 = .ok (.imul, 1) := by decide +kernel
theorem dL_same_101 : decode cL_same 101 = .ok (.iaload, 1) := by decide +kernel
theorem dL_same_102 : decode cL_same 102 = .ok (.iload 11, 2) := by decide +kernel
theorem dL_same_104 : decode cL_same 104 = .ok (.if_icmp .ne 23, 3) := by decide +kernel
theorem dL_same_107 : decode cL_same 107 = .ok (.aload 4, 2) := by decide +kernel
theorem dL_same_109 : decode cL_same 109 = .ok (.iconst 2, 1) := by decide +kernel
theorem dL_same_110 : decode cL_same 110 = .ok (.iload 14, 2) := by decide +kernel
theorem dL_same_112 : decode cL_same 112 = .ok (.imul, 1) := by decide +kernel
theorem dL_same_113 : decode cL_same 113 = .ok (.iconst 1, 1) := by decide +kernel
theorem dL_same_114 : decode cL_same 114 = .ok (.iadd, 1) := by decide +kernel
theorem dL_same_115 : decode cL_same 115 = .ok (.iaload, 1) := by decide +kernel
theorem dL_same_116 : decode cL_same 116 = .ok (.iconst 1, 1) := by decide +kernel
theorem dL_same_117 : decode cL_same 117 = .ok (.if_icmp .ne 10, 3) := by decide +kernel
theorem dL_same_120 : decode cL_same 120 = .ok (.iconst 1, 1) := by decide +kernel
theorem dL_same_121 : decode cL_same 121 = .ok (.iload 14, 2) := by decide +kernel
theorem dL_same_123 : decode cL_same 123 = .ok (.ishl, 1) := by decide +kernel
theorem dL_same_124 : decode cL_same 124 = .ok (.goto 4, 3) := by decide +kernel
theorem dL_same_127 : decode cL_same 127 = .ok (.iconst 0, 1) := by decide +kernel
theorem dL_same_128 : decode cL_same 128 = .ok (.ior, 1) := by decide +kernel
theorem dL_same_129 : decode cL_same 129 = .ok (.istore 13, 2) := by decide +kernel
theorem dL_same_131 : decode cL_same 131 = .ok (.iinc 14 1, 3) := by decide +kernel
theorem dL_same_134 : decode cL_same 134 = .ok (.goto (-49), 3) := by decide +kernel
theorem dL_same_137 : decode cL_same 137 = .ok (.aload_n 0, 1) := by decide +kernel
theorem dL_same_138 : decode cL_same 138 = .ok (.iload 11, 2) := by decide +kernel
theorem dL_same_140 : decode cL_same 140 = .ok (.iconst 0, 1) := by decide +kernel
theorem dL_same_141 : decode cL_same 141 = .ok (.invokevirtual 47, 3) := by decide +kernel
theorem dL_same_144 : decode cL_same 144 = .ok (.aload_n 3, 1) := by decide +kernel
theorem dL_same_145 : decode cL_same 145 = .ok (.iconst 4, 1) := by decide +kernel
theorem dL_same_146 : decode cL_same 146 = .ok (.iload 11, 2) := by decide +kernel
theorem dL_same_148 : decode cL_same 148 = .ok (.imul, 1) := by decide +kernel
theorem dL_same_149 : decode cL_same 149 = .ok (.iaload, 1) := by decide +kernel
theorem dL_same_150 : decode cL_same 150 = .ok (.ifCond .ge 8, 3) := by decide +kernel
theorem dL_same_153 : decode cL_same 153 = .ok (.bipush (-6), 2) := by decide +kernel
theorem dL_same_155 : decode cL_same 155 = .ok (.goto 9, 3) := by decide +kernel
theorem dL_same_158 : decode cL_same 158 = .ok (.aload_n 3, 1) := by decide +kernel
theorem dL_same_159 : decode cL_same 159 = .ok (.iconst 4, 1) := by decide +kernel
theorem dL_same_160 : decode cL_same 160 = .ok (.iload 11, 2) := by decide +kernel
theorem dL_same_162 : decode cL_same 162 = .ok (.imul, 1) := by decide +kernel
theorem dL_same_163 : decode cL_same 163 = .ok (.iaload, 1) := by decide +kernel
theorem dL_same_164 : decode cL_same 164 = .ok (.if_icmp .ne 81, 3) := by decide +kernel
theorem dL_same_167 : decode cL_same 167 = .ok (.aload_n 0, 1) := by decide +kernel
theorem dL_same_168 : decode cL_same 168 = .ok (.iload 11, 2) := by decide +kernel
theorem dL_same_170 : decode cL_same 170 = .ok (.iconst 1, 1) := by decide +kernel
theorem dL_same_171 : decode cL_same 171 = .ok (.invokevirtual 47, 3) := by decide +kernel
theorem dL_same_174 : decode cL_same 174 = .ok (.aload_n 3, 1) := by decide +kernel
theorem dL_same_175 : decode cL_same 175 = .ok (.iconst 4, 1) := by decide +kernel
theorem dL_same_176 : decode cL_same 176 = .ok (.iload 11, 2) := by decide +kernel
theorem dL_same_178 : decode cL_same 178 = .ok (.imul, 1) := by decide +kernel
theorem dL_same_179 : decode cL_same 179 = .ok (.iconst 1, 1) := by decide +kernel
theorem dL_same_180 : decode cL_same 180 = .ok (.iadd, 1) := by decide +kernel
theorem dL_same_181 : decode cL_same 181 = .ok (.iaload, 1) := by decide +kernel
theorem dL_same_182 : decode cL_same 182 = .ok (.if_icmp .ne 63, 3) := by decide +kernel
theorem dL_same_185 : decode cL_same 185 = .ok (.aload_n 0, 1) := by decide +kernel
theorem dL_same_186 : decode cL_same 186 = .ok (.iload 11, 2) := by decide +kernel
theorem dL_same_188 : decode cL_same 188 = .ok (.iconst 2, 1) := by decide +kernel
theorem dL_same_189 : decode cL_same 189 = .ok (.invokevirtual 47, 3) := by decide +kernel
theorem dL_same_192 : decode cL_same 192 = .ok (.aload_n 3, 1) := by decide +kernel
theorem dL_same_193 : decode cL_same 193 = .ok (.iconst 4, 1) := by decide +kernel
theorem dL_same_194 : decode cL_same 194 = .ok (.iload 11, 2) := by decide +kernel
theorem dL_same_196 : decode cL_same 196 = .ok (.imul, 1) := by decide +kernel
theorem dL_same_197 : decode cL_same 197 = .ok (.iconst 2, 1) := by decide +kernel
theorem dL_same_198 : decode cL_same 198 = .ok (.iadd, 1) := by decide +kernel
theorem dL_same_199 : decode cL_same 199 = .ok (.iaload, 1) := by decide +kernel
theorem dL_same_200 : decode cL_same 200 = .ok (.if_icmp .ne 45, 3) := by decide +kernel
theorem dL_same_203 : decode cL_same 203 = .ok (.aload_n 0, 1) := by decide +kernel
theorem dL_same_204 : decode cL_same 204 = .ok (.iload 11, 2) := by decide +kernel
theorem dL_same_206 : decode cL_same 206 = .ok (.iconst 3, 1) := by decide +kernel
theorem dL_same_207 : decode cL_same 207 = .ok (.invokevirtual 47, 3) := by decide +kernel
theorem dL_same_210 : decode cL_same 210 = .ok (.aload_n 3, 1) := by decide +kernel
theorem dL_same_211 : decode cL_same 211 = .ok (.iconst 4, 1) := by decide +kernel
theorem dL_same_212 : decode cL_same 212 = .ok (.iload 11, 2) := by decide +kernel
theorem dL_same_214 : decode cL_same 214 = .ok (.imul, 1) := by decide +kernel
theorem dL_same_215 : decode cL_same 215 = .ok (.iconst 3, 1) := by decide +kernel
theorem dL_same_216 : decode cL_same 216 = .ok (.iadd, 1) := by decide +kernel
theorem dL_same_217 : decode cL_same 217 = .ok (.iaload, 1) := by decide +kernel
theorem dL_same_218 : decode cL_same 218 = .ok (.if_icmp .ne 27, 3) := by decide +kernel
theorem dL_same_221 : decode cL_same 221 = .ok (.aload_n 0, 1) := by decide +kernel
theorem dL_same_222 : decode cL_same 222 = .ok (.iload 11, 2) := by decide +kernel
theorem dL_same_224 : decode cL_same 224 = .ok (.iconst 4, 1) := by decide +kernel
theorem dL_same_225 : decode cL_same 225 = .ok (.invokevirtual 47, 3) := by decide +kernel
theorem dL_same_228 : decode cL_same 228 = .ok (.iload 12, 2) := by decide +kernel
theorem dL_same_230 : decode cL_same 230 = .ok (.if_icmp .ne 15, 3) := by decide +kernel
theorem dL_same_233 : decode cL_same 233 = .ok (.aload_n 0, 1) := by decide +kernel
theorem dL_same_234 : decode cL_same 234 = .ok (.iload 11, 2) := by decide +kernel
theorem dL_same_236 : decode cL_same 236 = .ok (.iconst 5, 1) := by decide +kernel
theorem dL_same_237 : decode cL_same 237 = .ok (.invokevirtual 47, 3) := by decide +kernel
theorem dL_same_240 : decode cL_same 240 = .ok (.iload 13, 2) := by decide +kernel
theorem dL_same_242 : decode cL_same 242 = .ok (.if_icmp .eq 5, 3) := by decide +kernel
theorem dL_same_245 : decode cL_same 245 = .ok (.iconst 0, 1) := by decide +kernel
theorem dL_same_246 : decode cL_same 246 = .ok (.ireturn, 1) := by decide +kernel
theorem dL_same_247 : decode cL_same 247 = .ok (.iload 7, 2) := by decide +kernel
theorem dL_same_249 : decode cL_same 249 = .ok (.aload_n 3, 1) := by decide +kernel
theorem dL_same_250 : decode cL_same 250 = .ok (.iconst 4, 1) := by decide +kernel
theorem dL_same_251 : decode cL_same 251 = .ok (.iload 11, 2) := by decide +kernel
theorem dL_same_253 : decode cL_same 253 = .ok (.imul, 1) := by decide +kernel
theorem dL_same_254 : decode cL_same 254 = .ok (.iconst 1, 1) := by decide +kernel
theorem dL_same_255 : decode cL_same 255 = .ok (.iadd, 1) := by decide +kernel
theorem dL_same_256 : decode cL_same 256 = .ok (.iaload, 1) := by decide +kernel
theorem dL_same_257 : decode cL_same 257 = .ok (.iadd, 1) := by decide +kernel
theorem dL_same_258 : decode cL_same 258 = .ok (.istore 7, 2) := by decide +kernel
theorem dL_same_260 : decode cL_same 260 = .ok (.iload 8, 2) := by decide +kernel
theorem dL_same_262 : decode cL_same 262 = .ok (.aload_n 3, 1) := by decide +kernel
theorem dL_same_263 : decode cL_same 263 = .ok (.iconst 4, 1) := by decide +kernel
theorem dL_same_264 : decode cL_same 264 = .ok (.iload 11, 2) := by decide +kernel
theorem dL_same_266 : decode cL_same 266 = .ok (.imul, 1) := by decide +kernel
theorem dL_same_267 : decode cL_same 267 = .ok (.iconst 1, 1) := by decide +kernel
theorem dL_same_268 : decode cL_same 268 = .ok (.iadd, 1) := by decide +kernel
theorem dL_same_269 : decode cL_same 269 = .ok (.iaload, 1) := by decide +kernel
theorem dL_same_270 : decode cL_same 270 = .ok (.iconst 1, 1) := by decide +kernel
theorem dL_same_271 : decode cL_same 271 = .ok (.if_icmp .ne 24, 3) := by decide +kernel
theorem dL_same_274 : decode cL_same 274 = .ok (.aload_n 3, 1) := by decide +kernel
theorem dL_same_275 : decode cL_same 275 = .ok (.iconst 4, 1) := by decide +kernel
theorem dL_same_276 : decode cL_same 276 = .ok (.iload 11, 2) := by decide +kernel
theorem dL_same_278 : decode cL_same 278 = .ok (.imul, 1) := by decide +kernel
theorem dL_same_279 : decode cL_same 279 = .ok (.iconst 3, 1) := by decide +kernel
theorem dL_same_280 : decode cL_same 280 = .ok (.iadd, 1) := by decide +kernel
theorem dL_same_281 : decode cL_same 281 = .ok (.iaload, 1) := by decide +kernel
theorem dL_same_282 : decode cL_same 282 = .ok (.aload_n 2, 1) := by decide +kernel
theorem dL_same_283 : decode cL_same 283 = .ok (.iconst 0, 1) := by decide +kernel
theorem dL_same_284 : decode cL_same 284 = .ok (.iaload, 1) := by decide +kernel
theorem dL_same_285 : decode cL_same 285 = .ok (.if_icmp .lt 10, 3) := by decide +kernel
theorem dL_same_288 : decode cL_same 288 = .ok (.iconst 1, 1) := by decide +kernel
theorem dL_same_289 : decode cL_same 289 = .ok (.iload 11, 2) := by decide +kernel
theorem dL_same_291 : decode cL_same 291 = .ok (.ishl, 1) := by decide +kernel
theorem dL_same_292 : decode cL_same 292 = .ok (.goto 4, 3) := by decide +kernel
theorem dL_same_295 : decode cL_same 295 = .ok (.iconst 0, 1) := by decide +kernel
theorem dL_same_296 : decode cL_same 296 = .ok (.ior, 1) := by decide +kernel
theorem dL_same_297 : decode cL_same 297 = .ok (.istore 8, 2) := by decide +kernel
theorem dL_same_299 : decode cL_same 299 = .ok (.iconst 0, 1) := by decide +kernel
theorem dL_same_300 : decode cL_same 300 = .ok (.istore 14, 2) := by decide +kernel
theorem dL_same_302 : decode cL_same 302 = .ok (.iconst 0, 1) := by decide +kernel
theorem dL_same_303 : decode cL_same 303 = .ok (.istore 15, 2) := by decide +kernel
theorem dL_same_305 : decode cL_same 305 = .ok (.iload 15, 2) := by decide +kernel
theorem dL_same_307 : decode cL_same 307 = .ok (.aload_n 2, 1) := by decide +kernel
theorem dL_same_308 : decode cL_same 308 = .ok (.iconst 2, 1) := by decide +kernel
theorem dL_same_309 : decode cL_same 309 = .ok (.iaload, 1) := by decide +kernel
theorem dL_same_310 : decode cL_same 310 = .ok (.if_icmp .ge 51, 3) := by decide +kernel
theorem dL_same_313 : decode cL_same 313 = .ok (.iload 14, 2) := by decide +kernel
theorem dL_same_315 : decode cL_same 315 = .ok (.aload 4, 2) := by decide +kernel
theorem dL_same_317 : decode cL_same 317 = .ok (.iconst 2, 1) := by decide +kernel
theorem dL_same_318 : decode cL_same 318 = .ok (.iload 15, 2) := by decide +kernel
theorem dL_same_320 : decode cL_same 320 = .ok (.imul, 1) := by decide +kernel
theorem dL_same_321 : decode cL_same 321 = .ok (.iconst 1, 1) := by decide +kernel
theorem dL_same_322 : decode cL_same 322 = .ok (.iadd, 1) := by decide +kernel
theorem dL_same_323 : decode cL_same 323 = .ok (.iaload, 1) := by decide +kernel
theorem dL_same_324 : decode cL_same 324 = .ok (.iconst 1, 1) := by decide +kernel
theorem dL_same_325 : decode cL_same 325 = .ok (.if_icmp .ne 26, 3) := by decide +kernel
theorem dL_same_328 : decode cL_same 328 = .ok (.aload 4, 2) := by decide +kernel
theorem dL_same_330 : decode cL_same 330 = .ok (.iconst 2, 1) := by decide +kernel
theorem dL_same_331 : decode cL_same 331 = .ok (.iload 15, 2) := by decide +kernel
theorem dL_same_333 : decode cL_same 333 = .ok (.imul, 1) := by decide +kernel
theorem dL_same_334 : decode cL_same 334 = .ok (.iaload, 1) := by decide +kernel
theorem dL_same_335 : decode cL_same 335 = .ok (.iload 11, 2) := by decide +kernel
theorem dL_same_337 : decode cL_same 337 = .ok (.aload_n 3, 1) := by decide +kernel
theorem dL_same_338 : decode cL_same 338 = .ok (.invokestatic 53, 3) := by decide +kernel
theorem dL_same_341 : decode cL_same 341 = .ok (.ifCond .eq 10, 3) := by decide +kernel
theorem dL_same_344 : decode cL_same 344 = .ok (.iconst 1, 1) := by decide +kernel
theorem dL_same_345 : decode cL_same 345 = .ok (.iload 15, 2) := by decide +kernel
theorem dL_same_347 : decode cL_same 347 = .ok (.ishl, 1) := by decide +kernel
theorem dL_same_348 : decode cL_same 348 = .ok (.goto 4, 3) := by decide +kernel
theorem dL_same_351 : decode cL_same 351 = .ok (.iconst 0, 1) := by decide +kernel
theorem dL_same_352 : decode cL_same 352 = .ok (.ior, 1) := by decide +kernel
theorem dL_same_353 : decode cL_same 353 = .ok (.istore 14, 2) := by decide +kernel
theorem dL_same_355 : decode cL_same 355 = .ok (.iinc 15 1, 3) := by decide +kernel
theorem dL_same_358 : decode cL_same 358 = .ok (.goto (-53), 3) := by decide +kernel
theorem dL_same_361 : decode cL_same 361 = .ok (.aload_n 0, 1) := by decide +kernel
theorem dL_same_362 : decode cL_same 362 = .ok (.iload 11, 2) := by decide +kernel
theorem dL_same_364 : decode cL_same 364 = .ok (.invokevirtual 57, 3) := by decide +kernel
theorem dL_same_367 : decode cL_same 367 = .ok (.aload_n 3, 1) := by decide +kernel
theorem dL_same_368 : decode cL_same 368 = .ok (.iconst 4, 1) := by decide +kernel
theorem dL_same_369 : decode cL_same 369 = .ok (.iload 11, 2) := by decide +kernel
theorem dL_same_371 : decode cL_same 371 = .ok (.imul, 1) := by decide +kernel
theorem dL_same_372 : decode cL_same 372 = .ok (.iconst 1, 1) := by decide +kernel
theorem dL_same_373 : decode cL_same 373 = .ok (.iadd, 1) := by decide +kernel
theorem dL_same_374 : decode cL_same 374 = .ok (.iaload, 1) := by decide +kernel
theorem dL_same_375 : decode cL_same 375 = .ok (.iconst 1, 1) := by decide +kernel
theorem dL_same_376 : decode cL_same 376 = .ok (.if_icmp .ne 8, 3) := by decide +kernel
theorem dL_same_379 : decode cL_same 379 = .ok (.iload 14, 2) := by decide +kernel
theorem dL_same_381 : decode cL_same 381 = .ok (.goto 4, 3) := by decide +kernel
theorem dL_same_384 : decode cL_same 384 = .ok (.iconst (-1), 1) := by decide +kernel
theorem dL_same_385 : decode cL_same 385 = .ok (.if_icmp .eq 5, 3) := by decide +kernel
theorem dL_same_388 : decode cL_same 388 = .ok (.iconst 0, 1) := by decide +kernel
theorem dL_same_389 : decode cL_same 389 = .ok (.ireturn, 1) := by decide +kernel
theorem dL_same_390 : decode cL_same 390 = .ok (.iload_n 1, 1) := by decide +kernel
theorem dL_same_391 : decode cL_same 391 = .ok (.iload 11, 2) := by decide +kernel
theorem dL_same_393 : decode cL_same 393 = .ok (.ishr, 1) := by decide +kernel
theorem dL_same_394 : decode cL_same 394 = .ok (.aload_n 3, 1) := by decide +kernel
theorem dL_same_395 : decode cL_same 395 = .ok (.iconst 4, 1) := by decide +kernel
theorem dL_same_396 : decode cL_same 396 = .ok (.iload 11, 2) := by decide +kernel
theorem dL_same_398 : decode cL_same 398 = .ok (.imul, 1) := by decide +kernel
theorem dL_same_399 : decode cL_same 399 = .ok (.iconst 2, 1) := by decide +kernel
theorem dL_same_400 : decode cL_same 400 = .ok (.iadd, 1) := by decide +kernel
theorem dL_same_401 : decode cL_same 401 = .ok (.iaload, 1) := by decide +kernel
theorem dL_same_402 : decode cL_same 402 = .ok (.iconst 2, 1) := by decide +kernel
theorem dL_same_403 : decode cL_same 403 = .ok (.iadd, 1) := by decide +kernel
theorem dL_same_404 : decode cL_same 404 = .ok (.invokestatic 60, 3) := by decide +kernel
theorem dL_same_407 : decode cL_same 407 = .ok (.istore 15, 2) := by decide +kernel
theorem dL_same_409 : decode cL_same 409 = .ok (.iload_n 1, 1) := by decide +kernel
theorem dL_same_410 : decode cL_same 410 = .ok (.iconst 3, 1) := by decide +kernel
theorem dL_same_411 : decode cL_same 411 = .ok (.iload 11, 2) := by decide +kernel
theorem dL_same_413 : decode cL_same 413 = .ok (.iadd, 1) := by decide +kernel
theorem dL_same_414 : decode cL_same 414 = .ok (.ishr, 1) := by decide +kernel
theorem dL_same_415 : decode cL_same 415 = .ok (.bipush 8, 2) := by decide +kernel
theorem dL_same_417 : decode cL_same 417 = .ok (.invokestatic 60, 3) := by decide +kernel
theorem dL_same_420 : decode cL_same 420 = .ok (.istore 16, 2) := by decide +kernel
theorem dL_same_422 : decode cL_same 422 = .ok (.iload 16, 2) := by decide +kernel
theorem dL_same_424 : decode cL_same 424 = .ok (.iconst (-1), 1) := by decide +kernel
theorem dL_same_425 : decode cL_same 425 = .ok (.iconst 0, 1) := by decide +kernel
theorem dL_same_426 : decode cL_same 426 = .ok (.aload_n 2, 1) := by decide +kernel
theorem dL_same_427 : decode cL_same 427 = .ok (.aload_n 3, 1) := by decide +kernel
theorem dL_same_428 : decode cL_same 428 = .ok (.aload 5, 2) := by decide +kernel
theorem dL_same_430 : decode cL_same 430 = .ok (.aload 6, 2) := by decide +kernel
theorem dL_same_432 : decode cL_same 432 = .ok (.invokestatic 63, 3) := by decide +kernel
theorem dL_same_435 : decode cL_same 435 = .ok (.aload_n 0, 1) := by decide +kernel
theorem dL_same_436 : decode cL_same 436 = .ok (.iload 11, 2) := by decide +kernel
theorem dL_same_438 : decode cL_same 438 = .ok (.iload 15, 2) := by decide +kernel
theorem dL_same_440 : decode cL_same 440 = .ok (.iload 16, 2) := by decide +kernel
theorem dL_same_442 : decode cL_same 442 = .ok (.invokevirtual 67, 3) := by decide +kernel
theorem dL_same_445 : decode cL_same 445 = .ok (.iload 11, 2) := by decide +kernel
theorem dL_same_447 : decode cL_same 447 = .ok (.iload 15, 2) := by decide +kernel
theorem dL_same_449 : decode cL_same 449 = .ok (.iconst (-1), 1) := by decide +kernel
theorem dL_same_450 : decode cL_same 450 = .ok (.iconst 0, 1) := by decide +kernel
theorem dL_same_451 : decode cL_same 451 = .ok (.aload_n 2, 1) := by decide +kernel
theorem dL_same_452 : decode cL_same 452 = .ok (.aload_n 3, 1) := by decide +kernel
theorem dL_same_453 : decode cL_same 453 = .ok (.aload 5, 2) := by decide +kernel
theorem dL_same_455 : decode cL_same 455 = .ok (.aload 6, 2) := by decide +kernel
theorem dL_same_457 : decode cL_same 457 = .ok (.invokestatic 43, 3) := by decide +kernel
theorem dL_same_460 : decode cL_same 460 = .ok (.ifCond .eq 7, 3) := by decide +kernel
theorem dL_same_463 : decode cL_same 463 = .ok (.iconst 1, 1) := by decide +kernel
theorem dL_same_464 : decode cL_same 464 = .ok (.goto 4, 3) := by decide +kernel
theorem dL_same_467 : decode cL_same 467 = .ok (.iconst 0, 1) := by decide +kernel
theorem dL_same_468 : decode cL_same 468 = .ok (.if_icmp .eq 5, 3) := by decide +kernel
theorem dL_same_471 : decode cL_same 471 = .ok (.iconst 0, 1) := by decide +kernel
theorem dL_same_472 : decode cL_same 472 = .ok (.ireturn, 1) := by decide +kernel
theorem dL_same_473 : decode cL_same 473 = .ok (.iload 16, 2) := by decide +kernel
theorem dL_same_475 : decode cL_same 475 = .ok (.iload 11, 2) := by decide +kernel
theorem dL_same_477 : decode cL_same 477 = .ok (.iload 15, 2) := by decide +kernel
theorem dL_same_479 : decode cL_same 479 = .ok (.aload_n 2, 1) := by decide +kernel
theorem dL_same_480 : decode cL_same 480 = .ok (.aload_n 3, 1) := by decide +kernel
theorem dL_same_481 : decode cL_same 481 = .ok (.aload 5, 2) := by decide +kernel
theorem dL_same_483 : decode cL_same 483 = .ok (.aload 6, 2) := by decide +kernel
theorem dL_same_485 : decode cL_same 485 = .ok (.invokestatic 63, 3) := by decide +kernel
theorem dL_same_488 : decode cL_same 488 = .ok (.aload_n 0, 1) := by decide +kernel
theorem dL_same_489 : decode cL_same 489 = .ok (.iload 11, 2) := by decide +kernel
theorem dL_same_491 : decode cL_same 491 = .ok (.iload 15, 2) := by decide +kernel
theorem dL_same_493 : decode cL_same 493 = .ok (.iload 16, 2) := by decide +kernel
theorem dL_same_495 : decode cL_same 495 = .ok (.invokevirtual 71, 3) := by decide +kernel
theorem dL_same_498 : decode cL_same 498 = .ok (.aload_n 3, 1) := by decide +kernel
theorem dL_same_499 : decode cL_same 499 = .ok (.iconst 4, 1) := by decide +kernel
theorem dL_same_500 : decode cL_same 500 = .ok (.iload 11, 2) := by decide +kernel
theorem dL_same_502 : decode cL_same 502 = .ok (.imul, 1) := by decide +kernel
theorem dL_same_503 : decode cL_same 503 = .ok (.iaload, 1) := by decide +kernel
theorem dL_same_504 : decode cL_same 504 = .ok (.ifCond .ge 14, 3) := by decide +kernel
theorem dL_same_507 : decode cL_same 507 = .ok (.aload_n 2, 1) := by decide +kernel
theorem dL_same_508 : decode cL_same 508 = .ok (.aload 5, 2) := by decide +kernel
theorem dL_same_510 : decode cL_same 510 = .ok (.aload 6, 2) := by decide +kernel
theorem dL_same_512 : decode cL_same 512 = .ok (.invokestatic 74, 3) := by decide +kernel
theorem dL_same_515 : decode cL_same 515 = .ok (.goto 4, 3) := by decide +kernel
theorem dL_same_518 : decode cL_same 518 = .ok (.iconst (-1), 1) := by decide +kernel
theorem dL_same_519 : decode cL_same 519 = .ok (.if_icmp .eq 5, 3) := by decide +kernel
theorem dL_same_522 : decode cL_same 522 = .ok (.iconst 0, 1) := by decide +kernel
theorem dL_same_523 : decode cL_same 523 = .ok (.ireturn, 1) := by decide +kernel
theorem dL_same_524 : decode cL_same 524 = .ok (.iinc 11 1, 3) := by decide +kernel
theorem dL_same_527 : decode cL_same 527 = .ok (.goto (-512), 3) := by decide +kernel
theorem dL_same_530 : decode cL_same 530 = .ok (.iconst 0, 1) := by decide +kernel
theorem dL_same_531 : decode cL_same 531 = .ok (.istore 11, 2) := by decide +kernel
theorem dL_same_533 : decode cL_same 533 = .ok (.iload 11, 2) := by decide +kernel
theorem dL_same_535 : decode cL_same 535 = .ok (.bipush 8, 2) := by decide +kernel
theorem dL_same_537 : decode cL_same 537 = .ok (.if_icmp .ge 96, 3) := by decide +kernel
theorem dL_same_540 : decode cL_same 540 = .ok (.iload 11, 2) := by decide +kernel
theorem dL_same_542 : decode cL_same 542 = .ok (.iconst (-1), 1) := by decide +kernel
theorem dL_same_543 : decode cL_same 543 = .ok (.iconst 0, 1) := by decide +kernel
theorem dL_same_544 : decode cL_same 544 = .ok (.aload_n 2, 1) := by decide +kernel
theorem dL_same_545 : decode cL_same 545 = .ok (.aload_n 3, 1) := by decide +kernel
theorem dL_same_546 : decode cL_same 546 = .ok (.aload 5, 2) := by decide +kernel
theorem dL_same_548 : decode cL_same 548 = .ok (.aload 6, 2) := by decide +kernel
theorem dL_same_550 : decode cL_same 550 = .ok (.invokestatic 63, 3) := by decide +kernel
theorem dL_same_553 : decode cL_same 553 = .ok (.aload_n 2, 1) := by decide +kernel
theorem dL_same_554 : decode cL_same 554 = .ok (.aload 5, 2) := by decide +kernel
theorem dL_same_556 : decode cL_same 556 = .ok (.aload 6, 2) := by decide +kernel
theorem dL_same_558 : decode cL_same 558 = .ok (.invokestatic 74, 3) := by decide +kernel
theorem dL_same_561 : decode cL_same 561 = .ok (.istore 12, 2) := by decide +kernel
theorem dL_same_563 : decode cL_same 563 = .ok (.iconst 0, 1) := by decide +kernel
theorem dL_same_564 : decode cL_same 564 = .ok (.istore 13, 2) := by decide +kernel
theorem dL_same_566 : decode cL_same 566 = .ok (.iload 13, 2) := by decide +kernel
theorem dL_same_568 : decode cL_same 568 = .ok (.aload_n 2, 1) := by decide +kernel
theorem dL_same_569 : decode cL_same 569 = .ok (.iconst 2, 1) := by decide +kernel
theorem dL_same_570 : decode cL_same 570 = .ok (.iaload, 1) := by decide +kernel
theorem dL_same_571 : decode cL_same 571 = .ok (.if_icmp .ge 29, 3) := by decide +kernel
theorem dL_same_574 : decode cL_same 574 = .ok (.aload_n 0, 1) := by decide +kernel
theorem dL_same_575 : decode cL_same 575 = .ok (.iload 13, 2) := by decide +kernel
theorem dL_same_577 : decode cL_same 577 = .ok (.iload 11, 2) := by decide +kernel
theorem dL_same_579 : decode cL_same 579 = .ok (.invokevirtual 78, 3) := by decide +kernel
theorem dL_same_582 : decode cL_same 582 = .ok (.iload 12, 2) := by decide +kernel
theorem dL_same_584 : decode cL_same 584 = .ok (.iload 13, 2) := by decide +kernel
theorem dL_same_586 : decode cL_same 586 = .ok (.ishr, 1) := by decide +kernel
theorem dL_same_587 : decode cL_same 587 = .ok (.iconst 1, 1) := by decide +kernel
theorem dL_same_588 : decode cL_same 588 = .ok (.iand, 1) := by decide +kernel
theorem dL_same_589 : decode cL_same 589 = .ok (.if_icmp .eq 5, 3) := by decide +kernel
theorem dL_same_592 : decode cL_same 592 = .ok (.iconst 0, 1) := by decide +kernel
theorem dL_same_593 : decode cL_same 593 = .ok (.ireturn, 1) := by decide +kernel
theorem dL_same_594 : decode cL_same 594 = .ok (.iinc 13 1, 3) := by decide +kernel
theorem dL_same_597 : decode cL_same 597 = .ok (.goto (-31), 3) := by decide +kernel
theorem dL_same_600 : decode cL_same 600 = .ok (.iload 11, 2) := by decide +kernel
theorem dL_same_602 : decode cL_same 602 = .ok (.ifCond .ne 16, 3) := by decide +kernel
theorem dL_same_605 : decode cL_same 605 = .ok (.aload_n 0, 1) := by decide +kernel
theorem dL_same_606 : decode cL_same 606 = .ok (.bipush 9, 2) := by decide +kernel
theorem dL_same_608 : decode cL_same 608 = .ok (.invokevirtual 81, 3) := by decide +kernel
theorem dL_same_611 : decode cL_same 611 = .ok (.iload 12, 2) := by decide +kernel
theorem dL_same_613 : decode cL_same 613 = .ok (.if_icmp .eq 5, 3) := by decide +kernel
theorem dL_same_616 : decode cL_same 616 = .ok (.iconst 0, 1) := by decide +kernel
theorem dL_same_617 : decode cL_same 617 = .ok (.ireturn, 1) := by decide +kernel
theorem dL_same_618 : decode cL_same 618 = .ok (.iload 11, 2) := by decide +kernel
theorem dL_same_620 : decode cL_same 620 = .ok (.iconst 1, 1) := by decide +kernel
theorem dL_same_621 : decode cL_same 621 = .ok (.iload_n 1, 1) := by decide +kernel
theorem dL_same_622 : decode cL_same 622 = .ok (.iconst 3, 1) := by decide +kernel
theorem dL_same_623 : decode cL_same 623 = .ok (.invokestatic 60, 3) := by decide +kernel
theorem dL_same_626 : decode cL_same 626 = .ok (.iadd, 1) := by decide +kernel
theorem dL_same_627 : decode cL_same 627 = .ok (.iadd, 1) := by decide +kernel
theorem dL_same_628 : decode cL_same 628 = .ok (.istore 11, 2) := by decide +kernel
theorem dL_same_630 : decode cL_same 630 = .ok (.goto (-97), 3) := by decide +kernel
theorem dL_same_633 : decode cL_same 633 = .ok (.iconst 0, 1) := by decide +kernel
theorem dL_same_634 : decode cL_same 634 = .ok (.istore 11, 2) := by decide +kernel
theorem dL_same_636 : decode cL_same 636 = .ok (.iconst 0, 1) := by decide +kernel
theorem dL_same_637 : decode cL_same 637 = .ok (.istore 12, 2) := by decide +kernel
theorem dL_same_639 : decode cL_same 639 = .ok (.iload 12, 2) := by decide +kernel
theorem dL_same_641 : decode cL_same 641 = .ok (.aload_n 2, 1) := by decide +kernel
theorem dL_same_642 : decode cL_same 642 = .ok (.iconst 2, 1) := by decide +kernel
theorem dL_same_643 : decode cL_same 643 = .ok (.iaload, 1) := by decide +kernel
theorem dL_same_644 : decode cL_same 644 = .ok (.if_icmp .ge 61, 3) := by decide +kernel
theorem dL_same_647 : decode cL_same 647 = .ok (.aload_n 0, 1) := by decide +kernel
theorem dL_same_648 : decode cL_same 648 = .ok (.iload 12, 2) := by decide +kernel
theorem dL_same_650 : decode cL_same 650 = .ok (.iconst 0, 1) := by decide +kernel
theorem dL_same_651 : decode cL_same 651 = .ok (.invokevirtual 84, 3) := by decide +kernel
theorem dL_same_654 : decode cL_same 654 = .ok (.aload 4, 2) := by decide +kernel
theorem dL_same_656 : decode cL_same 656 = .ok (.iconst 2, 1) := by decide +kernel
theorem dL_same_657 : decode cL_same 657 = .ok (.iload 12, 2) := by decide +kernel
theorem dL_same_659 : decode cL_same 659 = .ok (.imul, 1) := by decide +kernel
theorem dL_same_660 : decode cL_same 660 = .ok (.iaload, 1) := by decide +kernel
theorem dL_same_661 : decode cL_same 661 = .ok (.if_icmp .ne 22, 3) := by decide +kernel
theorem dL_same_664 : decode cL_same 664 = .ok (.aload_n 0, 1) := by decide +kernel
theorem dL_same_665 : decode cL_same 665 = .ok (.iload 12, 2) := by decide +kernel
theorem dL_same_667 : decode cL_same 667 = .ok (.iconst 1, 1) := by decide +kernel
theorem dL_same_668 : decode cL_same 668 = .ok (.invokevirtual 84, 3) := by decide +kernel
theorem dL_same_671 : decode cL_same 671 = .ok (.aload 4, 2) := by decide +kernel
theorem dL_same_673 : decode cL_same 673 = .ok (.iconst 2, 1) := by decide +kernel
theorem dL_same_674 : decode cL_same 674 = .ok (.iload 12, 2) := by decide +kernel
theorem dL_same_676 : decode cL_same 676 = .ok (.imul, 1) := by decide +kernel
theorem dL_same_677 : decode cL_same 677 = .ok (.iconst 1, 1) := by decide +kernel
theorem dL_same_678 : decode cL_same 678 = .ok (.iadd, 1) := by decide +kernel
theorem dL_same_679 : decode cL_same 679 = .ok (.iaload, 1) := by decide +kernel
theorem dL_same_680 : decode cL_same 680 = .ok (.if_icmp .eq 5, 3) := by decide +kernel
theorem dL_same_683 : decode cL_same 683 = .ok (.iconst 0, 1) := by decide +kernel
theorem dL_same_684 : decode cL_same 684 = .ok (.ireturn, 1) := by decide +kernel
theorem dL_same_685 : decode cL_same 685 = .ok (.iload 11, 2) := by decide +kernel
theorem dL_same_687 : decode cL_same 687 = .ok (.aload 4, 2) := by decide +kernel
theorem dL_same_689 : decode cL_same 689 = .ok (.iconst 2, 1) := by decide +kernel
theorem dL_same_690 : decode cL_same 690 = .ok (.iload 12, 2) := by decide +kernel
theorem dL_same_692 : decode cL_same 692 = .ok (.imul, 1) := by decide +kernel
theorem dL_same_693 : decode cL_same 693 = .ok (.iconst 1, 1) := by decide +kernel
theorem dL_same_694 : decode cL_same 694 = .ok (.iadd, 1) := by decide +kernel
theorem dL_same_695 : decode cL_same 695 = .ok (.iaload, 1) := by decide +kernel
theorem dL_same_696 : decode cL_same 696 = .ok (.iadd, 1) := by decide +kernel
theorem dL_same_697 : decode cL_same 697 = .ok (.istore 11, 2) := by decide +kernel
theorem dL_same_699 : decode cL_same 699 = .ok (.iinc 12 1, 3) := by decide +kernel
theorem dL_same_702 : decode cL_same 702 = .ok (.goto (-63), 3) := by decide +kernel
theorem dL_same_705 : decode cL_same 705 = .ok (.iconst 0, 1) := by decide +kernel
theorem dL_same_706 : decode cL_same 706 = .ok (.istore 12, 2) := by decide +kernel
theorem dL_same_708 : decode cL_same 708 = .ok (.iload 12, 2) := by decide +kernel
theorem dL_same_710 : decode cL_same 710 = .ok (.aload_n 2, 1) := by decide +kernel
theorem dL_same_711 : decode cL_same 711 = .ok (.iconst 3, 1) := by decide +kernel
theorem dL_same_712 : decode cL_same 712 = .ok (.iaload, 1) := by decide +kernel
theorem dL_same_713 : decode cL_same 713 = .ok (.if_icmp .ge 168, 3) := by decide +kernel
theorem dL_same_716 : decode cL_same 716 = .ok (.aload 5, 2) := by decide +kernel
theorem dL_same_718 : decode cL_same 718 = .ok (.iload 12, 2) := by decide +kernel
theorem dL_same_720 : decode cL_same 720 = .ok (.iaload, 1) := by decide +kernel
theorem dL_same_721 : decode cL_same 721 = .ok (.istore 13, 2) := by decide +kernel
theorem dL_same_723 : decode cL_same 723 = .ok (.iload 9, 2) := by decide +kernel
theorem dL_same_725 : decode cL_same 725 = .ok (.iload 13, 2) := by decide +kernel
theorem dL_same_727 : decode cL_same 727 = .ok (.bipush 18, 2) := by decide +kernel
theorem dL_same_729 : decode cL_same 729 = .ok (.ishr, 1) := by decide +kernel
theorem dL_same_730 : decode cL_same 730 = .ok (.iconst 1, 1) := by decide +kernel
theorem dL_same_731 : decode cL_same 731 = .ok (.iand, 1) := by decide +kernel
theorem dL_same_732 : decode cL_same 732 = .ok (.iadd, 1) := by decide +kernel
theorem dL_same_733 : decode cL_same 733 = .ok (.istore 9, 2) := by decide +kernel
theorem dL_same_735 : decode cL_same 735 = .ok (.iload 10, 2) := by decide +kernel
theorem dL_same_737 : decode cL_same 737 = .ok (.iload 13, 2) := by decide +kernel
theorem dL_same_739 : decode cL_same 739 = .ok (.bipush 19, 2) := by decide +kernel
theorem dL_same_741 : decode cL_same 741 = .ok (.ishr, 1) := by decide +kernel
theorem dL_same_742 : decode cL_same 742 = .ok (.iconst 1, 1) := by decide +kernel
theorem dL_same_743 : decode cL_same 743 = .ok (.iand, 1) := by decide +kernel
theorem dL_same_744 : decode cL_same 744 = .ok (.iload 13, 2) := by decide +kernel
theorem dL_same_746 : decode cL_same 746 = .ok (.bipush 20, 2) := by decide +kernel
theorem dL_same_748 : decode cL_same 748 = .ok (.ishr, 1) := by decide +kernel
theorem dL_same_749 : decode cL_same 749 = .ok (.iconst 1, 1) := by decide +kernel
theorem dL_same_750 : decode cL_same 750 = .ok (.iand, 1) := by decide +kernel
theorem dL_same_751 : decode cL_same 751 = .ok (.iadd, 1) := by decide +kernel
theorem dL_same_752 : decode cL_same 752 = .ok (.iload 13, 2) := by decide +kernel
theorem dL_same_754 : decode cL_same 754 = .ok (.bipush 21, 2) := by decide +kernel
theorem dL_same_756 : decode cL_same 756 = .ok (.ishr, 1) := by decide +kernel
theorem dL_same_757 : decode cL_same 757 = .ok (.iconst 1, 1) := by decide +kernel
theorem dL_same_758 : decode cL_same 758 = .ok (.iand, 1) := by decide +kernel
theorem dL_same_759 : decode cL_same 759 = .ok (.iadd, 1) := by decide +kernel
theorem dL_same_760 : decode cL_same 760 = .ok (.iadd, 1) := by decide +kernel
theorem dL_same_761 : decode cL_same 761 = .ok (.istore 10, 2) := by decide +kernel
theorem dL_same_763 : decode cL_same 763 = .ok (.aload_n 0, 1) := by decide +kernel
theorem dL_same_764 : decode cL_same 764 = .ok (.iload 12, 2) := by decide +kernel
theorem dL_same_766 : decode cL_same 766 = .ok (.iconst 0, 1) := by decide +kernel
theorem dL_same_767 : decode cL_same 767 = .ok (.invokevirtual 87, 3) := by decide +kernel
theorem dL_same_770 : decode cL_same 770 = .ok (.iload 13, 2) := by decide +kernel
theorem dL_same_772 : decode cL_same 772 = .ok (.invokestatic 21, 3) := by decide +kernel
theorem dL_same_775 : decode cL_same 775 = .ok (.bipush 7, 2) := by decide +kernel
theorem dL_same_777 : decode cL_same 777 = .ok (.if_icmp .ne 8, 3) := by decide +kernel
theorem dL_same_780 : decode cL_same 780 = .ok (.bipush (-6), 2) := by decide +kernel
theorem dL_same_782 : decode cL_same 782 = .ok (.goto 8, 3) := by decide +kernel
theorem dL_same_785 : decode cL_same 785 = .ok (.iload 13, 2) := by decide +kernel
theorem dL_same_787 : decode cL_same 787 = .ok (.invokestatic 21, 3) := by decide +kernel
theorem dL_same_790 : decode cL_same 790 = .ok (.if_icmp .ne 83, 3) := by decide +kernel
theorem dL_same_793 : decode cL_same 793 = .ok (.aload_n 0, 1) := by decide +kernel
theorem dL_same_794 : decode cL_same 794 = .ok (.iload 12, 2) := by decide +kernel
theorem dL_same_796 : decode cL_same 796 = .ok (.iconst 1, 1) := by decide +kernel
theorem dL_same_797 : decode cL_same 797 = .ok (.invokevirtual 87, 3) := by decide +kernel
theorem dL_same_800 : decode cL_same 800 = .ok (.iload 13, 2) := by decide +kernel
theorem dL_same_802 : decode cL_same 802 = .ok (.invokestatic 28, 3) := by decide +kernel
theorem dL_same_805 : decode cL_same 805 = .ok (.if_icmp .ne 68, 3) := by decide +kernel
theorem dL_same_808 : decode cL_same 808 = .ok (.aload_n 0, 1) := by decide +kernel
theorem dL_same_809 : decode cL_same 809 = .ok (.iload 12, 2) := by decide +kernel
theorem dL_same_811 : decode cL_same 811 = .ok (.iconst 2, 1) := by decide +kernel
theorem dL_same_812 : decode cL_same 812 = .ok (.invokevirtual 87, 3) := by decide +kernel
theorem dL_same_815 : decode cL_same 815 = .ok (.iload 13, 2) := by decide +kernel
theorem dL_same_817 : decode cL_same 817 = .ok (.invokestatic 25, 3) := by decide +kernel
theorem dL_same_820 : decode cL_same 820 = .ok (.if_icmp .ne 53, 3) := by decide +kernel
theorem dL_same_823 : decode cL_same 823 = .ok (.aload_n 0, 1) := by decide +kernel
theorem dL_same_824 : decode cL_same 824 = .ok (.iload 12, 2) := by decide +kernel
theorem dL_same_826 : decode cL_same 826 = .ok (.iconst 3, 1) := by decide +kernel
theorem dL_same_827 : decode cL_same 827 = .ok (.invokevirtual 87, 3) := by decide +kernel
theorem dL_same_830 : decode cL_same 830 = .ok (.iload 13, 2) := by decide +kernel
theorem dL_same_832 : decode cL_same 832 = .ok (.invokestatic 40, 3) := by decide +kernel
theorem dL_same_835 : decode cL_same 835 = .ok (.if_icmp .ne 38, 3) := by decide +kernel
theorem dL_same_838 : decode cL_same 838 = .ok (.aload_n 0, 1) := by decide +kernel
theorem dL_same_839 : decode cL_same 839 = .ok (.iload 12, 2) := by decide +kernel
theorem dL_same_841 : decode cL_same 841 = .ok (.iconst 4, 1) := by decide +kernel
theorem dL_same_842 : decode cL_same 842 = .ok (.invokevirtual 87, 3) := by decide +kernel
theorem dL_same_845 : decode cL_same 845 = .ok (.iload 13, 2) := by decide +kernel
theorem dL_same_847 : decode cL_same 847 = .ok (.bipush 18, 2) := by decide +kernel
theorem dL_same_849 : decode cL_same 849 = .ok (.ishr, 1) := by decide +kernel
theorem dL_same_850 : decode cL_same 850 = .ok (.iconst 1, 1) := by decide +kernel
theorem dL_same_851 : decode cL_same 851 = .ok (.iand, 1) := by decide +kernel
theorem dL_same_852 : decode cL_same 852 = .ok (.if_icmp .ne 21, 3) := by decide +kernel
theorem dL_same_855 : decode cL_same 855 = .ok (.aload_n 0, 1) := by decide +kernel
theorem dL_same_856 : decode cL_same 856 = .ok (.iload 12, 2) := by decide +kernel
theorem dL_same_858 : decode cL_same 858 = .ok (.iconst 5, 1) := by decide +kernel
theorem dL_same_859 : decode cL_same 859 = .ok (.invokevirtual 87, 3) := by decide +kernel
theorem dL_same_862 : decode cL_same 862 = .ok (.iload 13, 2) := by decide +kernel
theorem dL_same_864 : decode cL_same 864 = .ok (.bipush 19, 2) := by decide +kernel
theorem dL_same_866 : decode cL_same 866 = .ok (.ishr, 1) := by decide +kernel
theorem dL_same_867 : decode cL_same 867 = .ok (.bipush 7, 2) := by decide +kernel
theorem dL_same_869 : decode cL_same 869 = .ok (.iand, 1) := by decide +kernel
theorem dL_same_870 : decode cL_same 870 = .ok (.if_icmp .eq 5, 3) := by decide +kernel
theorem dL_same_873 : decode cL_same 873 = .ok (.iconst 0, 1) := by decide +kernel
theorem dL_same_874 : decode cL_same 874 = .ok (.ireturn, 1) := by decide +kernel
theorem dL_same_875 : decode cL_same 875 = .ok (.iinc 12 1, 3) := by decide +kernel
theorem dL_same_878 : decode cL_same 878 = .ok (.goto (-170), 3) := by decide +kernel
theorem dL_same_881 : decode cL_same 881 = .ok (.aload_n 0, 1) := by decide +kernel
theorem dL_same_882 : decode cL_same 882 = .ok (.iconst 0, 1) := by decide +kernel
theorem dL_same_883 : decode cL_same 883 = .ok (.invokevirtual 81, 3) := by decide +kernel
theorem dL_same_886 : decode cL_same 886 = .ok (.aload_n 2, 1) := by decide +kernel
theorem dL_same_887 : decode cL_same 887 = .ok (.iconst 1, 1) := by decide +kernel
theorem dL_same_888 : decode cL_same 888 = .ok (.iaload, 1) := by decide +kernel
theorem dL_same_889 : decode cL_same 889 = .ok (.if_icmp .ne 93, 3) := by decide +kernel
theorem dL_same_892 : decode cL_same 892 = .ok (.aload_n 0, 1) := by decide +kernel
theorem dL_same_893 : decode cL_same 893 = .ok (.iconst 1, 1) := by decide +kernel
theorem dL_same_894 : decode cL_same 894 = .ok (.invokevirtual 81, 3) := by decide +kernel
theorem dL_same_897 : decode cL_same 897 = .ok (.iload 7, 2) := by decide +kernel
theorem dL_same_899 : decode cL_same 899 = .ok (.if_icmp .ne 83, 3) := by decide +kernel
theorem dL_same_902 : decode cL_same 902 = .ok (.aload_n 0, 1) := by decide +kernel
theorem dL_same_903 : decode cL_same 903 = .ok (.iconst 2, 1) := by decide +kernel
theorem dL_same_904 : decode cL_same 904 = .ok (.invokevirtual 81, 3) := by decide +kernel
theorem dL_same_907 : decode cL_same 907 = .ok (.aload_n 2, 1) := by decide +kernel
theorem dL_same_908 : decode cL_same 908 = .ok (.iconst 2, 1) := by decide +kernel
theorem dL_same_909 : decode cL_same 909 = .ok (.iaload, 1) := by decide +kernel
theorem dL_same_910 : decode cL_same 910 = .ok (.if_icmp .ne 72, 3) := by decide +kernel
theorem dL_same_913 : decode cL_same 913 = .ok (.aload_n 0, 1) := by decide +kernel
theorem dL_same_914 : decode cL_same 914 = .ok (.iconst 3, 1) := by decide +kernel
theorem dL_same_915 : decode cL_same 915 = .ok (.invokevirtual 81, 3) := by decide +kernel
theorem dL_same_918 : decode cL_same 918 = .ok (.iload 11, 2) := by decide +kernel
theorem dL_same_920 : decode cL_same 920 = .ok (.if_icmp .ne 62, 3) := by decide +kernel
theorem dL_same_923 : decode cL_same 923 = .ok (.aload_n 0, 1) := by decide +kernel
theorem dL_same_924 : decode cL_same 924 = .ok (.iconst 4, 1) := by decide +kernel
theorem dL_same_925 : decode cL_same 925 = .ok (.invokevirtual 81, 3) := by decide +kernel
theorem dL_same_928 : decode cL_same 928 = .ok (.aload_n 2, 1) := by decide +kernel
theorem dL_same_929 : decode cL_same 929 = .ok (.iconst 3, 1) := by decide +kernel
theorem dL_same_930 : decode cL_same 930 = .ok (.iaload, 1) := by decide +kernel
theorem dL_same_931 : decode cL_same 931 = .ok (.if_icmp .ne 51, 3) := by decide +kernel
theorem dL_same_934 : decode cL_same 934 = .ok (.aload_n 0, 1) := by decide +kernel
theorem dL_same_935 : decode cL_same 935 = .ok (.iconst 5, 1) := by decide +kernel
theorem dL_same_936 : decode cL_same 936 = .ok (.invokevirtual 81, 3) := by decide +kernel
theorem dL_same_939 : decode cL_same 939 = .ok (.iload 9, 2) := by decide +kernel
theorem dL_same_941 : decode cL_same 941 = .ok (.if_icmp .ne 41, 3) := by decide +kernel
theorem dL_same_944 : decode cL_same 944 = .ok (.aload_n 0, 1) := by decide +kernel
theorem dL_same_945 : decode cL_same 945 = .ok (.bipush 6, 2) := by decide +kernel
theorem dL_same_947 : decode cL_same 947 = .ok (.invokevirtual 81, 3) := by decide +kernel
theorem dL_same_950 : decode cL_same 950 = .ok (.iload 10, 2) := by decide +kernel
theorem dL_same_952 : decode cL_same 952 = .ok (.if_icmp .ne 30, 3) := by decide +kernel
theorem dL_same_955 : decode cL_same 955 = .ok (.aload_n 0, 1) := by decide +kernel
theorem dL_same_956 : decode cL_same 956 = .ok (.bipush 7, 2) := by decide +kernel
theorem dL_same_958 : decode cL_same 958 = .ok (.invokevirtual 81, 3) := by decide +kernel
theorem dL_same_961 : decode cL_same 961 = .ok (.aload_n 2, 1) := by decide +kernel
theorem dL_same_962 : decode cL_same 962 = .ok (.iconst 0, 1) := by decide +kernel
theorem dL_same_963 : decode cL_same 963 = .ok (.iaload, 1) := by decide +kernel
theorem dL_same_964 : decode cL_same 964 = .ok (.if_icmp .ne 18, 3) := by decide +kernel
theorem dL_same_967 : decode cL_same 967 = .ok (.aload_n 0, 1) := by decide +kernel
theorem dL_same_968 : decode cL_same 968 = .ok (.bipush 8, 2) := by decide +kernel
theorem dL_same_970 : decode cL_same 970 = .ok (.invokevirtual 81, 3) := by decide +kernel
theorem dL_same_973 : decode cL_same 973 = .ok (.iload 8, 2) := by decide +kernel
theorem dL_same_975 : decode cL_same 975 = .ok (.if_icmp .ne 7, 3) := by decide +kernel
theorem dL_same_978 : decode cL_same 978 = .ok (.iconst 1, 1) := by decide +kernel
theorem dL_same_979 : decode cL_same 979 = .ok (.goto 4, 3) := by decide +kernel
theorem dL_same_982 : decode cL_same 982 = .ok (.iconst 0, 1) := by decide +kernel
theorem dL_same_983 : decode cL_same 983 = .ok (.ireturn, 1) := by decide +kernel
theorem dL_law_0 : decode cL_law 0 = .ok (.new 48, 3) := by decide +kernel
theorem dL_law_3 : decode cL_law 3 = .ok (.dup, 1) := by decide +kernel
theorem dL_law_4 : decode cL_law 4 = .ok (.invokespecial 89, 3) := by decide +kernel
theorem dL_law_7 : decode cL_law 7 = .ok (.astore_n 1, 1) := by decide +kernel
theorem dL_law_8 : decode cL_law 8 = .ok (.iconst 4, 1) := by decide +kernel
theorem dL_law_9 : decode cL_law 9 = .ok (.newarray .int, 2) := by decide +kernel
theorem dL_law_11 : decode cL_law 11 = .ok (.astore_n 2, 1) := by decide +kernel
theorem dL_law_12 : decode cL_law 12 = .ok (.bipush 24, 2) := by decide +kernel
theorem dL_law_14 : decode cL_law 14 = .ok (.newarray .int, 2) := by decide +kernel
theorem dL_law_16 : decode cL_law 16 = .ok (.astore_n 3, 1) := by decide +kernel
theorem dL_law_17 : decode cL_law 17 = .ok (.bipush 12, 2) := by decide +kernel
theorem dL_law_19 : decode cL_law 19 = .ok (.newarray .int, 2) := by decide +kernel
theorem dL_law_21 : decode cL_law 21 = .ok (.astore 4, 2) := by decide +kernel
theorem dL_law_23 : decode cL_law 23 = .ok (.bipush 64, 2) := by decide +kernel
theorem dL_law_25 : decode cL_law 25 = .ok (.newarray .int, 2) := by decide +kernel
theorem dL_law_27 : decode cL_law 27 = .ok (.astore 5, 2) := by decide +kernel
theorem dL_law_29 : decode cL_law 29 = .ok (.iconst 2, 1) := by decide +kernel
theorem dL_law_30 : decode cL_law 30 = .ok (.newarray .long, 2) := by decide +kernel
theorem dL_law_32 : decode cL_law 32 = .ok (.astore 6, 2) := by decide +kernel
theorem dL_law_34 : decode cL_law 34 = .ok (.aload_n 2, 1) := by decide +kernel
theorem dL_law_35 : decode cL_law 35 = .ok (.iconst 0, 1) := by decide +kernel
theorem dL_law_36 : decode cL_law 36 = .ok (.bipush 8, 2) := by decide +kernel
theorem dL_law_38 : decode cL_law 38 = .ok (.iastore, 1) := by decide +kernel
theorem dL_law_39 : decode cL_law 39 = .ok (.iconst 0, 1) := by decide +kernel
theorem dL_law_40 : decode cL_law 40 = .ok (.istore 7, 2) := by decide +kernel
theorem dL_law_42 : decode cL_law 42 = .ok (.iload 7, 2) := by decide +kernel
theorem dL_law_44 : decode cL_law 44 = .ok (.bipush 18, 2) := by decide +kernel
theorem dL_law_46 : decode cL_law 46 = .ok (.if_icmp .ge 1189, 3) := by decide +kernel
theorem dL_law_49 : decode cL_law 49 = .ok (.aload_n 0, 1) := by decide +kernel
theorem dL_law_50 : decode cL_law 50 = .ok (.iload 7, 2) := by decide +kernel
theorem dL_law_52 : decode cL_law 52 = .ok (.invokestatic 90, 3) := by decide +kernel
theorem dL_law_55 : decode cL_law 55 = .ok (.istore 8, 2) := by decide +kernel
theorem dL_law_57 : decode cL_law 57 = .ok (.iload 8, 2) := by decide +kernel
theorem dL_law_59 : decode cL_law 59 = .ok (.bipush 10, 2) := by decide +kernel
theorem dL_law_61 : decode cL_law 61 = .ok (.invokestatic 60, 3) := by decide +kernel
theorem dL_law_64 : decode cL_law 64 = .ok (.istore 9, 2) := by decide +kernel
theorem dL_law_66 : decode cL_law 66 = .ok (.aload_n 2, 1) := by decide +kernel
theorem dL_law_67 : decode cL_law 67 = .ok (.iconst 1, 1) := by decide +kernel
theorem dL_law_68 : decode cL_law 68 = .ok (.iaload, 1) := by decide +kernel
theorem dL_law_69 : decode cL_law 69 = .ok (.ifCond .ne 7, 3) := by decide +kernel
theorem dL_law_72 : decode cL_law 72 = .ok (.iconst 0, 1) := by decide +kernel
theorem dL_law_73 : decode cL_law 73 = .ok (.goto 13, 3) := by decide +kernel
theorem dL_law_76 : decode cL_law 76 = .ok (.iload 8, 2) := by decide +kernel
theorem dL_law_78 : decode cL_law 78 = .ok (.iconst 4, 1) := by decide +kernel
theorem dL_law_79 : decode cL_law 79 = .ok (.ishr, 1) := by decide +kernel
theorem dL_law_80 : decode cL_law 80 = .ok (.aload_n 2, 1) := by decide +kernel
theorem dL_law_81 : decode cL_law 81 = .ok (.iconst 1, 1) := by decide +kernel
theorem dL_law_82 : decode cL_law 82 = .ok (.iaload, 1) := by decide +kernel
theorem dL_law_83 : decode cL_law 83 = .ok (.invokestatic 60, 3) := by decide +kernel
theorem dL_law_86 : decode cL_law 86 = .ok (.istore 10, 2) := by decide +kernel
theorem dL_law_88 : decode cL_law 88 = .ok (.aload_n 2, 1) := by decide +kernel
theorem dL_law_89 : decode cL_law 89 = .ok (.iconst 1, 1) := by decide +kernel
theorem dL_law_90 : decode cL_law 90 = .ok (.iaload, 1) := by decide +kernel
theorem dL_law_91 : decode cL_law 91 = .ok (.ifCond .le 19, 3) := by decide +kernel
theorem dL_law_94 : decode cL_law 94 = .ok (.aload_n 3, 1) := by decide +kernel
theorem dL_law_95 : decode cL_law 95 = .ok (.iconst 4, 1) := by decide +kernel
theorem dL_law_96 : decode cL_law 96 = .ok (.iload 10, 2) := by decide +kernel
theorem dL_law_98 : decode cL_law 98 = .ok (.imul, 1) := by decide +kernel
theorem dL_law_99 : decode cL_law 99 = .ok (.iconst 1, 1) := by decide +kernel
theorem dL_law_100 : decode cL_law 100 = .ok (.iadd, 1) := by decide +kernel
theorem dL_law_101 : decode cL_law 101 = .ok (.iaload, 1) := by decide +kernel
theorem dL_law_102 : decode cL_law 102 = .ok (.iconst 1, 1) := by decide +kernel
theorem dL_law_103 : decode cL_law 103 = .ok (.if_icmp .ne 7, 3) := by decide +kernel
theorem dL_law_106 : decode cL_law 106 = .ok (.iconst 1, 1) := by decide +kernel
theorem dL_law_107 : decode cL_law 107 = .ok (.goto 4, 3) := by decide +kernel
theorem dL_law_110 : decode cL_law 110 = .ok (.iconst 0, 1) := by decide +kernel
theorem dL_law_111 : decode cL_law 111 = .ok (.istore 11, 2) := by decide +kernel
theorem dL_law_113 : decode cL_law 113 = .ok (.iload 11, 2) := by decide +kernel
theorem dL_law_115 : decode cL_law 115 = .ok (.ifCond .eq 21, 3) := by decide +kernel
theorem dL_law_118 : decode cL_law 118 = .ok (.aload_n 3, 1) := by decide +kernel
theorem dL_law_119 : decode cL_law 119 = .ok (.iconst 4, 1) := by decide +kernel
theorem dL_law_120 : decode cL_law 120 = .ok (.iload 10, 2) := by decide +kernel
theorem dL_law_122 : decode cL_law 122 = .ok (.imul, 1) := by decide +kernel
theorem dL_law_123 : decode cL_law 123 = .ok (.iconst 3, 1) := by decide +kernel
theorem dL_law_124 : decode cL_law 124 = .ok (.iadd, 1) := by decide +kernel
theorem dL_law_125 : decode cL_law 125 = .ok (.iaload, 1) := by decide +kernel
theorem dL_law_126 : decode cL_law 126 = .ok (.aload_n 2, 1) := by decide +kernel
theorem dL_law_127 : decode cL_law 127 = .ok (.iconst 0, 1) := by decide +kernel
theorem dL_law_128 : decode cL_law 128 = .ok (.iaload, 1) := by decide +kernel
theorem dL_law_129 : decode cL_law 129 = .ok (.if_icmp .ge 7, 3) := by decide +kernel
theorem dL_law_132 : decode cL_law 132 = .ok (.iconst 1, 1) := by decide +kernel
theorem dL_law_133 : decode cL_law 133 = .ok (.goto 4, 3) := by decide +kernel
theorem dL_law_136 : decode cL_law 136 = .ok (.iconst 0, 1) := by decide +kernel
theorem dL_law_137 : decode cL_law 137 = .ok (.istore 12, 2) := by decide +kernel
theorem dL_law_139 : decode cL_law 139 = .ok (.aload_n 2, 1) := by decide +kernel
theorem dL_law_140 : decode cL_law 140 = .ok (.iconst 3, 1) := by decide +kernel
theorem dL_law_141 : decode cL_law 141 = .ok (.iaload, 1) := by decide +kernel
theorem dL_law_142 : decode cL_law 142 = .ok (.bipush 50, 2) := by decide +kernel
theorem dL_law_144 : decode cL_law 144 = .ok (.if_icmp .le 6, 3) := by decide +kernel
theorem dL_law_147 : decode cL_law 147 = .ok (.goto 1082, 3) := by decide +kernel
theorem dL_law_150 : decode cL_law 150 = .ok (.iload 9, 2) := by decide +kernel
theorem dL_law_152 : decode cL_law 152 = .ok (.iconst 3, 1) := by decide +kernel
theorem dL_law_153 : decode cL_law 153 = .ok (.if_icmp .ge 159, 3) := by decide +kernel
theorem dL_law_156 : decode cL_law 156 = .ok (.aload_n 2, 1) := by decide +kernel
theorem dL_law_157 : decode cL_law 157 = .ok (.iconst 1, 1) := by decide +kernel
theorem dL_law_158 : decode cL_law 158 = .ok (.iaload, 1) := by decide +kernel
theorem dL_law_159 : decode cL_law 159 = .ok (.bipush 6, 2) := by decide +kernel
theorem dL_law_161 : decode cL_law 161 = .ok (.if_icmp .ne 6, 3) := by decide +kernel
theorem dL_law_164 : decode cL_law 164 = .ok (.goto 1065, 3) := by decide +kernel
theorem dL_law_167 : decode cL_law 167 = .ok (.aload_n 2, 1) := by decide +kernel
theorem dL_law_168 : decode cL_law 168 = .ok (.iconst 1, 1) := by decide +kernel
theorem dL_law_169 : decode cL_law 169 = .ok (.iaload, 1) := by decide +kernel
theorem dL_law_170 : decode cL_law 170 = .ok (.ifCond .eq 15, 3) := by decide +kernel
theorem dL_law_173 : decode cL_law 173 = .ok (.iload 8, 2) := by decide +kernel
theorem dL_law_175 : decode cL_law 175 = .ok (.bipush 7, 2) := by decide +kernel
theorem dL_law_177 : decode cL_law 177 = .ok (.ishr, 1) := by decide +kernel
theorem dL_law_178 : decode cL_law 178 = .ok (.iconst 5, 1) := by decide +kernel
theorem dL_law_179 : decode cL_law 179 = .ok (.invokestatic 60, 3) := by decide +kernel
theorem dL_law_182 : decode cL_law 182 = .ok (.ifCond .ne 7, 3) := by decide +kernel
theorem dL_law_185 : decode cL_law 185 = .ok (.iconst 1, 1) := by decide +kernel
theorem dL_law_186 : decode cL_law 186 = .ok (.goto 4, 3) := by decide +kernel
theorem dL_law_189 : decode cL_law 189 = .ok (.iconst 0, 1) := by decide +kernel
theorem dL_law_190 : decode cL_law 190 = .ok (.istore 13, 2) := by decide +kernel
theorem dL_law_192 : decode cL_law 192 = .ok (.aload_n 1, 1) := by decide +kernel
theorem dL_law_193 : decode cL_law 193 = .ok (.iload 13, 2) := by decide +kernel
theorem dL_law_195 : decode cL_law 195 = .ok (.ifCond .eq 8, 3) := by decide +kernel
theorem dL_law_198 : decode cL_law 198 = .ok (.bipush (-6), 2) := by decide +kernel
theorem dL_law_200 : decode cL_law 200 = .ok (.goto 5, 3) := by decide +kernel
theorem dL_law_203 : decode cL_law 203 = .ok (.iload 10, 2) := by decide +kernel
theorem dL_law_205 : decode cL_law 205 = .ok (.invokevirtual 94, 3) := by decide +kernel
theorem dL_law_208 : decode cL_law 208 = .ok (.iload 13, 2) := by decide +kernel
theorem dL_law_210 : decode cL_law 210 = .ok (.ifCond .ne 8, 3) := by decide +kernel
theorem dL_law_213 : decode cL_law 213 = .ok (.iload 12, 2) := by decide +kernel
theorem dL_law_215 : decode cL_law 215 = .ok (.ifCond .eq 9, 3) := by decide +kernel
theorem dL_law_218 : decode cL_law 218 = .ok (.aload_n 2, 1) := by decide +kernel
theorem dL_law_219 : decode cL_law 219 = .ok (.iconst 1, 1) := by decide +kernel
theorem dL_law_220 : decode cL_law 220 = .ok (.iaload, 1) := by decide +kernel
theorem dL_law_221 : decode cL_law 221 = .ok (.goto 14, 3) := by decide +kernel
theorem dL_law_224 : decode cL_law 224 = .ok (.iload 11, 2) := by decide +kernel
theorem dL_law_226 : decode cL_law 226 = .ok (.ifCond .eq 8, 3) := by decide +kernel
theorem dL_law_229 : decode cL_law 229 = .ok (.bipush (-5), 2) := by decide +kernel
theorem dL_law_231 : decode cL_law 231 = .ok (.goto 4, 3) := by decide +kernel
theorem dL_law_234 : decode cL_law 234 = .ok (.iconst (-1), 1) := by decide +kernel
theorem dL_law_235 : decode cL_law 235 = .ok (.if_icmp .eq 5, 3) := by decide +kernel
theorem dL_law_238 : decode cL_law 238 = .ok (.iconst 0, 1) := by decide +kernel
theorem dL_law_239 : decode cL_law 239 = .ok (.ireturn, 1) := by decide +kernel
theorem dL_law_240 : decode cL_law 240 = .ok (.iload 13, 2) := by decide +kernel
theorem dL_law_242 : decode cL_law 242 = .ok (.ifCond .ne 11, 3) := by decide +kernel
theorem dL_law_245 : decode cL_law 245 = .ok (.iload 12, 2) := by decide +kernel
theorem dL_law_247 : decode cL_law 247 = .ok (.ifCond .ne 6, 3) := by decide +kernel
theorem dL_law_250 : decode cL_law 250 = .ok (.goto 979, 3) := by decide +kernel
theorem dL_law_253 : decode cL_law 253 = .ok (.iconst 4, 1) := by decide +kernel
theorem dL_law_254 : decode cL_law 254 = .ok (.aload_n 2, 1) := by decide +kernel
theorem dL_law_255 : decode cL_law 255 = .ok (.iconst 1, 1) := by decide +kernel
theorem dL_law_256 : decode cL_law 256 = .ok (.iaload, 1) := by decide +kernel
theorem dL_law_257 : decode cL_law 257 = .ok (.imul, 1) := by decide +kernel
theorem dL_law_258 : decode cL_law 258 = .ok (.istore 14, 2) := by decide +kernel
theorem dL_law_260 : decode cL_law 260 = .ok (.aload_n 3, 1) := by decide +kernel
theorem dL_law_261 : decode cL_law 261 = .ok (.iload 14, 2) := by decide +kernel
theorem dL_law_263 : decode cL_law 263 = .ok (.iload 13, 2) := by decide +kernel
theorem dL_law_265 : decode cL_law 265 = .ok (.ifCond .eq 7, 3) := by decide +kernel
theorem dL_law_268 : decode cL_law 268 = .ok (.iconst (-1), 1) := by decide +kernel
theorem dL_law_269 : decode cL_law 269 = .ok (.goto 5, 3) := by decide +kernel
theorem dL_law_272 : decode cL_law 272 = .ok (.iload 10, 2) := by decide +kernel
theorem dL_law_274 : decode cL_law 274 = .ok (.iastore, 1) := by decide +kernel
theorem dL_law_275 : decode cL_law 275 = .ok (.aload_n 3, 1) := by decide +kernel
theorem dL_law_276 : decode cL_law 276 = .ok (.iload 14, 2) := by decide +kernel
theorem dL_law_278 : decode cL_law 278 = .ok (.iconst 1, 1) := by decide +kernel
theorem dL_law_279 : decode cL_law 279 = .ok (.iadd, 1) := by decide +kernel
theorem dL_law_280 : decode cL_law 280 = .ok (.iconst 1, 1) := by decide +kernel
theorem dL_law_281 : decode cL_law 281 = .ok (.iastore, 1) := by decide +kernel
theorem dL_law_282 : decode cL_law 282 = .ok (.aload_n 2, 1) := by decide +kernel
theorem dL_law_283 : decode cL_law 283 = .ok (.iconst 1, 1) := by decide +kernel
theorem dL_law_284 : decode cL_law 284 = .ok (.dup2, 1) := by decide +kernel
theorem dL_law_285 : decode cL_law 285 = .ok (.iaload, 1) := by decide +kernel
theorem dL_law_286 : decode cL_law 286 = .ok (.iconst 1, 1) := by decide +kernel
theorem dL_law_287 : decode cL_law 287 = .ok (.iadd, 1) := by decide +kernel
theorem dL_law_288 : decode cL_law 288 = .ok (.iastore, 1) := by decide +kernel
theorem dL_law_289 : decode cL_law 289 = .ok (.iload 13, 2) := by decide +kernel
theorem dL_law_291 : decode cL_law 291 = .ok (.ifCond .ne 18, 3) := by decide +kernel
theorem dL_law_294 : decode cL_law 294 = .ok (.aload_n 2, 1) := by decide +kernel
theorem dL_law_295 : decode cL_law 295 = .ok (.iconst 1, 1) := by decide +kernel
theorem dL_law_296 : decode cL_law 296 = .ok (.iaload, 1) := by decide +kernel
theorem dL_law_297 : decode cL_law 297 = .ok (.iconst 1, 1) := by decide +kernel
theorem dL_law_298 : decode cL_law 298 = .ok (.isub, 1) := by decide +kernel
theorem dL_law_299 : decode cL_law 299 = .ok (.iconst 0, 1) := by decide +kernel
theorem dL_law_300 : decode cL_law 300 = .ok (.iload 10, 2) := by decide +kernel
theorem dL_law_302 : decode cL_law 302 = .ok (.aload_n 2, 1) := by decide +kernel
theorem dL_law_303 : decode cL_law 303 = .ok (.aload_n 3, 1) := by decide +kernel
theorem dL_law_304 : decode cL_law 304 = .ok (.aload 5, 2) := by decide +kernel
theorem dL_law_306 : decode cL_law 306 = .ok (.invokestatic 17, 3) := by decide +kernel
theorem dL_law_309 : decode cL_law 309 = .ok (.goto 899, 3) := by decide +kernel
theorem dL_law_312 : decode cL_law 312 = .ok (.iload 9, 2) := by decide +kernel
theorem dL_law_314 : decode cL_law 314 = .ok (.iconst 3, 1) := by decide +kernel
theorem dL_law_315 : decode cL_law 315 = .ok (.if_icmp .eq 9, 3) := by decide +kernel
theorem dL_law_318 : decode cL_law 318 = .ok (.iload 9, 2) := by decide +kernel
theorem dL_law_320 : decode cL_law 320 = .ok (.iconst 4, 1) := by decide +kernel
theorem dL_law_321 : decode cL_law 321 = .ok (.if_icmp .ne 98, 3) := by decide +kernel
theorem dL_law_324 : decode cL_law 324 = .ok (.aload_n 2, 1) := by decide +kernel
theorem dL_law_325 : decode cL_law 325 = .ok (.iconst 2, 1) := by decide +kernel
theorem dL_law_326 : decode cL_law 326 = .ok (.iaload, 1) := by decide +kernel
theorem dL_law_327 : decode cL_law 327 = .ok (.bipush 6, 2) := by decide +kernel
theorem dL_law_329 : decode cL_law 329 = .ok (.if_icmp .ne 6, 3) := by decide +kernel
theorem dL_law_332 : decode cL_law 332 = .ok (.goto 897, 3) := by decide +kernel
theorem dL_law_335 : decode cL_law 335 = .ok (.aload_n 1, 1) := by decide +kernel
theorem dL_law_336 : decode cL_law 336 = .ok (.iload 10, 2) := by decide +kernel
theorem dL_law_338 : decode cL_law 338 = .ok (.invokevirtual 95, 3) := by decide +kernel
theorem dL_law_341 : decode cL_law 341 = .ok (.iload 12, 2) := by decide +kernel
theorem dL_law_343 : decode cL_law 343 = .ok (.ifCond .eq 9, 3) := by decide +kernel
theorem dL_law_346 : decode cL_law 346 = .ok (.aload_n 2, 1) := by decide +kernel
theorem dL_law_347 : decode cL_law 347 = .ok (.iconst 2, 1) := by decide +kernel
theorem dL_law_348 : decode cL_law 348 = .ok (.iaload, 1) := by decide +kernel
theorem dL_law_349 : decode cL_law 349 = .ok (.goto 14, 3) := by decide +kernel
theorem dL_law_352 : decode cL_law 352 = .ok (.iload 11, 2) := by decide +kernel
theorem dL_law_354 : decode cL_law 354 = .ok (.ifCond .eq 8, 3) := by decide +kernel
theorem dL_law_357 : decode cL_law 357 = .ok (.bipush (-5), 2) := by decide +kernel
theorem dL_law_359 : decode cL_law 359 = .ok (.goto 4, 3) := by decide +kernel
theorem dL_law_362 : decode cL_law 362 = .ok (.iconst (-1), 1) := by decide +kernel
theorem dL_law_363 : decode cL_law 363 = .ok (.if_icmp .eq 5, 3) := by decide +kernel
theorem dL_law_366 : decode cL_law 366 = .ok (.iconst 0, 1) := by decide +kernel
theorem dL_law_367 : decode cL_law 367 = .ok (.ireturn, 1) := by decide +kernel
theorem dL_law_368 : decode cL_law 368 = .ok (.iload 12, 2) := by decide +kernel
theorem dL_law_370 : decode cL_law 370 = .ok (.ifCond .ne 6, 3) := by decide +kernel
theorem dL_law_373 : decode cL_law 373 = .ok (.goto 856, 3) := by decide +kernel
theorem dL_law_376 : decode cL_law 376 = .ok (.aload 4, 2) := by decide +kernel
theorem dL_law_378 : decode cL_law 378 = .ok (.iconst 2, 1) := by decide +kernel
theorem dL_law_379 : decode cL_law 379 = .ok (.aload_n 2, 1) := by decide +kernel
theorem dL_law_380 : decode cL_law 380 = .ok (.iconst 2, 1) := by decide +kernel
theorem dL_law_381 : decode cL_law 381 = .ok (.iaload, 1) := by decide +kernel
theorem dL_law_382 : decode cL_law 382 = .ok (.imul, 1) := by decide +kernel
theorem dL_law_383 : decode cL_law 383 = .ok (.iload 10, 2) := by decide +kernel
theorem dL_law_385 : decode cL_law 385 = .ok (.iastore, 1) := by decide +kernel
theorem dL_law_386 : decode cL_law 386 = .ok (.aload 4, 2) := by decide +kernel
theorem dL_law_388 : decode cL_law 388 = .ok (.iconst 2, 1) := by decide +kernel
theorem dL_law_389 : decode cL_law 389 = .ok (.aload_n 2, 1) := by decide +kernel
theorem dL_law_390 : decode cL_law 390 = .ok (.iconst 2, 1) := by decide +kernel
theorem dL_law_391 : decode cL_law 391 = .ok (.iaload, 1) := by decide +kernel
theorem dL_law_392 : decode cL_law 392 = .ok (.imul, 1) := by decide +kernel
theorem dL_law_393 : decode cL_law 393 = .ok (.iconst 1, 1) := by decide +kernel
theorem dL_law_394 : decode cL_law 394 = .ok (.iadd, 1) := by decide +kernel
theorem dL_law_395 : decode cL_law 395 = .ok (.iconst 1, 1) := by decide +kernel
theorem dL_law_396 : decode cL_law 396 = .ok (.iastore, 1) := by decide +kernel
theorem dL_law_397 : decode cL_law 397 = .ok (.bipush 7, 2) := by decide +kernel
theorem dL_law_399 : decode cL_law 399 = .ok (.aload_n 2, 1) := by decide +kernel
theorem dL_law_400 : decode cL_law 400 = .ok (.iconst 2, 1) := by decide +kernel
theorem dL_law_401 : decode cL_law 401 = .ok (.dup2, 1) := by decide +kernel
theorem dL_law_402 : decode cL_law 402 = .ok (.iaload, 1) := by decide +kernel
theorem dL_law_403 : decode cL_law 403 = .ok (.dup_x2, 1) := by decide +kernel
theorem dL_law_404 : decode cL_law 404 = .ok (.iconst 1, 1) := by decide +kernel
theorem dL_law_405 : decode cL_law 405 = .ok (.iadd, 1) := by decide +kernel
theorem dL_law_406 : decode cL_law 406 = .ok (.iastore, 1) := by decide +kernel
theorem dL_law_407 : decode cL_law 407 = .ok (.iload 10, 2) := by decide +kernel
theorem dL_law_409 : decode cL_law 409 = .ok (.aload_n 2, 1) := by decide +kernel
theorem dL_law_410 : decode cL_law 410 = .ok (.aload_n 3, 1) := by decide +kernel
theorem dL_law_411 : decode cL_law 411 = .ok (.aload 5, 2) := by decide +kernel
theorem dL_law_413 : decode cL_law 413 = .ok (.invokestatic 17, 3) := by decide +kernel
theorem dL_law_416 : decode cL_law 416 = .ok (.goto 792, 3) := by decide +kernel
theorem dL_law_419 : decode cL_law 419 = .ok (.iload 9, 2) := by decide +kernel
theorem dL_law_421 : decode cL_law 421 = .ok (.iconst 5, 1) := by decide +kernel
theorem dL_law_422 : decode cL_law 422 = .ok (.if_icmp .ne 187, 3) := by decide +kernel
theorem dL_law_425 : decode cL_law 425 = .ok (.aload_n 2, 1) := by decide +kernel
theorem dL_law_426 : decode cL_law 426 = .ok (.iconst 3, 1) := by decide +kernel
theorem dL_law_427 : decode cL_law 427 = .ok (.iaload, 1) := by decide +kernel
theorem dL_law_428 : decode cL_law 428 = .ok (.ifCond .le 181, 3) := by decide +kernel
theorem dL_law_431 : decode cL_law 431 = .ok (.iconst 0, 1) := by decide +kernel
theorem dL_law_432 : decode cL_law 432 = .ok (.istore 13, 2) := by decide +kernel
theorem dL_law_434 : decode cL_law 434 = .ok (.iload 13, 2) := by decide +kernel
theorem dL_law_436 : decode cL_law 436 = .ok (.iconst 3, 1) := by decide +kernel
theorem dL_law_437 : decode cL_law 437 = .ok (.if_icmp .ge 169, 3) := by decide +kernel
theorem dL_law_440 : decode cL_law 440 = .ok (.iload 8, 2) := by decide +kernel
theorem dL_law_442 : decode cL_law 442 = .ok (.iconst 4, 1) := by decide +kernel
theorem dL_law_443 : decode cL_law 443 = .ok (.iconst 2, 1) := by decide +kernel
theorem dL_law_444 : decode cL_law 444 = .ok (.iload 13, 2) := by decide +kernel
theorem dL_law_446 : decode cL_law 446 = .ok (.imul, 1) := by decide +kernel
theorem dL_law_447 : decode cL_law 447 = .ok (.iadd, 1) := by decide +kernel
theorem dL_law_448 : decode cL_law 448 = .ok (.ishr, 1) := by decide +kernel
theorem dL_law_449 : decode cL_law 449 = .ok (.aload_n 2, 1) := by decide +kernel
theorem dL_law_450 : decode cL_law 450 = .ok (.iconst 3, 1) := by decide +kernel
theorem dL_law_451 : decode cL_law 451 = .ok (.iaload, 1) := by decide +kernel
theorem dL_law_452 : decode cL_law 452 = .ok (.invokestatic 60, 3) := by decide +kernel
theorem dL_law_455 : decode cL_law 455 = .ok (.istore 14, 2) := by decide +kernel
theorem dL_law_457 : decode cL_law 457 = .ok (.iload 8, 2) := by decide +kernel
theorem dL_law_459 : decode cL_law 459 = .ok (.bipush 9, 2) := by decide +kernel
theorem dL_law_461 : decode cL_law 461 = .ok (.iload 13, 2) := by decide +kernel
theorem dL_law_463 : decode cL_law 463 = .ok (.iadd, 1) := by decide +kernel
theorem dL_law_464 : decode cL_law 464 = .ok (.ishr, 1) := by decide +kernel
theorem dL_law_465 : decode cL_law 465 = .ok (.iconst 3, 1) := by decide +kernel
theorem dL_law_466 : decode cL_law 466 = .ok (.invokestatic 60, 3) := by decide +kernel
theorem dL_law_469 : decode cL_law 469 = .ok (.istore 15, 2) := by decide +kernel
theorem dL_law_471 : decode cL_law 471 = .ok (.aload 5, 2) := by decide +kernel
theorem dL_law_473 : decode cL_law 473 = .ok (.iload 14, 2) := by decide +kernel
theorem dL_law_475 : decode cL_law 475 = .ok (.iaload, 1) := by decide +kernel
theorem dL_law_476 : decode cL_law 476 = .ok (.bipush 18, 2) := by decide +kernel
theorem dL_law_478 : decode cL_law 478 = .ok (.ishr, 1) := by decide +kernel
theorem dL_law_479 : decode cL_law 479 = .ok (.iconst 1, 1) := by decide +kernel
theorem dL_law_480 : decode cL_law 480 = .ok (.iand, 1) := by decide +kernel
theorem dL_law_481 : decode cL_law 481 = .ok (.iconst 1, 1) := by decide +kernel
theorem dL_law_482 : decode cL_law 482 = .ok (.if_icmp .ne 23, 3) := by decide +kernel
theorem dL_law_485 : decode cL_law 485 = .ok (.aload 5, 2) := by decide +kernel
theorem dL_law_487 : decode cL_law 487 = .ok (.iload 14, 2) := by decide +kernel
theorem dL_law_489 : decode cL_law 489 = .ok (.iaload, 1) := by decide +kernel
theorem dL_law_490 : decode cL_law 490 = .ok (.bipush 19, 2) := by decide +kernel
theorem dL_law_492 : decode cL_law 492 = .ok (.iload 15, 2) := by decide +kernel
theorem dL_law_494 : decode cL_law 494 = .ok (.iadd, 1) := by decide +kernel
theorem dL_law_495 : decode cL_law 495 = .ok (.ishr, 1) := by decide +kernel
theorem dL_law_496 : decode cL_law 496 = .ok (.iconst 1, 1) := by decide +kernel
theorem dL_law_497 : decode cL_law 497 = .ok (.iand, 1) := by decide +kernel
theorem dL_law_498 : decode cL_law 498 = .ok (.ifCond .ne 7, 3) := by decide +kernel
theorem dL_law_501 : decode cL_law 501 = .ok (.iconst 1, 1) := by decide +kernel
theorem dL_law_502 : decode cL_law 502 = .ok (.goto 4, 3) := by decide +kernel
theorem dL_law_505 : decode cL_law 505 = .ok (.iconst 0, 1) := by decide +kernel
theorem dL_law_506 : decode cL_law 506 = .ok (.istore 16, 2) := by decide +kernel
theorem dL_law_508 : decode cL_law 508 = .ok (.iload 16, 2) := by decide +kernel
theorem dL_law_510 : decode cL_law 510 = .ok (.ifCond .eq 7, 3) := by decide +kernel
theorem dL_law_513 : decode cL_law 513 = .ok (.iconst 1, 1) := by decide +kernel
theorem dL_law_514 : decode cL_law 514 = .ok (.goto 4, 3) := by decide +kernel
theorem dL_law_517 : decode cL_law 517 = .ok (.iconst 0, 1) := by decide +kernel
theorem dL_law_518 : decode cL_law 518 = .ok (.istore 17, 2) := by decide +kernel
theorem dL_law_520 : decode cL_law 520 = .ok (.iconst 0, 1) := by decide +kernel
theorem dL_law_521 : decode cL_law 521 = .ok (.istore 18, 2) := by decide +kernel
theorem dL_law_523 : decode cL_law 523 = .ok (.iload 18, 2) := by decide +kernel
theorem dL_law_525 : decode cL_law 525 = .ok (.aload_n 2, 1) := by decide +kernel
theorem dL_law_526 : decode cL_law 526 = .ok (.iconst 3, 1) := by decide +kernel
theorem dL_law_527 : decode cL_law 527 = .ok (.iaload, 1) := by decide +kernel
theorem dL_law_528 : decode cL_law 528 = .ok (.if_icmp .ge 27, 3) := by decide +kernel
theorem dL_law_531 : decode cL_law 531 = .ok (.iload 17, 2) := by decide +kernel
theorem dL_law_533 : decode cL_law 533 = .ok (.aload 5, 2) := by decide +kernel
theorem dL_law_535 : decode cL_law 535 = .ok (.iload 18, 2) := by decide +kernel
theorem dL_law_537 : decode cL_law 537 = .ok (.iaload, 1) := by decide +kernel
theorem dL_law_538 : decode cL_law 538 = .ok (.bipush 19, 2) := by decide +kernel
theorem dL_law_540 : decode cL_law 540 = .ok (.iload 15, 2) := by decide +kernel
theorem dL_law_542 : decode cL_law 542 = .ok (.iadd, 1) := by decide +kernel
theorem dL_law_543 : decode cL_law 543 = .ok (.ishr, 1) := by decide +kernel
theorem dL_law_544 : decode cL_law 544 = .ok (.iconst 1, 1) := by decide +kernel
theorem dL_law_545 : decode cL_law 545 = .ok (.iand, 1) := by decide +kernel
theorem dL_law_546 : decode cL_law 546 = .ok (.iadd, 1) := by decide +kernel
theorem dL_law_547 : decode cL_law 547 = .ok (.istore 17, 2) := by decide +kernel
theorem dL_law_549 : decode cL_law 549 = .ok (.iinc 18 1, 3) := by decide +kernel
theorem dL_law_552 : decode cL_law 552 = .ok (.goto (-29), 3) := by decide +kernel
theorem dL_law_555 : decode cL_law 555 = .ok (.aload_n 1, 1) := by decide +kernel
theorem dL_law_556 : decode cL_law 556 = .ok (.iload 14, 2) := by decide +kernel
theorem dL_law_558 : decode cL_law 558 = .ok (.iload 15, 2) := by decide +kernel
theorem dL_law_560 : decode cL_law 560 = .ok (.invokevirtual 98, 3) := by decide +kernel
theorem dL_law_563 : decode cL_law 563 = .ok (.iload 16, 2) := by decide +kernel
theorem dL_law_565 : decode cL_law 565 = .ok (.ifCond .eq 8, 3) := by decide +kernel
theorem dL_law_568 : decode cL_law 568 = .ok (.iload 17, 2) := by decide +kernel
theorem dL_law_570 : decode cL_law 570 = .ok (.goto 5, 3) := by decide +kernel
theorem dL_law_573 : decode cL_law 573 = .ok (.bipush (-5), 2) := by decide +kernel
theorem dL_law_575 : decode cL_law 575 = .ok (.if_icmp .eq 5, 3) := by decide +kernel
theorem dL_law_578 : decode cL_law 578 = .ok (.iconst 0, 1) := by decide +kernel
theorem dL_law_579 : decode cL_law 579 = .ok (.ireturn, 1) := by decide +kernel
theorem dL_law_580 : decode cL_law 580 = .ok (.iload 16, 2) := by decide +kernel
theorem dL_law_582 : decode cL_law 582 = .ok (.ifCond .eq 18, 3) := by decide +kernel
theorem dL_law_585 : decode cL_law 585 = .ok (.aload 5, 2) := by decide +kernel
theorem dL_law_587 : decode cL_law 587 = .ok (.iload 14, 2) := by decide +kernel
theorem dL_law_589 : decode cL_law 589 = .ok (.dup2, 1) := by decide +kernel
theorem dL_law_590 : decode cL_law 590 = .ok (.iaload, 1) := by decide +kernel
theorem dL_law_591 : decode cL_law 591 = .ok (.iconst 1, 1) := by decide +kernel
theorem dL_law_592 : decode cL_law 592 = .ok (.bipush 19, 2) := by decide +kernel
theorem dL_law_594 : decode cL_law 594 = .ok (.iload 15, 2) := by decide +kernel
theorem dL_law_596 : decode cL_law 596 = .ok (.iadd, 1) := by decide +kernel
theorem dL_law_597 : decode cL_law 597 = .ok (.ishl, 1) := by decide +kernel
theorem dL_law_598 : decode cL_law 598 = .ok (.ior, 1) := by decide +kernel
theorem dL_law_599 : decode cL_law 599 = .ok (.iastore, 1) := by decide +kernel
theorem dL_law_600 : decode cL_law 600 = .ok (.iinc 13 1, 3) := by decide +kernel
theorem dL_law_603 : decode cL_law 603 = .ok (.goto (-169), 3) := by decide +kernel
theorem dL_law_606 : decode cL_law 606 = .ok (.goto 602, 3) := by decide +kernel
theorem dL_law_609 : decode cL_law 609 = .ok (.iload 9, 2) := by decide +kernel
theorem dL_law_611 : decode cL_law 611 = .ok (.bipush 6, 2) := by decide +kernel
theorem dL_law_613 : decode cL_law 613 = .ok (.if_icmp .ne 174, 3) := by decide +kernel
theorem dL_law_616 : decode cL_law 616 = .ok (.iload 11, 2) := by decide +kernel
theorem dL_law_618 : decode cL_law 618 = .ok (.ifCond .ne 6, 3) := by decide +kernel
theorem dL_law_621 : decode cL_law 621 = .ok (.goto 608, 3) := by decide +kernel
theorem dL_law_624 : decode cL_law 624 = .ok (.aload_n 3, 1) := by decide +kernel
theorem dL_law_625 : decode cL_law 625 = .ok (.iconst 4, 1) := by decide +kernel
theorem dL_law_626 : decode cL_law 626 = .ok (.iload 10, 2) := by decide +kernel
theorem dL_law_628 : decode cL_law 628 = .ok (.imul, 1) := by decide +kernel
theorem dL_law_629 : decode cL_law 629 = .ok (.iaload, 1) := by decide +kernel
theorem dL_law_630 : decode cL_law 630 = .ok (.istore 13, 2) := by decide +kernel
theorem dL_law_632 : decode cL_law 632 = .ok (.iload 10, 2) := by decide +kernel
theorem dL_law_634 : decode cL_law 634 = .ok (.aload_n 2, 1) := by decide +kernel
theorem dL_law_635 : decode cL_law 635 = .ok (.aload_n 3, 1) := by decide +kernel
theorem dL_law_636 : decode cL_law 636 = .ok (.aload 4, 2) := by decide +kernel
theorem dL_law_638 : decode cL_law 638 = .ok (.invokestatic 101, 3) := by decide +kernel
theorem dL_law_641 : decode cL_law 641 = .ok (.istore 14, 2) := by decide +kernel
theorem dL_law_643 : decode cL_law 643 = .ok (.iload 14, 2) := by decide +kernel
theorem dL_law_645 : decode cL_law 645 = .ok (.aload_n 2, 1) := by decide +kernel
theorem dL_law_646 : decode cL_law 646 = .ok (.iconst 0, 1) := by decide +kernel
theorem dL_law_647 : decode cL_law 647 = .ok (.iaload, 1) := by decide +kernel
theorem dL_law_648 : decode cL_law 648 = .ok (.if_icmp .gt 26, 3) := by decide +kernel
theorem dL_law_651 : decode cL_law 651 = .ok (.iload 13, 2) := by decide +kernel
theorem dL_law_653 : decode cL_law 653 = .ok (.ifCond .lt 17, 3) := by decide +kernel
theorem dL_law_656 : decode cL_law 656 = .ok (.aload_n 3, 1) := by decide +kernel
theorem dL_law_657 : decode cL_law 657 = .ok (.iconst 4, 1) := by decide +kernel
theorem dL_law_658 : decode cL_law 658 = .ok (.iload 13, 2) := by decide +kernel
theorem dL_law_660 : decode cL_law 660 = .ok (.imul, 1) := by decide +kernel
theorem dL_law_661 : decode cL_law 661 = .ok (.iconst 3, 1) := by decide +kernel
theorem dL_law_662 : decode cL_law 662 = .ok (.iadd, 1) := by decide +kernel
theorem dL_law_663 : decode cL_law 663 = .ok (.iaload, 1) := by decide +kernel
theorem dL_law_664 : decode cL_law 664 = .ok (.aload_n 2, 1) := by decide +kernel
theorem dL_law_665 : decode cL_law 665 = .ok (.iconst 0, 1) := by decide +kernel
theorem dL_law_666 : decode cL_law 666 = .ok (.iaload, 1) := by decide +kernel
theorem dL_law_667 : decode cL_law 667 = .ok (.if_icmp .ge 7, 3) := by decide +kernel
theorem dL_law_670 : decode cL_law 670 = .ok (.iconst 1, 1) := by decide +kernel
theorem dL_law_671 : decode cL_law 671 = .ok (.goto 4, 3) := by decide +kernel
theorem dL_law_674 : decode cL_law 674 = .ok (.iconst 0, 1) := by decide +kernel
theorem dL_law_675 : decode cL_law 675 = .ok (.istore 15, 2) := by decide +kernel
theorem dL_law_677 : decode cL_law 677 = .ok (.aload_n 1, 1) := by decide +kernel
theorem dL_law_678 : decode cL_law 678 = .ok (.iload 10, 2) := by decide +kernel
theorem dL_law_680 : decode cL_law 680 = .ok (.invokevirtual 105, 3) := by decide +kernel
theorem dL_law_683 : decode cL_law 683 = .ok (.iload 15, 2) := by decide +kernel
theorem dL_law_685 : decode cL_law 685 = .ok (.ifCond .eq 19, 3) := by decide +kernel
theorem dL_law_688 : decode cL_law 688 = .ok (.iload 14, 2) := by decide +kernel
theorem dL_law_690 : decode cL_law 690 = .ok (.iload 13, 2) := by decide +kernel
theorem dL_law_692 : decode cL_law 692 = .ok (.ifCond .ge 7, 3) := by decide +kernel
theorem dL_law_695 : decode cL_law 695 = .ok (.iconst 0, 1) := by decide +kernel
theorem dL_law_696 : decode cL_law 696 = .ok (.goto 4, 3) := by decide +kernel
theorem dL_law_699 : decode cL_law 699 = .ok (.iconst 1, 1) := by decide +kernel
theorem dL_law_700 : decode cL_law 700 = .ok (.iadd, 1) := by decide +kernel
theorem dL_law_701 : decode cL_law 701 = .ok (.goto 5, 3) := by decide +kernel
theorem dL_law_704 : decode cL_law 704 = .ok (.bipush (-5), 2) := by decide +kernel
theorem dL_law_706 : decode cL_law 706 = .ok (.if_icmp .eq 5, 3) := by decide +kernel
theorem dL_law_709 : decode cL_law 709 = .ok (.iconst 0, 1) := by decide +kernel
theorem dL_law_710 : decode cL_law 710 = .ok (.ireturn, 1) := by decide +kernel
theorem dL_law_711 : decode cL_law 711 = .ok (.iload 15, 2) := by decide +kernel
theorem dL_law_713 : decode cL_law 713 = .ok (.ifCond .eq 71, 3) := by decide +kernel
theorem dL_law_716 : decode cL_law 716 = .ok (.aload_n 3, 1) := by decide +kernel
theorem dL_law_717 : decode cL_law 717 = .ok (.iconst 4, 1) := by decide +kernel
theorem dL_law_718 : decode cL_law 718 = .ok (.iload 10, 2) := by decide +kernel
theorem dL_law_720 : decode cL_law 720 = .ok (.imul, 1) := by decide +kernel
theorem dL_law_721 : decode cL_law 721 = .ok (.iconst 2, 1) := by decide +kernel
theorem dL_law_722 : decode cL_law 722 = .ok (.iadd, 1) := by decide +kernel
theorem dL_law_723 : decode cL_law 723 = .ok (.dup2, 1) := by decide +kernel
theorem dL_law_724 : decode cL_law 724 = .ok (.iaload, 1) := by decide +kernel
theorem dL_law_725 : decode cL_law 725 = .ok (.iconst 1, 1) := by decide +kernel
theorem dL_law_726 : decode cL_law 726 = .ok (.iadd, 1) := by decide +kernel
theorem dL_law_727 : decode cL_law 727 = .ok (.iastore, 1) := by decide +kernel
theorem dL_law_728 : decode cL_law 728 = .ok (.aload_n 3, 1) := by decide +kernel
theorem dL_law_729 : decode cL_law 729 = .ok (.iconst 4, 1) := by decide +kernel
theorem dL_law_730 : decode cL_law 730 = .ok (.iload 10, 2) := by decide +kernel
theorem dL_law_732 : decode cL_law 732 = .ok (.imul, 1) := by decide +kernel
theorem dL_law_733 : decode cL_law 733 = .ok (.iconst 3, 1) := by decide +kernel
theorem dL_law_734 : decode cL_law 734 = .ok (.iadd, 1) := by decide +kernel
theorem dL_law_735 : decode cL_law 735 = .ok (.iconst 0, 1) := by decide +kernel
theorem dL_law_736 : decode cL_law 736 = .ok (.iastore, 1) := by decide +kernel
theorem dL_law_737 : decode cL_law 737 = .ok (.iload 10, 2) := by decide +kernel
theorem dL_law_739 : decode cL_law 739 = .ok (.aload_n 2, 1) := by decide +kernel
theorem dL_law_740 : decode cL_law 740 = .ok (.aload_n 3, 1) := by decide +kernel
theorem dL_law_741 : decode cL_law 741 = .ok (.aload 4, 2) := by decide +kernel
theorem dL_law_743 : decode cL_law 743 = .ok (.aload 5, 2) := by decide +kernel
theorem dL_law_745 : decode cL_law 745 = .ok (.invokestatic 32, 3) := by decide +kernel
theorem dL_law_748 : decode cL_law 748 = .ok (.iload 13, 2) := by decide +kernel
theorem dL_law_750 : decode cL_law 750 = .ok (.ifCond .lt 22, 3) := by decide +kernel
theorem dL_law_753 : decode cL_law 753 = .ok (.iload 10, 2) := by decide +kernel
theorem dL_law_755 : decode cL_law 755 = .ok (.aload_n 3, 1) := by decide +kernel
theorem dL_law_756 : decode cL_law 756 = .ok (.iconst 4, 1) := by decide +kernel
theorem dL_law_757 : decode cL_law 757 = .ok (.iload 10, 2) := by decide +kernel
theorem dL_law_759 : decode cL_law 759 = .ok (.imul, 1) := by decide +kernel
theorem dL_law_760 : decode cL_law 760 = .ok (.iconst 2, 1) := by decide +kernel
theorem dL_law_761 : decode cL_law 761 = .ok (.iadd, 1) := by decide +kernel
theorem dL_law_762 : decode cL_law 762 = .ok (.iaload, 1) := by decide +kernel
theorem dL_law_763 : decode cL_law 763 = .ok (.iload 13, 2) := by decide +kernel
theorem dL_law_765 : decode cL_law 765 = .ok (.aload_n 2, 1) := by decide +kernel
theorem dL_law_766 : decode cL_law 766 = .ok (.aload_n 3, 1) := by decide +kernel
theorem dL_law_767 : decode cL_law 767 = .ok (.aload 5, 2) := by decide +kernel
theorem dL_law_769 : decode cL_law 769 = .ok (.invokestatic 17, 3) := by decide +kernel
theorem dL_law_772 : decode cL_law 772 = .ok (.iload 10, 2) := by decide +kernel
theorem dL_law_774 : decode cL_law 774 = .ok (.aload_n 2, 1) := by decide +kernel
theorem dL_law_775 : decode cL_law 775 = .ok (.aload_n 3, 1) := by decide +kernel
theorem dL_law_776 : decode cL_law 776 = .ok (.aload 4, 2) := by decide +kernel
theorem dL_law_778 : decode cL_law 778 = .ok (.aload 5, 2) := by decide +kernel
theorem dL_law_780 : decode cL_law 780 = .ok (.invokestatic 36, 3) := by decide +kernel
theorem dL_law_783 : decode cL_law 783 = .ok (.pop, 1) := by decide +kernel
theorem dL_law_784 : decode cL_law 784 = .ok (.goto 424, 3) := by decide +kernel
theorem dL_law_787 : decode cL_law 787 = .ok (.iload 9, 2) := by decide +kernel
theorem dL_law_789 : decode cL_law 789 = .ok (.bipush 7, 2) := by decide +kernel
theorem dL_law_791 : decode cL_law 791 = .ok (.if_icmp .ne 38, 3) := by decide +kernel
theorem dL_law_794 : decode cL_law 794 = .ok (.iconst 2, 1) := by decide +kernel
theorem dL_law_795 : decode cL_law 795 = .ok (.iload 8, 2) := by decide +kernel
theorem dL_law_797 : decode cL_law 797 = .ok (.iconst 4, 1) := by decide +kernel
theorem dL_law_798 : decode cL_law 798 = .ok (.ishr, 1) := by decide +kernel
theorem dL_law_799 : decode cL_law 799 = .ok (.bipush 8, 2) := by decide +kernel
theorem dL_law_801 : decode cL_law 801 = .ok (.invokestatic 60, 3) := by decide +kernel
theorem dL_law_804 : decode cL_law 804 = .ok (.iadd, 1) := by decide +kernel
theorem dL_law_805 : decode cL_law 805 = .ok (.istore 13, 2) := by decide +kernel
theorem dL_law_807 : decode cL_law 807 = .ok (.aload_n 1, 1) := by decide +kernel
theorem dL_law_808 : decode cL_law 808 = .ok (.iload 13, 2) := by decide +kernel
theorem dL_law_810 : decode cL_law 810 = .ok (.invokevirtual 108, 3) := by decide +kernel
theorem dL_law_813 : decode cL_law 813 = .ok (.aload_n 2, 1) := by decide +kernel
theorem dL_law_814 : decode cL_law 814 = .ok (.iconst 0, 1) := by decide +kernel
theorem dL_law_815 : decode cL_law 815 = .ok (.iaload, 1) := by decide +kernel
theorem dL_law_816 : decode cL_law 816 = .ok (.if_icmp .eq 5, 3) := by decide +kernel
theorem dL_law_819 : decode cL_law 819 = .ok (.iconst 0, 1) := by decide +kernel
theorem dL_law_820 : decode cL_law 820 = .ok (.ireturn, 1) := by decide +kernel
theorem dL_law_821 : decode cL_law 821 = .ok (.aload_n 2, 1) := by decide +kernel
theorem dL_law_822 : decode cL_law 822 = .ok (.iconst 0, 1) := by decide +kernel
theorem dL_law_823 : decode cL_law 823 = .ok (.iload 13, 2) := by decide +kernel
theorem dL_law_825 : decode cL_law 825 = .ok (.iastore, 1) := by decide +kernel
theorem dL_law_826 : decode cL_law 826 = .ok (.goto 382, 3) := by decide +kernel
theorem dL_law_829 : decode cL_law 829 = .ok (.iload 9, 2) := by decide +kernel
theorem dL_law_831 : decode cL_law 831 = .ok (.bipush 8, 2) := by decide +kernel
theorem dL_law_833 : decode cL_law 833 = .ok (.if_icmp .ne 7, 3) := by decide +kernel
theorem dL_law_836 : decode cL_law 836 = .ok (.iconst 1, 1) := by decide +kernel
theorem dL_law_837 : decode cL_law 837 = .ok (.goto 4, 3) := by decide +kernel
theorem dL_law_840 : decode cL_law 840 = .ok (.iconst 0, 1) := by decide +kernel
theorem dL_law_841 : decode cL_law 841 = .ok (.istore 13, 2) := by decide +kernel
theorem dL_law_843 : decode cL_law 843 = .ok (.aload_n 2, 1) := by decide +kernel
theorem dL_law_844 : decode cL_law 844 = .ok (.iconst 2, 1) := by decide +kernel
theorem dL_law_845 : decode cL_law 845 = .ok (.iaload, 1) := by decide +kernel
theorem dL_law_846 : decode cL_law 846 = .ok (.ifCond .ne 7, 3) := by decide +kernel
theorem dL_law_849 : decode cL_law 849 = .ok (.iconst 0, 1) := by decide +kernel
theorem dL_law_850 : decode cL_law 850 = .ok (.goto 13, 3) := by decide +kernel
theorem dL_law_853 : decode cL_law 853 = .ok (.iload 8, 2) := by decide +kernel
theorem dL_law_855 : decode cL_law 855 = .ok (.iconst 4, 1) := by decide +kernel
theorem dL_law_856 : decode cL_law 856 = .ok (.ishr, 1) := by decide +kernel
theorem dL_law_857 : decode cL_law 857 = .ok (.aload_n 2, 1) := by decide +kernel
theorem dL_law_858 : decode cL_law 858 = .ok (.iconst 2, 1) := by decide +kernel
theorem dL_law_859 : decode cL_law 859 = .ok (.iaload, 1) := by decide +kernel
theorem dL_law_860 : decode cL_law 860 = .ok (.invokestatic 60, 3) := by decide +kernel
theorem dL_law_863 : decode cL_law 863 = .ok (.istore 14, 2) := by decide +kernel
theorem dL_law_865 : decode cL_law 865 = .ok (.iload 13, 2) := by decide +kernel
theorem dL_law_867 : decode cL_law 867 = .ok (.ifCond .eq 11, 3) := by decide +kernel
theorem dL_law_870 : decode cL_law 870 = .ok (.iload 11, 2) := by decide +kernel
theorem dL_law_872 : decode cL_law 872 = .ok (.ifCond .ne 27, 3) := by decide +kernel
theorem dL_law_875 : decode cL_law 875 = .ok (.goto 354, 3) := by decide +kernel
theorem dL_law_878 : decode cL_law 878 = .ok (.aload_n 2, 1) := by decide +kernel
theorem dL_law_879 : decode cL_law 879 = .ok (.iconst 2, 1) := by decide +kernel
theorem dL_law_880 : decode cL_law 880 = .ok (.iaload, 1) := by decide +kernel
theorem dL_law_881 : decode cL_law 881 = .ok (.ifCond .eq 348, 3) := by decide +kernel
theorem dL_law_884 : decode cL_law 884 = .ok (.aload 4, 2) := by decide +kernel
theorem dL_law_886 : decode cL_law 886 = .ok (.iconst 2, 1) := by decide +kernel
theorem dL_law_887 : decode cL_law 887 = .ok (.iload 14, 2) := by decide +kernel
theorem dL_law_889 : decode cL_law 889 = .ok (.imul, 1) := by decide +kernel
theorem dL_law_890 : decode cL_law 890 = .ok (.iconst 1, 1) := by decide +kernel
theorem dL_law_891 : decode cL_law 891 = .ok (.iadd, 1) := by decide +kernel
theorem dL_law_892 : decode cL_law 892 = .ok (.iaload, 1) := by decide +kernel
theorem dL_law_893 : decode cL_law 893 = .ok (.ifCond .ne 6, 3) := by decide +kernel
theorem dL_law_896 : decode cL_law 896 = .ok (.goto 333, 3) := by decide +kernel
theorem dL_law_899 : decode cL_law 899 = .ok (.iload 13, 2) := by decide +kernel
theorem dL_law_901 : decode cL_law 901 = .ok (.ifCond .eq 12, 3) := by decide +kernel
theorem dL_law_904 : decode cL_law 904 = .ok (.aload_n 3, 1) := by decide +kernel
theorem dL_law_905 : decode cL_law 905 = .ok (.iconst 4, 1) := by decide +kernel
theorem dL_law_906 : decode cL_law 906 = .ok (.iload 10, 2) := by decide +kernel
theorem dL_law_908 : decode cL_law 908 = .ok (.imul, 1) := by decide +kernel
theorem dL_law_909 : decode cL_law 909 = .ok (.iaload, 1) := by decide +kernel
theorem dL_law_910 : decode cL_law 910 = .ok (.goto 10, 3) := by decide +kernel
theorem dL_law_913 : decode cL_law 913 = .ok (.aload 4, 2) := by decide +kernel
theorem dL_law_915 : decode cL_law 915 = .ok (.iconst 2, 1) := by decide +kernel
theorem dL_law_916 : decode cL_law 916 = .ok (.iload 14, 2) := by decide +kernel
theorem dL_law_918 : decode cL_law 918 = .ok (.imul, 1) := by decide +kernel
theorem dL_law_919 : decode cL_law 919 = .ok (.iaload, 1) := by decide +kernel
theorem dL_law_920 : decode cL_law 920 = .ok (.istore 15, 2) := by decide +kernel
theorem dL_law_922 : decode cL_law 922 = .ok (.iconst 1, 1) := by decide +kernel
theorem dL_law_923 : decode cL_law 923 = .ok (.istore 16, 2) := by decide +kernel
theorem dL_law_925 : decode cL_law 925 = .ok (.iconst 0, 1) := by decide +kernel
theorem dL_law_926 : decode cL_law 926 = .ok (.istore 17, 2) := by decide +kernel
theorem dL_law_928 : decode cL_law 928 = .ok (.iload 15, 2) := by decide +kernel
theorem dL_law_930 : decode cL_law 930 = .ok (.istore 18, 2) := by decide +kernel
theorem dL_law_932 : decode cL_law 932 = .ok (.iload 18, 2) := by decide +kernel
theorem dL_law_934 : decode cL_law 934 = .ok (.ifCond .lt 65, 3) := by decide +kernel
theorem dL_law_937 : decode cL_law 937 = .ok (.iload 18, 2) := by decide +kernel
theorem dL_law_939 : decode cL_law 939 = .ok (.aload_n 2, 1) := by decide +kernel
theorem dL_law_940 : decode cL_law 940 = .ok (.aload_n 3, 1) := by decide +kernel
theorem dL_law_941 : decode cL_law 941 = .ok (.aload 4, 2) := by decide +kernel
theorem dL_law_943 : decode cL_law 943 = .ok (.invokestatic 101, 3) := by decide +kernel
theorem dL_law_946 : decode cL_law 946 = .ok (.iload 18, 2) := by decide +kernel
theorem dL_law_948 : decode cL_law 948 = .ok (.iload 15, 2) := by decide +kernel
theorem dL_law_950 : decode cL_law 950 = .ok (.if_icmp .ne 7, 3) := by decide +kernel
theorem dL_law_953 : decode cL_law 953 = .ok (.iconst 1, 1) := by decide +kernel
theorem dL_law_954 : decode cL_law 954 = .ok (.goto 4, 3) := by decide +kernel
theorem dL_law_957 : decode cL_law 957 = .ok (.iconst 0, 1) := by decide +kernel
theorem dL_law_958 : decode cL_law 958 = .ok (.isub, 1) := by decide +kernel
theorem dL_law_959 : decode cL_law 959 = .ok (.istore 19, 2) := by decide +kernel
theorem dL_law_961 : decode cL_law 961 = .ok (.iload 16, 2) := by decide +kernel
theorem dL_law_963 : decode cL_law 963 = .ok (.ifCond .eq 15, 3) := by decide +kernel
theorem dL_law_966 : decode cL_law 966 = .ok (.iload 19, 2) := by decide +kernel
theorem dL_law_968 : decode cL_law 968 = .ok (.aload_n 2, 1) := by decide +kernel
theorem dL_law_969 : decode cL_law 969 = .ok (.iconst 0, 1) := by decide +kernel
theorem dL_law_970 : decode cL_law 970 = .ok (.iaload, 1) := by decide +kernel
theorem dL_law_971 : decode cL_law 971 = .ok (.if_icmp .gt 7, 3) := by decide +kernel
theorem dL_law_974 : decode cL_law 974 = .ok (.iconst 1, 1) := by decide +kernel
theorem dL_law_975 : decode cL_law 975 = .ok (.goto 4, 3) := by decide +kernel
theorem dL_law_978 : decode cL_law 978 = .ok (.iconst 0, 1) := by decide +kernel
theorem dL_law_979 : decode cL_law 979 = .ok (.istore 16, 2) := by decide +kernel
theorem dL_law_981 : decode cL_law 981 = .ok (.iload 17, 2) := by decide +kernel
theorem dL_law_983 : decode cL_law 983 = .ok (.iload 19, 2) := by decide +kernel
theorem dL_law_985 : decode cL_law 985 = .ok (.iadd, 1) := by decide +kernel
theorem dL_law_986 : decode cL_law 986 = .ok (.istore 17, 2) := by decide +kernel
theorem dL_law_988 : decode cL_law 988 = .ok (.aload_n 3, 1) := by decide +kernel
theorem dL_law_989 : decode cL_law 989 = .ok (.iconst 4, 1) := by decide +kernel
theorem dL_law_990 : decode cL_law 990 = .ok (.iload 18, 2) := by decide +kernel
theorem dL_law_992 : decode cL_law 992 = .ok (.imul, 1) := by decide +kernel
theorem dL_law_993 : decode cL_law 993 = .ok (.iaload, 1) := by decide +kernel
theorem dL_law_994 : decode cL_law 994 = .ok (.istore 18, 2) := by decide +kernel
theorem dL_law_996 : decode cL_law 996 = .ok (.goto (-64), 3) := by decide +kernel
theorem dL_law_999 : decode cL_law 999 = .ok (.aload_n 1, 1) := by decide +kernel
theorem dL_law_1000 : decode cL_law 1000 = .ok (.iload 13, 2) := by decide +kernel
theorem dL_law_1002 : decode cL_law 1002 = .ok (.ifCond .eq 7, 3) := by decide +kernel
theorem dL_law_1005 : decode cL_law 1005 = .ok (.iconst 0, 1) := by decide +kernel
theorem dL_law_1006 : decode cL_law 1006 = .ok (.goto 4, 3) := by decide +kernel
theorem dL_law_1009 : decode cL_law 1009 = .ok (.iconst 1, 1) := by decide +kernel
theorem dL_law_1010 : decode cL_law 1010 = .ok (.iload 13, 2) := by decide +kernel
theorem dL_law_1012 : decode cL_law 1012 = .ok (.ifCond .eq 8, 3) := by decide +kernel
theorem dL_law_1015 : decode cL_law 1015 = .ok (.iload 10, 2) := by decide +kernel
theorem dL_law_1017 : decode cL_law 1017 = .ok (.goto 5, 3) := by decide +kernel
theorem dL_law_1020 : decode cL_law 1020 = .ok (.iload 14, 2) := by decide +kernel
theorem dL_law_1022 : decode cL_law 1022 = .ok (.invokevirtual 111, 3) := by decide +kernel
theorem dL_law_1025 : decode cL_law 1025 = .ok (.istore 18, 2) := by decide +kernel
theorem dL_law_1027 : decode cL_law 1027 = .ok (.iload 13, 2) := by decide +kernel
theorem dL_law_1029 : decode cL_law 1029 = .ok (.ifCond .eq 12, 3) := by decide +kernel
theorem dL_law_1032 : decode cL_law 1032 = .ok (.aload_n 1, 1) := by decide +kernel
theorem dL_law_1033 : decode cL_law 1033 = .ok (.iload 10, 2) := by decide +kernel
theorem dL_law_1035 : decode cL_law 1035 = .ok (.invokevirtual 114, 3) := by decide +kernel
theorem dL_law_1038 : decode cL_law 1038 = .ok (.goto 9, 3) := by decide +kernel
theorem dL_law_1041 : decode cL_law 1041 = .ok (.aload_n 1, 1) := by decide +kernel
theorem dL_law_1042 : decode cL_law 1042 = .ok (.iload 14, 2) := by decide +kernel
theorem dL_law_1044 : decode cL_law 1044 = .ok (.invokevirtual 117, 3) := by decide +kernel
theorem dL_law_1047 : decode cL_law 1047 = .ok (.istore 19, 2) := by decide +kernel
theorem dL_law_1049 : decode cL_law 1049 = .ok (.iload 18, 2) := by decide +kernel
theorem dL_law_1051 : decode cL_law 1051 = .ok (.iload 19, 2) := by decide +kernel
theorem dL_law_1053 : decode cL_law 1053 = .ok (.if_icmp .ne 20, 3) := by decide +kernel
theorem dL_law_1056 : decode cL_law 1056 = .ok (.iload 19, 2) := by decide +kernel
theorem dL_law_1058 : decode cL_law 1058 = .ok (.iload 16, 2) := by decide +kernel
theorem dL_law_1060 : decode cL_law 1060 = .ok (.ifCond .eq 8, 3) := by decide +kernel
theorem dL_law_1063 : decode cL_law 1063 = .ok (.iload 17, 2) := by decide +kernel
theorem dL_law_1065 : decode cL_law 1065 = .ok (.goto 5, 3) := by decide +kernel
theorem dL_law_1068 : decode cL_law 1068 = .ok (.bipush (-5), 2) := by decide +kernel
theorem dL_law_1070 : decode cL_law 1070 = .ok (.if_icmp .eq 5, 3) := by decide +kernel
theorem dL_law_1073 : decode cL_law 1073 = .ok (.iconst 0, 1) := by decide +kernel
theorem dL_law_1074 : decode cL_law 1074 = .ok (.ireturn, 1) := by decide +kernel
theorem dL_law_1075 : decode cL_law 1075 = .ok (.iload 16, 2) := by decide +kernel
theorem dL_law_1077 : decode cL_law 1077 = .ok (.ifCond .eq 131, 3) := by decide +kernel
theorem dL_law_1080 : decode cL_law 1080 = .ok (.iconst 0, 1) := by decide +kernel
theorem dL_law_1081 : decode cL_law 1081 = .ok (.istore 20, 2) := by decide +kernel
theorem dL_law_1083 : decode cL_law 1083 = .ok (.iload 20, 2) := by decide +kernel
theorem dL_law_1085 : decode cL_law 1085 = .ok (.aload_n 2, 1) := by decide +kernel
theorem dL_law_1086 : decode cL_law 1086 = .ok (.iconst 2, 1) := by decide +kernel
theorem dL_law_1087 : decode cL_law 1087 = .ok (.iaload, 1) := by decide +kernel
theorem dL_law_1088 : decode cL_law 1088 = .ok (.if_icmp .ge 50, 3) := by decide +kernel
theorem dL_law_1091 : decode cL_law 1091 = .ok (.iload 13, 2) := by decide +kernel
theorem dL_law_1093 : decode cL_law 1093 = .ok (.ifCond .eq 22, 3) := by decide +kernel
theorem dL_law_1096 : decode cL_law 1096 = .ok (.aload 4, 2) := by decide +kernel
theorem dL_law_1098 : decode cL_law 1098 = .ok (.iconst 2, 1) := by decide +kernel
theorem dL_law_1099 : decode cL_law 1099 = .ok (.iload 20, 2) := by decide +kernel
theorem dL_law_1101 : decode cL_law 1101 = .ok (.imul, 1) := by decide +kernel
theorem dL_law_1102 : decode cL_law 1102 = .ok (.iaload, 1) := by decide +kernel
theorem dL_law_1103 : decode cL_law 1103 = .ok (.iload 10, 2) := by decide +kernel
theorem dL_law_1105 : decode cL_law 1105 = .ok (.aload_n 3, 1) := by decide +kernel
theorem dL_law_1106 : decode cL_law 1106 = .ok (.invokestatic 53, 3) := by decide +kernel
theorem dL_law_1109 : decode cL_law 1109 = .ok (.ifCond .eq 23, 3) := by decide +kernel
theorem dL_law_1112 : decode cL_law 1112 = .ok (.goto 10, 3) := by decide +kernel
theorem dL_law_1115 : decode cL_law 1115 = .ok (.iload 20, 2) := by decide +kernel
theorem dL_law_1117 : decode cL_law 1117 = .ok (.iload 14, 2) := by decide +kernel
theorem dL_law_1119 : decode cL_law 1119 = .ok (.if_icmp .ne 13, 3) := by decide +kernel
theorem dL_law_1122 : decode cL_law 1122 = .ok (.aload 4, 2) := by decide +kernel
theorem dL_law_1124 : decode cL_law 1124 = .ok (.iconst 2, 1) := by decide +kernel
theorem dL_law_1125 : decode cL_law 1125 = .ok (.iload 20, 2) := by decide +kernel
theorem dL_law_1127 : decode cL_law 1127 = .ok (.imul, 1) := by decide +kernel
theorem dL_law_1128 : decode cL_law 1128 = .ok (.iconst 1, 1) := by decide +kernel
theorem dL_law_1129 : decode cL_law 1129 = .ok (.iadd, 1) := by decide +kernel
theorem dL_law_1130 : decode cL_law 1130 = .ok (.iconst 0, 1) := by decide +kernel
theorem dL_law_1131 : decode cL_law 1131 = .ok (.iastore, 1) := by decide +kernel
theorem dL_law_1132 : decode cL_law 1132 = .ok (.iinc 20 1, 3) := by decide +kernel
theorem dL_law_1135 : decode cL_law 1135 = .ok (.goto (-52), 3) := by decide +kernel
theorem dL_law_1138 : decode cL_law 1138 = .ok (.iconst 0, 1) := by decide +kernel
theorem dL_law_1139 : decode cL_law 1139 = .ok (.istore 20, 2) := by decide +kernel
theorem dL_law_1141 : decode cL_law 1141 = .ok (.iload 20, 2) := by decide +kernel
theorem dL_law_1143 : decode cL_law 1143 = .ok (.aload_n 2, 1) := by decide +kernel
theorem dL_law_1144 : decode cL_law 1144 = .ok (.iconst 1, 1) := by decide +kernel
theorem dL_law_1145 : decode cL_law 1145 = .ok (.iaload, 1) := by decide +kernel
theorem dL_law_1146 : decode cL_law 1146 = .ok (.if_icmp .ge 34, 3) := by decide +kernel
theorem dL_law_1149 : decode cL_law 1149 = .ok (.iload 13, 2) := by decide +kernel
theorem dL_law_1151 : decode cL_law 1151 = .ok (.ifCond .eq 29, 3) := by decide +kernel
theorem dL_law_1154 : decode cL_law 1154 = .ok (.iload 20, 2) := by decide +kernel
theorem dL_law_1156 : decode cL_law 1156 = .ok (.iload 10, 2) := by decide +kernel
theorem dL_law_1158 : decode cL_law 1158 = .ok (.aload_n 3, 1) := by decide +kernel
theorem dL_law_1159 : decode cL_law 1159 = .ok (.invokestatic 53, 3) := by decide +kernel
theorem dL_law_1162 : decode cL_law 1162 = .ok (.ifCond .eq 12, 3) := by decide +kernel
theorem dL_law_1165 : decode cL_law 1165 = .ok (.aload_n 3, 1) := by decide +kernel
theorem dL_law_1166 : decode cL_law 1166 = .ok (.iconst 4, 1) := by decide +kernel
theorem dL_law_1167 : decode cL_law 1167 = .ok (.iload 20, 2) := by decide +kernel
theorem dL_law_1169 : decode cL_law 1169 = .ok (.imul, 1) := by decide +kernel
theorem dL_law_1170 : decode cL_law 1170 = .ok (.iconst 1, 1) := by decide +kernel
theorem dL_law_1171 : decode cL_law 1171 = .ok (.iadd, 1) := by decide +kernel
theorem dL_law_1172 : decode cL_law 1172 = .ok (.iconst 0, 1) := by decide +kernel
theorem dL_law_1173 : decode cL_law 1173 = .ok (.iastore, 1) := by decide +kernel
theorem dL_law_1174 : decode cL_law 1174 = .ok (.iinc 20 1, 3) := by decide +kernel
theorem dL_law_1177 : decode cL_law 1177 = .ok (.goto (-36), 3) := by decide +kernel
theorem dL_law_1180 : decode cL_law 1180 = .ok (.iconst (-1), 1) := by decide +kernel
theorem dL_law_1181 : decode cL_law 1181 = .ok (.aload_n 2, 1) := by decide +kernel
theorem dL_law_1182 : decode cL_law 1182 = .ok (.aload_n 3, 1) := by decide +kernel
theorem dL_law_1183 : decode cL_law 1183 = .ok (.aload 4, 2) := by decide +kernel
theorem dL_law_1185 : decode cL_law 1185 = .ok (.aload 5, 2) := by decide +kernel
theorem dL_law_1187 : decode cL_law 1187 = .ok (.invokestatic 32, 3) := by decide +kernel
theorem dL_law_1190 : decode cL_law 1190 = .ok (.iload 15, 2) := by decide +kernel
theorem dL_law_1192 : decode cL_law 1192 = .ok (.aload_n 2, 1) := by decide +kernel
theorem dL_law_1193 : decode cL_law 1193 = .ok (.aload_n 3, 1) := by decide +kernel
theorem dL_law_1194 : decode cL_law 1194 = .ok (.aload 4, 2) := by decide +kernel
theorem dL_law_1196 : decode cL_law 1196 = .ok (.aload 5, 2) := by decide +kernel
theorem dL_law_1198 : decode cL_law 1198 = .ok (.invokestatic 120, 3) := by decide +kernel
theorem dL_law_1201 : decode cL_law 1201 = .ok (.iload 17, 2) := by decide +kernel
theorem dL_law_1203 : decode cL_law 1203 = .ok (.if_icmp .eq 5, 3) := by decide +kernel
theorem dL_law_1206 : decode cL_law 1206 = .ok (.iconst 0, 1) := by decide +kernel
theorem dL_law_1207 : decode cL_law 1207 = .ok (.ireturn, 1) := by decide +kernel
theorem dL_law_1208 : decode cL_law 1208 = .ok (.aload_n 1, 1) := by decide +kernel
theorem dL_law_1209 : decode cL_law 1209 = .ok (.iload 8, 2) := by decide +kernel
theorem dL_law_1211 : decode cL_law 1211 = .ok (.iconst 2, 1) := by decide +kernel
theorem dL_law_1212 : decode cL_law 1212 = .ok (.ishr, 1) := by decide +kernel
theorem dL_law_1213 : decode cL_law 1213 = .ok (.aload_n 2, 1) := by decide +kernel
theorem dL_law_1214 : decode cL_law 1214 = .ok (.aload_n 3, 1) := by decide +kernel
theorem dL_law_1215 : decode cL_law 1215 = .ok (.aload 4, 2) := by decide +kernel
theorem dL_law_1217 : decode cL_law 1217 = .ok (.aload 5, 2) := by decide +kernel
theorem dL_law_1219 : decode cL_law 1219 = .ok (.aload 6, 2) := by decide +kernel
theorem dL_law_1221 : decode cL_law 1221 = .ok (.invokestatic 123, 3) := by decide +kernel
theorem dL_law_1224 : decode cL_law 1224 = .ok (.ifCond .ne 5, 3) := by decide +kernel
theorem dL_law_1227 : decode cL_law 1227 = .ok (.iconst 0, 1) := by decide +kernel
theorem dL_law_1228 : decode cL_law 1228 = .ok (.ireturn, 1) := by decide +kernel
theorem dL_law_1229 : decode cL_law 1229 = .ok (.iinc 7 1, 3) := by decide +kernel
theorem dL_law_1232 : decode cL_law 1232 = .ok (.goto (-1190), 3) := by decide +kernel
theorem dL_law_1235 : decode cL_law 1235 = .ok (.iconst 1, 1) := by decide +kernel
theorem dL_law_1236 : decode cL_law 1236 = .ok (.ireturn, 1) := by decide +kernel
