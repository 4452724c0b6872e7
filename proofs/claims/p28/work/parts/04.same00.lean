theorem dL_same_0 : decode cL_same 0 = .ok (.iconst 0, 1) := by decide +kernel
theorem dL_same_1 : decode cL_same 1 = .ok (.istore 7, 2) := by decide +kernel
theorem dL_same_3 : decode cL_same 3 = .ok (.iconst 0, 1) := by decide +kernel
theorem dL_same_4 : decode cL_same 4 = .ok (.istore 8, 2) := by decide +kernel
theorem dL_same_6 : decode cL_same 6 = .ok (.iconst 0, 1) := by decide +kernel
theorem dL_same_7 : decode cL_same 7 = .ok (.istore 9, 2) := by decide +kernel
theorem dL_same_9 : decode cL_same 9 = .ok (.iconst 0, 1) := by decide +kernel
theorem dL_same_10 : decode cL_same 10 = .ok (.istore 10, 2) := by decide +kernel
theorem dL_same_12 : decode cL_same 12 = .ok (.iconst 0, 1) := by decide +kernel
theorem dL_same_13 : decode cL_same 13 = .ok (.istore 11, 2) := by decide +kernel
theorem dL_same_15 : decode cL_same 15 = .ok (.iload 11, 2) := by decide +kernel
theorem dL_same_17 : decode cL_same 17 = .ok (.aload_n 2, 1) := by decide +kernel
theorem dL_same_18 : decode cL_same 18 = .ok (.iconst 1, 1) := by decide +kernel
theorem dL_same_19 : decode cL_same 19 = .ok (.iaload, 1) := by decide +kernel
theorem dL_same_20 : decode cL_same 20 = .ok (.if_icmp .ge 510, 3) := by decide +kernel
theorem dL_same_23 : decode cL_same 23 = .ok (.iconst 0, 1) := by decide +kernel
theorem dL_same_24 : decode cL_same 24 = .ok (.istore 12, 2) := by decide +kernel
theorem dL_same_26 : decode cL_same 26 = .ok (.iconst 0, 1) := by decide +kernel
theorem dL_same_27 : decode cL_same 27 = .ok (.istore 13, 2) := by decide +kernel
theorem dL_same_29 : decode cL_same 29 = .ok (.iconst 0, 1) := by decide +kernel
theorem dL_same_30 : decode cL_same 30 = .ok (.istore 14, 2) := by decide +kernel
theorem dL_same_32 : decode cL_same 32 = .ok (.iload 14, 2) := by decide +kernel
theorem dL_same_34 : decode cL_same 34 = .ok (.aload_n 2, 1) := by decide +kernel
theorem dL_same_35 : decode cL_same 35 = .ok (.iconst 1, 1) := by decide +kernel
theorem dL_same_36 : decode cL_same 36 = .ok (.iaload, 1) := by decide +kernel
theorem dL_same_37 : decode cL_same 37 = .ok (.if_icmp .ge 45, 3) := by decide +kernel
theorem dL_same_40 : decode cL_same 40 = .ok (.iload 12, 2) := by decide +kernel
theorem dL_same_42 : decode cL_same 42 = .ok (.aload_n 3, 1) := by decide +kernel
theorem dL_same_43 : decode cL_same 43 = .ok (.iconst 4, 1) := by decide +kernel
theorem dL_same_44 : decode cL_same 44 = .ok (.iload 14, 2) := by decide +kernel
theorem dL_same_46 : decode cL_same 46 = .ok (.imul, 1) := by decide +kernel
theorem dL_same_47 : decode cL_same 47 = .ok (.iaload, 1) := by decide +kernel
theorem dL_same_48 : decode cL_same 48 = .ok (.iload 11, 2) := by decide +kernel
theorem dL_same_50 : decode cL_same 50 = .ok (.if_icmp .ne 22, 3) := by decide +kernel
theorem dL_same_53 : decode cL_same 53 = .ok (.aload_n 3, 1) := by decide +kernel
theorem dL_same_54 : decode cL_same 54 = .ok (.iconst 4, 1) := by decide +kernel
theorem dL_same_55 : decode cL_same 55 = .ok (.iload 14, 2) := by decide +kernel
theorem dL_same_57 : decode cL_same 57 = .ok (.imul, 1) := by decide +kernel
theorem dL_same_58 : decode cL_same 58 = .ok (.iconst 1, 1) := by decide +kernel
theorem dL_same_59 : decode cL_same 59 = .ok (.iadd, 1) := by decide +kernel
theorem dL_same_60 : decode cL_same 60 = .ok (.iaload, 1) := by decide +kernel
theorem dL_same_61 : decode cL_same 61 = .ok (.iconst 1, 1) := by decide +kernel
theorem dL_same_62 : decode cL_same 62 = .ok (.if_icmp .ne 10, 3) := by decide +kernel
theorem dL_same_65 : decode cL_same 65 = .ok (.iconst 1, 1) := by decide +kernel
theorem dL_same_66 : decode cL_same 66 = .ok (.iload 14, 2) := by decide +kernel
theorem dL_same_68 : decode cL_same 68 = .ok (.ishl, 1) := by decide +kernel
theorem dL_same_69 : decode cL_same 69 = .ok (.goto 4, 3) := by decide +kernel
theorem dL_same_72 : decode cL_same 72 = .ok (.iconst 0, 1) := by decide +kernel
theorem dL_same_73 : decode cL_same 73 = .ok (.ior, 1) := by decide +kernel
theorem dL_same_74 : decode cL_same 74 = .ok (.istore 12, 2) := by decide +kernel
theorem dL_same_76 : decode cL_same 76 = .ok (.iinc 14 1, 3) := by decide +kernel
theorem dL_same_79 : decode cL_same 79 = .ok (.goto (-47), 3) := by decide +kernel
theorem dL_same_82 : decode cL_same 82 = .ok (.iconst 0, 1) := by decide +kernel
theorem dL_same_83 : decode cL_same 83 = .ok (.istore 14, 2) := by decide +kernel
theorem dL_same_85 : decode cL_same 85 = .ok (.iload 14, 2) := by decide +kernel
theorem dL_same_87 : decode cL_same 87 = .ok (.aload_n 2, 1) := by decide +kernel
theorem dL_same_88 : decode cL_same 88 = .ok (.iconst 2, 1) := by decide +kernel
theorem dL_same_89 : decode cL_same 89 = .ok (.iaload, 1) := by decide +kernel
theorem dL_same_90 : decode cL_same 90 = .ok (.if_icmp .ge 47, 3) := by decide +kernel
theorem dL_same_93 : decode cL_same 93 = .ok (.iload 13, 2) := by decide +kernel
theorem dL_same_95 : decode cL_same 95 = .ok (.aload 4, 2) := by decide +kernel
theorem dL_same_97 : decode cL_same 97 = .ok (.iconst 2, 1) := by decide +kernel
theorem dL_same_98 : decode cL_same 98 = .ok (.iload 14, 2) := by decide +kernel
theorem dL_same_100 : decode cL_same 100 = .ok (.imul, 1) := by decide +kernel
theorem dL_same_101 : decode cL_same 101 = .ok (.iaload, 1) := by decide +kernel
theorem dL_same_102 : decode cL_same 102 = .ok (.iload 11, 2) := by decide +kernel
theorem dL_same_104 : decode cL_same 104 = .ok (.if_icmp .ne 23, 3) := by decide +kernel
theorem dL_same_107 : decode cL_same 107 = .ok (.aload 4, 2) := by decide +kernel
theorem dL_same_109 : decode cL_same 109 = .ok (.iconst 2, 1) := by decide +kernel
theorem dL_same_110 : decode cL_same 110 = .ok (.iload 14, 2) := by decide +kernel
theorem dL_same_112 : decode cL_same 112 = .ok (.imul, 1) := by decide +kernel
theorem dL_same_113 : decode cL_same 113 = .ok (.iconst 1, 1) := by decide +kernel
theorem dL_same_114 : decode cL_same 114 = .ok (.iadd, 1) := by decide +kernel
theorem dL_same_115 : decode cL_same 115 = .ok (.iaload, 1) := by decide +kernel
theorem dL_same_116 : decode cL_same 116 = .ok (.iconst 1, 1) := by decide +kernel
theorem dL_same_117 : decode cL_same 117 = .ok (.if_icmp .ne 10, 3) := by decide +kernel
theorem dL_same_120 : decode cL_same 120 = .ok (.iconst 1, 1) := by decide +kernel
theorem dL_same_121 : decode cL_same 121 = .ok (.iload 14, 2) := by decide +kernel
theorem dL_same_123 : decode cL_same 123 = .ok (.ishl, 1) := by decide +kernel
theorem dL_same_124 : decode cL_same 124 = .ok (.goto 4, 3) := by decide +kernel
theorem dL_same_127 : decode cL_same 127 = .ok (.iconst 0, 1) := by decide +kernel
theorem dL_same_128 : decode cL_same 128 = .ok (.ior, 1) := by decide +kernel
theorem dL_same_129 : decode cL_same 129 = .ok (.istore 13, 2) := by decide +kernel
theorem dL_same_131 : decode cL_same 131 = .ok (.iinc 14 1, 3) := by decide +kernel
theorem dL_same_134 : decode cL_same 134 = .ok (.goto (-49), 3) := by decide +kernel
theorem dL_same_137 : decode cL_same 137 = .ok (.aload_n 0, 1) := by decide +kernel
theorem dL_same_138 : decode cL_same 138 = .ok (.iload 11, 2) := by decide +kernel
theorem dL_same_140 : decode cL_same 140 = .ok (.iconst 0, 1) := by decide +kernel
theorem dL_same_141 : decode cL_same 141 = .ok (.invokevirtual 47, 3) := by decide +kernel
theorem dL_same_144 : decode cL_same 144 = .ok (.aload_n 3, 1) := by decide +kernel
