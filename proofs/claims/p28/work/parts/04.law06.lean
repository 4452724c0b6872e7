theorem dL_law_919 : decode cL_law 919 = .ok (.iaload, 1) := by decide +kernel
theorem dL_law_920 : decode cL_law 920 = .ok (.istore 15, 2) := by decide +kernel
theorem dL_law_922 : decode cL_law 922 = .ok (.iconst 1, 1) := by decide +kernel
theorem dL_law_923 : decode cL_law 923 = .ok (.istore 16, 2) := by decide +kernel
theorem dL_law_925 : decode cL_law 925 = .ok (.iconst 0, 1) := by decide +kernel
theorem dL_law_926 : decode cL_law 926 = .ok (.istore 17, 2) := by decide +kernel
theorem dL_law_928 : decode cL_law 928 = .ok (.iload 15, 2) := by decide +kernel
theorem dL_law_930 : decode cL_law 930 = .ok (.istore 18, 2) := by decide +kernel
theorem dL_law_932 : decode cL_law 932 = .ok (.iload 18, 2) := by decide +kernel
theorem dL_law_934 : decode cL_law 934 = .ok (.ifCond .lt 65, 3) := by decide +kernel
theorem dL_law_937 : decode cL_law 937 = .ok (.iload 18, 2) := by decide +kernel
theorem dL_law_939 : decode cL_law 939 = .ok (.aload_n 2, 1) := by decide +kernel
theorem dL_law_940 : decode cL_law 940 = .ok (.aload_n 3, 1) := by decide +kernel
theorem dL_law_941 : decode cL_law 941 = .ok (.aload 4, 2) := by decide +kernel
theorem dL_law_943 : decode cL_law 943 = .ok (.invokestatic 101, 3) := by decide +kernel
theorem dL_law_946 : decode cL_law 946 = .ok (.iload 18, 2) := by decide +kernel
theorem dL_law_948 : decode cL_law 948 = .ok (.iload 15, 2) := by decide +kernel
theorem dL_law_950 : decode cL_law 950 = .ok (.if_icmp .ne 7, 3) := by decide +kernel
theorem dL_law_953 : decode cL_law 953 = .ok (.iconst 1, 1) := by decide +kernel
theorem dL_law_954 : decode cL_law 954 = .ok (.goto 4, 3) := by decide +kernel
theorem dL_law_957 : decode cL_law 957 = .ok (.iconst 0, 1) := by decide +kernel
theorem dL_law_958 : decode cL_law 958 = .ok (.isub, 1) := by decide +kernel
theorem dL_law_959 : decode cL_law 959 = .ok (.istore 19, 2) := by decide +kernel
theorem dL_law_961 : decode cL_law 961 = .ok (.iload 16, 2) := by decide +kernel
theorem dL_law_963 : decode cL_law 963 = .ok (.ifCond .eq 15, 3) := by decide +kernel
theorem dL_law_966 : decode cL_law 966 = .ok (.iload 19, 2) := by decide +kernel
theorem dL_law_968 : decode cL_law 968 = .ok (.aload_n 2, 1) := by decide +kernel
theorem dL_law_969 : decode cL_law 969 = .ok (.iconst 0, 1) := by decide +kernel
theorem dL_law_970 : decode cL_law 970 = .ok (.iaload, 1) := by decide +kernel
theorem dL_law_971 : decode cL_law 971 = .ok (.if_icmp .gt 7, 3) := by decide +kernel
theorem dL_law_974 : decode cL_law 974 = .ok (.iconst 1, 1) := by decide +kernel
theorem dL_law_975 : decode cL_law 975 = .ok (.goto 4, 3) := by decide +kernel
theorem dL_law_978 : decode cL_law 978 = .ok (.iconst 0, 1) := by decide +kernel
theorem dL_law_979 : decode cL_law 979 = .ok (.istore 16, 2) := by decide +kernel
theorem dL_law_981 : decode cL_law 981 = .ok (.iload 17, 2) := by decide +kernel
theorem dL_law_983 : decode cL_law 983 = .ok (.iload 19, 2) := by decide +kernel
theorem dL_law_985 : decode cL_law 985 = .ok (.iadd, 1) := by decide +kernel
theorem dL_law_986 : decode cL_law 986 = .ok (.istore 17, 2) := by decide +kernel
theorem dL_law_988 : decode cL_law 988 = .ok (.aload_n 3, 1) := by decide +kernel
theorem dL_law_989 : decode cL_law 989 = .ok (.iconst 4, 1) := by decide +kernel
theorem dL_law_990 : decode cL_law 990 = .ok (.iload 18, 2) := by decide +kernel
theorem dL_law_992 : decode cL_law 992 = .ok (.imul, 1) := by decide +kernel
theorem dL_law_993 : decode cL_law 993 = .ok (.iaload, 1) := by decide +kernel
theorem dL_law_994 : decode cL_law 994 = .ok (.istore 18, 2) := by decide +kernel
theorem dL_law_996 : decode cL_law 996 = .ok (.goto (-64), 3) := by decide +kernel
theorem dL_law_999 : decode cL_law 999 = .ok (.aload_n 1, 1) := by decide +kernel
theorem dL_law_1000 : decode cL_law 1000 = .ok (.iload 13, 2) := by decide +kernel
theorem dL_law_1002 : decode cL_law 1002 = .ok (.ifCond .eq 7, 3) := by decide +kernel
theorem dL_law_1005 : decode cL_law 1005 = .ok (.iconst 0, 1) := by decide +kernel
theorem dL_law_1006 : decode cL_law 1006 = .ok (.goto 4, 3) := by decide +kernel
theorem dL_law_1009 : decode cL_law 1009 = .ok (.iconst 1, 1) := by decide +kernel
theorem dL_law_1010 : decode cL_law 1010 = .ok (.iload 13, 2) := by decide +kernel
theorem dL_law_1012 : decode cL_law 1012 = .ok (.ifCond .eq 8, 3) := by decide +kernel
theorem dL_law_1015 : decode cL_law 1015 = .ok (.iload 10, 2) := by decide +kernel
theorem dL_law_1017 : decode cL_law 1017 = .ok (.goto 5, 3) := by decide +kernel
theorem dL_law_1020 : decode cL_law 1020 = .ok (.iload 14, 2) := by decide +kernel
theorem dL_law_1022 : decode cL_law 1022 = .ok (.invokevirtual 111, 3) := by decide +kernel
theorem dL_law_1025 : decode cL_law 1025 = .ok (.istore 18, 2) := by decide +kernel
theorem dL_law_1027 : decode cL_law 1027 = .ok (.iload 13, 2) := by decide +kernel
theorem dL_law_1029 : decode cL_law 1029 = .ok (.ifCond .eq 12, 3) := by decide +kernel
theorem dL_law_1032 : decode cL_law 1032 = .ok (.aload_n 1, 1) := by decide +kernel
theorem dL_law_1033 : decode cL_law 1033 = .ok (.iload 10, 2) := by decide +kernel
theorem dL_law_1035 : decode cL_law 1035 = .ok (.invokevirtual 114, 3) := by decide +kernel
theorem dL_law_1038 : decode cL_law 1038 = .ok (.goto 9, 3) := by decide +kernel
theorem dL_law_1041 : decode cL_law 1041 = .ok (.aload_n 1, 1) := by decide +kernel
theorem dL_law_1042 : decode cL_law 1042 = .ok (.iload 14, 2) := by decide +kernel
theorem dL_law_1044 : decode cL_law 1044 = .ok (.invokevirtual 117, 3) := by decide +kernel
theorem dL_law_1047 : decode cL_law 1047 = .ok (.istore 19, 2) := by decide +kernel
theorem dL_law_1049 : decode cL_law 1049 = .ok (.iload 18, 2) := by decide +kernel
theorem dL_law_1051 : decode cL_law 1051 = .ok (.iload 19, 2) := by decide +kernel
theorem dL_law_1053 : decode cL_law 1053 = .ok (.if_icmp .ne 20, 3) := by decide +kernel
theorem dL_law_1056 : decode cL_law 1056 = .ok (.iload 19, 2) := by decide +kernel
theorem dL_law_1058 : decode cL_law 1058 = .ok (.iload 16, 2) := by decide +kernel
theorem dL_law_1060 : decode cL_law 1060 = .ok (.ifCond .eq 8, 3) := by decide +kernel
theorem dL_law_1063 : decode cL_law 1063 = .ok (.iload 17, 2) := by decide +kernel
theorem dL_law_1065 : decode cL_law 1065 = .ok (.goto 5, 3) := by decide +kernel
theorem dL_law_1068 : decode cL_law 1068 = .ok (.bipush (-5), 2) := by decide +kernel
theorem dL_law_1070 : decode cL_law 1070 = .ok (.if_icmp .eq 5, 3) := by decide +kernel
theorem dL_law_1073 : decode cL_law 1073 = .ok (.iconst 0, 1) := by decide +kernel
theorem dL_law_1074 : decode cL_law 1074 = .ok (.ireturn, 1) := by decide +kernel
theorem dL_law_1075 : decode cL_law 1075 = .ok (.iload 16, 2) := by decide +kernel
theorem dL_law_1077 : decode cL_law 1077 = .ok (.ifCond .eq 131, 3) := by decide +kernel
theorem dL_law_1080 : decode cL_law 1080 = .ok (.iconst 0, 1) := by decide +kernel
theorem dL_law_1081 : decode cL_law 1081 = .ok (.istore 20, 2) := by decide +kernel
theorem dL_law_1083 : decode cL_law 1083 = .ok (.iload 20, 2) := by decide +kernel
theorem dL_law_1085 : decode cL_law 1085 = .ok (.aload_n 2, 1) := by decide +kernel
theorem dL_law_1086 : decode cL_law 1086 = .ok (.iconst 2, 1) := by decide +kernel
theorem dL_law_1087 : decode cL_law 1087 = .ok (.iaload, 1) := by decide +kernel
theorem dL_law_1088 : decode cL_law 1088 = .ok (.if_icmp .ge 50, 3) := by decide +kernel
theorem dL_law_1091 : decode cL_law 1091 = .ok (.iload 13, 2) := by decide +kernel
