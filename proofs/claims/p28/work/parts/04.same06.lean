theorem dL_same_904 : decode cL_same 904 = .ok (.invokevirtual 81, 3) := by decide +kernel
theorem dL_same_907 : decode cL_same 907 = .ok (.aload_n 2, 1) := by decide +kernel
theorem dL_same_908 : decode cL_same 908 = .ok (.iconst 2, 1) := by decide +kernel
theorem dL_same_909 : decode cL_same 909 = .ok (.iaload, 1) := by decide +kernel
theorem dL_same_910 : decode cL_same 910 = .ok (.if_icmp .ne 72, 3) := by decide +kernel
theorem dL_same_913 : decode cL_same 913 = .ok (.aload_n 0, 1) := by decide +kernel
theorem dL_same_914 : decode cL_same 914 = .ok (.iconst 3, 1) := by decide +kernel
theorem dL_same_915 : decode cL_same 915 = .ok (.invokevirtual 81, 3) := by decide +kernel
theorem dL_same_918 : decode cL_same 918 = .ok (.iload 11, 2) := by decide +kernel
theorem dL_same_920 : decode cL_same 920 = .ok (.if_icmp .ne 62, 3) := by decide +kernel
theorem dL_same_923 : decode cL_same 923 = .ok (.aload_n 0, 1) := by decide +kernel
theorem dL_same_924 : decode cL_same 924 = .ok (.iconst 4, 1) := by decide +kernel
theorem dL_same_925 : decode cL_same 925 = .ok (.invokevirtual 81, 3) := by decide +kernel
theorem dL_same_928 : decode cL_same 928 = .ok (.aload_n 2, 1) := by decide +kernel
theorem dL_same_929 : decode cL_same 929 = .ok (.iconst 3, 1) := by decide +kernel
theorem dL_same_930 : decode cL_same 930 = .ok (.iaload, 1) := by decide +kernel
theorem dL_same_931 : decode cL_same 931 = .ok (.if_icmp .ne 51, 3) := by decide +kernel
theorem dL_same_934 : decode cL_same 934 = .ok (.aload_n 0, 1) := by decide +kernel
theorem dL_same_935 : decode cL_same 935 = .ok (.iconst 5, 1) := by decide +kernel
theorem dL_same_936 : decode cL_same 936 = .ok (.invokevirtual 81, 3) := by decide +kernel
theorem dL_same_939 : decode cL_same 939 = .ok (.iload 9, 2) := by decide +kernel
theorem dL_same_941 : decode cL_same 941 = .ok (.if_icmp .ne 41, 3) := by decide +kernel
theorem dL_same_944 : decode cL_same 944 = .ok (.aload_n 0, 1) := by decide +kernel
theorem dL_same_945 : decode cL_same 945 = .ok (.bipush 6, 2) := by decide +kernel
theorem dL_same_947 : decode cL_same 947 = .ok (.invokevirtual 81, 3) := by decide +kernel
theorem dL_same_950 : decode cL_same 950 = .ok (.iload 10, 2) := by decide +kernel
theorem dL_same_952 : decode cL_same 952 = .ok (.if_icmp .ne 30, 3) := by decide +kernel
theorem dL_same_955 : decode cL_same 955 = .ok (.aload_n 0, 1) := by decide +kernel
theorem dL_same_956 : decode cL_same 956 = .ok (.bipush 7, 2) := by decide +kernel
theorem dL_same_958 : decode cL_same 958 = .ok (.invokevirtual 81, 3) := by decide +kernel
theorem dL_same_961 : decode cL_same 961 = .ok (.aload_n 2, 1) := by decide +kernel
theorem dL_same_962 : decode cL_same 962 = .ok (.iconst 0, 1) := by decide +kernel
theorem dL_same_963 : decode cL_same 963 = .ok (.iaload, 1) := by decide +kernel
theorem dL_same_964 : decode cL_same 964 = .ok (.if_icmp .ne 18, 3) := by decide +kernel
theorem dL_same_967 : decode cL_same 967 = .ok (.aload_n 0, 1) := by decide +kernel
theorem dL_same_968 : decode cL_same 968 = .ok (.bipush 8, 2) := by decide +kernel
theorem dL_same_970 : decode cL_same 970 = .ok (.invokevirtual 81, 3) := by decide +kernel
theorem dL_same_973 : decode cL_same 973 = .ok (.iload 8, 2) := by decide +kernel
theorem dL_same_975 : decode cL_same 975 = .ok (.if_icmp .ne 7, 3) := by decide +kernel
theorem dL_same_978 : decode cL_same 978 = .ok (.iconst 1, 1) := by decide +kernel
theorem dL_same_979 : decode cL_same 979 = .ok (.goto 4, 3) := by decide +kernel
theorem dL_same_982 : decode cL_same 982 = .ok (.iconst 0, 1) := by decide +kernel
theorem dL_same_983 : decode cL_same 983 = .ok (.ireturn, 1) := by decide +kernel
