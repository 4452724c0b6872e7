theorem dL_same_739 : decode cL_same 739 = .ok (.bipush 19, 2) := by decide +kernel
theorem dL_same_741 : decode cL_same 741 = .ok (.ishr, 1) := by decide +kernel
theorem dL_same_742 : decode cL_same 742 = .ok (.iconst 1, 1) := by decide +kernel
theorem dL_same_743 : decode cL_same 743 = .ok (.iand, 1) := by decide +kernel
theorem dL_same_744 : decode cL_same 744 = .ok (.iload 13, 2) := by decide +kernel
theorem dL_same_746 : decode cL_same 746 = .ok (.bipush 20, 2) := by decide +kernel
theorem dL_same_748 : decode cL_same 748 = .ok (.ishr, 1) := by decide +kernel
theorem dL_same_749 : decode cL_same 749 = .ok (.iconst 1, 1) := by decide +kernel
theorem dL_same_750 : decode cL_same 750 = .ok (.iand, 1) := by decide +kernel
theorem dL_same_751 : decode cL_same 751 = .ok (.iadd, 1) := by decide +kernel
theorem dL_same_752 : decode cL_same 752 = .ok (.iload 13, 2) := by decide +kernel
theorem dL_same_754 : decode cL_same 754 = .ok (.bipush 21, 2) := by decide +kernel
theorem dL_same_756 : decode cL_same 756 = .ok (.ishr, 1) := by decide +kernel
theorem dL_same_757 : decode cL_same 757 = .ok (.iconst 1, 1) := by decide +kernel
theorem dL_same_758 : decode cL_same 758 = .ok (.iand, 1) := by decide +kernel
theorem dL_same_759 : decode cL_same 759 = .ok (.iadd, 1) := by decide +kernel
theorem dL_same_760 : decode cL_same 760 = .ok (.iadd, 1) := by decide +kernel
theorem dL_same_761 : decode cL_same 761 = .ok (.istore 10, 2) := by decide +kernel
theorem dL_same_763 : decode cL_same 763 = .ok (.aload_n 0, 1) := by decide +kernel
theorem dL_same_764 : decode cL_same 764 = .ok (.iload 12, 2) := by decide +kernel
theorem dL_same_766 : decode cL_same 766 = .ok (.iconst 0, 1) := by decide +kernel
theorem dL_same_767 : decode cL_same 767 = .ok (.invokevirtual 87, 3) := by decide +kernel
theorem dL_same_770 : decode cL_same 770 = .ok (.iload 13, 2) := by decide +kernel
theorem dL_same_772 : decode cL_same 772 = .ok (.invokestatic 21, 3) := by decide +kernel
theorem dL_same_775 : decode cL_same 775 = .ok (.bipush 7, 2) := by decide +kernel
theorem dL_same_777 : decode cL_same 777 = .ok (.if_icmp .ne 8, 3) := by decide +kernel
theorem dL_same_780 : decode cL_same 780 = .ok (.bipush (-6), 2) := by decide +kernel
theorem dL_same_782 : decode cL_same 782 = .ok (.goto 8, 3) := by decide +kernel
theorem dL_same_785 : decode cL_same 785 = .ok (.iload 13, 2) := by decide +kernel
theorem dL_same_787 : decode cL_same 787 = .ok (.invokestatic 21, 3) := by decide +kernel
theorem dL_same_790 : decode cL_same 790 = .ok (.if_icmp .ne 83, 3) := by decide +kernel
theorem dL_same_793 : decode cL_same 793 = .ok (.aload_n 0, 1) := by decide +kernel
theorem dL_same_794 : decode cL_same 794 = .ok (.iload 12, 2) := by decide +kernel
theorem dL_same_796 : decode cL_same 796 = .ok (.iconst 1, 1) := by decide +kernel
theorem dL_same_797 : decode cL_same 797 = .ok (.invokevirtual 87, 3) := by decide +kernel
theorem dL_same_800 : decode cL_same 800 = .ok (.iload 13, 2) := by decide +kernel
theorem dL_same_802 : decode cL_same 802 = .ok (.invokestatic 28, 3) := by decide +kernel
theorem dL_same_805 : decode cL_same 805 = .ok (.if_icmp .ne 68, 3) := by decide +kernel
theorem dL_same_808 : decode cL_same 808 = .ok (.aload_n 0, 1) := by decide +kernel
theorem dL_same_809 : decode cL_same 809 = .ok (.iload 12, 2) := by decide +kernel
theorem dL_same_811 : decode cL_same 811 = .ok (.iconst 2, 1) := by decide +kernel
theorem dL_same_812 : decode cL_same 812 = .ok (.invokevirtual 87, 3) := by decide +kernel
theorem dL_same_815 : decode cL_same 815 = .ok (.iload 13, 2) := by decide +kernel
theorem dL_same_817 : decode cL_same 817 = .ok (.invokestatic 25, 3) := by decide +kernel
theorem dL_same_820 : decode cL_same 820 = .ok (.if_icmp .ne 53, 3) := by decide +kernel
theorem dL_same_823 : decode cL_same 823 = .ok (.aload_n 0, 1) := by decide +kernel
theorem dL_same_824 : decode cL_same 824 = .ok (.iload 12, 2) := by decide +kernel
theorem dL_same_826 : decode cL_same 826 = .ok (.iconst 3, 1) := by decide +kernel
theorem dL_same_827 : decode cL_same 827 = .ok (.invokevirtual 87, 3) := by decide +kernel
theorem dL_same_830 : decode cL_same 830 = .ok (.iload 13, 2) := by decide +kernel
theorem dL_same_832 : decode cL_same 832 = .ok (.invokestatic 40, 3) := by decide +kernel
theorem dL_same_835 : decode cL_same 835 = .ok (.if_icmp .ne 38, 3) := by decide +kernel
theorem dL_same_838 : decode cL_same 838 = .ok (.aload_n 0, 1) := by decide +kernel
theorem dL_same_839 : decode cL_same 839 = .ok (.iload 12, 2) := by decide +kernel
theorem dL_same_841 : decode cL_same 841 = .ok (.iconst 4, 1) := by decide +kernel
theorem dL_same_842 : decode cL_same 842 = .ok (.invokevirtual 87, 3) := by decide +kernel
theorem dL_same_845 : decode cL_same 845 = .ok (.iload 13, 2) := by decide +kernel
theorem dL_same_847 : decode cL_same 847 = .ok (.bipush 18, 2) := by decide +kernel
theorem dL_same_849 : decode cL_same 849 = .ok (.ishr, 1) := by decide +kernel
theorem dL_same_850 : decode cL_same 850 = .ok (.iconst 1, 1) := by decide +kernel
theorem dL_same_851 : decode cL_same 851 = .ok (.iand, 1) := by decide +kernel
theorem dL_same_852 : decode cL_same 852 = .ok (.if_icmp .ne 21, 3) := by decide +kernel
theorem dL_same_855 : decode cL_same 855 = .ok (.aload_n 0, 1) := by decide +kernel
theorem dL_same_856 : decode cL_same 856 = .ok (.iload 12, 2) := by decide +kernel
theorem dL_same_858 : decode cL_same 858 = .ok (.iconst 5, 1) := by decide +kernel
theorem dL_same_859 : decode cL_same 859 = .ok (.invokevirtual 87, 3) := by decide +kernel
theorem dL_same_862 : decode cL_same 862 = .ok (.iload 13, 2) := by decide +kernel
theorem dL_same_864 : decode cL_same 864 = .ok (.bipush 19, 2) := by decide +kernel
theorem dL_same_866 : decode cL_same 866 = .ok (.ishr, 1) := by decide +kernel
theorem dL_same_867 : decode cL_same 867 = .ok (.bipush 7, 2) := by decide +kernel
theorem dL_same_869 : decode cL_same 869 = .ok (.iand, 1) := by decide +kernel
theorem dL_same_870 : decode cL_same 870 = .ok (.if_icmp .eq 5, 3) := by decide +kernel
theorem dL_same_873 : decode cL_same 873 = .ok (.iconst 0, 1) := by decide +kernel
theorem dL_same_874 : decode cL_same 874 = .ok (.ireturn, 1) := by decide +kernel
theorem dL_same_875 : decode cL_same 875 = .ok (.iinc 12 1, 3) := by decide +kernel
theorem dL_same_878 : decode cL_same 878 = .ok (.goto (-170), 3) := by decide +kernel
theorem dL_same_881 : decode cL_same 881 = .ok (.aload_n 0, 1) := by decide +kernel
theorem dL_same_882 : decode cL_same 882 = .ok (.iconst 0, 1) := by decide +kernel
theorem dL_same_883 : decode cL_same 883 = .ok (.invokevirtual 81, 3) := by decide +kernel
theorem dL_same_886 : decode cL_same 886 = .ok (.aload_n 2, 1) := by decide +kernel
theorem dL_same_887 : decode cL_same 887 = .ok (.iconst 1, 1) := by decide +kernel
theorem dL_same_888 : decode cL_same 888 = .ok (.iaload, 1) := by decide +kernel
theorem dL_same_889 : decode cL_same 889 = .ok (.if_icmp .ne 93, 3) := by decide +kernel
theorem dL_same_892 : decode cL_same 892 = .ok (.aload_n 0, 1) := by decide +kernel
theorem dL_same_893 : decode cL_same 893 = .ok (.iconst 1, 1) := by decide +kernel
theorem dL_same_894 : decode cL_same 894 = .ok (.invokevirtual 81, 3) := by decide +kernel
theorem dL_same_897 : decode cL_same 897 = .ok (.iload 7, 2) := by decide +kernel
theorem dL_same_899 : decode cL_same 899 = .ok (.if_icmp .ne 83, 3) := by decide +kernel
theorem dL_same_902 : decode cL_same 902 = .ok (.aload_n 0, 1) := by decide +kernel
theorem dL_same_903 : decode cL_same 903 = .ok (.iconst 2, 1) := by decide +kernel
