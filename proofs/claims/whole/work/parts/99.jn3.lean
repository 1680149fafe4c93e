/-! THE LAW: its instructions, 3 -/
theorem dl_778 : decode code 778 = .ok (.iload 4, 2) := by decide +kernel
theorem dl_780 : decode code 780 = .ok (.iconst 3, 1) := by decide +kernel
theorem dl_781 : decode code 781 = .ok (.iadd, 1) := by decide +kernel
theorem dl_782 : decode code 782 = .ok (.iaload, 1) := by decide +kernel
theorem dl_783 : decode code 783 = .ok (.invokevirtual 109, 3) := by decide +kernel
theorem dl_786 : decode code 786 = .ok (.istore 6, 2) := by decide +kernel
theorem dl_788 : decode code 788 = .ok (.aload_n 2, 1) := by decide +kernel
theorem dl_789 : decode code 789 = .ok (.invokevirtual 71, 3) := by decide +kernel
theorem dl_792 : decode code 792 = .ok (.iload 5, 2) := by decide +kernel
theorem dl_794 : decode code 794 = .ok (.if_icmp .eq 5, 3) := by decide +kernel
theorem dl_799 : decode code 799 = .ok (.iload 5, 2) := by decide +kernel
theorem dl_801 : decode code 801 = .ok (.ifCond .ne 15, 3) := by decide +kernel
theorem dl_804 : decode code 804 = .ok (.aload_n 3, 1) := by decide +kernel
theorem dl_805 : decode code 805 = .ok (.iconst 0, 1) := by decide +kernel
theorem dl_806 : decode code 806 = .ok (.laload, 1) := by decide +kernel
theorem dl_807 : decode code 807 = .ok (.iload 6, 2) := by decide +kernel
theorem dl_809 : decode code 809 = .ok (.i2l, 1) := by decide +kernel
theorem dl_810 : decode code 810 = .ok (.lcmp, 1) := by decide +kernel
theorem dl_811 : decode code 811 = .ok (.ifCond .eq 5, 3) := by decide +kernel
theorem dl_816 : decode code 816 = .ok (.goto 310, 3) := by decide +kernel
theorem dl_819 : decode code 819 = .ok (.aload_n 1, 1) := by decide +kernel
theorem dl_820 : decode code 820 = .ok (.aload_n 0, 1) := by decide +kernel
theorem dl_821 : decode code 821 = .ok (.iload 4, 2) := by decide +kernel
theorem dl_823 : decode code 823 = .ok (.iconst 1, 1) := by decide +kernel
theorem dl_824 : decode code 824 = .ok (.iadd, 1) := by decide +kernel
theorem dl_825 : decode code 825 = .ok (.iaload, 1) := by decide +kernel
theorem dl_826 : decode code 826 = .ok (.aload_n 3, 1) := by decide +kernel
theorem dl_827 : decode code 827 = .ok (.invokestatic 110, 3) := by decide +kernel
theorem dl_830 : decode code 830 = .ok (.istore 5, 2) := by decide +kernel
theorem dl_832 : decode code 832 = .ok (.aload_n 2, 1) := by decide +kernel
theorem dl_833 : decode code 833 = .ok (.aload_n 0, 1) := by decide +kernel
theorem dl_834 : decode code 834 = .ok (.iload 4, 2) := by decide +kernel
theorem dl_836 : decode code 836 = .ok (.iconst 1, 1) := by decide +kernel
theorem dl_837 : decode code 837 = .ok (.iadd, 1) := by decide +kernel
theorem dl_838 : decode code 838 = .ok (.iaload, 1) := by decide +kernel
theorem dl_839 : decode code 839 = .ok (.invokevirtual 112, 3) := by decide +kernel
theorem dl_842 : decode code 842 = .ok (.istore 6, 2) := by decide +kernel
theorem dl_844 : decode code 844 = .ok (.aload_n 2, 1) := by decide +kernel
theorem dl_845 : decode code 845 = .ok (.invokevirtual 71, 3) := by decide +kernel
theorem dl_848 : decode code 848 = .ok (.iload 5, 2) := by decide +kernel
theorem dl_850 : decode code 850 = .ok (.if_icmp .eq 5, 3) := by decide +kernel
theorem dl_855 : decode code 855 = .ok (.iload 5, 2) := by decide +kernel
theorem dl_857 : decode code 857 = .ok (.ifCond .ne 15, 3) := by decide +kernel
theorem dl_860 : decode code 860 = .ok (.aload_n 3, 1) := by decide +kernel
theorem dl_861 : decode code 861 = .ok (.iconst 0, 1) := by decide +kernel
theorem dl_862 : decode code 862 = .ok (.laload, 1) := by decide +kernel
theorem dl_863 : decode code 863 = .ok (.iload 6, 2) := by decide +kernel
theorem dl_865 : decode code 865 = .ok (.i2l, 1) := by decide +kernel
theorem dl_866 : decode code 866 = .ok (.lcmp, 1) := by decide +kernel
theorem dl_867 : decode code 867 = .ok (.ifCond .eq 5, 3) := by decide +kernel
theorem dl_872 : decode code 872 = .ok (.goto 254, 3) := by decide +kernel
theorem dl_875 : decode code 875 = .ok (.aload_n 1, 1) := by decide +kernel
theorem dl_876 : decode code 876 = .ok (.aload_n 0, 1) := by decide +kernel
theorem dl_877 : decode code 877 = .ok (.iload 4, 2) := by decide +kernel
theorem dl_879 : decode code 879 = .ok (.iconst 1, 1) := by decide +kernel
theorem dl_880 : decode code 880 = .ok (.iadd, 1) := by decide +kernel
theorem dl_881 : decode code 881 = .ok (.iaload, 1) := by decide +kernel
theorem dl_882 : decode code 882 = .ok (.aload_n 0, 1) := by decide +kernel
theorem dl_883 : decode code 883 = .ok (.iload 4, 2) := by decide +kernel
theorem dl_885 : decode code 885 = .ok (.iconst 2, 1) := by decide +kernel
theorem dl_886 : decode code 886 = .ok (.iadd, 1) := by decide +kernel
theorem dl_887 : decode code 887 = .ok (.iaload, 1) := by decide +kernel
theorem dl_888 : decode code 888 = .ok (.ifCond .eq 7, 3) := by decide +kernel
theorem dl_891 : decode code 891 = .ok (.iconst 1, 1) := by decide +kernel
theorem dl_892 : decode code 892 = .ok (.goto 4, 3) := by decide +kernel
theorem dl_895 : decode code 895 = .ok (.iconst 0, 1) := by decide +kernel
theorem dl_896 : decode code 896 = .ok (.aload_n 3, 1) := by decide +kernel
theorem dl_897 : decode code 897 = .ok (.invokestatic 113, 3) := by decide +kernel
theorem dl_900 : decode code 900 = .ok (.istore 5, 2) := by decide +kernel
theorem dl_902 : decode code 902 = .ok (.aload_n 2, 1) := by decide +kernel
theorem dl_903 : decode code 903 = .ok (.aload_n 0, 1) := by decide +kernel
theorem dl_904 : decode code 904 = .ok (.iload 4, 2) := by decide +kernel
theorem dl_906 : decode code 906 = .ok (.iconst 1, 1) := by decide +kernel
theorem dl_907 : decode code 907 = .ok (.iadd, 1) := by decide +kernel
theorem dl_908 : decode code 908 = .ok (.iaload, 1) := by decide +kernel
theorem dl_909 : decode code 909 = .ok (.aload_n 0, 1) := by decide +kernel
theorem dl_910 : decode code 910 = .ok (.iload 4, 2) := by decide +kernel
theorem dl_912 : decode code 912 = .ok (.iconst 2, 1) := by decide +kernel
theorem dl_913 : decode code 913 = .ok (.iadd, 1) := by decide +kernel
theorem dl_914 : decode code 914 = .ok (.iaload, 1) := by decide +kernel
theorem dl_915 : decode code 915 = .ok (.ifCond .eq 7, 3) := by decide +kernel
theorem dl_918 : decode code 918 = .ok (.iconst 1, 1) := by decide +kernel
theorem dl_919 : decode code 919 = .ok (.goto 4, 3) := by decide +kernel
theorem dl_922 : decode code 922 = .ok (.iconst 0, 1) := by decide +kernel
theorem dl_923 : decode code 923 = .ok (.invokevirtual 115, 3) := by decide +kernel
theorem dl_926 : decode code 926 = .ok (.istore 6, 2) := by decide +kernel
theorem dl_928 : decode code 928 = .ok (.aload_n 2, 1) := by decide +kernel
theorem dl_929 : decode code 929 = .ok (.invokevirtual 71, 3) := by decide +kernel
theorem dl_932 : decode code 932 = .ok (.iload 5, 2) := by decide +kernel
theorem dl_934 : decode code 934 = .ok (.if_icmp .eq 5, 3) := by decide +kernel
theorem dl_939 : decode code 939 = .ok (.iload 5, 2) := by decide +kernel
theorem dl_941 : decode code 941 = .ok (.ifCond .ne 15, 3) := by decide +kernel
theorem dl_944 : decode code 944 = .ok (.aload_n 3, 1) := by decide +kernel
theorem dl_945 : decode code 945 = .ok (.iconst 0, 1) := by decide +kernel
theorem dl_946 : decode code 946 = .ok (.laload, 1) := by decide +kernel
theorem dl_947 : decode code 947 = .ok (.iload 6, 2) := by decide +kernel
theorem dl_949 : decode code 949 = .ok (.i2l, 1) := by decide +kernel
theorem dl_950 : decode code 950 = .ok (.lcmp, 1) := by decide +kernel
theorem dl_951 : decode code 951 = .ok (.ifCond .eq 5, 3) := by decide +kernel
theorem dl_956 : decode code 956 = .ok (.goto 170, 3) := by decide +kernel
theorem dl_959 : decode code 959 = .ok (.aload_n 1, 1) := by decide +kernel
theorem dl_960 : decode code 960 = .ok (.aload_n 0, 1) := by decide +kernel
theorem dl_961 : decode code 961 = .ok (.iload 4, 2) := by decide +kernel
theorem dl_963 : decode code 963 = .ok (.iconst 1, 1) := by decide +kernel
theorem dl_964 : decode code 964 = .ok (.iadd, 1) := by decide +kernel
theorem dl_965 : decode code 965 = .ok (.iaload, 1) := by decide +kernel
theorem dl_966 : decode code 966 = .ok (.aload_n 3, 1) := by decide +kernel
theorem dl_967 : decode code 967 = .ok (.invokestatic 116, 3) := by decide +kernel
theorem dl_970 : decode code 970 = .ok (.istore 5, 2) := by decide +kernel
theorem dl_972 : decode code 972 = .ok (.aload_n 2, 1) := by decide +kernel
theorem dl_973 : decode code 973 = .ok (.aload_n 0, 1) := by decide +kernel
theorem dl_974 : decode code 974 = .ok (.iload 4, 2) := by decide +kernel
theorem dl_976 : decode code 976 = .ok (.iconst 1, 1) := by decide +kernel
theorem dl_977 : decode code 977 = .ok (.iadd, 1) := by decide +kernel
theorem dl_978 : decode code 978 = .ok (.iaload, 1) := by decide +kernel
theorem dl_979 : decode code 979 = .ok (.invokevirtual 118, 3) := by decide +kernel
theorem dl_982 : decode code 982 = .ok (.istore 6, 2) := by decide +kernel
theorem dl_984 : decode code 984 = .ok (.aload_n 2, 1) := by decide +kernel
theorem dl_985 : decode code 985 = .ok (.invokevirtual 71, 3) := by decide +kernel
theorem dl_988 : decode code 988 = .ok (.iload 5, 2) := by decide +kernel
theorem dl_990 : decode code 990 = .ok (.if_icmp .eq 5, 3) := by decide +kernel
theorem dl_995 : decode code 995 = .ok (.iload 5, 2) := by decide +kernel
theorem dl_997 : decode code 997 = .ok (.ifCond .ne 15, 3) := by decide +kernel
theorem dl_1000 : decode code 1000 = .ok (.aload_n 3, 1) := by decide +kernel
theorem dl_1001 : decode code 1001 = .ok (.iconst 0, 1) := by decide +kernel
theorem dl_1002 : decode code 1002 = .ok (.laload, 1) := by decide +kernel
theorem dl_1003 : decode code 1003 = .ok (.iload 6, 2) := by decide +kernel
theorem dl_1005 : decode code 1005 = .ok (.i2l, 1) := by decide +kernel
theorem dl_1006 : decode code 1006 = .ok (.lcmp, 1) := by decide +kernel
theorem dl_1007 : decode code 1007 = .ok (.ifCond .eq 5, 3) := by decide +kernel
theorem dl_1012 : decode code 1012 = .ok (.goto 114, 3) := by decide +kernel
theorem dl_1015 : decode code 1015 = .ok (.aload_n 1, 1) := by decide +kernel
theorem dl_1016 : decode code 1016 = .ok (.aload_n 0, 1) := by decide +kernel
theorem dl_1017 : decode code 1017 = .ok (.iload 4, 2) := by decide +kernel
theorem dl_1019 : decode code 1019 = .ok (.iconst 1, 1) := by decide +kernel
theorem dl_1020 : decode code 1020 = .ok (.iadd, 1) := by decide +kernel
theorem dl_1021 : decode code 1021 = .ok (.iaload, 1) := by decide +kernel
theorem dl_1022 : decode code 1022 = .ok (.aload_n 0, 1) := by decide +kernel
theorem dl_1023 : decode code 1023 = .ok (.iload 4, 2) := by decide +kernel
theorem dl_1025 : decode code 1025 = .ok (.iconst 2, 1) := by decide +kernel
theorem dl_1026 : decode code 1026 = .ok (.iadd, 1) := by decide +kernel
theorem dl_1027 : decode code 1027 = .ok (.iaload, 1) := by decide +kernel
theorem dl_1028 : decode code 1028 = .ok (.invokevirtual 119, 3) := by decide +kernel
theorem dl_1031 : decode code 1031 = .ok (.aload_n 2, 1) := by decide +kernel
theorem dl_1032 : decode code 1032 = .ok (.aload_n 0, 1) := by decide +kernel
theorem dl_1033 : decode code 1033 = .ok (.iload 4, 2) := by decide +kernel
theorem dl_1035 : decode code 1035 = .ok (.iconst 1, 1) := by decide +kernel
theorem dl_1036 : decode code 1036 = .ok (.iadd, 1) := by decide +kernel
theorem dl_1037 : decode code 1037 = .ok (.iaload, 1) := by decide +kernel
theorem dl_1038 : decode code 1038 = .ok (.aload_n 0, 1) := by decide +kernel
theorem dl_1039 : decode code 1039 = .ok (.iload 4, 2) := by decide +kernel
theorem dl_1041 : decode code 1041 = .ok (.iconst 2, 1) := by decide +kernel
theorem dl_1042 : decode code 1042 = .ok (.iadd, 1) := by decide +kernel
theorem dl_1043 : decode code 1043 = .ok (.iaload, 1) := by decide +kernel
theorem dl_1044 : decode code 1044 = .ok (.invokevirtual 122, 3) := by decide +kernel
theorem dl_1047 : decode code 1047 = .ok (.if_icmp .eq 79, 3) := by decide +kernel
theorem dl_1052 : decode code 1052 = .ok (.aload_n 1, 1) := by decide +kernel
theorem dl_1053 : decode code 1053 = .ok (.aload_n 0, 1) := by decide +kernel
theorem dl_1054 : decode code 1054 = .ok (.iload 4, 2) := by decide +kernel
theorem dl_1056 : decode code 1056 = .ok (.iconst 1, 1) := by decide +kernel
theorem dl_1057 : decode code 1057 = .ok (.iadd, 1) := by decide +kernel
theorem dl_1058 : decode code 1058 = .ok (.iaload, 1) := by decide +kernel
theorem dl_1059 : decode code 1059 = .ok (.aload_n 0, 1) := by decide +kernel
theorem dl_1060 : decode code 1060 = .ok (.iload 4, 2) := by decide +kernel
theorem dl_1062 : decode code 1062 = .ok (.iconst 2, 1) := by decide +kernel
theorem dl_1063 : decode code 1063 = .ok (.iadd, 1) := by decide +kernel
theorem dl_1064 : decode code 1064 = .ok (.iaload, 1) := by decide +kernel
theorem dl_1065 : decode code 1065 = .ok (.invokevirtual 123, 3) := by decide +kernel
theorem dl_1068 : decode code 1068 = .ok (.aload_n 2, 1) := by decide +kernel
theorem dl_1069 : decode code 1069 = .ok (.aload_n 0, 1) := by decide +kernel
theorem dl_1070 : decode code 1070 = .ok (.iload 4, 2) := by decide +kernel
theorem dl_1072 : decode code 1072 = .ok (.iconst 1, 1) := by decide +kernel
theorem dl_1073 : decode code 1073 = .ok (.iadd, 1) := by decide +kernel
theorem dl_1074 : decode code 1074 = .ok (.iaload, 1) := by decide +kernel
theorem dl_1075 : decode code 1075 = .ok (.aload_n 0, 1) := by decide +kernel
theorem dl_1076 : decode code 1076 = .ok (.iload 4, 2) := by decide +kernel
theorem dl_1078 : decode code 1078 = .ok (.iconst 2, 1) := by decide +kernel
theorem dl_1079 : decode code 1079 = .ok (.iadd, 1) := by decide +kernel
theorem dl_1080 : decode code 1080 = .ok (.iaload, 1) := by decide +kernel
theorem dl_1081 : decode code 1081 = .ok (.invokevirtual 126, 3) := by decide +kernel
theorem dl_1084 : decode code 1084 = .ok (.if_icmp .eq 42, 3) := by decide +kernel
theorem dl_1089 : decode code 1089 = .ok (.aload_n 1, 1) := by decide +kernel
theorem dl_1090 : decode code 1090 = .ok (.aload_n 0, 1) := by decide +kernel
theorem dl_1091 : decode code 1091 = .ok (.iload 4, 2) := by decide +kernel
theorem dl_1093 : decode code 1093 = .ok (.iconst 1, 1) := by decide +kernel
theorem dl_1094 : decode code 1094 = .ok (.iadd, 1) := by decide +kernel
theorem dl_1095 : decode code 1095 = .ok (.iaload, 1) := by decide +kernel
theorem dl_1096 : decode code 1096 = .ok (.aload_n 0, 1) := by decide +kernel
theorem dl_1097 : decode code 1097 = .ok (.iload 4, 2) := by decide +kernel
theorem dl_1099 : decode code 1099 = .ok (.iconst 2, 1) := by decide +kernel
theorem dl_1100 : decode code 1100 = .ok (.iadd, 1) := by decide +kernel
theorem dl_1101 : decode code 1101 = .ok (.iaload, 1) := by decide +kernel
theorem dl_1102 : decode code 1102 = .ok (.invokevirtual 127, 3) := by decide +kernel
theorem dl_1105 : decode code 1105 = .ok (.aload_n 2, 1) := by decide +kernel
theorem dl_1106 : decode code 1106 = .ok (.aload_n 0, 1) := by decide +kernel
theorem dl_1107 : decode code 1107 = .ok (.iload 4, 2) := by decide +kernel
theorem dl_1109 : decode code 1109 = .ok (.iconst 1, 1) := by decide +kernel
theorem dl_1110 : decode code 1110 = .ok (.iadd, 1) := by decide +kernel
theorem dl_1111 : decode code 1111 = .ok (.iaload, 1) := by decide +kernel
theorem dl_1112 : decode code 1112 = .ok (.aload_n 0, 1) := by decide +kernel
theorem dl_1113 : decode code 1113 = .ok (.iload 4, 2) := by decide +kernel
theorem dl_1115 : decode code 1115 = .ok (.iconst 2, 1) := by decide +kernel
theorem dl_1116 : decode code 1116 = .ok (.iadd, 1) := by decide +kernel
theorem dl_1117 : decode code 1117 = .ok (.iaload, 1) := by decide +kernel
theorem dl_1118 : decode code 1118 = .ok (.invokevirtual 130, 3) := by decide +kernel
theorem dl_1121 : decode code 1121 = .ok (.if_icmp .eq 5, 3) := by decide +kernel
theorem dl_1126 : decode code 1126 = .ok (.iinc 4 4, 3) := by decide +kernel
theorem dl_1129 : decode code 1129 = .ok (.goto (-1106), 3) := by decide +kernel
theorem dl_1132 : decode code 1132 = .ok (.iconst 1, 1) := by decide +kernel
theorem dl_1133 : decode code 1133 = .ok (.ireturn, 1) := by decide +kernel
