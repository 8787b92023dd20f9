/-! the law, decoded -/
theorem dL_law_904 : decode code 904 = .ok (.i2l, 1) := by decide +kernel
theorem dL_law_905 : decode code 905 = .ok (.bipush 32, 2) := by decide +kernel
theorem dL_law_907 : decode code 907 = .ok (.lshl, 1) := by decide +kernel
theorem dL_law_908 : decode code 908 = .ok (.aload_n 0, 1) := by decide +kernel
theorem dL_law_909 : decode code 909 = .ok (.iload 4, 2) := by decide +kernel
theorem dL_law_911 : decode code 911 = .ok (.iconst 3, 1) := by decide +kernel
theorem dL_law_912 : decode code 912 = .ok (.iadd, 1) := by decide +kernel
theorem dL_law_913 : decode code 913 = .ok (.iaload, 1) := by decide +kernel
theorem dL_law_914 : decode code 914 = .ok (.i2l, 1) := by decide +kernel
theorem dL_law_915 : decode code 915 = .ok (.ldc2_w 42, 3) := by decide +kernel
theorem dL_law_918 : decode code 918 = .ok (.land, 1) := by decide +kernel
theorem dL_law_919 : decode code 919 = .ok (.lor, 1) := by decide +kernel
theorem dL_law_920 : decode code 920 = .ok (.aload_n 0, 1) := by decide +kernel
theorem dL_law_921 : decode code 921 = .ok (.iload 4, 2) := by decide +kernel
theorem dL_law_923 : decode code 923 = .ok (.iconst 4, 1) := by decide +kernel
theorem dL_law_924 : decode code 924 = .ok (.iadd, 1) := by decide +kernel
theorem dL_law_925 : decode code 925 = .ok (.iaload, 1) := by decide +kernel
theorem dL_law_926 : decode code 926 = .ok (.i2l, 1) := by decide +kernel
theorem dL_law_927 : decode code 927 = .ok (.bipush 32, 2) := by decide +kernel
theorem dL_law_929 : decode code 929 = .ok (.lshl, 1) := by decide +kernel
theorem dL_law_930 : decode code 930 = .ok (.aload_n 0, 1) := by decide +kernel
theorem dL_law_931 : decode code 931 = .ok (.iload 4, 2) := by decide +kernel
theorem dL_law_933 : decode code 933 = .ok (.iconst 5, 1) := by decide +kernel
theorem dL_law_934 : decode code 934 = .ok (.iadd, 1) := by decide +kernel
theorem dL_law_935 : decode code 935 = .ok (.iaload, 1) := by decide +kernel
theorem dL_law_936 : decode code 936 = .ok (.i2l, 1) := by decide +kernel
theorem dL_law_937 : decode code 937 = .ok (.ldc2_w 42, 3) := by decide +kernel
theorem dL_law_940 : decode code 940 = .ok (.land, 1) := by decide +kernel
theorem dL_law_941 : decode code 941 = .ok (.lor, 1) := by decide +kernel
theorem dL_law_942 : decode code 942 = .ok (.invokevirtual 99, 3) := by decide +kernel
theorem dL_law_945 : decode code 945 = .ok (.lstore 6, 2) := by decide +kernel
theorem dL_law_947 : decode code 947 = .ok (.aload_n 2, 1) := by decide +kernel
theorem dL_law_948 : decode code 948 = .ok (.invokevirtual 50, 3) := by decide +kernel
theorem dL_law_951 : decode code 951 = .ok (.iload 5, 2) := by decide +kernel
theorem dL_law_953 : decode code 953 = .ok (.if_icmp .eq 5, 3) := by decide +kernel
theorem dL_law_956 : decode code 956 = .ok (.iconst 0, 1) := by decide +kernel
theorem dL_law_957 : decode code 957 = .ok (.ireturn, 1) := by decide +kernel
theorem dL_law_958 : decode code 958 = .ok (.iload 5, 2) := by decide +kernel
theorem dL_law_960 : decode code 960 = .ok (.ifCond .ne 14, 3) := by decide +kernel
theorem dL_law_963 : decode code 963 = .ok (.aload_n 3, 1) := by decide +kernel
theorem dL_law_964 : decode code 964 = .ok (.iconst 0, 1) := by decide +kernel
theorem dL_law_965 : decode code 965 = .ok (.laload, 1) := by decide +kernel
theorem dL_law_966 : decode code 966 = .ok (.lload 6, 2) := by decide +kernel
theorem dL_law_968 : decode code 968 = .ok (.lcmp, 1) := by decide +kernel
theorem dL_law_969 : decode code 969 = .ok (.ifCond .eq 5, 3) := by decide +kernel
theorem dL_law_972 : decode code 972 = .ok (.iconst 0, 1) := by decide +kernel
theorem dL_law_973 : decode code 973 = .ok (.ireturn, 1) := by decide +kernel
theorem dL_law_974 : decode code 974 = .ok (.goto 448, 3) := by decide +kernel
theorem dL_law_977 : decode code 977 = .ok (.aload_n 1, 1) := by decide +kernel
theorem dL_law_978 : decode code 978 = .ok (.aload_n 0, 1) := by decide +kernel
theorem dL_law_979 : decode code 979 = .ok (.iload 4, 2) := by decide +kernel
theorem dL_law_981 : decode code 981 = .ok (.iconst 1, 1) := by decide +kernel
theorem dL_law_982 : decode code 982 = .ok (.iadd, 1) := by decide +kernel
theorem dL_law_983 : decode code 983 = .ok (.iaload, 1) := by decide +kernel
theorem dL_law_984 : decode code 984 = .ok (.invokevirtual 100, 3) := by decide +kernel
theorem dL_law_987 : decode code 987 = .ok (.aload_n 2, 1) := by decide +kernel
theorem dL_law_988 : decode code 988 = .ok (.aload_n 0, 1) := by decide +kernel
theorem dL_law_989 : decode code 989 = .ok (.iload 4, 2) := by decide +kernel
theorem dL_law_991 : decode code 991 = .ok (.iconst 1, 1) := by decide +kernel
theorem dL_law_992 : decode code 992 = .ok (.iadd, 1) := by decide +kernel
theorem dL_law_993 : decode code 993 = .ok (.iaload, 1) := by decide +kernel
theorem dL_law_994 : decode code 994 = .ok (.invokevirtual 104, 3) := by decide +kernel
theorem dL_law_997 : decode code 997 = .ok (.if_icmp .eq 425, 3) := by decide +kernel
theorem dL_law_1000 : decode code 1000 = .ok (.iconst 0, 1) := by decide +kernel
theorem dL_law_1001 : decode code 1001 = .ok (.ireturn, 1) := by decide +kernel
theorem dL_law_1002 : decode code 1002 = .ok (.aload_n 1, 1) := by decide +kernel
theorem dL_law_1003 : decode code 1003 = .ok (.aload_n 0, 1) := by decide +kernel
theorem dL_law_1004 : decode code 1004 = .ok (.iload 4, 2) := by decide +kernel
theorem dL_law_1006 : decode code 1006 = .ok (.iconst 1, 1) := by decide +kernel
theorem dL_law_1007 : decode code 1007 = .ok (.iadd, 1) := by decide +kernel
theorem dL_law_1008 : decode code 1008 = .ok (.iaload, 1) := by decide +kernel
theorem dL_law_1009 : decode code 1009 = .ok (.aload_n 0, 1) := by decide +kernel
theorem dL_law_1010 : decode code 1010 = .ok (.iload 4, 2) := by decide +kernel
theorem dL_law_1012 : decode code 1012 = .ok (.iconst 2, 1) := by decide +kernel
theorem dL_law_1013 : decode code 1013 = .ok (.iadd, 1) := by decide +kernel
theorem dL_law_1014 : decode code 1014 = .ok (.iaload, 1) := by decide +kernel
theorem dL_law_1015 : decode code 1015 = .ok (.aload_n 0, 1) := by decide +kernel
theorem dL_law_1016 : decode code 1016 = .ok (.iload 4, 2) := by decide +kernel
theorem dL_law_1018 : decode code 1018 = .ok (.iconst 3, 1) := by decide +kernel
theorem dL_law_1019 : decode code 1019 = .ok (.iadd, 1) := by decide +kernel
theorem dL_law_1020 : decode code 1020 = .ok (.iaload, 1) := by decide +kernel
theorem dL_law_1021 : decode code 1021 = .ok (.invokevirtual 105, 3) := by decide +kernel
theorem dL_law_1024 : decode code 1024 = .ok (.aload_n 2, 1) := by decide +kernel
theorem dL_law_1025 : decode code 1025 = .ok (.aload_n 0, 1) := by decide +kernel
theorem dL_law_1026 : decode code 1026 = .ok (.iload 4, 2) := by decide +kernel
theorem dL_law_1028 : decode code 1028 = .ok (.iconst 1, 1) := by decide +kernel
theorem dL_law_1029 : decode code 1029 = .ok (.iadd, 1) := by decide +kernel
theorem dL_law_1030 : decode code 1030 = .ok (.iaload, 1) := by decide +kernel
theorem dL_law_1031 : decode code 1031 = .ok (.aload_n 0, 1) := by decide +kernel
theorem dL_law_1032 : decode code 1032 = .ok (.iload 4, 2) := by decide +kernel
theorem dL_law_1034 : decode code 1034 = .ok (.iconst 2, 1) := by decide +kernel
theorem dL_law_1035 : decode code 1035 = .ok (.iadd, 1) := by decide +kernel
theorem dL_law_1036 : decode code 1036 = .ok (.iaload, 1) := by decide +kernel
theorem dL_law_1037 : decode code 1037 = .ok (.aload_n 0, 1) := by decide +kernel
theorem dL_law_1038 : decode code 1038 = .ok (.iload 4, 2) := by decide +kernel
theorem dL_law_1040 : decode code 1040 = .ok (.iconst 3, 1) := by decide +kernel
theorem dL_law_1041 : decode code 1041 = .ok (.iadd, 1) := by decide +kernel
theorem dL_law_1042 : decode code 1042 = .ok (.iaload, 1) := by decide +kernel
theorem dL_law_1043 : decode code 1043 = .ok (.invokevirtual 108, 3) := by decide +kernel
theorem dL_law_1046 : decode code 1046 = .ok (.if_icmp .eq 376, 3) := by decide +kernel
theorem dL_law_1049 : decode code 1049 = .ok (.iconst 0, 1) := by decide +kernel
theorem dL_law_1050 : decode code 1050 = .ok (.ireturn, 1) := by decide +kernel
theorem dL_law_1051 : decode code 1051 = .ok (.aload_n 1, 1) := by decide +kernel
theorem dL_law_1052 : decode code 1052 = .ok (.aload_n 0, 1) := by decide +kernel
theorem dL_law_1053 : decode code 1053 = .ok (.iload 4, 2) := by decide +kernel
theorem dL_law_1055 : decode code 1055 = .ok (.iconst 1, 1) := by decide +kernel
theorem dL_law_1056 : decode code 1056 = .ok (.iadd, 1) := by decide +kernel
theorem dL_law_1057 : decode code 1057 = .ok (.iaload, 1) := by decide +kernel
theorem dL_law_1058 : decode code 1058 = .ok (.aload_n 0, 1) := by decide +kernel
theorem dL_law_1059 : decode code 1059 = .ok (.iload 4, 2) := by decide +kernel
