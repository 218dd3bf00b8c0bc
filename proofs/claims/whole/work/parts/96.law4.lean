/-! the law's own code, on -/
theorem a_927 : qA 927 1 := by decide +kernel
theorem a_932 : qA 932 2 := by decide +kernel
theorem a_937 : qA 937 3 := by decide +kernel
theorem d_law_942 : decode code 942 = .ok (.i2l, 1) := by decide +kernel
theorem d_law_943 : decode code 943 = .ok (.bipush 32, 2) := by decide +kernel
theorem d_law_945 : decode code 945 = .ok (.lshl, 1) := by decide +kernel
theorem a_946 : qA 946 4 := by decide +kernel
theorem d_law_951 : decode code 951 = .ok (.i2l, 1) := by decide +kernel
theorem d_law_952 : decode code 952 = .ok (.ldc2_w 106, 3) := by decide +kernel
theorem d_law_955 : decode code 955 = .ok (.land, 1) := by decide +kernel
theorem d_law_956 : decode code 956 = .ok (.lor, 1) := by decide +kernel
theorem d_law_957 : decode code 957 = .ok (.invokevirtual 112, 3) := by decide +kernel
theorem d_law_960 : decode code 960 = .ok (.if_icmp .eq 158, 3) := by decide +kernel
theorem d_law_963 : decode code 963 = .ok (.iconst 0, 1) := by decide +kernel
theorem d_law_964 : decode code 964 = .ok (.ireturn, 1) := by decide +kernel
theorem d_law_965 : decode code 965 = .ok (.aload_n 1, 1) := by decide +kernel
theorem a_966 : qA 966 1 := by decide +kernel
theorem a_971 : qA 971 2 := by decide +kernel
theorem d_law_976 : decode code 976 = .ok (.invokevirtual 113, 3) := by decide +kernel
theorem d_law_979 : decode code 979 = .ok (.aload_n 2, 1) := by decide +kernel
theorem a_980 : qA 980 1 := by decide +kernel
theorem a_985 : qA 985 2 := by decide +kernel
theorem d_law_990 : decode code 990 = .ok (.invokevirtual 117, 3) := by decide +kernel
theorem d_law_993 : decode code 993 = .ok (.lcmp, 1) := by decide +kernel
theorem d_law_994 : decode code 994 = .ok (.ifCond .eq 124, 3) := by decide +kernel
theorem d_law_997 : decode code 997 = .ok (.iconst 0, 1) := by decide +kernel
theorem d_law_998 : decode code 998 = .ok (.ireturn, 1) := by decide +kernel
theorem d_law_999 : decode code 999 = .ok (.aload_n 1, 1) := by decide +kernel
theorem a_1000 : qA 1000 1 := by decide +kernel
theorem a_1005 : qA 1005 2 := by decide +kernel
theorem a_1010 : qA 1010 3 := by decide +kernel
theorem a_1015 : qA 1015 4 := by decide +kernel
theorem a_1020 : qA 1020 5 := by decide +kernel
theorem d_law_1025 : decode code 1025 = .ok (.invokevirtual 118, 3) := by decide +kernel
theorem d_law_1028 : decode code 1028 = .ok (.aload_n 2, 1) := by decide +kernel
theorem a_1029 : qA 1029 1 := by decide +kernel
theorem a_1034 : qA 1034 2 := by decide +kernel
theorem a_1039 : qA 1039 3 := by decide +kernel
theorem a_1044 : qA 1044 4 := by decide +kernel
theorem a_1049 : qA 1049 5 := by decide +kernel
theorem d_law_1054 : decode code 1054 = .ok (.invokevirtual 122, 3) := by decide +kernel
theorem d_law_1057 : decode code 1057 = .ok (.if_icmp .eq 61, 3) := by decide +kernel
theorem d_law_1060 : decode code 1060 = .ok (.iconst 0, 1) := by decide +kernel
theorem d_law_1061 : decode code 1061 = .ok (.ireturn, 1) := by decide +kernel
theorem d_law_1062 : decode code 1062 = .ok (.aload_n 1, 1) := by decide +kernel
theorem a_1063 : qA 1063 1 := by decide +kernel
theorem a_1068 : qA 1068 2 := by decide +kernel
theorem d_law_1073 : decode code 1073 = .ok (.invokevirtual 123, 3) := by decide +kernel
theorem d_law_1076 : decode code 1076 = .ok (.aload_n 2, 1) := by decide +kernel
theorem a_1077 : qA 1077 1 := by decide +kernel
theorem a_1082 : qA 1082 2 := by decide +kernel
theorem d_law_1087 : decode code 1087 = .ok (.invokevirtual 126, 3) := by decide +kernel
theorem d_law_1090 : decode code 1090 = .ok (.if_icmp .eq 28, 3) := by decide +kernel
theorem d_law_1093 : decode code 1093 = .ok (.iconst 0, 1) := by decide +kernel
theorem d_law_1094 : decode code 1094 = .ok (.ireturn, 1) := by decide +kernel
theorem d_law_1095 : decode code 1095 = .ok (.aload_n 1, 1) := by decide +kernel
theorem a_1096 : qA 1096 1 := by decide +kernel
theorem d_law_1101 : decode code 1101 = .ok (.invokevirtual 127, 3) := by decide +kernel
theorem d_law_1104 : decode code 1104 = .ok (.aload_n 2, 1) := by decide +kernel
theorem a_1105 : qA 1105 1 := by decide +kernel
theorem d_law_1110 : decode code 1110 = .ok (.invokevirtual 130, 3) := by decide +kernel
theorem d_law_1113 : decode code 1113 = .ok (.if_icmp .eq 5, 3) := by decide +kernel
theorem d_law_1116 : decode code 1116 = .ok (.iconst 0, 1) := by decide +kernel
theorem d_law_1117 : decode code 1117 = .ok (.ireturn, 1) := by decide +kernel
theorem d_law_1118 : decode code 1118 = .ok (.iinc 3 6, 3) := by decide +kernel
theorem d_law_1121 : decode code 1121 = .ok (.goto (-1103), 3) := by decide +kernel
theorem d_law_1124 : decode code 1124 = .ok (.iconst 1, 1) := by decide +kernel
theorem d_law_1125 : decode code 1125 = .ok (.ireturn, 1) := by decide +kernel
