theorem d_LinkAuditModel_allGaps_101 : decode prog_12_method_37_code 101 = .ok (.baload, 1) := by decide +kernel
theorem d_LinkAuditModel_allGaps_102 : decode prog_12_method_37_code 102 = .ok (.ifCond .eq 23, 3) := by decide +kernel
theorem d_LinkAuditModel_allGaps_105 : decode prog_12_method_37_code 105 = .ok (.aload_n 0, 1) := by decide +kernel
theorem d_LinkAuditModel_allGaps_106 : decode prog_12_method_37_code 106 = .ok (.iload_n 3, 1) := by decide +kernel
theorem d_LinkAuditModel_allGaps_107 : decode prog_12_method_37_code 107 = .ok (.invokevirtual 172, 3) := by decide +kernel
theorem d_LinkAuditModel_allGaps_110 : decode prog_12_method_37_code 110 = .ok (.ifCond .ne 15, 3) := by decide +kernel
theorem d_LinkAuditModel_allGaps_113 : decode prog_12_method_37_code 113 = .ok (.aload_n 0, 1) := by decide +kernel
theorem d_LinkAuditModel_allGaps_114 : decode prog_12_method_37_code 114 = .ok (.iload_n 2, 1) := by decide +kernel
theorem d_LinkAuditModel_allGaps_115 : decode prog_12_method_37_code 115 = .ok (.iload_n 3, 1) := by decide +kernel
theorem d_LinkAuditModel_allGaps_116 : decode prog_12_method_37_code 116 = .ok (.invokevirtual 188, 3) := by decide +kernel
theorem d_LinkAuditModel_allGaps_119 : decode prog_12_method_37_code 119 = .ok (.ifCond .ge 6, 3) := by decide +kernel
theorem d_LinkAuditModel_allGaps_122 : decode prog_12_method_37_code 122 = .ok (.iinc 1 1, 3) := by decide +kernel
theorem d_LinkAuditModel_allGaps_125 : decode prog_12_method_37_code 125 = .ok (.iinc 3 1, 3) := by decide +kernel
theorem d_LinkAuditModel_allGaps_128 : decode prog_12_method_37_code 128 = .ok (.goto (-90), 3) := by decide +kernel
theorem d_LinkAuditModel_allGaps_131 : decode prog_12_method_37_code 131 = .ok (.iinc 2 1, 3) := by decide +kernel
theorem d_LinkAuditModel_allGaps_134 : decode prog_12_method_37_code 134 = .ok (.goto (-130), 3) := by decide +kernel
theorem d_LinkAuditModel_allGaps_137 : decode prog_12_method_37_code 137 = .ok (.iload_n 1, 1) := by decide +kernel
theorem d_LinkAuditModel_allGaps_138 : decode prog_12_method_37_code 138 = .ok (.ireturn, 1) := by decide +kernel
theorem d_LinkAuditModel_gaps_0 : decode prog_12_method_47_code 0 = .ok (.aload_n 0, 1) := by decide +kernel
theorem d_LinkAuditModel_gaps_1 : decode prog_12_method_47_code 1 = .ok (.invokevirtual 210, 3) := by decide +kernel
theorem d_LinkAuditModel_gaps_4 : decode prog_12_method_47_code 4 = .ok (.aload_n 0, 1) := by decide +kernel
theorem d_LinkAuditModel_gaps_5 : decode prog_12_method_47_code 5 = .ok (.invokevirtual 213, 3) := by decide +kernel
theorem d_LinkAuditModel_gaps_8 : decode prog_12_method_47_code 8 = .ok (.ireturn, 1) := by decide +kernel
theorem d_LinkAuditModel_must_0 : decode prog_12_method_38_code 0 = .ok (.iload_n 1, 1) := by decide +kernel
theorem d_LinkAuditModel_must_1 : decode prog_12_method_38_code 1 = .ok (.bipush 12, 2) := by decide +kernel
theorem d_LinkAuditModel_must_3 : decode prog_12_method_38_code 3 = .ok (.if_icmp .ne 4, 3) := by decide +kernel
theorem d_LinkAuditModel_must_6 : decode prog_12_method_38_code 6 = .ok (.return_, 1) := by decide +kernel
theorem d_LinkAuditModel_must_7 : decode prog_12_method_38_code 7 = .ok (.aload_n 0, 1) := by decide +kernel
theorem d_LinkAuditModel_must_8 : decode prog_12_method_38_code 8 = .ok (.getfield 80, 3) := by decide +kernel
theorem d_LinkAuditModel_must_11 : decode prog_12_method_38_code 11 = .ok (.bipush 25, 2) := by decide +kernel
theorem d_LinkAuditModel_must_13 : decode prog_12_method_38_code 13 = .ok (.iload_n 1, 1) := by decide +kernel
theorem d_LinkAuditModel_must_14 : decode prog_12_method_38_code 14 = .ok (.imul, 1) := by decide +kernel
theorem d_LinkAuditModel_must_15 : decode prog_12_method_38_code 15 = .ok (.iconst 5, 1) := by decide +kernel
theorem d_LinkAuditModel_must_16 : decode prog_12_method_38_code 16 = .ok (.iload_n 2, 1) := by decide +kernel
theorem d_LinkAuditModel_must_17 : decode prog_12_method_38_code 17 = .ok (.imul, 1) := by decide +kernel
theorem d_LinkAuditModel_must_18 : decode prog_12_method_38_code 18 = .ok (.iadd, 1) := by decide +kernel
theorem d_LinkAuditModel_must_19 : decode prog_12_method_38_code 19 = .ok (.iload_n 3, 1) := by decide +kernel
theorem d_LinkAuditModel_must_20 : decode prog_12_method_38_code 20 = .ok (.iadd, 1) := by decide +kernel
theorem d_LinkAuditModel_must_21 : decode prog_12_method_38_code 21 = .ok (.iconst 1, 1) := by decide +kernel
theorem d_LinkAuditModel_must_22 : decode prog_12_method_38_code 22 = .ok (.bastore, 1) := by decide +kernel
theorem d_LinkAuditModel_must_23 : decode prog_12_method_38_code 23 = .ok (.aload_n 0, 1) := by decide +kernel
theorem d_LinkAuditModel_must_24 : decode prog_12_method_38_code 24 = .ok (.getfield 80, 3) := by decide +kernel
theorem d_LinkAuditModel_must_27 : decode prog_12_method_38_code 27 = .ok (.bipush 25, 2) := by decide +kernel
theorem d_LinkAuditModel_must_29 : decode prog_12_method_38_code 29 = .ok (.iload_n 1, 1) := by decide +kernel
theorem d_LinkAuditModel_must_30 : decode prog_12_method_38_code 30 = .ok (.imul, 1) := by decide +kernel
theorem d_LinkAuditModel_must_31 : decode prog_12_method_38_code 31 = .ok (.iconst 5, 1) := by decide +kernel
theorem d_LinkAuditModel_must_32 : decode prog_12_method_38_code 32 = .ok (.iload_n 3, 1) := by decide +kernel
theorem d_LinkAuditModel_must_33 : decode prog_12_method_38_code 33 = .ok (.imul, 1) := by decide +kernel
theorem d_LinkAuditModel_must_34 : decode prog_12_method_38_code 34 = .ok (.iadd, 1) := by decide +kernel
theorem d_LinkAuditModel_must_35 : decode prog_12_method_38_code 35 = .ok (.iload_n 2, 1) := by decide +kernel
theorem d_LinkAuditModel_must_36 : decode prog_12_method_38_code 36 = .ok (.iadd, 1) := by decide +kernel
theorem d_LinkAuditModel_must_37 : decode prog_12_method_38_code 37 = .ok (.iconst 1, 1) := by decide +kernel
theorem d_LinkAuditModel_must_38 : decode prog_12_method_38_code 38 = .ok (.bastore, 1) := by decide +kernel
theorem d_LinkAuditModel_must_39 : decode prog_12_method_38_code 39 = .ok (.return_, 1) := by decide +kernel
theorem d_LinkAuditModel_mustBoth_0 : decode prog_12_method_39_code 0 = .ok (.aload_n 0, 1) := by decide +kernel
theorem d_LinkAuditModel_mustBoth_1 : decode prog_12_method_39_code 1 = .ok (.aload_n 0, 1) := by decide +kernel
theorem d_LinkAuditModel_mustBoth_2 : decode prog_12_method_39_code 2 = .ok (.getfield 44, 3) := by decide +kernel
theorem d_LinkAuditModel_mustBoth_5 : decode prog_12_method_39_code 5 = .ok (.iload_n 1, 1) := by decide +kernel
theorem d_LinkAuditModel_mustBoth_6 : decode prog_12_method_39_code 6 = .ok (.iaload, 1) := by decide +kernel
theorem d_LinkAuditModel_mustBoth_7 : decode prog_12_method_39_code 7 = .ok (.iload_n 2, 1) := by decide +kernel
theorem d_LinkAuditModel_mustBoth_8 : decode prog_12_method_39_code 8 = .ok (.iload_n 3, 1) := by decide +kernel
theorem d_LinkAuditModel_mustBoth_9 : decode prog_12_method_39_code 9 = .ok (.invokevirtual 191, 3) := by decide +kernel
theorem d_LinkAuditModel_mustBoth_12 : decode prog_12_method_39_code 12 = .ok (.aload_n 0, 1) := by decide +kernel
theorem d_LinkAuditModel_mustBoth_13 : decode prog_12_method_39_code 13 = .ok (.aload_n 0, 1) := by decide +kernel
theorem d_LinkAuditModel_mustBoth_14 : decode prog_12_method_39_code 14 = .ok (.getfield 47, 3) := by decide +kernel
theorem d_LinkAuditModel_mustBoth_17 : decode prog_12_method_39_code 17 = .ok (.iload_n 1, 1) := by decide +kernel
theorem d_LinkAuditModel_mustBoth_18 : decode prog_12_method_39_code 18 = .ok (.iaload, 1) := by decide +kernel
theorem d_LinkAuditModel_mustBoth_19 : decode prog_12_method_39_code 19 = .ok (.iload_n 2, 1) := by decide +kernel
theorem d_LinkAuditModel_mustBoth_20 : decode prog_12_method_39_code 20 = .ok (.iload_n 3, 1) := by decide +kernel
theorem d_LinkAuditModel_mustBoth_21 : decode prog_12_method_39_code 21 = .ok (.invokevirtual 191, 3) := by decide +kernel
theorem d_LinkAuditModel_mustBoth_24 : decode prog_12_method_39_code 24 = .ok (.return_, 1) := by decide +kernel
theorem d_LinkAuditModel_constrain_0 : decode prog_12_method_40_code 0 = .ok (.iconst 0, 1) := by decide +kernel
theorem d_LinkAuditModel_constrain_1 : decode prog_12_method_40_code 1 = .ok (.istore_n 1, 1) := by decide +kernel
theorem d_LinkAuditModel_constrain_2 : decode prog_12_method_40_code 2 = .ok (.iload_n 1, 1) := by decide +kernel
theorem d_LinkAuditModel_constrain_3 : decode prog_12_method_40_code 3 = .ok (.sipush 300, 3) := by decide +kernel
theorem d_LinkAuditModel_constrain_6 : decode prog_12_method_40_code 6 = .ok (.if_icmp .ge 30, 3) := by decide +kernel
theorem d_LinkAuditModel_constrain_9 : decode prog_12_method_40_code 9 = .ok (.aload_n 0, 1) := by decide +kernel
theorem d_LinkAuditModel_constrain_10 : decode prog_12_method_40_code 10 = .ok (.getfield 80, 3) := by decide +kernel
theorem d_LinkAuditModel_constrain_13 : decode prog_12_method_40_code 13 = .ok (.iload_n 1, 1) := by decide +kernel
theorem d_LinkAuditModel_constrain_14 : decode prog_12_method_40_code 14 = .ok (.iload_n 1, 1) := by decide +kernel
theorem d_LinkAuditModel_constrain_15 : decode prog_12_method_40_code 15 = .ok (.bipush 25, 2) := by decide +kernel
theorem d_LinkAuditModel_constrain_17 : decode prog_12_method_40_code 17 = .ok (.irem, 1) := by decide +kernel
theorem d_LinkAuditModel_constrain_18 : decode prog_12_method_40_code 18 = .ok (.bipush 6, 2) := by decide +kernel
theorem d_LinkAuditModel_constrain_20 : decode prog_12_method_40_code 20 = .ok (.irem, 1) := by decide +kernel
theorem d_LinkAuditModel_constrain_21 : decode prog_12_method_40_code 21 = .ok (.ifCond .ne 7, 3) := by decide +kernel
theorem d_LinkAuditModel_constrain_24 : decode prog_12_method_40_code 24 = .ok (.iconst 1, 1) := by decide +kernel
theorem d_LinkAuditModel_constrain_25 : decode prog_12_method_40_code 25 = .ok (.goto 4, 3) := by decide +kernel
theorem d_LinkAuditModel_constrain_28 : decode prog_12_method_40_code 28 = .ok (.iconst 0, 1) := by decide +kernel
theorem d_LinkAuditModel_constrain_29 : decode prog_12_method_40_code 29 = .ok (.bastore, 1) := by decide +kernel
theorem d_LinkAuditModel_constrain_30 : decode prog_12_method_40_code 30 = .ok (.iinc 1 1, 3) := by decide +kernel
theorem d_LinkAuditModel_constrain_33 : decode prog_12_method_40_code 33 = .ok (.goto (-31), 3) := by decide +kernel
theorem d_LinkAuditModel_constrain_36 : decode prog_12_method_40_code 36 = .ok (.iconst 0, 1) := by decide +kernel
theorem d_LinkAuditModel_constrain_37 : decode prog_12_method_40_code 37 = .ok (.istore_n 1, 1) := by decide +kernel
theorem d_LinkAuditModel_constrain_38 : decode prog_12_method_40_code 38 = .ok (.iload_n 1, 1) := by decide +kernel
theorem d_LinkAuditModel_constrain_39 : decode prog_12_method_40_code 39 = .ok (.aload_n 0, 1) := by decide +kernel
theorem d_LinkAuditModel_constrain_40 : decode prog_12_method_40_code 40 = .ok (.getfield 115, 3) := by decide +kernel
theorem d_LinkAuditModel_constrain_43 : decode prog_12_method_40_code 43 = .ok (.if_icmp .ge 63, 3) := by decide +kernel
theorem d_LinkAuditModel_constrain_46 : decode prog_12_method_40_code 46 = .ok (.aload_n 0, 1) := by decide +kernel
theorem d_LinkAuditModel_constrain_47 : decode prog_12_method_40_code 47 = .ok (.iload_n 1, 1) := by decide +kernel
theorem d_LinkAuditModel_constrain_48 : decode prog_12_method_40_code 48 = .ok (.invokevirtual 195, 3) := by decide +kernel
theorem d_LinkAuditModel_constrain_51 : decode prog_12_method_40_code 51 = .ok (.istore_n 2, 1) := by decide +kernel
theorem d_LinkAuditModel_constrain_52 : decode prog_12_method_40_code 52 = .ok (.iload_n 2, 1) := by decide +kernel
theorem d_LinkAuditModel_constrain_53 : decode prog_12_method_40_code 53 = .ok (.ifCond .le 47, 3) := by decide +kernel
theorem d_LinkAuditModel_constrain_56 : decode prog_12_method_40_code 56 = .ok (.aload_n 0, 1) := by decide +kernel
theorem d_LinkAuditModel_constrain_57 : decode prog_12_method_40_code 57 = .ok (.getfield 53, 3) := by decide +kernel
theorem d_LinkAuditModel_constrain_60 : decode prog_12_method_40_code 60 = .ok (.iconst 5, 1) := by decide +kernel
theorem d_LinkAuditModel_constrain_61 : decode prog_12_method_40_code 61 = .ok (.iload_n 1, 1) := by decide +kernel
theorem d_LinkAuditModel_constrain_62 : decode prog_12_method_40_code 62 = .ok (.imul, 1) := by decide +kernel
theorem d_LinkAuditModel_constrain_63 : decode prog_12_method_40_code 63 = .ok (.iconst 1, 1) := by decide +kernel
theorem d_LinkAuditModel_constrain_64 : decode prog_12_method_40_code 64 = .ok (.iadd, 1) := by decide +kernel
theorem d_LinkAuditModel_constrain_65 : decode prog_12_method_40_code 65 = .ok (.iaload, 1) := by decide +kernel
theorem d_LinkAuditModel_constrain_66 : decode prog_12_method_40_code 66 = .ok (.iconst 4, 1) := by decide +kernel
theorem d_LinkAuditModel_constrain_67 : decode prog_12_method_40_code 67 = .ok (.idiv, 1) := by decide +kernel
theorem d_LinkAuditModel_constrain_68 : decode prog_12_method_40_code 68 = .ok (.ifCond .le 32, 3) := by decide +kernel
theorem d_LinkAuditModel_constrain_71 : decode prog_12_method_40_code 71 = .ok (.aload_n 0, 1) := by decide +kernel
theorem d_LinkAuditModel_constrain_72 : decode prog_12_method_40_code 72 = .ok (.iload_n 2, 1) := by decide +kernel
theorem d_LinkAuditModel_constrain_73 : decode prog_12_method_40_code 73 = .ok (.aload_n 0, 1) := by decide +kernel
theorem d_LinkAuditModel_constrain_74 : decode prog_12_method_40_code 74 = .ok (.getfield 19, 3) := by decide +kernel
theorem d_LinkAuditModel_constrain_77 : decode prog_12_method_40_code 77 = .ok (.aload_n 0, 1) := by decide +kernel
theorem d_LinkAuditModel_constrain_78 : decode prog_12_method_40_code 78 = .ok (.getfield 53, 3) := by decide +kernel
theorem d_LinkAuditModel_constrain_81 : decode prog_12_method_40_code 81 = .ok (.iconst 5, 1) := by decide +kernel
theorem d_LinkAuditModel_constrain_82 : decode prog_12_method_40_code 82 = .ok (.iload_n 1, 1) := by decide +kernel
theorem d_LinkAuditModel_constrain_83 : decode prog_12_method_40_code 83 = .ok (.imul, 1) := by decide +kernel
theorem d_LinkAuditModel_constrain_84 : decode prog_12_method_40_code 84 = .ok (.iaload, 1) := by decide +kernel
theorem d_LinkAuditModel_constrain_85 : decode prog_12_method_40_code 85 = .ok (.iaload, 1) := by decide +kernel
theorem d_LinkAuditModel_constrain_86 : decode prog_12_method_40_code 86 = .ok (.aload_n 0, 1) := by decide +kernel
theorem d_LinkAuditModel_constrain_87 : decode prog_12_method_40_code 87 = .ok (.getfield 19, 3) := by decide +kernel
theorem d_LinkAuditModel_constrain_90 : decode prog_12_method_40_code 90 = .ok (.aload_n 0, 1) := by decide +kernel
theorem d_LinkAuditModel_constrain_91 : decode prog_12_method_40_code 91 = .ok (.getfield 34, 3) := by decide +kernel
theorem d_LinkAuditModel_constrain_94 : decode prog_12_method_40_code 94 = .ok (.iload_n 2, 1) := by decide +kernel
theorem d_LinkAuditModel_constrain_95 : decode prog_12_method_40_code 95 = .ok (.iaload, 1) := by decide +kernel
theorem d_LinkAuditModel_constrain_96 : decode prog_12_method_40_code 96 = .ok (.iaload, 1) := by decide +kernel
theorem d_LinkAuditModel_constrain_97 : decode prog_12_method_40_code 97 = .ok (.invokevirtual 198, 3) := by decide +kernel
theorem d_LinkAuditModel_constrain_100 : decode prog_12_method_40_code 100 = .ok (.iinc 1 1, 3) := by decide +kernel
theorem d_LinkAuditModel_constrain_103 : decode prog_12_method_40_code 103 = .ok (.goto (-65), 3) := by decide +kernel
theorem d_LinkAuditModel_constrain_106 : decode prog_12_method_40_code 106 = .ok (.iconst 0, 1) := by decide +kernel
theorem d_LinkAuditModel_constrain_107 : decode prog_12_method_40_code 107 = .ok (.istore_n 1, 1) := by decide +kernel
theorem d_LinkAuditModel_constrain_108 : decode prog_12_method_40_code 108 = .ok (.iload_n 1, 1) := by decide +kernel
theorem d_LinkAuditModel_constrain_109 : decode prog_12_method_40_code 109 = .ok (.aload_n 0, 1) := by decide +kernel
theorem d_LinkAuditModel_constrain_110 : decode prog_12_method_40_code 110 = .ok (.getfield 104, 3) := by decide +kernel
theorem d_LinkAuditModel_constrain_113 : decode prog_12_method_40_code 113 = .ok (.aload_n 0, 1) := by decide +kernel
theorem d_LinkAuditModel_constrain_114 : decode prog_12_method_40_code 114 = .ok (.getfield 104, 3) := by decide +kernel
theorem d_LinkAuditModel_constrain_117 : decode prog_12_method_40_code 117 = .ok (.imul, 1) := by decide +kernel
theorem d_LinkAuditModel_constrain_118 : decode prog_12_method_40_code 118 = .ok (.if_icmp .ge 107, 3) := by decide +kernel
theorem d_LinkAuditModel_constrain_121 : decode prog_12_method_40_code 121 = .ok (.iconst 1, 1) := by decide +kernel
theorem d_LinkAuditModel_constrain_122 : decode prog_12_method_40_code 122 = .ok (.iload_n 1, 1) := by decide +kernel
theorem d_LinkAuditModel_constrain_123 : decode prog_12_method_40_code 123 = .ok (.aload_n 0, 1) := by decide +kernel
theorem d_LinkAuditModel_constrain_124 : decode prog_12_method_40_code 124 = .ok (.getfield 104, 3) := by decide +kernel
theorem d_LinkAuditModel_constrain_127 : decode prog_12_method_40_code 127 = .ok (.idiv, 1) := by decide +kernel
theorem d_LinkAuditModel_constrain_128 : decode prog_12_method_40_code 128 = .ok (.iadd, 1) := by decide +kernel
theorem d_LinkAuditModel_constrain_129 : decode prog_12_method_40_code 129 = .ok (.istore_n 2, 1) := by decide +kernel
theorem d_LinkAuditModel_constrain_130 : decode prog_12_method_40_code 130 = .ok (.iconst 1, 1) := by decide +kernel
theorem d_LinkAuditModel_constrain_131 : decode prog_12_method_40_code 131 = .ok (.iload_n 1, 1) := by decide +kernel
theorem d_LinkAuditModel_constrain_132 : decode prog_12_method_40_code 132 = .ok (.aload_n 0, 1) := by decide +kernel
theorem d_LinkAuditModel_constrain_133 : decode prog_12_method_40_code 133 = .ok (.getfield 104, 3) := by decide +kernel
theorem d_LinkAuditModel_constrain_136 : decode prog_12_method_40_code 136 = .ok (.irem, 1) := by decide +kernel
theorem d_LinkAuditModel_constrain_137 : decode prog_12_method_40_code 137 = .ok (.iadd, 1) := by decide +kernel
theorem d_LinkAuditModel_constrain_138 : decode prog_12_method_40_code 138 = .ok (.istore_n 3, 1) := by decide +kernel
theorem d_LinkAuditModel_constrain_139 : decode prog_12_method_40_code 139 = .ok (.aload_n 0, 1) := by decide +kernel
theorem d_LinkAuditModel_constrain_140 : decode prog_12_method_40_code 140 = .ok (.getfield 37, 3) := by decide +kernel
theorem d_LinkAuditModel_constrain_143 : decode prog_12_method_40_code 143 = .ok (.iload_n 2, 1) := by decide +kernel
theorem d_LinkAuditModel_constrain_144 : decode prog_12_method_40_code 144 = .ok (.baload, 1) := by decide +kernel
theorem d_LinkAuditModel_constrain_145 : decode prog_12_method_40_code 145 = .ok (.ifCond .eq 30, 3) := by decide +kernel
theorem d_LinkAuditModel_constrain_148 : decode prog_12_method_40_code 148 = .ok (.aload_n 0, 1) := by decide +kernel
theorem d_LinkAuditModel_constrain_149 : decode prog_12_method_40_code 149 = .ok (.getfield 37, 3) := by decide +kernel
theorem d_LinkAuditModel_constrain_152 : decode prog_12_method_40_code 152 = .ok (.iload_n 3, 1) := by decide +kernel
theorem d_LinkAuditModel_constrain_153 : decode prog_12_method_40_code 153 = .ok (.baload, 1) := by decide +kernel
theorem d_LinkAuditModel_constrain_154 : decode prog_12_method_40_code 154 = .ok (.ifCond .eq 21, 3) := by decide +kernel
theorem d_LinkAuditModel_constrain_157 : decode prog_12_method_40_code 157 = .ok (.aload_n 0, 1) := by decide +kernel
theorem d_LinkAuditModel_constrain_158 : decode prog_12_method_40_code 158 = .ok (.getfield 56, 3) := by decide +kernel
theorem d_LinkAuditModel_constrain_161 : decode prog_12_method_40_code 161 = .ok (.aload_n 0, 1) := by decide +kernel
theorem d_LinkAuditModel_constrain_162 : decode prog_12_method_40_code 162 = .ok (.getfield 34, 3) := by decide +kernel
theorem d_LinkAuditModel_constrain_165 : decode prog_12_method_40_code 165 = .ok (.iload_n 2, 1) := by decide +kernel
theorem d_LinkAuditModel_constrain_166 : decode prog_12_method_40_code 166 = .ok (.iaload, 1) := by decide +kernel
theorem d_LinkAuditModel_constrain_167 : decode prog_12_method_40_code 167 = .ok (.iaload, 1) := by decide +kernel
theorem d_LinkAuditModel_constrain_168 : decode prog_12_method_40_code 168 = .ok (.ifCond .ne 7, 3) := by decide +kernel
theorem d_LinkAuditModel_constrain_171 : decode prog_12_method_40_code 171 = .ok (.iconst 1, 1) := by decide +kernel
theorem d_LinkAuditModel_constrain_172 : decode prog_12_method_40_code 172 = .ok (.goto 4, 3) := by decide +kernel
theorem d_LinkAuditModel_constrain_175 : decode prog_12_method_40_code 175 = .ok (.iconst 0, 1) := by decide +kernel
theorem d_LinkAuditModel_constrain_176 : decode prog_12_method_40_code 176 = .ok (.istore 4, 2) := by decide +kernel
theorem d_LinkAuditModel_constrain_178 : decode prog_12_method_40_code 178 = .ok (.iload 4, 2) := by decide +kernel
theorem d_LinkAuditModel_constrain_180 : decode prog_12_method_40_code 180 = .ok (.ifCond .eq 39, 3) := by decide +kernel
theorem d_LinkAuditModel_constrain_183 : decode prog_12_method_40_code 183 = .ok (.aload_n 0, 1) := by decide +kernel
theorem d_LinkAuditModel_constrain_184 : decode prog_12_method_40_code 184 = .ok (.iload_n 2, 1) := by decide +kernel
theorem d_LinkAuditModel_constrain_185 : decode prog_12_method_40_code 185 = .ok (.iload_n 3, 1) := by decide +kernel
theorem d_LinkAuditModel_constrain_186 : decode prog_12_method_40_code 186 = .ok (.invokevirtual 201, 3) := by decide +kernel
theorem d_LinkAuditModel_constrain_189 : decode prog_12_method_40_code 189 = .ok (.ifCond .eq 30, 3) := by decide +kernel
theorem d_LinkAuditModel_constrain_192 : decode prog_12_method_40_code 192 = .ok (.aload_n 0, 1) := by decide +kernel
theorem d_LinkAuditModel_constrain_193 : decode prog_12_method_40_code 193 = .ok (.iload_n 3, 1) := by decide +kernel
theorem d_LinkAuditModel_constrain_194 : decode prog_12_method_40_code 194 = .ok (.aload_n 0, 1) := by decide +kernel
theorem d_LinkAuditModel_constrain_195 : decode prog_12_method_40_code 195 = .ok (.getfield 19, 3) := by decide +kernel
theorem d_LinkAuditModel_constrain_198 : decode prog_12_method_40_code 198 = .ok (.aload_n 0, 1) := by decide +kernel
theorem d_LinkAuditModel_constrain_199 : decode prog_12_method_40_code 199 = .ok (.getfield 34, 3) := by decide +kernel
theorem d_LinkAuditModel_constrain_202 : decode prog_12_method_40_code 202 = .ok (.iload_n 2, 1) := by decide +kernel
theorem d_LinkAuditModel_constrain_203 : decode prog_12_method_40_code 203 = .ok (.iaload, 1) := by decide +kernel
theorem d_LinkAuditModel_constrain_204 : decode prog_12_method_40_code 204 = .ok (.iaload, 1) := by decide +kernel
theorem d_LinkAuditModel_constrain_205 : decode prog_12_method_40_code 205 = .ok (.aload_n 0, 1) := by decide +kernel
theorem d_LinkAuditModel_constrain_206 : decode prog_12_method_40_code 206 = .ok (.getfield 19, 3) := by decide +kernel
theorem d_LinkAuditModel_constrain_209 : decode prog_12_method_40_code 209 = .ok (.aload_n 0, 1) := by decide +kernel
theorem d_LinkAuditModel_constrain_210 : decode prog_12_method_40_code 210 = .ok (.getfield 34, 3) := by decide +kernel
theorem d_LinkAuditModel_constrain_213 : decode prog_12_method_40_code 213 = .ok (.iload_n 3, 1) := by decide +kernel
theorem d_LinkAuditModel_constrain_214 : decode prog_12_method_40_code 214 = .ok (.iaload, 1) := by decide +kernel
theorem d_LinkAuditModel_constrain_215 : decode prog_12_method_40_code 215 = .ok (.iaload, 1) := by decide +kernel
theorem d_LinkAuditModel_constrain_216 : decode prog_12_method_40_code 216 = .ok (.invokevirtual 198, 3) := by decide +kernel
theorem d_LinkAuditModel_constrain_219 : decode prog_12_method_40_code 219 = .ok (.iinc 1 1, 3) := by decide +kernel
theorem d_LinkAuditModel_constrain_222 : decode prog_12_method_40_code 222 = .ok (.goto (-114), 3) := by decide +kernel
theorem d_LinkAuditModel_constrain_225 : decode prog_12_method_40_code 225 = .ok (.iconst 0, 1) := by decide +kernel
theorem d_LinkAuditModel_constrain_226 : decode prog_12_method_40_code 226 = .ok (.istore_n 1, 1) := by decide +kernel
theorem d_LinkAuditModel_constrain_227 : decode prog_12_method_40_code 227 = .ok (.iload_n 1, 1) := by decide +kernel
theorem d_LinkAuditModel_constrain_228 : decode prog_12_method_40_code 228 = .ok (.iconst 5, 1) := by decide +kernel
theorem d_LinkAuditModel_constrain_229 : decode prog_12_method_40_code 229 = .ok (.if_icmp .ge 101, 3) := by decide +kernel
theorem d_LinkAuditModel_constrain_232 : decode prog_12_method_40_code 232 = .ok (.iconst 0, 1) := by decide +kernel
theorem d_LinkAuditModel_constrain_233 : decode prog_12_method_40_code 233 = .ok (.istore_n 2, 1) := by decide +kernel
theorem d_LinkAuditModel_constrain_234 : decode prog_12_method_40_code 234 = .ok (.iload_n 2, 1) := by decide +kernel
theorem d_LinkAuditModel_constrain_235 : decode prog_12_method_40_code 235 = .ok (.sipush 1500, 3) := by decide +kernel
theorem d_LinkAuditModel_constrain_238 : decode prog_12_method_40_code 238 = .ok (.if_icmp .ge 86, 3) := by decide +kernel
theorem d_LinkAuditModel_constrain_241 : decode prog_12_method_40_code 241 = .ok (.iload_n 2, 1) := by decide +kernel
theorem d_LinkAuditModel_constrain_242 : decode prog_12_method_40_code 242 = .ok (.bipush 125, 2) := by decide +kernel
theorem d_LinkAuditModel_constrain_244 : decode prog_12_method_40_code 244 = .ok (.idiv, 1) := by decide +kernel
theorem d_LinkAuditModel_constrain_245 : decode prog_12_method_40_code 245 = .ok (.bipush 25, 2) := by decide +kernel
theorem d_LinkAuditModel_constrain_247 : decode prog_12_method_40_code 247 = .ok (.imul, 1) := by decide +kernel
theorem d_LinkAuditModel_constrain_248 : decode prog_12_method_40_code 248 = .ok (.istore_n 3, 1) := by decide +kernel
theorem d_LinkAuditModel_constrain_249 : decode prog_12_method_40_code 249 = .ok (.iload_n 2, 1) := by decide +kernel
theorem d_LinkAuditModel_constrain_250 : decode prog_12_method_40_code 250 = .ok (.bipush 25, 2) := by decide +kernel
theorem d_LinkAuditModel_constrain_252 : decode prog_12_method_40_code 252 = .ok (.idiv, 1) := by decide +kernel
theorem d_LinkAuditModel_constrain_253 : decode prog_12_method_40_code 253 = .ok (.iconst 5, 1) := by decide +kernel
theorem d_LinkAuditModel_constrain_254 : decode prog_12_method_40_code 254 = .ok (.irem, 1) := by decide +kernel
theorem d_LinkAuditModel_constrain_255 : decode prog_12_method_40_code 255 = .ok (.istore 4, 2) := by decide +kernel
theorem d_LinkAuditModel_constrain_257 : decode prog_12_method_40_code 257 = .ok (.iload_n 2, 1) := by decide +kernel
theorem d_LinkAuditModel_constrain_258 : decode prog_12_method_40_code 258 = .ok (.iconst 5, 1) := by decide +kernel
theorem d_LinkAuditModel_constrain_259 : decode prog_12_method_40_code 259 = .ok (.idiv, 1) := by decide +kernel
theorem d_LinkAuditModel_constrain_260 : decode prog_12_method_40_code 260 = .ok (.iconst 5, 1) := by decide +kernel
theorem d_LinkAuditModel_constrain_261 : decode prog_12_method_40_code 261 = .ok (.irem, 1) := by decide +kernel
theorem d_LinkAuditModel_constrain_262 : decode prog_12_method_40_code 262 = .ok (.istore 5, 2) := by decide +kernel
theorem d_LinkAuditModel_constrain_264 : decode prog_12_method_40_code 264 = .ok (.iload_n 2, 1) := by decide +kernel
theorem d_LinkAuditModel_constrain_265 : decode prog_12_method_40_code 265 = .ok (.iconst 5, 1) := by decide +kernel
theorem d_LinkAuditModel_constrain_266 : decode prog_12_method_40_code 266 = .ok (.irem, 1) := by decide +kernel
theorem d_LinkAuditModel_constrain_267 : decode prog_12_method_40_code 267 = .ok (.istore 6, 2) := by decide +kernel
theorem d_LinkAuditModel_constrain_269 : decode prog_12_method_40_code 269 = .ok (.aload_n 0, 1) := by decide +kernel
theorem d_LinkAuditModel_constrain_270 : decode prog_12_method_40_code 270 = .ok (.getfield 80, 3) := by decide +kernel
theorem d_LinkAuditModel_constrain_273 : decode prog_12_method_40_code 273 = .ok (.iload_n 3, 1) := by decide +kernel
theorem d_LinkAuditModel_constrain_274 : decode prog_12_method_40_code 274 = .ok (.iconst 5, 1) := by decide +kernel
theorem d_LinkAuditModel_constrain_275 : decode prog_12_method_40_code 275 = .ok (.iload 4, 2) := by decide +kernel
theorem d_LinkAuditModel_constrain_277 : decode prog_12_method_40_code 277 = .ok (.imul, 1) := by decide +kernel
theorem d_LinkAuditModel_constrain_278 : decode prog_12_method_40_code 278 = .ok (.iadd, 1) := by decide +kernel
theorem d_LinkAuditModel_constrain_279 : decode prog_12_method_40_code 279 = .ok (.iload 5, 2) := by decide +kernel
theorem d_LinkAuditModel_constrain_281 : decode prog_12_method_40_code 281 = .ok (.iadd, 1) := by decide +kernel
theorem d_LinkAuditModel_constrain_282 : decode prog_12_method_40_code 282 = .ok (.baload, 1) := by decide +kernel
theorem d_LinkAuditModel_constrain_283 : decode prog_12_method_40_code 283 = .ok (.ifCond .eq 35, 3) := by decide +kernel
theorem d_LinkAuditModel_constrain_286 : decode prog_12_method_40_code 286 = .ok (.aload_n 0, 1) := by decide +kernel
theorem d_LinkAuditModel_constrain_287 : decode prog_12_method_40_code 287 = .ok (.getfield 80, 3) := by decide +kernel
theorem d_LinkAuditModel_constrain_290 : decode prog_12_method_40_code 290 = .ok (.iload_n 3, 1) := by decide +kernel
theorem d_LinkAuditModel_constrain_291 : decode prog_12_method_40_code 291 = .ok (.iconst 5, 1) := by decide +kernel
theorem d_LinkAuditModel_constrain_292 : decode prog_12_method_40_code 292 = .ok (.iload 5, 2) := by decide +kernel
theorem d_LinkAuditModel_constrain_294 : decode prog_12_method_40_code 294 = .ok (.imul, 1) := by decide +kernel
theorem d_LinkAuditModel_constrain_295 : decode prog_12_method_40_code 295 = .ok (.iadd, 1) := by decide +kernel
theorem d_LinkAuditModel_constrain_296 : decode prog_12_method_40_code 296 = .ok (.iload 6, 2) := by decide +kernel
theorem d_LinkAuditModel_constrain_298 : decode prog_12_method_40_code 298 = .ok (.iadd, 1) := by decide +kernel
theorem d_LinkAuditModel_constrain_299 : decode prog_12_method_40_code 299 = .ok (.baload, 1) := by decide +kernel
theorem d_LinkAuditModel_constrain_300 : decode prog_12_method_40_code 300 = .ok (.ifCond .eq 18, 3) := by decide +kernel
theorem d_LinkAuditModel_constrain_303 : decode prog_12_method_40_code 303 = .ok (.aload_n 0, 1) := by decide +kernel
theorem d_LinkAuditModel_constrain_304 : decode prog_12_method_40_code 304 = .ok (.getfield 80, 3) := by decide +kernel
theorem d_LinkAuditModel_constrain_307 : decode prog_12_method_40_code 307 = .ok (.iload_n 3, 1) := by decide +kernel
theorem d_LinkAuditModel_constrain_308 : decode prog_12_method_40_code 308 = .ok (.iconst 5, 1) := by decide +kernel
theorem d_LinkAuditModel_constrain_309 : decode prog_12_method_40_code 309 = .ok (.iload 4, 2) := by decide +kernel
theorem d_LinkAuditModel_constrain_311 : decode prog_12_method_40_code 311 = .ok (.imul, 1) := by decide +kernel
theorem d_LinkAuditModel_constrain_312 : decode prog_12_method_40_code 312 = .ok (.iadd, 1) := by decide +kernel
theorem d_LinkAuditModel_constrain_313 : decode prog_12_method_40_code 313 = .ok (.iload 6, 2) := by decide +kernel
theorem d_LinkAuditModel_constrain_315 : decode prog_12_method_40_code 315 = .ok (.iadd, 1) := by decide +kernel
theorem d_LinkAuditModel_constrain_316 : decode prog_12_method_40_code 316 = .ok (.iconst 1, 1) := by decide +kernel
theorem d_LinkAuditModel_constrain_317 : decode prog_12_method_40_code 317 = .ok (.bastore, 1) := by decide +kernel
theorem d_LinkAuditModel_constrain_318 : decode prog_12_method_40_code 318 = .ok (.iinc 2 1, 3) := by decide +kernel
theorem d_LinkAuditModel_constrain_321 : decode prog_12_method_40_code 321 = .ok (.goto (-87), 3) := by decide +kernel
theorem d_LinkAuditModel_constrain_324 : decode prog_12_method_40_code 324 = .ok (.iinc 1 1, 3) := by decide +kernel
theorem d_LinkAuditModel_constrain_327 : decode prog_12_method_40_code 327 = .ok (.goto (-100), 3) := by decide +kernel
theorem d_LinkAuditModel_constrain_330 : decode prog_12_method_40_code 330 = .ok (.return_, 1) := by decide +kernel
theorem d_LinkAuditModel_allConflicts_0 : decode prog_12_method_41_code 0 = .ok (.aload_n 0, 1) := by decide +kernel
theorem d_LinkAuditModel_allConflicts_1 : decode prog_12_method_41_code 1 = .ok (.invokevirtual 204, 3) := by decide +kernel
theorem d_LinkAuditModel_allConflicts_4 : decode prog_12_method_41_code 4 = .ok (.aload_n 0, 1) := by decide +kernel
theorem d_LinkAuditModel_allConflicts_5 : decode prog_12_method_41_code 5 = .ok (.iconst 0, 1) := by decide +kernel
theorem d_LinkAuditModel_allConflicts_6 : decode prog_12_method_41_code 6 = .ok (.putfield 207, 3) := by decide +kernel
theorem d_LinkAuditModel_allConflicts_9 : decode prog_12_method_41_code 9 = .ok (.iconst 0, 1) := by decide +kernel
theorem d_LinkAuditModel_allConflicts_10 : decode prog_12_method_41_code 10 = .ok (.istore_n 1, 1) := by decide +kernel
theorem d_LinkAuditModel_allConflicts_11 : decode prog_12_method_41_code 11 = .ok (.iload_n 1, 1) := by decide +kernel
theorem d_LinkAuditModel_allConflicts_12 : decode prog_12_method_41_code 12 = .ok (.sipush 300, 3) := by decide +kernel
theorem d_LinkAuditModel_allConflicts_15 : decode prog_12_method_41_code 15 = .ok (.if_icmp .ge 128, 3) := by decide +kernel
theorem d_LinkAuditModel_allConflicts_18 : decode prog_12_method_41_code 18 = .ok (.iload_n 1, 1) := by decide +kernel
theorem d_LinkAuditModel_allConflicts_19 : decode prog_12_method_41_code 19 = .ok (.bipush 25, 2) := by decide +kernel
theorem d_LinkAuditModel_allConflicts_21 : decode prog_12_method_41_code 21 = .ok (.idiv, 1) := by decide +kernel
theorem d_LinkAuditModel_allConflicts_22 : decode prog_12_method_41_code 22 = .ok (.istore_n 2, 1) := by decide +kernel
theorem d_LinkAuditModel_allConflicts_23 : decode prog_12_method_41_code 23 = .ok (.iload_n 1, 1) := by decide +kernel
theorem d_LinkAuditModel_allConflicts_24 : decode prog_12_method_41_code 24 = .ok (.iconst 5, 1) := by decide +kernel
theorem d_LinkAuditModel_allConflicts_25 : decode prog_12_method_41_code 25 = .ok (.idiv, 1) := by decide +kernel
theorem d_LinkAuditModel_allConflicts_26 : decode prog_12_method_41_code 26 = .ok (.iconst 5, 1) := by decide +kernel
theorem d_LinkAuditModel_allConflicts_27 : decode prog_12_method_41_code 27 = .ok (.irem, 1) := by decide +kernel
theorem d_LinkAuditModel_allConflicts_28 : decode prog_12_method_41_code 28 = .ok (.istore_n 3, 1) := by decide +kernel
theorem d_LinkAuditModel_allConflicts_29 : decode prog_12_method_41_code 29 = .ok (.iload_n 1, 1) := by decide +kernel
theorem d_LinkAuditModel_allConflicts_30 : decode prog_12_method_41_code 30 = .ok (.iconst 5, 1) := by decide +kernel
theorem d_LinkAuditModel_allConflicts_31 : decode prog_12_method_41_code 31 = .ok (.irem, 1) := by decide +kernel
theorem d_LinkAuditModel_allConflicts_32 : decode prog_12_method_41_code 32 = .ok (.istore 4, 2) := by decide +kernel
theorem d_LinkAuditModel_allConflicts_34 : decode prog_12_method_41_code 34 = .ok (.aload_n 0, 1) := by decide +kernel
theorem d_LinkAuditModel_allConflicts_35 : decode prog_12_method_41_code 35 = .ok (.iload_n 3, 1) := by decide +kernel
theorem d_LinkAuditModel_allConflicts_36 : decode prog_12_method_41_code 36 = .ok (.iload_n 2, 1) := by decide +kernel
theorem d_LinkAuditModel_allConflicts_37 : decode prog_12_method_41_code 37 = .ok (.invokevirtual 132, 3) := by decide +kernel
theorem d_LinkAuditModel_allConflicts_40 : decode prog_12_method_41_code 40 = .ok (.istore 5, 2) := by decide +kernel
theorem d_LinkAuditModel_allConflicts_42 : decode prog_12_method_41_code 42 = .ok (.aload_n 0, 1) := by decide +kernel
theorem d_LinkAuditModel_allConflicts_43 : decode prog_12_method_41_code 43 = .ok (.iload 4, 2) := by decide +kernel
theorem d_LinkAuditModel_allConflicts_45 : decode prog_12_method_41_code 45 = .ok (.iload_n 2, 1) := by decide +kernel
theorem d_LinkAuditModel_allConflicts_46 : decode prog_12_method_41_code 46 = .ok (.invokevirtual 132, 3) := by decide +kernel
theorem d_LinkAuditModel_allConflicts_49 : decode prog_12_method_41_code 49 = .ok (.istore 6, 2) := by decide +kernel
theorem d_LinkAuditModel_allConflicts_51 : decode prog_12_method_41_code 51 = .ok (.iload_n 3, 1) := by decide +kernel
theorem d_LinkAuditModel_allConflicts_52 : decode prog_12_method_41_code 52 = .ok (.iload 4, 2) := by decide +kernel
theorem d_LinkAuditModel_allConflicts_54 : decode prog_12_method_41_code 54 = .ok (.if_icmp .ge 83, 3) := by decide +kernel
theorem d_LinkAuditModel_allConflicts_57 : decode prog_12_method_41_code 57 = .ok (.aload_n 0, 1) := by decide +kernel
theorem d_LinkAuditModel_allConflicts_58 : decode prog_12_method_41_code 58 = .ok (.getfield 80, 3) := by decide +kernel
theorem d_LinkAuditModel_allConflicts_61 : decode prog_12_method_41_code 61 = .ok (.iload_n 1, 1) := by decide +kernel
theorem d_LinkAuditModel_allConflicts_62 : decode prog_12_method_41_code 62 = .ok (.baload, 1) := by decide +kernel
theorem d_LinkAuditModel_allConflicts_63 : decode prog_12_method_41_code 63 = .ok (.ifCond .eq 74, 3) := by decide +kernel
theorem d_LinkAuditModel_allConflicts_66 : decode prog_12_method_41_code 66 = .ok (.iload 5, 2) := by decide +kernel
theorem d_LinkAuditModel_allConflicts_68 : decode prog_12_method_41_code 68 = .ok (.ifCond .eq 69, 3) := by decide +kernel
theorem d_LinkAuditModel_allConflicts_71 : decode prog_12_method_41_code 71 = .ok (.iload 6, 2) := by decide +kernel
theorem d_LinkAuditModel_allConflicts_73 : decode prog_12_method_41_code 73 = .ok (.ifCond .eq 64, 3) := by decide +kernel
theorem d_LinkAuditModel_allConflicts_76 : decode prog_12_method_41_code 76 = .ok (.iload 5, 2) := by decide +kernel
theorem d_LinkAuditModel_allConflicts_78 : decode prog_12_method_41_code 78 = .ok (.iload 6, 2) := by decide +kernel
theorem d_LinkAuditModel_allConflicts_80 : decode prog_12_method_41_code 80 = .ok (.if_icmp .ne 6, 3) := by decide +kernel
theorem d_LinkAuditModel_allConflicts_83 : decode prog_12_method_41_code 83 = .ok (.goto 54, 3) := by decide +kernel
theorem d_LinkAuditModel_allConflicts_86 : decode prog_12_method_41_code 86 = .ok (.aload_n 0, 1) := by decide +kernel
theorem d_LinkAuditModel_allConflicts_87 : decode prog_12_method_41_code 87 = .ok (.getfield 83, 3) := by decide +kernel
theorem d_LinkAuditModel_allConflicts_90 : decode prog_12_method_41_code 90 = .ok (.iconst 3, 1) := by decide +kernel
theorem d_LinkAuditModel_allConflicts_91 : decode prog_12_method_41_code 91 = .ok (.aload_n 0, 1) := by decide +kernel
theorem d_LinkAuditModel_allConflicts_92 : decode prog_12_method_41_code 92 = .ok (.getfield 207, 3) := by decide +kernel
theorem d_LinkAuditModel_allConflicts_95 : decode prog_12_method_41_code 95 = .ok (.imul, 1) := by decide +kernel
theorem d_LinkAuditModel_allConflicts_96 : decode prog_12_method_41_code 96 = .ok (.iload_n 2, 1) := by decide +kernel
theorem d_LinkAuditModel_allConflicts_97 : decode prog_12_method_41_code 97 = .ok (.iastore, 1) := by decide +kernel
theorem d_LinkAuditModel_allConflicts_98 : decode prog_12_method_41_code 98 = .ok (.aload_n 0, 1) := by decide +kernel
theorem d_LinkAuditModel_allConflicts_99 : decode prog_12_method_41_code 99 = .ok (.getfield 83, 3) := by decide +kernel
theorem d_LinkAuditModel_allConflicts_102 : decode prog_12_method_41_code 102 = .ok (.iconst 3, 1) := by decide +kernel
theorem d_LinkAuditModel_allConflicts_103 : decode prog_12_method_41_code 103 = .ok (.aload_n 0, 1) := by decide +kernel
theorem d_LinkAuditModel_allConflicts_104 : decode prog_12_method_41_code 104 = .ok (.getfield 207, 3) := by decide +kernel
theorem d_LinkAuditModel_allConflicts_107 : decode prog_12_method_41_code 107 = .ok (.imul, 1) := by decide +kernel
theorem d_LinkAuditModel_allConflicts_108 : decode prog_12_method_41_code 108 = .ok (.iconst 1, 1) := by decide +kernel
theorem d_LinkAuditModel_allConflicts_109 : decode prog_12_method_41_code 109 = .ok (.iadd, 1) := by decide +kernel
theorem d_LinkAuditModel_allConflicts_110 : decode prog_12_method_41_code 110 = .ok (.iload_n 3, 1) := by decide +kernel
theorem d_LinkAuditModel_allConflicts_111 : decode prog_12_method_41_code 111 = .ok (.iastore, 1) := by decide +kernel
theorem d_LinkAuditModel_allConflicts_112 : decode prog_12_method_41_code 112 = .ok (.aload_n 0, 1) := by decide +kernel
theorem d_LinkAuditModel_allConflicts_113 : decode prog_12_method_41_code 113 = .ok (.getfield 83, 3) := by decide +kernel
theorem d_LinkAuditModel_allConflicts_116 : decode prog_12_method_41_code 116 = .ok (.iconst 3, 1) := by decide +kernel
theorem d_LinkAuditModel_allConflicts_117 : decode prog_12_method_41_code 117 = .ok (.aload_n 0, 1) := by decide +kernel
theorem d_LinkAuditModel_allConflicts_118 : decode prog_12_method_41_code 118 = .ok (.getfield 207, 3) := by decide +kernel
theorem d_LinkAuditModel_allConflicts_121 : decode prog_12_method_41_code 121 = .ok (.imul, 1) := by decide +kernel
theorem d_LinkAuditModel_allConflicts_122 : decode prog_12_method_41_code 122 = .ok (.iconst 2, 1) := by decide +kernel
theorem d_LinkAuditModel_allConflicts_123 : decode prog_12_method_41_code 123 = .ok (.iadd, 1) := by decide +kernel
theorem d_LinkAuditModel_allConflicts_124 : decode prog_12_method_41_code 124 = .ok (.iload 4, 2) := by decide +kernel
theorem d_LinkAuditModel_allConflicts_126 : decode prog_12_method_41_code 126 = .ok (.iastore, 1) := by decide +kernel
theorem d_LinkAuditModel_allConflicts_127 : decode prog_12_method_41_code 127 = .ok (.aload_n 0, 1) := by decide +kernel
theorem d_LinkAuditModel_allConflicts_128 : decode prog_12_method_41_code 128 = .ok (.dup, 1) := by decide +kernel
theorem d_LinkAuditModel_allConflicts_129 : decode prog_12_method_41_code 129 = .ok (.getfield 207, 3) := by decide +kernel
theorem d_LinkAuditModel_allConflicts_132 : decode prog_12_method_41_code 132 = .ok (.iconst 1, 1) := by decide +kernel
theorem d_LinkAuditModel_allConflicts_133 : decode prog_12_method_41_code 133 = .ok (.iadd, 1) := by decide +kernel
theorem d_LinkAuditModel_allConflicts_134 : decode prog_12_method_41_code 134 = .ok (.putfield 207, 3) := by decide +kernel
theorem d_LinkAuditModel_allConflicts_137 : decode prog_12_method_41_code 137 = .ok (.iinc 1 1, 3) := by decide +kernel
theorem d_LinkAuditModel_allConflicts_140 : decode prog_12_method_41_code 140 = .ok (.goto (-129), 3) := by decide +kernel
theorem d_LinkAuditModel_allConflicts_143 : decode prog_12_method_41_code 143 = .ok (.return_, 1) := by decide +kernel
theorem d_LinkAuditModel_conflicts_0 : decode prog_12_method_48_code 0 = .ok (.aload_n 0, 1) := by decide +kernel
theorem d_LinkAuditModel_conflicts_1 : decode prog_12_method_48_code 1 = .ok (.invokevirtual 210, 3) := by decide +kernel
theorem d_LinkAuditModel_conflicts_4 : decode prog_12_method_48_code 4 = .ok (.aload_n 0, 1) := by decide +kernel
theorem d_LinkAuditModel_conflicts_5 : decode prog_12_method_48_code 5 = .ok (.invokevirtual 217, 3) := by decide +kernel
theorem d_LinkAuditModel_conflicts_8 : decode prog_12_method_48_code 8 = .ok (.aload_n 0, 1) := by decide +kernel
theorem d_LinkAuditModel_conflicts_9 : decode prog_12_method_48_code 9 = .ok (.getfield 207, 3) := by decide +kernel
theorem d_LinkAuditModel_conflicts_12 : decode prog_12_method_48_code 12 = .ok (.ireturn, 1) := by decide +kernel
theorem d_LinkAuditModel_conflict_0 : decode prog_12_method_49_code 0 = .ok (.iload_n 1, 1) := by decide +kernel
theorem d_LinkAuditModel_conflict_1 : decode prog_12_method_49_code 1 = .ok (.ifCond .lt 12, 3) := by decide +kernel
theorem d_LinkAuditModel_conflict_4 : decode prog_12_method_49_code 4 = .ok (.iload_n 2, 1) := by decide +kernel
theorem d_LinkAuditModel_conflict_5 : decode prog_12_method_49_code 5 = .ok (.iconst 0, 1) := by decide +kernel
theorem d_LinkAuditModel_conflict_6 : decode prog_12_method_49_code 6 = .ok (.iconst 2, 1) := by decide +kernel
theorem d_LinkAuditModel_conflict_7 : decode prog_12_method_49_code 7 = .ok (.invokestatic 92, 3) := by decide +kernel
theorem d_LinkAuditModel_conflict_10 : decode prog_12_method_49_code 10 = .ok (.ifCond .ne 5, 3) := by decide +kernel
theorem d_LinkAuditModel_conflict_13 : decode prog_12_method_49_code 13 = .ok (.iconst (-1), 1) := by decide +kernel
theorem d_LinkAuditModel_conflict_14 : decode prog_12_method_49_code 14 = .ok (.ireturn, 1) := by decide +kernel
theorem d_LinkAuditModel_conflict_15 : decode prog_12_method_49_code 15 = .ok (.aload_n 0, 1) := by decide +kernel
theorem d_LinkAuditModel_conflict_16 : decode prog_12_method_49_code 16 = .ok (.invokevirtual 210, 3) := by decide +kernel
theorem d_LinkAuditModel_conflict_19 : decode prog_12_method_49_code 19 = .ok (.aload_n 0, 1) := by decide +kernel
theorem d_LinkAuditModel_conflict_20 : decode prog_12_method_49_code 20 = .ok (.invokevirtual 217, 3) := by decide +kernel
theorem d_LinkAuditModel_conflict_23 : decode prog_12_method_49_code 23 = .ok (.iload_n 1, 1) := by decide +kernel
theorem d_LinkAuditModel_conflict_24 : decode prog_12_method_49_code 24 = .ok (.aload_n 0, 1) := by decide +kernel
theorem d_LinkAuditModel_conflict_25 : decode prog_12_method_49_code 25 = .ok (.getfield 207, 3) := by decide +kernel
theorem d_LinkAuditModel_conflict_28 : decode prog_12_method_49_code 28 = .ok (.if_icmp .ge 16, 3) := by decide +kernel
theorem d_LinkAuditModel_conflict_31 : decode prog_12_method_49_code 31 = .ok (.aload_n 0, 1) := by decide +kernel
theorem d_LinkAuditModel_conflict_32 : decode prog_12_method_49_code 32 = .ok (.getfield 83, 3) := by decide +kernel
theorem d_LinkAuditModel_conflict_35 : decode prog_12_method_49_code 35 = .ok (.iconst 3, 1) := by decide +kernel
theorem d_LinkAuditModel_conflict_36 : decode prog_12_method_49_code 36 = .ok (.iload_n 1, 1) := by decide +kernel
theorem d_LinkAuditModel_conflict_37 : decode prog_12_method_49_code 37 = .ok (.imul, 1) := by decide +kernel
theorem d_LinkAuditModel_conflict_38 : decode prog_12_method_49_code 38 = .ok (.iload_n 2, 1) := by decide +kernel
theorem d_LinkAuditModel_conflict_39 : decode prog_12_method_49_code 39 = .ok (.iadd, 1) := by decide +kernel
theorem d_LinkAuditModel_conflict_40 : decode prog_12_method_49_code 40 = .ok (.iaload, 1) := by decide +kernel
theorem d_LinkAuditModel_conflict_41 : decode prog_12_method_49_code 41 = .ok (.goto 4, 3) := by decide +kernel
theorem d_LinkAuditModel_conflict_44 : decode prog_12_method_49_code 44 = .ok (.iconst (-1), 1) := by decide +kernel
theorem d_LinkAuditModel_conflict_45 : decode prog_12_method_49_code 45 = .ok (.ireturn, 1) := by decide +kernel
theorem d_LinkAuditModel_faults_0 : decode prog_12_method_50_code 0 = .ok (.aload_n 0, 1) := by decide +kernel
theorem d_LinkAuditModel_faults_1 : decode prog_12_method_50_code 1 = .ok (.invokevirtual 210, 3) := by decide +kernel
theorem d_LinkAuditModel_faults_4 : decode prog_12_method_50_code 4 = .ok (.aload_n 0, 1) := by decide +kernel
theorem d_LinkAuditModel_faults_5 : decode prog_12_method_50_code 5 = .ok (.invokevirtual 213, 3) := by decide +kernel
theorem d_LinkAuditModel_faults_8 : decode prog_12_method_50_code 8 = .ok (.istore_n 1, 1) := by decide +kernel
theorem d_LinkAuditModel_faults_9 : decode prog_12_method_50_code 9 = .ok (.iconst 0, 1) := by decide +kernel
theorem d_LinkAuditModel_faults_10 : decode prog_12_method_50_code 10 = .ok (.istore_n 2, 1) := by decide +kernel
theorem d_LinkAuditModel_faults_11 : decode prog_12_method_50_code 11 = .ok (.iload_n 2, 1) := by decide +kernel
theorem d_LinkAuditModel_faults_12 : decode prog_12_method_50_code 12 = .ok (.aload_n 0, 1) := by decide +kernel
theorem d_LinkAuditModel_faults_13 : decode prog_12_method_50_code 13 = .ok (.getfield 115, 3) := by decide +kernel
theorem d_LinkAuditModel_faults_16 : decode prog_12_method_50_code 16 = .ok (.if_icmp .ge 20, 3) := by decide +kernel
theorem d_LinkAuditModel_faults_19 : decode prog_12_method_50_code 19 = .ok (.aload_n 0, 1) := by decide +kernel
theorem d_LinkAuditModel_faults_20 : decode prog_12_method_50_code 20 = .ok (.iload_n 2, 1) := by decide +kernel
theorem d_LinkAuditModel_faults_21 : decode prog_12_method_50_code 21 = .ok (.invokevirtual 195, 3) := by decide +kernel
theorem d_LinkAuditModel_faults_24 : decode prog_12_method_50_code 24 = .ok (.ifCond .ge 6, 3) := by decide +kernel
theorem d_LinkAuditModel_faults_27 : decode prog_12_method_50_code 27 = .ok (.iinc 1 1, 3) := by decide +kernel
theorem d_LinkAuditModel_faults_30 : decode prog_12_method_50_code 30 = .ok (.iinc 2 1, 3) := by decide +kernel
theorem d_LinkAuditModel_faults_33 : decode prog_12_method_50_code 33 = .ok (.goto (-22), 3) := by decide +kernel
theorem d_LinkAuditModel_faults_36 : decode prog_12_method_50_code 36 = .ok (.aload_n 0, 1) := by decide +kernel
theorem d_LinkAuditModel_faults_37 : decode prog_12_method_50_code 37 = .ok (.invokevirtual 217, 3) := by decide +kernel
theorem d_LinkAuditModel_faults_40 : decode prog_12_method_50_code 40 = .ok (.iload_n 1, 1) := by decide +kernel
theorem d_LinkAuditModel_faults_41 : decode prog_12_method_50_code 41 = .ok (.aload_n 0, 1) := by decide +kernel
theorem d_LinkAuditModel_faults_42 : decode prog_12_method_50_code 42 = .ok (.getfield 207, 3) := by decide +kernel
theorem d_LinkAuditModel_faults_45 : decode prog_12_method_50_code 45 = .ok (.iadd, 1) := by decide +kernel
theorem d_LinkAuditModel_faults_46 : decode prog_12_method_50_code 46 = .ok (.ireturn, 1) := by decide +kernel
theorem d_LinkAuditModel_count_0 : decode prog_12_method_51_code 0 = .ok (.iload_n 1, 1) := by decide +kernel
theorem d_LinkAuditModel_count_1 : decode prog_12_method_51_code 1 = .ok (.ifCond .ne 10, 3) := by decide +kernel
theorem d_LinkAuditModel_count_4 : decode prog_12_method_51_code 4 = .ok (.aload_n 0, 1) := by decide +kernel
theorem d_LinkAuditModel_count_5 : decode prog_12_method_51_code 5 = .ok (.getfield 96, 3) := by decide +kernel
theorem d_LinkAuditModel_count_8 : decode prog_12_method_51_code 8 = .ok (.goto 28, 3) := by decide +kernel
theorem d_LinkAuditModel_count_11 : decode prog_12_method_51_code 11 = .ok (.iload_n 1, 1) := by decide +kernel
theorem d_LinkAuditModel_count_12 : decode prog_12_method_51_code 12 = .ok (.iconst 1, 1) := by decide +kernel
theorem d_LinkAuditModel_count_13 : decode prog_12_method_51_code 13 = .ok (.if_icmp .ne 10, 3) := by decide +kernel
theorem d_LinkAuditModel_count_16 : decode prog_12_method_51_code 16 = .ok (.aload_n 0, 1) := by decide +kernel
theorem d_LinkAuditModel_count_17 : decode prog_12_method_51_code 17 = .ok (.getfield 104, 3) := by decide +kernel
theorem d_LinkAuditModel_count_20 : decode prog_12_method_51_code 20 = .ok (.goto 16, 3) := by decide +kernel
theorem d_LinkAuditModel_count_23 : decode prog_12_method_51_code 23 = .ok (.iload_n 1, 1) := by decide +kernel
theorem d_LinkAuditModel_count_24 : decode prog_12_method_51_code 24 = .ok (.iconst 2, 1) := by decide +kernel
theorem d_LinkAuditModel_count_25 : decode prog_12_method_51_code 25 = .ok (.if_icmp .ne 10, 3) := by decide +kernel
theorem d_LinkAuditModel_count_28 : decode prog_12_method_51_code 28 = .ok (.aload_n 0, 1) := by decide +kernel
theorem d_LinkAuditModel_count_29 : decode prog_12_method_51_code 29 = .ok (.getfield 115, 3) := by decide +kernel
theorem d_LinkAuditModel_count_32 : decode prog_12_method_51_code 32 = .ok (.goto 4, 3) := by decide +kernel
theorem d_LinkAuditModel_count_35 : decode prog_12_method_51_code 35 = .ok (.iconst (-1), 1) := by decide +kernel
theorem d_LinkAuditModel_count_36 : decode prog_12_method_51_code 36 = .ok (.ireturn, 1) := by decide +kernel
theorem d_LinkAuditLaw_law_0 : decode code 0 = .ok (.new 7, 3) := by decide +kernel
theorem d_LinkAuditLaw_law_3 : decode code 3 = .ok (.dup, 1) := by decide +kernel
theorem d_LinkAuditLaw_law_4 : decode code 4 = .ok (.invokespecial 9, 3) := by decide +kernel
theorem d_LinkAuditLaw_law_7 : decode code 7 = .ok (.astore_n 1, 1) := by decide +kernel
theorem d_LinkAuditLaw_law_8 : decode code 8 = .ok (.new 10, 3) := by decide +kernel
theorem d_LinkAuditLaw_law_11 : decode code 11 = .ok (.dup, 1) := by decide +kernel
theorem d_LinkAuditLaw_law_12 : decode code 12 = .ok (.invokespecial 12, 3) := by decide +kernel
theorem d_LinkAuditLaw_law_15 : decode code 15 = .ok (.astore_n 2, 1) := by decide +kernel
theorem d_LinkAuditLaw_law_16 : decode code 16 = .ok (.iconst 0, 1) := by decide +kernel
theorem d_LinkAuditLaw_law_17 : decode code 17 = .ok (.istore_n 3, 1) := by decide +kernel
theorem d_LinkAuditLaw_law_18 : decode code 18 = .ok (.iload_n 3, 1) := by decide +kernel
theorem d_LinkAuditLaw_law_19 : decode code 19 = .ok (.aload_n 0, 1) := by decide +kernel
theorem d_LinkAuditLaw_law_20 : decode code 20 = .ok (.arraylength, 1) := by decide +kernel
theorem d_LinkAuditLaw_law_21 : decode code 21 = .ok (.bipush 6, 2) := by decide +kernel
theorem d_LinkAuditLaw_law_23 : decode code 23 = .ok (.isub, 1) := by decide +kernel
theorem d_LinkAuditLaw_law_24 : decode code 24 = .ok (.if_icmp .gt 668, 3) := by decide +kernel
theorem d_LinkAuditLaw_law_27 : decode code 27 = .ok (.aload_n 0, 1) := by decide +kernel
theorem d_LinkAuditLaw_law_28 : decode code 28 = .ok (.iload_n 3, 1) := by decide +kernel
theorem d_LinkAuditLaw_law_29 : decode code 29 = .ok (.iaload, 1) := by decide +kernel
theorem d_LinkAuditLaw_law_30 : decode code 30 = .ok (.bipush 15, 2) := by decide +kernel
theorem d_LinkAuditLaw_law_32 : decode code 32 = .ok (.iand, 1) := by decide +kernel
theorem d_LinkAuditLaw_law_33 : decode code 33 = .ok (.tableswitch 653 0 15 #[79, 112, 171, 234, 287, 350, 413, 446, 469, 492, 525, 558, 571, 584, 617, 630], 79) := by decide +kernel
theorem d_LinkAuditLaw_law_112 : decode code 112 = .ok (.aload_n 1, 1) := by decide +kernel
theorem d_LinkAuditLaw_law_113 : decode code 113 = .ok (.aload_n 0, 1) := by decide +kernel
theorem d_LinkAuditLaw_law_114 : decode code 114 = .ok (.iload_n 3, 1) := by decide +kernel
theorem d_LinkAuditLaw_law_115 : decode code 115 = .ok (.iconst 1, 1) := by decide +kernel
theorem d_LinkAuditLaw_law_116 : decode code 116 = .ok (.iadd, 1) := by decide +kernel
theorem d_LinkAuditLaw_law_117 : decode code 117 = .ok (.iaload, 1) := by decide +kernel
theorem d_LinkAuditLaw_law_118 : decode code 118 = .ok (.aload_n 0, 1) := by decide +kernel
theorem d_LinkAuditLaw_law_119 : decode code 119 = .ok (.iload_n 3, 1) := by decide +kernel
theorem d_LinkAuditLaw_law_120 : decode code 120 = .ok (.iconst 2, 1) := by decide +kernel
theorem d_LinkAuditLaw_law_121 : decode code 121 = .ok (.iadd, 1) := by decide +kernel
theorem d_LinkAuditLaw_law_122 : decode code 122 = .ok (.iaload, 1) := by decide +kernel
theorem d_LinkAuditLaw_law_123 : decode code 123 = .ok (.invokevirtual 13, 3) := by decide +kernel
theorem d_LinkAuditLaw_law_126 : decode code 126 = .ok (.aload_n 2, 1) := by decide +kernel
theorem d_LinkAuditLaw_law_127 : decode code 127 = .ok (.aload_n 0, 1) := by decide +kernel
theorem d_LinkAuditLaw_law_128 : decode code 128 = .ok (.iload_n 3, 1) := by decide +kernel
theorem d_LinkAuditLaw_law_129 : decode code 129 = .ok (.iconst 1, 1) := by decide +kernel
theorem d_LinkAuditLaw_law_130 : decode code 130 = .ok (.iadd, 1) := by decide +kernel
theorem d_LinkAuditLaw_law_131 : decode code 131 = .ok (.iaload, 1) := by decide +kernel
theorem d_LinkAuditLaw_law_132 : decode code 132 = .ok (.aload_n 0, 1) := by decide +kernel
theorem d_LinkAuditLaw_law_133 : decode code 133 = .ok (.iload_n 3, 1) := by decide +kernel
theorem d_LinkAuditLaw_law_134 : decode code 134 = .ok (.iconst 2, 1) := by decide +kernel
theorem d_LinkAuditLaw_law_135 : decode code 135 = .ok (.iadd, 1) := by decide +kernel
theorem d_LinkAuditLaw_law_136 : decode code 136 = .ok (.iaload, 1) := by decide +kernel
theorem d_LinkAuditLaw_law_137 : decode code 137 = .ok (.invokevirtual 17, 3) := by decide +kernel
theorem d_LinkAuditLaw_law_140 : decode code 140 = .ok (.if_icmp .eq 546, 3) := by decide +kernel
theorem d_LinkAuditLaw_law_143 : decode code 143 = .ok (.iconst 0, 1) := by decide +kernel
theorem d_LinkAuditLaw_law_144 : decode code 144 = .ok (.ireturn, 1) := by decide +kernel
theorem d_LinkAuditLaw_law_145 : decode code 145 = .ok (.aload_n 1, 1) := by decide +kernel
theorem d_LinkAuditLaw_law_146 : decode code 146 = .ok (.aload_n 0, 1) := by decide +kernel
theorem d_LinkAuditLaw_law_147 : decode code 147 = .ok (.iload_n 3, 1) := by decide +kernel
theorem d_LinkAuditLaw_law_148 : decode code 148 = .ok (.iconst 1, 1) := by decide +kernel
theorem d_LinkAuditLaw_law_149 : decode code 149 = .ok (.iadd, 1) := by decide +kernel
theorem d_LinkAuditLaw_law_150 : decode code 150 = .ok (.iaload, 1) := by decide +kernel
theorem d_LinkAuditLaw_law_151 : decode code 151 = .ok (.aload_n 0, 1) := by decide +kernel
theorem d_LinkAuditLaw_law_152 : decode code 152 = .ok (.iload_n 3, 1) := by decide +kernel
theorem d_LinkAuditLaw_law_153 : decode code 153 = .ok (.iconst 2, 1) := by decide +kernel
theorem d_LinkAuditLaw_law_154 : decode code 154 = .ok (.iadd, 1) := by decide +kernel
theorem d_LinkAuditLaw_law_155 : decode code 155 = .ok (.iaload, 1) := by decide +kernel
theorem d_LinkAuditLaw_law_156 : decode code 156 = .ok (.aload_n 0, 1) := by decide +kernel
theorem d_LinkAuditLaw_law_157 : decode code 157 = .ok (.iload_n 3, 1) := by decide +kernel
theorem d_LinkAuditLaw_law_158 : decode code 158 = .ok (.iconst 3, 1) := by decide +kernel
theorem d_LinkAuditLaw_law_159 : decode code 159 = .ok (.iadd, 1) := by decide +kernel
theorem d_LinkAuditLaw_law_160 : decode code 160 = .ok (.iaload, 1) := by decide +kernel
theorem d_LinkAuditLaw_law_161 : decode code 161 = .ok (.ifCond .eq 7, 3) := by decide +kernel
theorem d_LinkAuditLaw_law_164 : decode code 164 = .ok (.iconst 1, 1) := by decide +kernel
theorem d_LinkAuditLaw_law_165 : decode code 165 = .ok (.goto 4, 3) := by decide +kernel
theorem d_LinkAuditLaw_law_168 : decode code 168 = .ok (.iconst 0, 1) := by decide +kernel
theorem d_LinkAuditLaw_law_169 : decode code 169 = .ok (.invokevirtual 18, 3) := by decide +kernel
theorem d_LinkAuditLaw_law_172 : decode code 172 = .ok (.aload_n 2, 1) := by decide +kernel
theorem d_LinkAuditLaw_law_173 : decode code 173 = .ok (.aload_n 0, 1) := by decide +kernel
theorem d_LinkAuditLaw_law_174 : decode code 174 = .ok (.iload_n 3, 1) := by decide +kernel
theorem d_LinkAuditLaw_law_175 : decode code 175 = .ok (.iconst 1, 1) := by decide +kernel
theorem d_LinkAuditLaw_law_176 : decode code 176 = .ok (.iadd, 1) := by decide +kernel
theorem d_LinkAuditLaw_law_177 : decode code 177 = .ok (.iaload, 1) := by decide +kernel
theorem d_LinkAuditLaw_law_178 : decode code 178 = .ok (.aload_n 0, 1) := by decide +kernel
theorem d_LinkAuditLaw_law_179 : decode code 179 = .ok (.iload_n 3, 1) := by decide +kernel
theorem d_LinkAuditLaw_law_180 : decode code 180 = .ok (.iconst 2, 1) := by decide +kernel
theorem d_LinkAuditLaw_law_181 : decode code 181 = .ok (.iadd, 1) := by decide +kernel
theorem d_LinkAuditLaw_law_182 : decode code 182 = .ok (.iaload, 1) := by decide +kernel
theorem d_LinkAuditLaw_law_183 : decode code 183 = .ok (.aload_n 0, 1) := by decide +kernel
theorem d_LinkAuditLaw_law_184 : decode code 184 = .ok (.iload_n 3, 1) := by decide +kernel
theorem d_LinkAuditLaw_law_185 : decode code 185 = .ok (.iconst 3, 1) := by decide +kernel
theorem d_LinkAuditLaw_law_186 : decode code 186 = .ok (.iadd, 1) := by decide +kernel
theorem d_LinkAuditLaw_law_187 : decode code 187 = .ok (.iaload, 1) := by decide +kernel
theorem d_LinkAuditLaw_law_188 : decode code 188 = .ok (.ifCond .eq 7, 3) := by decide +kernel
theorem d_LinkAuditLaw_law_191 : decode code 191 = .ok (.iconst 1, 1) := by decide +kernel
theorem d_LinkAuditLaw_law_192 : decode code 192 = .ok (.goto 4, 3) := by decide +kernel
theorem d_LinkAuditLaw_law_195 : decode code 195 = .ok (.iconst 0, 1) := by decide +kernel
theorem d_LinkAuditLaw_law_196 : decode code 196 = .ok (.invokevirtual 22, 3) := by decide +kernel
theorem d_LinkAuditLaw_law_199 : decode code 199 = .ok (.if_icmp .eq 487, 3) := by decide +kernel
theorem d_LinkAuditLaw_law_202 : decode code 202 = .ok (.iconst 0, 1) := by decide +kernel
theorem d_LinkAuditLaw_law_203 : decode code 203 = .ok (.ireturn, 1) := by decide +kernel
theorem d_LinkAuditLaw_law_204 : decode code 204 = .ok (.aload_n 1, 1) := by decide +kernel
theorem d_LinkAuditLaw_law_205 : decode code 205 = .ok (.aload_n 0, 1) := by decide +kernel
theorem d_LinkAuditLaw_law_206 : decode code 206 = .ok (.iload_n 3, 1) := by decide +kernel
theorem d_LinkAuditLaw_law_207 : decode code 207 = .ok (.iconst 1, 1) := by decide +kernel
theorem d_LinkAuditLaw_law_208 : decode code 208 = .ok (.iadd, 1) := by decide +kernel
theorem d_LinkAuditLaw_law_209 : decode code 209 = .ok (.iaload, 1) := by decide +kernel
theorem d_LinkAuditLaw_law_210 : decode code 210 = .ok (.aload_n 0, 1) := by decide +kernel
theorem d_LinkAuditLaw_law_211 : decode code 211 = .ok (.iload_n 3, 1) := by decide +kernel
theorem d_LinkAuditLaw_law_212 : decode code 212 = .ok (.iconst 2, 1) := by decide +kernel
theorem d_LinkAuditLaw_law_213 : decode code 213 = .ok (.iadd, 1) := by decide +kernel
theorem d_LinkAuditLaw_law_214 : decode code 214 = .ok (.iaload, 1) := by decide +kernel
theorem d_LinkAuditLaw_law_215 : decode code 215 = .ok (.aload_n 0, 1) := by decide +kernel
theorem d_LinkAuditLaw_law_216 : decode code 216 = .ok (.iload_n 3, 1) := by decide +kernel
theorem d_LinkAuditLaw_law_217 : decode code 217 = .ok (.iconst 3, 1) := by decide +kernel
theorem d_LinkAuditLaw_law_218 : decode code 218 = .ok (.iadd, 1) := by decide +kernel
theorem d_LinkAuditLaw_law_219 : decode code 219 = .ok (.iaload, 1) := by decide +kernel
theorem d_LinkAuditLaw_law_220 : decode code 220 = .ok (.aload_n 0, 1) := by decide +kernel
theorem d_LinkAuditLaw_law_221 : decode code 221 = .ok (.iload_n 3, 1) := by decide +kernel
theorem d_LinkAuditLaw_law_222 : decode code 222 = .ok (.iconst 4, 1) := by decide +kernel
theorem d_LinkAuditLaw_law_223 : decode code 223 = .ok (.iadd, 1) := by decide +kernel
theorem d_LinkAuditLaw_law_224 : decode code 224 = .ok (.iaload, 1) := by decide +kernel
theorem d_LinkAuditLaw_law_225 : decode code 225 = .ok (.aload_n 0, 1) := by decide +kernel
theorem d_LinkAuditLaw_law_226 : decode code 226 = .ok (.iload_n 3, 1) := by decide +kernel
theorem d_LinkAuditLaw_law_227 : decode code 227 = .ok (.iconst 5, 1) := by decide +kernel
theorem d_LinkAuditLaw_law_228 : decode code 228 = .ok (.iadd, 1) := by decide +kernel
theorem d_LinkAuditLaw_law_229 : decode code 229 = .ok (.iaload, 1) := by decide +kernel
theorem d_LinkAuditLaw_law_230 : decode code 230 = .ok (.invokevirtual 23, 3) := by decide +kernel
theorem d_LinkAuditLaw_law_233 : decode code 233 = .ok (.aload_n 2, 1) := by decide +kernel
theorem d_LinkAuditLaw_law_234 : decode code 234 = .ok (.aload_n 0, 1) := by decide +kernel
theorem d_LinkAuditLaw_law_235 : decode code 235 = .ok (.iload_n 3, 1) := by decide +kernel
theorem d_LinkAuditLaw_law_236 : decode code 236 = .ok (.iconst 1, 1) := by decide +kernel
theorem d_LinkAuditLaw_law_237 : decode code 237 = .ok (.iadd, 1) := by decide +kernel
theorem d_LinkAuditLaw_law_238 : decode code 238 = .ok (.iaload, 1) := by decide +kernel
theorem d_LinkAuditLaw_law_239 : decode code 239 = .ok (.aload_n 0, 1) := by decide +kernel
theorem d_LinkAuditLaw_law_240 : decode code 240 = .ok (.iload_n 3, 1) := by decide +kernel
theorem d_LinkAuditLaw_law_241 : decode code 241 = .ok (.iconst 2, 1) := by decide +kernel
theorem d_LinkAuditLaw_law_242 : decode code 242 = .ok (.iadd, 1) := by decide +kernel
theorem d_LinkAuditLaw_law_243 : decode code 243 = .ok (.iaload, 1) := by decide +kernel
theorem d_LinkAuditLaw_law_244 : decode code 244 = .ok (.aload_n 0, 1) := by decide +kernel
theorem d_LinkAuditLaw_law_245 : decode code 245 = .ok (.iload_n 3, 1) := by decide +kernel
theorem d_LinkAuditLaw_law_246 : decode code 246 = .ok (.iconst 3, 1) := by decide +kernel
theorem d_LinkAuditLaw_law_247 : decode code 247 = .ok (.iadd, 1) := by decide +kernel
theorem d_LinkAuditLaw_law_248 : decode code 248 = .ok (.iaload, 1) := by decide +kernel
theorem d_LinkAuditLaw_law_249 : decode code 249 = .ok (.aload_n 0, 1) := by decide +kernel
theorem d_LinkAuditLaw_law_250 : decode code 250 = .ok (.iload_n 3, 1) := by decide +kernel
theorem d_LinkAuditLaw_law_251 : decode code 251 = .ok (.iconst 4, 1) := by decide +kernel
theorem d_LinkAuditLaw_law_252 : decode code 252 = .ok (.iadd, 1) := by decide +kernel
theorem d_LinkAuditLaw_law_253 : decode code 253 = .ok (.iaload, 1) := by decide +kernel
theorem d_LinkAuditLaw_law_254 : decode code 254 = .ok (.aload_n 0, 1) := by decide +kernel
theorem d_LinkAuditLaw_law_255 : decode code 255 = .ok (.iload_n 3, 1) := by decide +kernel
theorem d_LinkAuditLaw_law_256 : decode code 256 = .ok (.iconst 5, 1) := by decide +kernel
theorem d_LinkAuditLaw_law_257 : decode code 257 = .ok (.iadd, 1) := by decide +kernel
theorem d_LinkAuditLaw_law_258 : decode code 258 = .ok (.iaload, 1) := by decide +kernel
theorem d_LinkAuditLaw_law_259 : decode code 259 = .ok (.invokevirtual 27, 3) := by decide +kernel
theorem d_LinkAuditLaw_law_262 : decode code 262 = .ok (.if_icmp .eq 424, 3) := by decide +kernel
theorem d_LinkAuditLaw_law_265 : decode code 265 = .ok (.iconst 0, 1) := by decide +kernel
theorem d_LinkAuditLaw_law_266 : decode code 266 = .ok (.ireturn, 1) := by decide +kernel
theorem d_LinkAuditLaw_law_267 : decode code 267 = .ok (.aload_n 1, 1) := by decide +kernel
theorem d_LinkAuditLaw_law_268 : decode code 268 = .ok (.aload_n 0, 1) := by decide +kernel
theorem d_LinkAuditLaw_law_269 : decode code 269 = .ok (.iload_n 3, 1) := by decide +kernel
theorem d_LinkAuditLaw_law_270 : decode code 270 = .ok (.iconst 1, 1) := by decide +kernel
theorem d_LinkAuditLaw_law_271 : decode code 271 = .ok (.iadd, 1) := by decide +kernel
theorem d_LinkAuditLaw_law_272 : decode code 272 = .ok (.iaload, 1) := by decide +kernel
theorem d_LinkAuditLaw_law_273 : decode code 273 = .ok (.aload_n 0, 1) := by decide +kernel
theorem d_LinkAuditLaw_law_274 : decode code 274 = .ok (.iload_n 3, 1) := by decide +kernel
theorem d_LinkAuditLaw_law_275 : decode code 275 = .ok (.iconst 2, 1) := by decide +kernel
theorem d_LinkAuditLaw_law_276 : decode code 276 = .ok (.iadd, 1) := by decide +kernel
theorem d_LinkAuditLaw_law_277 : decode code 277 = .ok (.iaload, 1) := by decide +kernel
theorem d_LinkAuditLaw_law_278 : decode code 278 = .ok (.aload_n 0, 1) := by decide +kernel
theorem d_LinkAuditLaw_law_279 : decode code 279 = .ok (.iload_n 3, 1) := by decide +kernel
theorem d_LinkAuditLaw_law_280 : decode code 280 = .ok (.iconst 3, 1) := by decide +kernel
theorem d_LinkAuditLaw_law_281 : decode code 281 = .ok (.iadd, 1) := by decide +kernel
theorem d_LinkAuditLaw_law_282 : decode code 282 = .ok (.iaload, 1) := by decide +kernel
theorem d_LinkAuditLaw_law_283 : decode code 283 = .ok (.aload_n 0, 1) := by decide +kernel
theorem d_LinkAuditLaw_law_284 : decode code 284 = .ok (.iload_n 3, 1) := by decide +kernel
theorem d_LinkAuditLaw_law_285 : decode code 285 = .ok (.iconst 4, 1) := by decide +kernel
theorem d_LinkAuditLaw_law_286 : decode code 286 = .ok (.iadd, 1) := by decide +kernel
theorem d_LinkAuditLaw_law_287 : decode code 287 = .ok (.iaload, 1) := by decide +kernel
theorem d_LinkAuditLaw_law_288 : decode code 288 = .ok (.invokevirtual 28, 3) := by decide +kernel
theorem d_LinkAuditLaw_law_291 : decode code 291 = .ok (.aload_n 2, 1) := by decide +kernel
theorem d_LinkAuditLaw_law_292 : decode code 292 = .ok (.aload_n 0, 1) := by decide +kernel
theorem d_LinkAuditLaw_law_293 : decode code 293 = .ok (.iload_n 3, 1) := by decide +kernel
theorem d_LinkAuditLaw_law_294 : decode code 294 = .ok (.iconst 1, 1) := by decide +kernel
theorem d_LinkAuditLaw_law_295 : decode code 295 = .ok (.iadd, 1) := by decide +kernel
theorem d_LinkAuditLaw_law_296 : decode code 296 = .ok (.iaload, 1) := by decide +kernel
theorem d_LinkAuditLaw_law_297 : decode code 297 = .ok (.aload_n 0, 1) := by decide +kernel
theorem d_LinkAuditLaw_law_298 : decode code 298 = .ok (.iload_n 3, 1) := by decide +kernel
theorem d_LinkAuditLaw_law_299 : decode code 299 = .ok (.iconst 2, 1) := by decide +kernel
theorem d_LinkAuditLaw_law_300 : decode code 300 = .ok (.iadd, 1) := by decide +kernel
theorem d_LinkAuditLaw_law_301 : decode code 301 = .ok (.iaload, 1) := by decide +kernel
theorem d_LinkAuditLaw_law_302 : decode code 302 = .ok (.aload_n 0, 1) := by decide +kernel
theorem d_LinkAuditLaw_law_303 : decode code 303 = .ok (.iload_n 3, 1) := by decide +kernel
theorem d_LinkAuditLaw_law_304 : decode code 304 = .ok (.iconst 3, 1) := by decide +kernel
theorem d_LinkAuditLaw_law_305 : decode code 305 = .ok (.iadd, 1) := by decide +kernel
theorem d_LinkAuditLaw_law_306 : decode code 306 = .ok (.iaload, 1) := by decide +kernel
theorem d_LinkAuditLaw_law_307 : decode code 307 = .ok (.aload_n 0, 1) := by decide +kernel
theorem d_LinkAuditLaw_law_308 : decode code 308 = .ok (.iload_n 3, 1) := by decide +kernel
theorem d_LinkAuditLaw_law_309 : decode code 309 = .ok (.iconst 4, 1) := by decide +kernel
theorem d_LinkAuditLaw_law_310 : decode code 310 = .ok (.iadd, 1) := by decide +kernel
theorem d_LinkAuditLaw_law_311 : decode code 311 = .ok (.iaload, 1) := by decide +kernel
theorem d_LinkAuditLaw_law_312 : decode code 312 = .ok (.invokevirtual 32, 3) := by decide +kernel
theorem d_LinkAuditLaw_law_315 : decode code 315 = .ok (.if_icmp .eq 371, 3) := by decide +kernel
theorem d_LinkAuditLaw_law_318 : decode code 318 = .ok (.iconst 0, 1) := by decide +kernel
theorem d_LinkAuditLaw_law_319 : decode code 319 = .ok (.ireturn, 1) := by decide +kernel
theorem d_LinkAuditLaw_law_320 : decode code 320 = .ok (.aload_n 1, 1) := by decide +kernel
theorem d_LinkAuditLaw_law_321 : decode code 321 = .ok (.aload_n 0, 1) := by decide +kernel
theorem d_LinkAuditLaw_law_322 : decode code 322 = .ok (.iload_n 3, 1) := by decide +kernel
theorem d_LinkAuditLaw_law_323 : decode code 323 = .ok (.iconst 1, 1) := by decide +kernel
theorem d_LinkAuditLaw_law_324 : decode code 324 = .ok (.iadd, 1) := by decide +kernel
theorem d_LinkAuditLaw_law_325 : decode code 325 = .ok (.iaload, 1) := by decide +kernel
theorem d_LinkAuditLaw_law_326 : decode code 326 = .ok (.aload_n 0, 1) := by decide +kernel
theorem d_LinkAuditLaw_law_327 : decode code 327 = .ok (.iload_n 3, 1) := by decide +kernel
theorem d_LinkAuditLaw_law_328 : decode code 328 = .ok (.iconst 2, 1) := by decide +kernel
theorem d_LinkAuditLaw_law_329 : decode code 329 = .ok (.iadd, 1) := by decide +kernel
theorem d_LinkAuditLaw_law_330 : decode code 330 = .ok (.iaload, 1) := by decide +kernel
theorem d_LinkAuditLaw_law_331 : decode code 331 = .ok (.aload_n 0, 1) := by decide +kernel
theorem d_LinkAuditLaw_law_332 : decode code 332 = .ok (.iload_n 3, 1) := by decide +kernel
theorem d_LinkAuditLaw_law_333 : decode code 333 = .ok (.iconst 3, 1) := by decide +kernel
theorem d_LinkAuditLaw_law_334 : decode code 334 = .ok (.iadd, 1) := by decide +kernel
theorem d_LinkAuditLaw_law_335 : decode code 335 = .ok (.iaload, 1) := by decide +kernel
theorem d_LinkAuditLaw_law_336 : decode code 336 = .ok (.aload_n 0, 1) := by decide +kernel
theorem d_LinkAuditLaw_law_337 : decode code 337 = .ok (.iload_n 3, 1) := by decide +kernel
theorem d_LinkAuditLaw_law_338 : decode code 338 = .ok (.iconst 4, 1) := by decide +kernel
theorem d_LinkAuditLaw_law_339 : decode code 339 = .ok (.iadd, 1) := by decide +kernel
theorem d_LinkAuditLaw_law_340 : decode code 340 = .ok (.iaload, 1) := by decide +kernel
theorem d_LinkAuditLaw_law_341 : decode code 341 = .ok (.aload_n 0, 1) := by decide +kernel
theorem d_LinkAuditLaw_law_342 : decode code 342 = .ok (.iload_n 3, 1) := by decide +kernel
theorem d_LinkAuditLaw_law_343 : decode code 343 = .ok (.iconst 5, 1) := by decide +kernel
theorem d_LinkAuditLaw_law_344 : decode code 344 = .ok (.iadd, 1) := by decide +kernel
theorem d_LinkAuditLaw_law_345 : decode code 345 = .ok (.iaload, 1) := by decide +kernel
theorem d_LinkAuditLaw_law_346 : decode code 346 = .ok (.invokevirtual 33, 3) := by decide +kernel
theorem d_LinkAuditLaw_law_349 : decode code 349 = .ok (.aload_n 2, 1) := by decide +kernel
theorem d_LinkAuditLaw_law_350 : decode code 350 = .ok (.aload_n 0, 1) := by decide +kernel
theorem d_LinkAuditLaw_law_351 : decode code 351 = .ok (.iload_n 3, 1) := by decide +kernel
theorem d_LinkAuditLaw_law_352 : decode code 352 = .ok (.iconst 1, 1) := by decide +kernel
theorem d_LinkAuditLaw_law_353 : decode code 353 = .ok (.iadd, 1) := by decide +kernel
theorem d_LinkAuditLaw_law_354 : decode code 354 = .ok (.iaload, 1) := by decide +kernel
theorem d_LinkAuditLaw_law_355 : decode code 355 = .ok (.aload_n 0, 1) := by decide +kernel
theorem d_LinkAuditLaw_law_356 : decode code 356 = .ok (.iload_n 3, 1) := by decide +kernel
theorem d_LinkAuditLaw_law_357 : decode code 357 = .ok (.iconst 2, 1) := by decide +kernel
theorem d_LinkAuditLaw_law_358 : decode code 358 = .ok (.iadd, 1) := by decide +kernel
theorem d_LinkAuditLaw_law_359 : decode code 359 = .ok (.iaload, 1) := by decide +kernel
theorem d_LinkAuditLaw_law_360 : decode code 360 = .ok (.aload_n 0, 1) := by decide +kernel
theorem d_LinkAuditLaw_law_361 : decode code 361 = .ok (.iload_n 3, 1) := by decide +kernel
theorem d_LinkAuditLaw_law_362 : decode code 362 = .ok (.iconst 3, 1) := by decide +kernel
theorem d_LinkAuditLaw_law_363 : decode code 363 = .ok (.iadd, 1) := by decide +kernel
theorem d_LinkAuditLaw_law_364 : decode code 364 = .ok (.iaload, 1) := by decide +kernel
theorem d_LinkAuditLaw_law_365 : decode code 365 = .ok (.aload_n 0, 1) := by decide +kernel
theorem d_LinkAuditLaw_law_366 : decode code 366 = .ok (.iload_n 3, 1) := by decide +kernel
theorem d_LinkAuditLaw_law_367 : decode code 367 = .ok (.iconst 4, 1) := by decide +kernel
theorem d_LinkAuditLaw_law_368 : decode code 368 = .ok (.iadd, 1) := by decide +kernel
theorem d_LinkAuditLaw_law_369 : decode code 369 = .ok (.iaload, 1) := by decide +kernel
theorem d_LinkAuditLaw_law_370 : decode code 370 = .ok (.aload_n 0, 1) := by decide +kernel
theorem d_LinkAuditLaw_law_371 : decode code 371 = .ok (.iload_n 3, 1) := by decide +kernel
theorem d_LinkAuditLaw_law_372 : decode code 372 = .ok (.iconst 5, 1) := by decide +kernel
theorem d_LinkAuditLaw_law_373 : decode code 373 = .ok (.iadd, 1) := by decide +kernel
theorem d_LinkAuditLaw_law_374 : decode code 374 = .ok (.iaload, 1) := by decide +kernel
theorem d_LinkAuditLaw_law_375 : decode code 375 = .ok (.invokevirtual 36, 3) := by decide +kernel
theorem d_LinkAuditLaw_law_378 : decode code 378 = .ok (.if_icmp .eq 308, 3) := by decide +kernel
theorem d_LinkAuditLaw_law_381 : decode code 381 = .ok (.iconst 0, 1) := by decide +kernel
theorem d_LinkAuditLaw_law_382 : decode code 382 = .ok (.ireturn, 1) := by decide +kernel
theorem d_LinkAuditLaw_law_383 : decode code 383 = .ok (.aload_n 1, 1) := by decide +kernel
theorem d_LinkAuditLaw_law_384 : decode code 384 = .ok (.aload_n 0, 1) := by decide +kernel
theorem d_LinkAuditLaw_law_385 : decode code 385 = .ok (.iload_n 3, 1) := by decide +kernel
theorem d_LinkAuditLaw_law_386 : decode code 386 = .ok (.iconst 1, 1) := by decide +kernel
theorem d_LinkAuditLaw_law_387 : decode code 387 = .ok (.iadd, 1) := by decide +kernel
theorem d_LinkAuditLaw_law_388 : decode code 388 = .ok (.iaload, 1) := by decide +kernel
theorem d_LinkAuditLaw_law_389 : decode code 389 = .ok (.aload_n 0, 1) := by decide +kernel
theorem d_LinkAuditLaw_law_390 : decode code 390 = .ok (.iload_n 3, 1) := by decide +kernel
theorem d_LinkAuditLaw_law_391 : decode code 391 = .ok (.iconst 2, 1) := by decide +kernel
theorem d_LinkAuditLaw_law_392 : decode code 392 = .ok (.iadd, 1) := by decide +kernel
theorem d_LinkAuditLaw_law_393 : decode code 393 = .ok (.iaload, 1) := by decide +kernel
theorem d_LinkAuditLaw_law_394 : decode code 394 = .ok (.aload_n 0, 1) := by decide +kernel
theorem d_LinkAuditLaw_law_395 : decode code 395 = .ok (.iload_n 3, 1) := by decide +kernel
theorem d_LinkAuditLaw_law_396 : decode code 396 = .ok (.iconst 3, 1) := by decide +kernel
theorem d_LinkAuditLaw_law_397 : decode code 397 = .ok (.iadd, 1) := by decide +kernel
theorem d_LinkAuditLaw_law_398 : decode code 398 = .ok (.iaload, 1) := by decide +kernel
theorem d_LinkAuditLaw_law_399 : decode code 399 = .ok (.aload_n 0, 1) := by decide +kernel
theorem d_LinkAuditLaw_law_400 : decode code 400 = .ok (.iload_n 3, 1) := by decide +kernel
theorem d_LinkAuditLaw_law_401 : decode code 401 = .ok (.iconst 4, 1) := by decide +kernel
theorem d_LinkAuditLaw_law_402 : decode code 402 = .ok (.iadd, 1) := by decide +kernel
theorem d_LinkAuditLaw_law_403 : decode code 403 = .ok (.iaload, 1) := by decide +kernel
theorem d_LinkAuditLaw_law_404 : decode code 404 = .ok (.aload_n 0, 1) := by decide +kernel
theorem d_LinkAuditLaw_law_405 : decode code 405 = .ok (.iload_n 3, 1) := by decide +kernel
theorem d_LinkAuditLaw_law_406 : decode code 406 = .ok (.iconst 5, 1) := by decide +kernel
theorem d_LinkAuditLaw_law_407 : decode code 407 = .ok (.iadd, 1) := by decide +kernel
theorem d_LinkAuditLaw_law_408 : decode code 408 = .ok (.iaload, 1) := by decide +kernel
theorem d_LinkAuditLaw_law_409 : decode code 409 = .ok (.invokevirtual 37, 3) := by decide +kernel
theorem d_LinkAuditLaw_law_412 : decode code 412 = .ok (.aload_n 2, 1) := by decide +kernel
theorem d_LinkAuditLaw_law_413 : decode code 413 = .ok (.aload_n 0, 1) := by decide +kernel
theorem d_LinkAuditLaw_law_414 : decode code 414 = .ok (.iload_n 3, 1) := by decide +kernel
theorem d_LinkAuditLaw_law_415 : decode code 415 = .ok (.iconst 1, 1) := by decide +kernel
theorem d_LinkAuditLaw_law_416 : decode code 416 = .ok (.iadd, 1) := by decide +kernel
theorem d_LinkAuditLaw_law_417 : decode code 417 = .ok (.iaload, 1) := by decide +kernel
theorem d_LinkAuditLaw_law_418 : decode code 418 = .ok (.aload_n 0, 1) := by decide +kernel
theorem d_LinkAuditLaw_law_419 : decode code 419 = .ok (.iload_n 3, 1) := by decide +kernel
theorem d_LinkAuditLaw_law_420 : decode code 420 = .ok (.iconst 2, 1) := by decide +kernel
theorem d_LinkAuditLaw_law_421 : decode code 421 = .ok (.iadd, 1) := by decide +kernel
theorem d_LinkAuditLaw_law_422 : decode code 422 = .ok (.iaload, 1) := by decide +kernel
theorem d_LinkAuditLaw_law_423 : decode code 423 = .ok (.aload_n 0, 1) := by decide +kernel
theorem d_LinkAuditLaw_law_424 : decode code 424 = .ok (.iload_n 3, 1) := by decide +kernel
theorem d_LinkAuditLaw_law_425 : decode code 425 = .ok (.iconst 3, 1) := by decide +kernel
theorem d_LinkAuditLaw_law_426 : decode code 426 = .ok (.iadd, 1) := by decide +kernel
theorem d_LinkAuditLaw_law_427 : decode code 427 = .ok (.iaload, 1) := by decide +kernel
theorem d_LinkAuditLaw_law_428 : decode code 428 = .ok (.aload_n 0, 1) := by decide +kernel
theorem d_LinkAuditLaw_law_429 : decode code 429 = .ok (.iload_n 3, 1) := by decide +kernel
theorem d_LinkAuditLaw_law_430 : decode code 430 = .ok (.iconst 4, 1) := by decide +kernel
theorem d_LinkAuditLaw_law_431 : decode code 431 = .ok (.iadd, 1) := by decide +kernel
theorem d_LinkAuditLaw_law_432 : decode code 432 = .ok (.iaload, 1) := by decide +kernel
theorem d_LinkAuditLaw_law_433 : decode code 433 = .ok (.aload_n 0, 1) := by decide +kernel
theorem d_LinkAuditLaw_law_434 : decode code 434 = .ok (.iload_n 3, 1) := by decide +kernel
theorem d_LinkAuditLaw_law_435 : decode code 435 = .ok (.iconst 5, 1) := by decide +kernel
theorem d_LinkAuditLaw_law_436 : decode code 436 = .ok (.iadd, 1) := by decide +kernel
theorem d_LinkAuditLaw_law_437 : decode code 437 = .ok (.iaload, 1) := by decide +kernel
theorem d_LinkAuditLaw_law_438 : decode code 438 = .ok (.invokevirtual 40, 3) := by decide +kernel
theorem d_LinkAuditLaw_law_441 : decode code 441 = .ok (.if_icmp .eq 245, 3) := by decide +kernel
theorem d_LinkAuditLaw_law_444 : decode code 444 = .ok (.iconst 0, 1) := by decide +kernel
theorem d_LinkAuditLaw_law_445 : decode code 445 = .ok (.ireturn, 1) := by decide +kernel
theorem d_LinkAuditLaw_law_446 : decode code 446 = .ok (.aload_n 1, 1) := by decide +kernel
theorem d_LinkAuditLaw_law_447 : decode code 447 = .ok (.aload_n 0, 1) := by decide +kernel
theorem d_LinkAuditLaw_law_448 : decode code 448 = .ok (.iload_n 3, 1) := by decide +kernel
theorem d_LinkAuditLaw_law_449 : decode code 449 = .ok (.iconst 1, 1) := by decide +kernel
theorem d_LinkAuditLaw_law_450 : decode code 450 = .ok (.iadd, 1) := by decide +kernel
theorem d_LinkAuditLaw_law_451 : decode code 451 = .ok (.iaload, 1) := by decide +kernel
theorem d_LinkAuditLaw_law_452 : decode code 452 = .ok (.aload_n 0, 1) := by decide +kernel
theorem d_LinkAuditLaw_law_453 : decode code 453 = .ok (.iload_n 3, 1) := by decide +kernel
theorem d_LinkAuditLaw_law_454 : decode code 454 = .ok (.iconst 2, 1) := by decide +kernel
theorem d_LinkAuditLaw_law_455 : decode code 455 = .ok (.iadd, 1) := by decide +kernel
theorem d_LinkAuditLaw_law_456 : decode code 456 = .ok (.iaload, 1) := by decide +kernel
theorem d_LinkAuditLaw_law_457 : decode code 457 = .ok (.invokevirtual 41, 3) := by decide +kernel
theorem d_LinkAuditLaw_law_460 : decode code 460 = .ok (.aload_n 2, 1) := by decide +kernel
theorem d_LinkAuditLaw_law_461 : decode code 461 = .ok (.aload_n 0, 1) := by decide +kernel
theorem d_LinkAuditLaw_law_462 : decode code 462 = .ok (.iload_n 3, 1) := by decide +kernel
theorem d_LinkAuditLaw_law_463 : decode code 463 = .ok (.iconst 1, 1) := by decide +kernel
theorem d_LinkAuditLaw_law_464 : decode code 464 = .ok (.iadd, 1) := by decide +kernel
theorem d_LinkAuditLaw_law_465 : decode code 465 = .ok (.iaload, 1) := by decide +kernel
theorem d_LinkAuditLaw_law_466 : decode code 466 = .ok (.aload_n 0, 1) := by decide +kernel
theorem d_LinkAuditLaw_law_467 : decode code 467 = .ok (.iload_n 3, 1) := by decide +kernel
theorem d_LinkAuditLaw_law_468 : decode code 468 = .ok (.iconst 2, 1) := by decide +kernel
theorem d_LinkAuditLaw_law_469 : decode code 469 = .ok (.iadd, 1) := by decide +kernel
theorem d_LinkAuditLaw_law_470 : decode code 470 = .ok (.iaload, 1) := by decide +kernel
theorem d_LinkAuditLaw_law_471 : decode code 471 = .ok (.invokevirtual 44, 3) := by decide +kernel
theorem d_LinkAuditLaw_law_474 : decode code 474 = .ok (.if_icmp .eq 212, 3) := by decide +kernel
theorem d_LinkAuditLaw_law_477 : decode code 477 = .ok (.iconst 0, 1) := by decide +kernel
theorem d_LinkAuditLaw_law_478 : decode code 478 = .ok (.ireturn, 1) := by decide +kernel
theorem d_LinkAuditLaw_law_479 : decode code 479 = .ok (.aload_n 1, 1) := by decide +kernel
theorem d_LinkAuditLaw_law_480 : decode code 480 = .ok (.aload_n 0, 1) := by decide +kernel
theorem d_LinkAuditLaw_law_481 : decode code 481 = .ok (.iload_n 3, 1) := by decide +kernel
theorem d_LinkAuditLaw_law_482 : decode code 482 = .ok (.iconst 1, 1) := by decide +kernel
theorem d_LinkAuditLaw_law_483 : decode code 483 = .ok (.iadd, 1) := by decide +kernel
theorem d_LinkAuditLaw_law_484 : decode code 484 = .ok (.iaload, 1) := by decide +kernel
theorem d_LinkAuditLaw_law_485 : decode code 485 = .ok (.invokevirtual 45, 3) := by decide +kernel
theorem d_LinkAuditLaw_law_488 : decode code 488 = .ok (.aload_n 2, 1) := by decide +kernel
theorem d_LinkAuditLaw_law_489 : decode code 489 = .ok (.aload_n 0, 1) := by decide +kernel
theorem d_LinkAuditLaw_law_490 : decode code 490 = .ok (.iload_n 3, 1) := by decide +kernel
theorem d_LinkAuditLaw_law_491 : decode code 491 = .ok (.iconst 1, 1) := by decide +kernel
theorem d_LinkAuditLaw_law_492 : decode code 492 = .ok (.iadd, 1) := by decide +kernel
theorem d_LinkAuditLaw_law_493 : decode code 493 = .ok (.iaload, 1) := by decide +kernel
theorem d_LinkAuditLaw_law_494 : decode code 494 = .ok (.invokevirtual 49, 3) := by decide +kernel
theorem d_LinkAuditLaw_law_497 : decode code 497 = .ok (.if_icmp .eq 189, 3) := by decide +kernel
theorem d_LinkAuditLaw_law_500 : decode code 500 = .ok (.iconst 0, 1) := by decide +kernel
theorem d_LinkAuditLaw_law_501 : decode code 501 = .ok (.ireturn, 1) := by decide +kernel
theorem d_LinkAuditLaw_law_502 : decode code 502 = .ok (.aload_n 1, 1) := by decide +kernel
theorem d_LinkAuditLaw_law_503 : decode code 503 = .ok (.aload_n 0, 1) := by decide +kernel
