theorem d_LinkAuditModel_reaches_43 : decode prog_12_method_21_code 43 = .ok (.iload_n 1, 1) := by decide +kernel
theorem d_LinkAuditModel_reaches_44 : decode prog_12_method_21_code 44 = .ok (.iload_n 3, 1) := by decide +kernel
theorem d_LinkAuditModel_reaches_45 : decode prog_12_method_21_code 45 = .ok (.invokevirtual 118, 3) := by decide +kernel
theorem d_LinkAuditModel_reaches_48 : decode prog_12_method_21_code 48 = .ok (.ifCond .ne 12, 3) := by decide +kernel
theorem d_LinkAuditModel_reaches_51 : decode prog_12_method_21_code 51 = .ok (.aload_n 0, 1) := by decide +kernel
theorem d_LinkAuditModel_reaches_52 : decode prog_12_method_21_code 52 = .ok (.iload_n 1, 1) := by decide +kernel
theorem d_LinkAuditModel_reaches_53 : decode prog_12_method_21_code 53 = .ok (.iload_n 3, 1) := by decide +kernel
theorem d_LinkAuditModel_reaches_54 : decode prog_12_method_21_code 54 = .ok (.invokevirtual 139, 3) := by decide +kernel
theorem d_LinkAuditModel_reaches_57 : decode prog_12_method_21_code 57 = .ok (.ifCond .eq 7, 3) := by decide +kernel
theorem d_LinkAuditModel_reaches_60 : decode prog_12_method_21_code 60 = .ok (.iconst 1, 1) := by decide +kernel
theorem d_LinkAuditModel_reaches_61 : decode prog_12_method_21_code 61 = .ok (.goto 4, 3) := by decide +kernel
theorem d_LinkAuditModel_reaches_64 : decode prog_12_method_21_code 64 = .ok (.iconst 0, 1) := by decide +kernel
theorem d_LinkAuditModel_reaches_65 : decode prog_12_method_21_code 65 = .ok (.ireturn, 1) := by decide +kernel
theorem d_LinkAuditModel_reaches_66 : decode prog_12_method_21_code 66 = .ok (.aload_n 0, 1) := by decide +kernel
theorem d_LinkAuditModel_reaches_67 : decode prog_12_method_21_code 67 = .ok (.iload_n 1, 1) := by decide +kernel
theorem d_LinkAuditModel_reaches_68 : decode prog_12_method_21_code 68 = .ok (.iload_n 3, 1) := by decide +kernel
theorem d_LinkAuditModel_reaches_69 : decode prog_12_method_21_code 69 = .ok (.invokevirtual 118, 3) := by decide +kernel
theorem d_LinkAuditModel_reaches_72 : decode prog_12_method_21_code 72 = .ok (.ireturn, 1) := by decide +kernel
theorem d_LinkAuditModel_reaches_73 : decode prog_12_method_21_code 73 = .ok (.iload_n 1, 1) := by decide +kernel
theorem d_LinkAuditModel_reaches_74 : decode prog_12_method_21_code 74 = .ok (.iload_n 3, 1) := by decide +kernel
theorem d_LinkAuditModel_reaches_75 : decode prog_12_method_21_code 75 = .ok (.if_icmp .ne 7, 3) := by decide +kernel
theorem d_LinkAuditModel_reaches_78 : decode prog_12_method_21_code 78 = .ok (.iconst 1, 1) := by decide +kernel
theorem d_LinkAuditModel_reaches_79 : decode prog_12_method_21_code 79 = .ok (.goto 4, 3) := by decide +kernel
theorem d_LinkAuditModel_reaches_82 : decode prog_12_method_21_code 82 = .ok (.iconst 0, 1) := by decide +kernel
theorem d_LinkAuditModel_reaches_83 : decode prog_12_method_21_code 83 = .ok (.ireturn, 1) := by decide +kernel
theorem d_LinkAuditModel_verdictOf_0 : decode prog_12_method_28_code 0 = .ok (.iconst 5, 1) := by decide +kernel
theorem d_LinkAuditModel_verdictOf_1 : decode prog_12_method_28_code 1 = .ok (.iload_n 1, 1) := by decide +kernel
theorem d_LinkAuditModel_verdictOf_2 : decode prog_12_method_28_code 2 = .ok (.imul, 1) := by decide +kernel
theorem d_LinkAuditModel_verdictOf_3 : decode prog_12_method_28_code 3 = .ok (.istore_n 2, 1) := by decide +kernel
theorem d_LinkAuditModel_verdictOf_4 : decode prog_12_method_28_code 4 = .ok (.aload_n 0, 1) := by decide +kernel
theorem d_LinkAuditModel_verdictOf_5 : decode prog_12_method_28_code 5 = .ok (.getfield 53, 3) := by decide +kernel
theorem d_LinkAuditModel_verdictOf_8 : decode prog_12_method_28_code 8 = .ok (.iload_n 2, 1) := by decide +kernel
theorem d_LinkAuditModel_verdictOf_9 : decode prog_12_method_28_code 9 = .ok (.iaload, 1) := by decide +kernel
theorem d_LinkAuditModel_verdictOf_10 : decode prog_12_method_28_code 10 = .ok (.istore_n 3, 1) := by decide +kernel
theorem d_LinkAuditModel_verdictOf_11 : decode prog_12_method_28_code 11 = .ok (.aload_n 0, 1) := by decide +kernel
theorem d_LinkAuditModel_verdictOf_12 : decode prog_12_method_28_code 12 = .ok (.getfield 53, 3) := by decide +kernel
theorem d_LinkAuditModel_verdictOf_15 : decode prog_12_method_28_code 15 = .ok (.iload_n 2, 1) := by decide +kernel
theorem d_LinkAuditModel_verdictOf_16 : decode prog_12_method_28_code 16 = .ok (.iconst 1, 1) := by decide +kernel
theorem d_LinkAuditModel_verdictOf_17 : decode prog_12_method_28_code 17 = .ok (.iadd, 1) := by decide +kernel
theorem d_LinkAuditModel_verdictOf_18 : decode prog_12_method_28_code 18 = .ok (.iaload, 1) := by decide +kernel
theorem d_LinkAuditModel_verdictOf_19 : decode prog_12_method_28_code 19 = .ok (.iconst 4, 1) := by decide +kernel
theorem d_LinkAuditModel_verdictOf_20 : decode prog_12_method_28_code 20 = .ok (.idiv, 1) := by decide +kernel
theorem d_LinkAuditModel_verdictOf_21 : decode prog_12_method_28_code 21 = .ok (.istore 4, 2) := by decide +kernel
theorem d_LinkAuditModel_verdictOf_23 : decode prog_12_method_28_code 23 = .ok (.aload_n 0, 1) := by decide +kernel
theorem d_LinkAuditModel_verdictOf_24 : decode prog_12_method_28_code 24 = .ok (.getfield 56, 3) := by decide +kernel
theorem d_LinkAuditModel_verdictOf_27 : decode prog_12_method_28_code 27 = .ok (.iload_n 3, 1) := by decide +kernel
theorem d_LinkAuditModel_verdictOf_28 : decode prog_12_method_28_code 28 = .ok (.iaload, 1) := by decide +kernel
theorem d_LinkAuditModel_verdictOf_29 : decode prog_12_method_28_code 29 = .ok (.ifCond .eq 6, 3) := by decide +kernel
theorem d_LinkAuditModel_verdictOf_32 : decode prog_12_method_28_code 32 = .ok (.bipush (-10), 2) := by decide +kernel
theorem d_LinkAuditModel_verdictOf_34 : decode prog_12_method_28_code 34 = .ok (.ireturn, 1) := by decide +kernel
theorem d_LinkAuditModel_verdictOf_35 : decode prog_12_method_28_code 35 = .ok (.aload_n 0, 1) := by decide +kernel
theorem d_LinkAuditModel_verdictOf_36 : decode prog_12_method_28_code 36 = .ok (.aload_n 0, 1) := by decide +kernel
theorem d_LinkAuditModel_verdictOf_37 : decode prog_12_method_28_code 37 = .ok (.getfield 19, 3) := by decide +kernel
theorem d_LinkAuditModel_verdictOf_40 : decode prog_12_method_28_code 40 = .ok (.iload_n 3, 1) := by decide +kernel
theorem d_LinkAuditModel_verdictOf_41 : decode prog_12_method_28_code 41 = .ok (.iaload, 1) := by decide +kernel
theorem d_LinkAuditModel_verdictOf_42 : decode prog_12_method_28_code 42 = .ok (.aload_n 0, 1) := by decide +kernel
theorem d_LinkAuditModel_verdictOf_43 : decode prog_12_method_28_code 43 = .ok (.getfield 53, 3) := by decide +kernel
theorem d_LinkAuditModel_verdictOf_46 : decode prog_12_method_28_code 46 = .ok (.iload_n 2, 1) := by decide +kernel
theorem d_LinkAuditModel_verdictOf_47 : decode prog_12_method_28_code 47 = .ok (.iconst 2, 1) := by decide +kernel
theorem d_LinkAuditModel_verdictOf_48 : decode prog_12_method_28_code 48 = .ok (.iadd, 1) := by decide +kernel
theorem d_LinkAuditModel_verdictOf_49 : decode prog_12_method_28_code 49 = .ok (.iaload, 1) := by decide +kernel
theorem d_LinkAuditModel_verdictOf_50 : decode prog_12_method_28_code 50 = .ok (.invokevirtual 132, 3) := by decide +kernel
theorem d_LinkAuditModel_verdictOf_53 : decode prog_12_method_28_code 53 = .ok (.istore 5, 2) := by decide +kernel
theorem d_LinkAuditModel_verdictOf_55 : decode prog_12_method_28_code 55 = .ok (.iload 5, 2) := by decide +kernel
theorem d_LinkAuditModel_verdictOf_57 : decode prog_12_method_28_code 57 = .ok (.ifCond .ne 6, 3) := by decide +kernel
theorem d_LinkAuditModel_verdictOf_60 : decode prog_12_method_28_code 60 = .ok (.bipush (-3), 2) := by decide +kernel
theorem d_LinkAuditModel_verdictOf_62 : decode prog_12_method_28_code 62 = .ok (.ireturn, 1) := by decide +kernel
theorem d_LinkAuditModel_verdictOf_63 : decode prog_12_method_28_code 63 = .ok (.aload_n 0, 1) := by decide +kernel
theorem d_LinkAuditModel_verdictOf_64 : decode prog_12_method_28_code 64 = .ok (.getfield 56, 3) := by decide +kernel
theorem d_LinkAuditModel_verdictOf_67 : decode prog_12_method_28_code 67 = .ok (.iload 5, 2) := by decide +kernel
theorem d_LinkAuditModel_verdictOf_69 : decode prog_12_method_28_code 69 = .ok (.iaload, 1) := by decide +kernel
theorem d_LinkAuditModel_verdictOf_70 : decode prog_12_method_28_code 70 = .ok (.ifCond .eq 11, 3) := by decide +kernel
theorem d_LinkAuditModel_verdictOf_73 : decode prog_12_method_28_code 73 = .ok (.aload_n 0, 1) := by decide +kernel
theorem d_LinkAuditModel_verdictOf_74 : decode prog_12_method_28_code 74 = .ok (.getfield 56, 3) := by decide +kernel
theorem d_LinkAuditModel_verdictOf_77 : decode prog_12_method_28_code 77 = .ok (.iload 5, 2) := by decide +kernel
theorem d_LinkAuditModel_verdictOf_79 : decode prog_12_method_28_code 79 = .ok (.iaload, 1) := by decide +kernel
theorem d_LinkAuditModel_verdictOf_80 : decode prog_12_method_28_code 80 = .ok (.ireturn, 1) := by decide +kernel
theorem d_LinkAuditModel_verdictOf_81 : decode prog_12_method_28_code 81 = .ok (.aload_n 0, 1) := by decide +kernel
theorem d_LinkAuditModel_verdictOf_82 : decode prog_12_method_28_code 82 = .ok (.iload_n 3, 1) := by decide +kernel
theorem d_LinkAuditModel_verdictOf_83 : decode prog_12_method_28_code 83 = .ok (.iload 5, 2) := by decide +kernel
theorem d_LinkAuditModel_verdictOf_85 : decode prog_12_method_28_code 85 = .ok (.invokevirtual 122, 3) := by decide +kernel
theorem d_LinkAuditModel_verdictOf_88 : decode prog_12_method_28_code 88 = .ok (.ifCond .ne 6, 3) := by decide +kernel
theorem d_LinkAuditModel_verdictOf_91 : decode prog_12_method_28_code 91 = .ok (.bipush (-6), 2) := by decide +kernel
theorem d_LinkAuditModel_verdictOf_93 : decode prog_12_method_28_code 93 = .ok (.ireturn, 1) := by decide +kernel
theorem d_LinkAuditModel_verdictOf_94 : decode prog_12_method_28_code 94 = .ok (.iload 4, 2) := by decide +kernel
theorem d_LinkAuditModel_verdictOf_96 : decode prog_12_method_28_code 96 = .ok (.ifCond .ne 24, 3) := by decide +kernel
theorem d_LinkAuditModel_verdictOf_99 : decode prog_12_method_28_code 99 = .ok (.aload_n 0, 1) := by decide +kernel
theorem d_LinkAuditModel_verdictOf_100 : decode prog_12_method_28_code 100 = .ok (.getfield 25, 3) := by decide +kernel
theorem d_LinkAuditModel_verdictOf_103 : decode prog_12_method_28_code 103 = .ok (.iload 5, 2) := by decide +kernel
theorem d_LinkAuditModel_verdictOf_105 : decode prog_12_method_28_code 105 = .ok (.iaload, 1) := by decide +kernel
theorem d_LinkAuditModel_verdictOf_106 : decode prog_12_method_28_code 106 = .ok (.bipush 12, 2) := by decide +kernel
theorem d_LinkAuditModel_verdictOf_108 : decode prog_12_method_28_code 108 = .ok (.iand, 1) := by decide +kernel
theorem d_LinkAuditModel_verdictOf_109 : decode prog_12_method_28_code 109 = .ok (.ifCond .eq 8, 3) := by decide +kernel
theorem d_LinkAuditModel_verdictOf_112 : decode prog_12_method_28_code 112 = .ok (.bipush (-8), 2) := by decide +kernel
theorem d_LinkAuditModel_verdictOf_114 : decode prog_12_method_28_code 114 = .ok (.goto 5, 3) := by decide +kernel
theorem d_LinkAuditModel_verdictOf_117 : decode prog_12_method_28_code 117 = .ok (.iload 5, 2) := by decide +kernel
theorem d_LinkAuditModel_verdictOf_119 : decode prog_12_method_28_code 119 = .ok (.ireturn, 1) := by decide +kernel
theorem d_LinkAuditModel_verdictOf_120 : decode prog_12_method_28_code 120 = .ok (.iload 4, 2) := by decide +kernel
theorem d_LinkAuditModel_verdictOf_122 : decode prog_12_method_28_code 122 = .ok (.iconst 3, 1) := by decide +kernel
theorem d_LinkAuditModel_verdictOf_123 : decode prog_12_method_28_code 123 = .ok (.if_icmp .ne 12, 3) := by decide +kernel
theorem d_LinkAuditModel_verdictOf_126 : decode prog_12_method_28_code 126 = .ok (.aload_n 0, 1) := by decide +kernel
theorem d_LinkAuditModel_verdictOf_127 : decode prog_12_method_28_code 127 = .ok (.iload 5, 2) := by decide +kernel
theorem d_LinkAuditModel_verdictOf_129 : decode prog_12_method_28_code 129 = .ok (.invokevirtual 111, 3) := by decide +kernel
theorem d_LinkAuditModel_verdictOf_132 : decode prog_12_method_28_code 132 = .ok (.ifCond .ne 18, 3) := by decide +kernel
theorem d_LinkAuditModel_verdictOf_135 : decode prog_12_method_28_code 135 = .ok (.iload 4, 2) := by decide +kernel
theorem d_LinkAuditModel_verdictOf_137 : decode prog_12_method_28_code 137 = .ok (.iconst 5, 1) := by decide +kernel
theorem d_LinkAuditModel_verdictOf_138 : decode prog_12_method_28_code 138 = .ok (.if_icmp .ne 15, 3) := by decide +kernel
theorem d_LinkAuditModel_verdictOf_141 : decode prog_12_method_28_code 141 = .ok (.aload_n 0, 1) := by decide +kernel
theorem d_LinkAuditModel_verdictOf_142 : decode prog_12_method_28_code 142 = .ok (.iload 5, 2) := by decide +kernel
theorem d_LinkAuditModel_verdictOf_144 : decode prog_12_method_28_code 144 = .ok (.invokevirtual 111, 3) := by decide +kernel
theorem d_LinkAuditModel_verdictOf_147 : decode prog_12_method_28_code 147 = .ok (.ifCond .ne 6, 3) := by decide +kernel
theorem d_LinkAuditModel_verdictOf_150 : decode prog_12_method_28_code 150 = .ok (.bipush (-5), 2) := by decide +kernel
theorem d_LinkAuditModel_verdictOf_152 : decode prog_12_method_28_code 152 = .ok (.ireturn, 1) := by decide +kernel
theorem d_LinkAuditModel_verdictOf_153 : decode prog_12_method_28_code 153 = .ok (.aload_n 0, 1) := by decide +kernel
theorem d_LinkAuditModel_verdictOf_154 : decode prog_12_method_28_code 154 = .ok (.getfield 53, 3) := by decide +kernel
theorem d_LinkAuditModel_verdictOf_157 : decode prog_12_method_28_code 157 = .ok (.iload_n 2, 1) := by decide +kernel
theorem d_LinkAuditModel_verdictOf_158 : decode prog_12_method_28_code 158 = .ok (.iconst 1, 1) := by decide +kernel
theorem d_LinkAuditModel_verdictOf_159 : decode prog_12_method_28_code 159 = .ok (.iadd, 1) := by decide +kernel
theorem d_LinkAuditModel_verdictOf_160 : decode prog_12_method_28_code 160 = .ok (.iaload, 1) := by decide +kernel
theorem d_LinkAuditModel_verdictOf_161 : decode prog_12_method_28_code 161 = .ok (.iconst 4, 1) := by decide +kernel
theorem d_LinkAuditModel_verdictOf_162 : decode prog_12_method_28_code 162 = .ok (.irem, 1) := by decide +kernel
theorem d_LinkAuditModel_verdictOf_163 : decode prog_12_method_28_code 163 = .ok (.istore 6, 2) := by decide +kernel
theorem d_LinkAuditModel_verdictOf_165 : decode prog_12_method_28_code 165 = .ok (.iload 4, 2) := by decide +kernel
theorem d_LinkAuditModel_verdictOf_167 : decode prog_12_method_28_code 167 = .ok (.iconst 3, 1) := by decide +kernel
theorem d_LinkAuditModel_verdictOf_168 : decode prog_12_method_28_code 168 = .ok (.if_icmp .ge 22, 3) := by decide +kernel
theorem d_LinkAuditModel_verdictOf_171 : decode prog_12_method_28_code 171 = .ok (.aload_n 0, 1) := by decide +kernel
theorem d_LinkAuditModel_verdictOf_172 : decode prog_12_method_28_code 172 = .ok (.iload 5, 2) := by decide +kernel
theorem d_LinkAuditModel_verdictOf_174 : decode prog_12_method_28_code 174 = .ok (.iload 6, 2) := by decide +kernel
theorem d_LinkAuditModel_verdictOf_176 : decode prog_12_method_28_code 176 = .ok (.aload_n 0, 1) := by decide +kernel
theorem d_LinkAuditModel_verdictOf_177 : decode prog_12_method_28_code 177 = .ok (.getfield 53, 3) := by decide +kernel
theorem d_LinkAuditModel_verdictOf_180 : decode prog_12_method_28_code 180 = .ok (.iload_n 2, 1) := by decide +kernel
theorem d_LinkAuditModel_verdictOf_181 : decode prog_12_method_28_code 181 = .ok (.iconst 3, 1) := by decide +kernel
theorem d_LinkAuditModel_verdictOf_182 : decode prog_12_method_28_code 182 = .ok (.iadd, 1) := by decide +kernel
theorem d_LinkAuditModel_verdictOf_183 : decode prog_12_method_28_code 183 = .ok (.iaload, 1) := by decide +kernel
theorem d_LinkAuditModel_verdictOf_184 : decode prog_12_method_28_code 184 = .ok (.invokevirtual 160, 3) := by decide +kernel
theorem d_LinkAuditModel_verdictOf_187 : decode prog_12_method_28_code 187 = .ok (.goto 27, 3) := by decide +kernel
theorem d_LinkAuditModel_verdictOf_190 : decode prog_12_method_28_code 190 = .ok (.aload_n 0, 1) := by decide +kernel
theorem d_LinkAuditModel_verdictOf_191 : decode prog_12_method_28_code 191 = .ok (.iload 5, 2) := by decide +kernel
theorem d_LinkAuditModel_verdictOf_193 : decode prog_12_method_28_code 193 = .ok (.iload 6, 2) := by decide +kernel
theorem d_LinkAuditModel_verdictOf_195 : decode prog_12_method_28_code 195 = .ok (.aload_n 0, 1) := by decide +kernel
theorem d_LinkAuditModel_verdictOf_196 : decode prog_12_method_28_code 196 = .ok (.getfield 53, 3) := by decide +kernel
theorem d_LinkAuditModel_verdictOf_199 : decode prog_12_method_28_code 199 = .ok (.iload_n 2, 1) := by decide +kernel
theorem d_LinkAuditModel_verdictOf_200 : decode prog_12_method_28_code 200 = .ok (.iconst 3, 1) := by decide +kernel
theorem d_LinkAuditModel_verdictOf_201 : decode prog_12_method_28_code 201 = .ok (.iadd, 1) := by decide +kernel
theorem d_LinkAuditModel_verdictOf_202 : decode prog_12_method_28_code 202 = .ok (.iaload, 1) := by decide +kernel
theorem d_LinkAuditModel_verdictOf_203 : decode prog_12_method_28_code 203 = .ok (.aload_n 0, 1) := by decide +kernel
theorem d_LinkAuditModel_verdictOf_204 : decode prog_12_method_28_code 204 = .ok (.getfield 53, 3) := by decide +kernel
theorem d_LinkAuditModel_verdictOf_207 : decode prog_12_method_28_code 207 = .ok (.iload_n 2, 1) := by decide +kernel
theorem d_LinkAuditModel_verdictOf_208 : decode prog_12_method_28_code 208 = .ok (.iconst 4, 1) := by decide +kernel
theorem d_LinkAuditModel_verdictOf_209 : decode prog_12_method_28_code 209 = .ok (.iadd, 1) := by decide +kernel
theorem d_LinkAuditModel_verdictOf_210 : decode prog_12_method_28_code 210 = .ok (.iaload, 1) := by decide +kernel
theorem d_LinkAuditModel_verdictOf_211 : decode prog_12_method_28_code 211 = .ok (.invokevirtual 163, 3) := by decide +kernel
theorem d_LinkAuditModel_verdictOf_214 : decode prog_12_method_28_code 214 = .ok (.istore 7, 2) := by decide +kernel
theorem d_LinkAuditModel_verdictOf_216 : decode prog_12_method_28_code 216 = .ok (.iload 7, 2) := by decide +kernel
theorem d_LinkAuditModel_verdictOf_218 : decode prog_12_method_28_code 218 = .ok (.ifCond .ne 6, 3) := by decide +kernel
theorem d_LinkAuditModel_verdictOf_221 : decode prog_12_method_28_code 221 = .ok (.bipush (-7), 2) := by decide +kernel
theorem d_LinkAuditModel_verdictOf_223 : decode prog_12_method_28_code 223 = .ok (.ireturn, 1) := by decide +kernel
theorem d_LinkAuditModel_verdictOf_224 : decode prog_12_method_28_code 224 = .ok (.aload_n 0, 1) := by decide +kernel
theorem d_LinkAuditModel_verdictOf_225 : decode prog_12_method_28_code 225 = .ok (.iload_n 3, 1) := by decide +kernel
theorem d_LinkAuditModel_verdictOf_226 : decode prog_12_method_28_code 226 = .ok (.iload 7, 2) := by decide +kernel
theorem d_LinkAuditModel_verdictOf_228 : decode prog_12_method_28_code 228 = .ok (.invokevirtual 166, 3) := by decide +kernel
theorem d_LinkAuditModel_verdictOf_231 : decode prog_12_method_28_code 231 = .ok (.ifCond .ne 6, 3) := by decide +kernel
theorem d_LinkAuditModel_verdictOf_234 : decode prog_12_method_28_code 234 = .ok (.bipush (-6), 2) := by decide +kernel
theorem d_LinkAuditModel_verdictOf_236 : decode prog_12_method_28_code 236 = .ok (.ireturn, 1) := by decide +kernel
theorem d_LinkAuditModel_verdictOf_237 : decode prog_12_method_28_code 237 = .ok (.iload 4, 2) := by decide +kernel
theorem d_LinkAuditModel_verdictOf_239 : decode prog_12_method_28_code 239 = .ok (.iconst 2, 1) := by decide +kernel
theorem d_LinkAuditModel_verdictOf_240 : decode prog_12_method_28_code 240 = .ok (.if_icmp .eq 9, 3) := by decide +kernel
theorem d_LinkAuditModel_verdictOf_243 : decode prog_12_method_28_code 243 = .ok (.iload 4, 2) := by decide +kernel
theorem d_LinkAuditModel_verdictOf_245 : decode prog_12_method_28_code 245 = .ok (.iconst 4, 1) := by decide +kernel
theorem d_LinkAuditModel_verdictOf_246 : decode prog_12_method_28_code 246 = .ok (.if_icmp .ne 7, 3) := by decide +kernel
theorem d_LinkAuditModel_verdictOf_249 : decode prog_12_method_28_code 249 = .ok (.iconst 1, 1) := by decide +kernel
theorem d_LinkAuditModel_verdictOf_250 : decode prog_12_method_28_code 250 = .ok (.goto 4, 3) := by decide +kernel
theorem d_LinkAuditModel_verdictOf_253 : decode prog_12_method_28_code 253 = .ok (.iconst 0, 1) := by decide +kernel
theorem d_LinkAuditModel_verdictOf_254 : decode prog_12_method_28_code 254 = .ok (.istore 8, 2) := by decide +kernel
theorem d_LinkAuditModel_verdictOf_256 : decode prog_12_method_28_code 256 = .ok (.iload 8, 2) := by decide +kernel
theorem d_LinkAuditModel_verdictOf_258 : decode prog_12_method_28_code 258 = .ok (.aload_n 0, 1) := by decide +kernel
theorem d_LinkAuditModel_verdictOf_259 : decode prog_12_method_28_code 259 = .ok (.getfield 50, 3) := by decide +kernel
theorem d_LinkAuditModel_verdictOf_262 : decode prog_12_method_28_code 262 = .ok (.iload 7, 2) := by decide +kernel
theorem d_LinkAuditModel_verdictOf_264 : decode prog_12_method_28_code 264 = .ok (.iaload, 1) := by decide +kernel
theorem d_LinkAuditModel_verdictOf_265 : decode prog_12_method_28_code 265 = .ok (.iconst 4, 1) := by decide +kernel
theorem d_LinkAuditModel_verdictOf_266 : decode prog_12_method_28_code 266 = .ok (.iand, 1) := by decide +kernel
theorem d_LinkAuditModel_verdictOf_267 : decode prog_12_method_28_code 267 = .ok (.ifCond .eq 7, 3) := by decide +kernel
theorem d_LinkAuditModel_verdictOf_270 : decode prog_12_method_28_code 270 = .ok (.iconst 1, 1) := by decide +kernel
theorem d_LinkAuditModel_verdictOf_271 : decode prog_12_method_28_code 271 = .ok (.goto 4, 3) := by decide +kernel
theorem d_LinkAuditModel_verdictOf_274 : decode prog_12_method_28_code 274 = .ok (.iconst 0, 1) := by decide +kernel
theorem d_LinkAuditModel_verdictOf_275 : decode prog_12_method_28_code 275 = .ok (.if_icmp .ne 8, 3) := by decide +kernel
theorem d_LinkAuditModel_verdictOf_278 : decode prog_12_method_28_code 278 = .ok (.iload 7, 2) := by decide +kernel
theorem d_LinkAuditModel_verdictOf_280 : decode prog_12_method_28_code 280 = .ok (.goto 5, 3) := by decide +kernel
theorem d_LinkAuditModel_verdictOf_283 : decode prog_12_method_28_code 283 = .ok (.bipush (-5), 2) := by decide +kernel
theorem d_LinkAuditModel_verdictOf_285 : decode prog_12_method_28_code 285 = .ok (.ireturn, 1) := by decide +kernel
theorem d_LinkAuditModel_verdict_0 : decode prog_12_method_44_code 0 = .ok (.iload_n 1, 1) := by decide +kernel
theorem d_LinkAuditModel_verdict_1 : decode prog_12_method_44_code 1 = .ok (.iconst 0, 1) := by decide +kernel
theorem d_LinkAuditModel_verdict_2 : decode prog_12_method_44_code 2 = .ok (.aload_n 0, 1) := by decide +kernel
theorem d_LinkAuditModel_verdict_3 : decode prog_12_method_44_code 3 = .ok (.getfield 115, 3) := by decide +kernel
theorem d_LinkAuditModel_verdict_6 : decode prog_12_method_44_code 6 = .ok (.iconst 1, 1) := by decide +kernel
theorem d_LinkAuditModel_verdict_7 : decode prog_12_method_44_code 7 = .ok (.isub, 1) := by decide +kernel
theorem d_LinkAuditModel_verdict_8 : decode prog_12_method_44_code 8 = .ok (.invokestatic 92, 3) := by decide +kernel
theorem d_LinkAuditModel_verdict_11 : decode prog_12_method_44_code 11 = .ok (.ifCond .ne 5, 3) := by decide +kernel
theorem d_LinkAuditModel_verdict_14 : decode prog_12_method_44_code 14 = .ok (.iconst (-1), 1) := by decide +kernel
theorem d_LinkAuditModel_verdict_15 : decode prog_12_method_44_code 15 = .ok (.ireturn, 1) := by decide +kernel
theorem d_LinkAuditModel_verdict_16 : decode prog_12_method_44_code 16 = .ok (.aload_n 0, 1) := by decide +kernel
theorem d_LinkAuditModel_verdict_17 : decode prog_12_method_44_code 17 = .ok (.invokevirtual 210, 3) := by decide +kernel
theorem d_LinkAuditModel_verdict_20 : decode prog_12_method_44_code 20 = .ok (.aload_n 0, 1) := by decide +kernel
theorem d_LinkAuditModel_verdict_21 : decode prog_12_method_44_code 21 = .ok (.iload_n 1, 1) := by decide +kernel
theorem d_LinkAuditModel_verdict_22 : decode prog_12_method_44_code 22 = .ok (.invokevirtual 195, 3) := by decide +kernel
theorem d_LinkAuditModel_verdict_25 : decode prog_12_method_44_code 25 = .ok (.ireturn, 1) := by decide +kernel
theorem d_LinkAuditModel_like_0 : decode prog_12_method_29_code 0 = .ok (.aload_n 0, 1) := by decide +kernel
theorem d_LinkAuditModel_like_1 : decode prog_12_method_29_code 1 = .ok (.getfield 37, 3) := by decide +kernel
theorem d_LinkAuditModel_like_4 : decode prog_12_method_29_code 4 = .ok (.iload_n 1, 1) := by decide +kernel
theorem d_LinkAuditModel_like_5 : decode prog_12_method_29_code 5 = .ok (.baload, 1) := by decide +kernel
theorem d_LinkAuditModel_like_6 : decode prog_12_method_29_code 6 = .ok (.ifCond .eq 61, 3) := by decide +kernel
theorem d_LinkAuditModel_like_9 : decode prog_12_method_29_code 9 = .ok (.aload_n 0, 1) := by decide +kernel
theorem d_LinkAuditModel_like_10 : decode prog_12_method_29_code 10 = .ok (.getfield 37, 3) := by decide +kernel
theorem d_LinkAuditModel_like_13 : decode prog_12_method_29_code 13 = .ok (.iload_n 2, 1) := by decide +kernel
theorem d_LinkAuditModel_like_14 : decode prog_12_method_29_code 14 = .ok (.baload, 1) := by decide +kernel
theorem d_LinkAuditModel_like_15 : decode prog_12_method_29_code 15 = .ok (.ifCond .eq 52, 3) := by decide +kernel
theorem d_LinkAuditModel_like_18 : decode prog_12_method_29_code 18 = .ok (.aload_n 0, 1) := by decide +kernel
theorem d_LinkAuditModel_like_19 : decode prog_12_method_29_code 19 = .ok (.getfield 41, 3) := by decide +kernel
theorem d_LinkAuditModel_like_22 : decode prog_12_method_29_code 22 = .ok (.iload_n 1, 1) := by decide +kernel
theorem d_LinkAuditModel_like_23 : decode prog_12_method_29_code 23 = .ok (.iaload, 1) := by decide +kernel
theorem d_LinkAuditModel_like_24 : decode prog_12_method_29_code 24 = .ok (.aload_n 0, 1) := by decide +kernel
theorem d_LinkAuditModel_like_25 : decode prog_12_method_29_code 25 = .ok (.getfield 41, 3) := by decide +kernel
theorem d_LinkAuditModel_like_28 : decode prog_12_method_29_code 28 = .ok (.iload_n 2, 1) := by decide +kernel
theorem d_LinkAuditModel_like_29 : decode prog_12_method_29_code 29 = .ok (.iaload, 1) := by decide +kernel
theorem d_LinkAuditModel_like_30 : decode prog_12_method_29_code 30 = .ok (.if_icmp .ne 37, 3) := by decide +kernel
theorem d_LinkAuditModel_like_33 : decode prog_12_method_29_code 33 = .ok (.aload_n 0, 1) := by decide +kernel
theorem d_LinkAuditModel_like_34 : decode prog_12_method_29_code 34 = .ok (.getfield 44, 3) := by decide +kernel
theorem d_LinkAuditModel_like_37 : decode prog_12_method_29_code 37 = .ok (.iload_n 1, 1) := by decide +kernel
theorem d_LinkAuditModel_like_38 : decode prog_12_method_29_code 38 = .ok (.iaload, 1) := by decide +kernel
theorem d_LinkAuditModel_like_39 : decode prog_12_method_29_code 39 = .ok (.aload_n 0, 1) := by decide +kernel
theorem d_LinkAuditModel_like_40 : decode prog_12_method_29_code 40 = .ok (.getfield 44, 3) := by decide +kernel
theorem d_LinkAuditModel_like_43 : decode prog_12_method_29_code 43 = .ok (.iload_n 2, 1) := by decide +kernel
theorem d_LinkAuditModel_like_44 : decode prog_12_method_29_code 44 = .ok (.iaload, 1) := by decide +kernel
theorem d_LinkAuditModel_like_45 : decode prog_12_method_29_code 45 = .ok (.if_icmp .ne 22, 3) := by decide +kernel
theorem d_LinkAuditModel_like_48 : decode prog_12_method_29_code 48 = .ok (.aload_n 0, 1) := by decide +kernel
theorem d_LinkAuditModel_like_49 : decode prog_12_method_29_code 49 = .ok (.getfield 47, 3) := by decide +kernel
theorem d_LinkAuditModel_like_52 : decode prog_12_method_29_code 52 = .ok (.iload_n 1, 1) := by decide +kernel
theorem d_LinkAuditModel_like_53 : decode prog_12_method_29_code 53 = .ok (.iaload, 1) := by decide +kernel
theorem d_LinkAuditModel_like_54 : decode prog_12_method_29_code 54 = .ok (.aload_n 0, 1) := by decide +kernel
theorem d_LinkAuditModel_like_55 : decode prog_12_method_29_code 55 = .ok (.getfield 47, 3) := by decide +kernel
theorem d_LinkAuditModel_like_58 : decode prog_12_method_29_code 58 = .ok (.iload_n 2, 1) := by decide +kernel
theorem d_LinkAuditModel_like_59 : decode prog_12_method_29_code 59 = .ok (.iaload, 1) := by decide +kernel
theorem d_LinkAuditModel_like_60 : decode prog_12_method_29_code 60 = .ok (.if_icmp .ne 7, 3) := by decide +kernel
theorem d_LinkAuditModel_like_63 : decode prog_12_method_29_code 63 = .ok (.iconst 1, 1) := by decide +kernel
theorem d_LinkAuditModel_like_64 : decode prog_12_method_29_code 64 = .ok (.goto 4, 3) := by decide +kernel
theorem d_LinkAuditModel_like_67 : decode prog_12_method_29_code 67 = .ok (.iconst 0, 1) := by decide +kernel
theorem d_LinkAuditModel_like_68 : decode prog_12_method_29_code 68 = .ok (.ireturn, 1) := by decide +kernel
theorem d_LinkAuditModel_hidden_0 : decode prog_12_method_30_code 0 = .ok (.aload_n 0, 1) := by decide +kernel
theorem d_LinkAuditModel_hidden_1 : decode prog_12_method_30_code 1 = .ok (.getfield 50, 3) := by decide +kernel
theorem d_LinkAuditModel_hidden_4 : decode prog_12_method_30_code 4 = .ok (.iload_n 1, 1) := by decide +kernel
theorem d_LinkAuditModel_hidden_5 : decode prog_12_method_30_code 5 = .ok (.iaload, 1) := by decide +kernel
theorem d_LinkAuditModel_hidden_6 : decode prog_12_method_30_code 6 = .ok (.iconst 3, 1) := by decide +kernel
theorem d_LinkAuditModel_hidden_7 : decode prog_12_method_30_code 7 = .ok (.iand, 1) := by decide +kernel
theorem d_LinkAuditModel_hidden_8 : decode prog_12_method_30_code 8 = .ok (.iconst 3, 1) := by decide +kernel
theorem d_LinkAuditModel_hidden_9 : decode prog_12_method_30_code 9 = .ok (.if_icmp .eq 14, 3) := by decide +kernel
theorem d_LinkAuditModel_hidden_12 : decode prog_12_method_30_code 12 = .ok (.aload_n 0, 1) := by decide +kernel
theorem d_LinkAuditModel_hidden_13 : decode prog_12_method_30_code 13 = .ok (.getfield 50, 3) := by decide +kernel
theorem d_LinkAuditModel_hidden_16 : decode prog_12_method_30_code 16 = .ok (.iload_n 1, 1) := by decide +kernel
theorem d_LinkAuditModel_hidden_17 : decode prog_12_method_30_code 17 = .ok (.iaload, 1) := by decide +kernel
theorem d_LinkAuditModel_hidden_18 : decode prog_12_method_30_code 18 = .ok (.iconst 4, 1) := by decide +kernel
theorem d_LinkAuditModel_hidden_19 : decode prog_12_method_30_code 19 = .ok (.iand, 1) := by decide +kernel
theorem d_LinkAuditModel_hidden_20 : decode prog_12_method_30_code 20 = .ok (.ifCond .eq 7, 3) := by decide +kernel
theorem d_LinkAuditModel_hidden_23 : decode prog_12_method_30_code 23 = .ok (.iconst 1, 1) := by decide +kernel
theorem d_LinkAuditModel_hidden_24 : decode prog_12_method_30_code 24 = .ok (.goto 4, 3) := by decide +kernel
theorem d_LinkAuditModel_hidden_27 : decode prog_12_method_30_code 27 = .ok (.iconst 0, 1) := by decide +kernel
theorem d_LinkAuditModel_hidden_28 : decode prog_12_method_30_code 28 = .ok (.ireturn, 1) := by decide +kernel
theorem d_LinkAuditModel_coversAtOnce_0 : decode prog_12_method_31_code 0 = .ok (.aload_n 0, 1) := by decide +kernel
theorem d_LinkAuditModel_coversAtOnce_1 : decode prog_12_method_31_code 1 = .ok (.iload_n 1, 1) := by decide +kernel
theorem d_LinkAuditModel_coversAtOnce_2 : decode prog_12_method_31_code 2 = .ok (.iload_n 2, 1) := by decide +kernel
theorem d_LinkAuditModel_coversAtOnce_3 : decode prog_12_method_31_code 3 = .ok (.invokevirtual 169, 3) := by decide +kernel
theorem d_LinkAuditModel_coversAtOnce_6 : decode prog_12_method_31_code 6 = .ok (.ifCond .eq 54, 3) := by decide +kernel
theorem d_LinkAuditModel_coversAtOnce_9 : decode prog_12_method_31_code 9 = .ok (.aload_n 0, 1) := by decide +kernel
theorem d_LinkAuditModel_coversAtOnce_10 : decode prog_12_method_31_code 10 = .ok (.iload_n 1, 1) := by decide +kernel
theorem d_LinkAuditModel_coversAtOnce_11 : decode prog_12_method_31_code 11 = .ok (.invokevirtual 172, 3) := by decide +kernel
theorem d_LinkAuditModel_coversAtOnce_14 : decode prog_12_method_31_code 14 = .ok (.ifCond .ne 46, 3) := by decide +kernel
theorem d_LinkAuditModel_coversAtOnce_17 : decode prog_12_method_31_code 17 = .ok (.aload_n 0, 1) := by decide +kernel
theorem d_LinkAuditModel_coversAtOnce_18 : decode prog_12_method_31_code 18 = .ok (.iload_n 2, 1) := by decide +kernel
theorem d_LinkAuditModel_coversAtOnce_19 : decode prog_12_method_31_code 19 = .ok (.invokevirtual 172, 3) := by decide +kernel
theorem d_LinkAuditModel_coversAtOnce_22 : decode prog_12_method_31_code 22 = .ok (.ifCond .ne 38, 3) := by decide +kernel
theorem d_LinkAuditModel_coversAtOnce_25 : decode prog_12_method_31_code 25 = .ok (.aload_n 0, 1) := by decide +kernel
theorem d_LinkAuditModel_coversAtOnce_26 : decode prog_12_method_31_code 26 = .ok (.getfield 50, 3) := by decide +kernel
theorem d_LinkAuditModel_coversAtOnce_29 : decode prog_12_method_31_code 29 = .ok (.iload_n 2, 1) := by decide +kernel
theorem d_LinkAuditModel_coversAtOnce_30 : decode prog_12_method_31_code 30 = .ok (.iaload, 1) := by decide +kernel
theorem d_LinkAuditModel_coversAtOnce_31 : decode prog_12_method_31_code 31 = .ok (.iconst 3, 1) := by decide +kernel
theorem d_LinkAuditModel_coversAtOnce_32 : decode prog_12_method_31_code 32 = .ok (.iand, 1) := by decide +kernel
theorem d_LinkAuditModel_coversAtOnce_33 : decode prog_12_method_31_code 33 = .ok (.iconst 2, 1) := by decide +kernel
theorem d_LinkAuditModel_coversAtOnce_34 : decode prog_12_method_31_code 34 = .ok (.if_icmp .lt 22, 3) := by decide +kernel
theorem d_LinkAuditModel_coversAtOnce_37 : decode prog_12_method_31_code 37 = .ok (.aload_n 0, 1) := by decide +kernel
theorem d_LinkAuditModel_coversAtOnce_38 : decode prog_12_method_31_code 38 = .ok (.aload_n 0, 1) := by decide +kernel
theorem d_LinkAuditModel_coversAtOnce_39 : decode prog_12_method_31_code 39 = .ok (.getfield 34, 3) := by decide +kernel
theorem d_LinkAuditModel_coversAtOnce_42 : decode prog_12_method_31_code 42 = .ok (.iload_n 1, 1) := by decide +kernel
theorem d_LinkAuditModel_coversAtOnce_43 : decode prog_12_method_31_code 43 = .ok (.iaload, 1) := by decide +kernel
theorem d_LinkAuditModel_coversAtOnce_44 : decode prog_12_method_31_code 44 = .ok (.aload_n 0, 1) := by decide +kernel
theorem d_LinkAuditModel_coversAtOnce_45 : decode prog_12_method_31_code 45 = .ok (.getfield 34, 3) := by decide +kernel
theorem d_LinkAuditModel_coversAtOnce_48 : decode prog_12_method_31_code 48 = .ok (.iload_n 2, 1) := by decide +kernel
theorem d_LinkAuditModel_coversAtOnce_49 : decode prog_12_method_31_code 49 = .ok (.iaload, 1) := by decide +kernel
theorem d_LinkAuditModel_coversAtOnce_50 : decode prog_12_method_31_code 50 = .ok (.invokevirtual 118, 3) := by decide +kernel
theorem d_LinkAuditModel_coversAtOnce_53 : decode prog_12_method_31_code 53 = .ok (.ifCond .eq 7, 3) := by decide +kernel
theorem d_LinkAuditModel_coversAtOnce_56 : decode prog_12_method_31_code 56 = .ok (.iconst 1, 1) := by decide +kernel
theorem d_LinkAuditModel_coversAtOnce_57 : decode prog_12_method_31_code 57 = .ok (.goto 4, 3) := by decide +kernel
theorem d_LinkAuditModel_coversAtOnce_60 : decode prog_12_method_31_code 60 = .ok (.iconst 0, 1) := by decide +kernel
theorem d_LinkAuditModel_coversAtOnce_61 : decode prog_12_method_31_code 61 = .ok (.ireturn, 1) := by decide +kernel
theorem d_LinkAuditModel_joinWay_0 : decode prog_12_method_33_code 0 = .ok (.aload_n 0, 1) := by decide +kernel
theorem d_LinkAuditModel_joinWay_1 : decode prog_12_method_33_code 1 = .ok (.aload_n 0, 1) := by decide +kernel
theorem d_LinkAuditModel_joinWay_2 : decode prog_12_method_33_code 2 = .ok (.getfield 89, 3) := by decide +kernel
theorem d_LinkAuditModel_joinWay_5 : decode prog_12_method_33_code 5 = .ok (.iload_n 1, 1) := by decide +kernel
theorem d_LinkAuditModel_joinWay_6 : decode prog_12_method_33_code 6 = .ok (.iaload, 1) := by decide +kernel
theorem d_LinkAuditModel_joinWay_7 : decode prog_12_method_33_code 7 = .ok (.aload_n 0, 1) := by decide +kernel
theorem d_LinkAuditModel_joinWay_8 : decode prog_12_method_33_code 8 = .ok (.getfield 89, 3) := by decide +kernel
theorem d_LinkAuditModel_joinWay_11 : decode prog_12_method_33_code 11 = .ok (.iload_n 2, 1) := by decide +kernel
theorem d_LinkAuditModel_joinWay_12 : decode prog_12_method_33_code 12 = .ok (.iaload, 1) := by decide +kernel
theorem d_LinkAuditModel_joinWay_13 : decode prog_12_method_33_code 13 = .ok (.invokevirtual 175, 3) := by decide +kernel
theorem d_LinkAuditModel_joinWay_16 : decode prog_12_method_33_code 16 = .ok (.istore_n 3, 1) := by decide +kernel
theorem d_LinkAuditModel_joinWay_17 : decode prog_12_method_33_code 17 = .ok (.iload_n 1, 1) := by decide +kernel
theorem d_LinkAuditModel_joinWay_18 : decode prog_12_method_33_code 18 = .ok (.iconst 1, 1) := by decide +kernel
theorem d_LinkAuditModel_joinWay_19 : decode prog_12_method_33_code 19 = .ok (.iadd, 1) := by decide +kernel
theorem d_LinkAuditModel_joinWay_20 : decode prog_12_method_33_code 20 = .ok (.istore 4, 2) := by decide +kernel
theorem d_LinkAuditModel_joinWay_22 : decode prog_12_method_33_code 22 = .ok (.iload 4, 2) := by decide +kernel
theorem d_LinkAuditModel_joinWay_24 : decode prog_12_method_33_code 24 = .ok (.iload_n 2, 1) := by decide +kernel
theorem d_LinkAuditModel_joinWay_25 : decode prog_12_method_33_code 25 = .ok (.if_icmp .ge 41, 3) := by decide +kernel
theorem d_LinkAuditModel_joinWay_28 : decode prog_12_method_33_code 28 = .ok (.aload_n 0, 1) := by decide +kernel
theorem d_LinkAuditModel_joinWay_29 : decode prog_12_method_33_code 29 = .ok (.getfield 86, 3) := by decide +kernel
theorem d_LinkAuditModel_joinWay_32 : decode prog_12_method_33_code 32 = .ok (.bipush 20, 2) := by decide +kernel
theorem d_LinkAuditModel_joinWay_34 : decode prog_12_method_33_code 34 = .ok (.iload_n 1, 1) := by decide +kernel
theorem d_LinkAuditModel_joinWay_35 : decode prog_12_method_33_code 35 = .ok (.imul, 1) := by decide +kernel
theorem d_LinkAuditModel_joinWay_36 : decode prog_12_method_33_code 36 = .ok (.iload 4, 2) := by decide +kernel
theorem d_LinkAuditModel_joinWay_38 : decode prog_12_method_33_code 38 = .ok (.iadd, 1) := by decide +kernel
theorem d_LinkAuditModel_joinWay_39 : decode prog_12_method_33_code 39 = .ok (.baload, 1) := by decide +kernel
theorem d_LinkAuditModel_joinWay_40 : decode prog_12_method_33_code 40 = .ok (.ifCond .eq 20, 3) := by decide +kernel
theorem d_LinkAuditModel_joinWay_43 : decode prog_12_method_33_code 43 = .ok (.aload_n 0, 1) := by decide +kernel
theorem d_LinkAuditModel_joinWay_44 : decode prog_12_method_33_code 44 = .ok (.getfield 86, 3) := by decide +kernel
theorem d_LinkAuditModel_joinWay_47 : decode prog_12_method_33_code 47 = .ok (.bipush 20, 2) := by decide +kernel
theorem d_LinkAuditModel_joinWay_49 : decode prog_12_method_33_code 49 = .ok (.iload 4, 2) := by decide +kernel
theorem d_LinkAuditModel_joinWay_51 : decode prog_12_method_33_code 51 = .ok (.imul, 1) := by decide +kernel
theorem d_LinkAuditModel_joinWay_52 : decode prog_12_method_33_code 52 = .ok (.iload_n 2, 1) := by decide +kernel
theorem d_LinkAuditModel_joinWay_53 : decode prog_12_method_33_code 53 = .ok (.iadd, 1) := by decide +kernel
theorem d_LinkAuditModel_joinWay_54 : decode prog_12_method_33_code 54 = .ok (.baload, 1) := by decide +kernel
theorem d_LinkAuditModel_joinWay_55 : decode prog_12_method_33_code 55 = .ok (.ifCond .eq 5, 3) := by decide +kernel
theorem d_LinkAuditModel_joinWay_58 : decode prog_12_method_33_code 58 = .ok (.iconst 1, 1) := by decide +kernel
theorem d_LinkAuditModel_joinWay_59 : decode prog_12_method_33_code 59 = .ok (.istore_n 3, 1) := by decide +kernel
theorem d_LinkAuditModel_joinWay_60 : decode prog_12_method_33_code 60 = .ok (.iinc 4 1, 3) := by decide +kernel
theorem d_LinkAuditModel_joinWay_63 : decode prog_12_method_33_code 63 = .ok (.goto (-41), 3) := by decide +kernel
theorem d_LinkAuditModel_joinWay_66 : decode prog_12_method_33_code 66 = .ok (.aload_n 0, 1) := by decide +kernel
theorem d_LinkAuditModel_joinWay_67 : decode prog_12_method_33_code 67 = .ok (.getfield 86, 3) := by decide +kernel
theorem d_LinkAuditModel_joinWay_70 : decode prog_12_method_33_code 70 = .ok (.bipush 20, 2) := by decide +kernel
theorem d_LinkAuditModel_joinWay_72 : decode prog_12_method_33_code 72 = .ok (.iload_n 1, 1) := by decide +kernel
theorem d_LinkAuditModel_joinWay_73 : decode prog_12_method_33_code 73 = .ok (.imul, 1) := by decide +kernel
theorem d_LinkAuditModel_joinWay_74 : decode prog_12_method_33_code 74 = .ok (.iload_n 2, 1) := by decide +kernel
theorem d_LinkAuditModel_joinWay_75 : decode prog_12_method_33_code 75 = .ok (.iadd, 1) := by decide +kernel
theorem d_LinkAuditModel_joinWay_76 : decode prog_12_method_33_code 76 = .ok (.iload_n 3, 1) := by decide +kernel
theorem d_LinkAuditModel_joinWay_77 : decode prog_12_method_33_code 77 = .ok (.bastore, 1) := by decide +kernel
theorem d_LinkAuditModel_joinWay_78 : decode prog_12_method_33_code 78 = .ok (.return_, 1) := by decide +kernel
theorem d_LinkAuditModel_covers_0 : decode prog_12_method_32_code 0 = .ok (.aload_n 0, 1) := by decide +kernel
theorem d_LinkAuditModel_covers_1 : decode prog_12_method_32_code 1 = .ok (.iload_n 1, 1) := by decide +kernel
theorem d_LinkAuditModel_covers_2 : decode prog_12_method_32_code 2 = .ok (.iload_n 2, 1) := by decide +kernel
theorem d_LinkAuditModel_covers_3 : decode prog_12_method_32_code 3 = .ok (.invokevirtual 175, 3) := by decide +kernel
theorem d_LinkAuditModel_covers_6 : decode prog_12_method_32_code 6 = .ok (.ifCond .eq 5, 3) := by decide +kernel
theorem d_LinkAuditModel_covers_9 : decode prog_12_method_32_code 9 = .ok (.iconst 1, 1) := by decide +kernel
theorem d_LinkAuditModel_covers_10 : decode prog_12_method_32_code 10 = .ok (.ireturn, 1) := by decide +kernel
theorem d_LinkAuditModel_covers_11 : decode prog_12_method_32_code 11 = .ok (.aload_n 0, 1) := by decide +kernel
theorem d_LinkAuditModel_covers_12 : decode prog_12_method_32_code 12 = .ok (.iload_n 1, 1) := by decide +kernel
theorem d_LinkAuditModel_covers_13 : decode prog_12_method_32_code 13 = .ok (.iload_n 2, 1) := by decide +kernel
theorem d_LinkAuditModel_covers_14 : decode prog_12_method_32_code 14 = .ok (.invokevirtual 169, 3) := by decide +kernel
theorem d_LinkAuditModel_covers_17 : decode prog_12_method_32_code 17 = .ok (.ifCond .eq 53, 3) := by decide +kernel
theorem d_LinkAuditModel_covers_20 : decode prog_12_method_32_code 20 = .ok (.aload_n 0, 1) := by decide +kernel
theorem d_LinkAuditModel_covers_21 : decode prog_12_method_32_code 21 = .ok (.iload_n 1, 1) := by decide +kernel
theorem d_LinkAuditModel_covers_22 : decode prog_12_method_32_code 22 = .ok (.invokevirtual 172, 3) := by decide +kernel
theorem d_LinkAuditModel_covers_25 : decode prog_12_method_32_code 25 = .ok (.ifCond .ne 45, 3) := by decide +kernel
theorem d_LinkAuditModel_covers_28 : decode prog_12_method_32_code 28 = .ok (.aload_n 0, 1) := by decide +kernel
theorem d_LinkAuditModel_covers_29 : decode prog_12_method_32_code 29 = .ok (.iload_n 2, 1) := by decide +kernel
theorem d_LinkAuditModel_covers_30 : decode prog_12_method_32_code 30 = .ok (.invokevirtual 172, 3) := by decide +kernel
theorem d_LinkAuditModel_covers_33 : decode prog_12_method_32_code 33 = .ok (.ifCond .ne 37, 3) := by decide +kernel
theorem d_LinkAuditModel_covers_36 : decode prog_12_method_32_code 36 = .ok (.aload_n 0, 1) := by decide +kernel
theorem d_LinkAuditModel_covers_37 : decode prog_12_method_32_code 37 = .ok (.getfield 34, 3) := by decide +kernel
theorem d_LinkAuditModel_covers_40 : decode prog_12_method_32_code 40 = .ok (.iload_n 1, 1) := by decide +kernel
theorem d_LinkAuditModel_covers_41 : decode prog_12_method_32_code 41 = .ok (.iaload, 1) := by decide +kernel
theorem d_LinkAuditModel_covers_42 : decode prog_12_method_32_code 42 = .ok (.aload_n 0, 1) := by decide +kernel
theorem d_LinkAuditModel_covers_43 : decode prog_12_method_32_code 43 = .ok (.getfield 34, 3) := by decide +kernel
theorem d_LinkAuditModel_covers_46 : decode prog_12_method_32_code 46 = .ok (.iload_n 2, 1) := by decide +kernel
theorem d_LinkAuditModel_covers_47 : decode prog_12_method_32_code 47 = .ok (.iaload, 1) := by decide +kernel
theorem d_LinkAuditModel_covers_48 : decode prog_12_method_32_code 48 = .ok (.if_icmp .eq 22, 3) := by decide +kernel
theorem d_LinkAuditModel_covers_51 : decode prog_12_method_32_code 51 = .ok (.aload_n 0, 1) := by decide +kernel
theorem d_LinkAuditModel_covers_52 : decode prog_12_method_32_code 52 = .ok (.aload_n 0, 1) := by decide +kernel
theorem d_LinkAuditModel_covers_53 : decode prog_12_method_32_code 53 = .ok (.getfield 34, 3) := by decide +kernel
theorem d_LinkAuditModel_covers_56 : decode prog_12_method_32_code 56 = .ok (.iload_n 1, 1) := by decide +kernel
theorem d_LinkAuditModel_covers_57 : decode prog_12_method_32_code 57 = .ok (.iaload, 1) := by decide +kernel
theorem d_LinkAuditModel_covers_58 : decode prog_12_method_32_code 58 = .ok (.aload_n 0, 1) := by decide +kernel
theorem d_LinkAuditModel_covers_59 : decode prog_12_method_32_code 59 = .ok (.getfield 34, 3) := by decide +kernel
theorem d_LinkAuditModel_covers_62 : decode prog_12_method_32_code 62 = .ok (.iload_n 2, 1) := by decide +kernel
theorem d_LinkAuditModel_covers_63 : decode prog_12_method_32_code 63 = .ok (.iaload, 1) := by decide +kernel
theorem d_LinkAuditModel_covers_64 : decode prog_12_method_32_code 64 = .ok (.invokevirtual 139, 3) := by decide +kernel
theorem d_LinkAuditModel_covers_67 : decode prog_12_method_32_code 67 = .ok (.ifCond .ne 5, 3) := by decide +kernel
theorem d_LinkAuditModel_covers_70 : decode prog_12_method_32_code 70 = .ok (.iconst 0, 1) := by decide +kernel
theorem d_LinkAuditModel_covers_71 : decode prog_12_method_32_code 71 = .ok (.ireturn, 1) := by decide +kernel
theorem d_LinkAuditModel_covers_72 : decode prog_12_method_32_code 72 = .ok (.iconst 0, 1) := by decide +kernel
theorem d_LinkAuditModel_covers_73 : decode prog_12_method_32_code 73 = .ok (.istore_n 3, 1) := by decide +kernel
theorem d_LinkAuditModel_covers_74 : decode prog_12_method_32_code 74 = .ok (.aload_n 0, 1) := by decide +kernel
theorem d_LinkAuditModel_covers_75 : decode prog_12_method_32_code 75 = .ok (.getfield 34, 3) := by decide +kernel
theorem d_LinkAuditModel_covers_78 : decode prog_12_method_32_code 78 = .ok (.iload_n 1, 1) := by decide +kernel
theorem d_LinkAuditModel_covers_79 : decode prog_12_method_32_code 79 = .ok (.iaload, 1) := by decide +kernel
theorem d_LinkAuditModel_covers_80 : decode prog_12_method_32_code 80 = .ok (.istore 4, 2) := by decide +kernel
theorem d_LinkAuditModel_covers_82 : decode prog_12_method_32_code 82 = .ok (.iload 4, 2) := by decide +kernel
theorem d_LinkAuditModel_covers_84 : decode prog_12_method_32_code 84 = .ok (.ifCond .le 81, 3) := by decide +kernel
theorem d_LinkAuditModel_covers_87 : decode prog_12_method_32_code 87 = .ok (.aload_n 0, 1) := by decide +kernel
theorem d_LinkAuditModel_covers_88 : decode prog_12_method_32_code 88 = .ok (.iload 4, 2) := by decide +kernel
theorem d_LinkAuditModel_covers_90 : decode prog_12_method_32_code 90 = .ok (.iconst 1, 1) := by decide +kernel
theorem d_LinkAuditModel_covers_91 : decode prog_12_method_32_code 91 = .ok (.aload_n 0, 1) := by decide +kernel
theorem d_LinkAuditModel_covers_92 : decode prog_12_method_32_code 92 = .ok (.getfield 41, 3) := by decide +kernel
theorem d_LinkAuditModel_covers_95 : decode prog_12_method_32_code 95 = .ok (.iload_n 1, 1) := by decide +kernel
theorem d_LinkAuditModel_covers_96 : decode prog_12_method_32_code 96 = .ok (.iaload, 1) := by decide +kernel
theorem d_LinkAuditModel_covers_97 : decode prog_12_method_32_code 97 = .ok (.aload_n 0, 1) := by decide +kernel
theorem d_LinkAuditModel_covers_98 : decode prog_12_method_32_code 98 = .ok (.getfield 44, 3) := by decide +kernel
theorem d_LinkAuditModel_covers_101 : decode prog_12_method_32_code 101 = .ok (.iload_n 1, 1) := by decide +kernel
theorem d_LinkAuditModel_covers_102 : decode prog_12_method_32_code 102 = .ok (.iaload, 1) := by decide +kernel
theorem d_LinkAuditModel_covers_103 : decode prog_12_method_32_code 103 = .ok (.aload_n 0, 1) := by decide +kernel
theorem d_LinkAuditModel_covers_104 : decode prog_12_method_32_code 104 = .ok (.getfield 47, 3) := by decide +kernel
theorem d_LinkAuditModel_covers_107 : decode prog_12_method_32_code 107 = .ok (.iload_n 1, 1) := by decide +kernel
theorem d_LinkAuditModel_covers_108 : decode prog_12_method_32_code 108 = .ok (.iaload, 1) := by decide +kernel
theorem d_LinkAuditModel_covers_109 : decode prog_12_method_32_code 109 = .ok (.invokevirtual 142, 3) := by decide +kernel
theorem d_LinkAuditModel_covers_112 : decode prog_12_method_32_code 112 = .ok (.istore 5, 2) := by decide +kernel
theorem d_LinkAuditModel_covers_114 : decode prog_12_method_32_code 114 = .ok (.iload 5, 2) := by decide +kernel
theorem d_LinkAuditModel_covers_116 : decode prog_12_method_32_code 116 = .ok (.ifCond .le 23, 3) := by decide +kernel
theorem d_LinkAuditModel_covers_119 : decode prog_12_method_32_code 119 = .ok (.aload_n 0, 1) := by decide +kernel
theorem d_LinkAuditModel_covers_120 : decode prog_12_method_32_code 120 = .ok (.iload 5, 2) := by decide +kernel
theorem d_LinkAuditModel_covers_122 : decode prog_12_method_32_code 122 = .ok (.invokevirtual 172, 3) := by decide +kernel
theorem d_LinkAuditModel_covers_125 : decode prog_12_method_32_code 125 = .ok (.ifCond .ne 14, 3) := by decide +kernel
theorem d_LinkAuditModel_covers_128 : decode prog_12_method_32_code 128 = .ok (.aload_n 0, 1) := by decide +kernel
theorem d_LinkAuditModel_covers_129 : decode prog_12_method_32_code 129 = .ok (.getfield 89, 3) := by decide +kernel
theorem d_LinkAuditModel_covers_132 : decode prog_12_method_32_code 132 = .ok (.iload_n 3, 1) := by decide +kernel
theorem d_LinkAuditModel_covers_133 : decode prog_12_method_32_code 133 = .ok (.iload 5, 2) := by decide +kernel
theorem d_LinkAuditModel_covers_135 : decode prog_12_method_32_code 135 = .ok (.iastore, 1) := by decide +kernel
theorem d_LinkAuditModel_covers_136 : decode prog_12_method_32_code 136 = .ok (.iinc 3 1, 3) := by decide +kernel
theorem d_LinkAuditModel_covers_139 : decode prog_12_method_32_code 139 = .ok (.iload 4, 2) := by decide +kernel
theorem d_LinkAuditModel_covers_141 : decode prog_12_method_32_code 141 = .ok (.aload_n 0, 1) := by decide +kernel
theorem d_LinkAuditModel_covers_142 : decode prog_12_method_32_code 142 = .ok (.getfield 34, 3) := by decide +kernel
theorem d_LinkAuditModel_covers_145 : decode prog_12_method_32_code 145 = .ok (.iload_n 2, 1) := by decide +kernel
theorem d_LinkAuditModel_covers_146 : decode prog_12_method_32_code 146 = .ok (.iaload, 1) := by decide +kernel
theorem d_LinkAuditModel_covers_147 : decode prog_12_method_32_code 147 = .ok (.if_icmp .ne 6, 3) := by decide +kernel
theorem d_LinkAuditModel_covers_150 : decode prog_12_method_32_code 150 = .ok (.goto 15, 3) := by decide +kernel
theorem d_LinkAuditModel_covers_153 : decode prog_12_method_32_code 153 = .ok (.aload_n 0, 1) := by decide +kernel
theorem d_LinkAuditModel_covers_154 : decode prog_12_method_32_code 154 = .ok (.getfield 59, 3) := by decide +kernel
theorem d_LinkAuditModel_covers_157 : decode prog_12_method_32_code 157 = .ok (.iload 4, 2) := by decide +kernel
theorem d_LinkAuditModel_covers_159 : decode prog_12_method_32_code 159 = .ok (.iaload, 1) := by decide +kernel
theorem d_LinkAuditModel_covers_160 : decode prog_12_method_32_code 160 = .ok (.istore 4, 2) := by decide +kernel
theorem d_LinkAuditModel_covers_162 : decode prog_12_method_32_code 162 = .ok (.goto (-80), 3) := by decide +kernel
theorem d_LinkAuditModel_covers_165 : decode prog_12_method_32_code 165 = .ok (.iconst 1, 1) := by decide +kernel
theorem d_LinkAuditModel_covers_166 : decode prog_12_method_32_code 166 = .ok (.istore 4, 2) := by decide +kernel
theorem d_LinkAuditModel_covers_168 : decode prog_12_method_32_code 168 = .ok (.iload 4, 2) := by decide +kernel
theorem d_LinkAuditModel_covers_170 : decode prog_12_method_32_code 170 = .ok (.iload_n 3, 1) := by decide +kernel
theorem d_LinkAuditModel_covers_171 : decode prog_12_method_32_code 171 = .ok (.if_icmp .ge 38, 3) := by decide +kernel
theorem d_LinkAuditModel_covers_174 : decode prog_12_method_32_code 174 = .ok (.iconst 0, 1) := by decide +kernel
theorem d_LinkAuditModel_covers_175 : decode prog_12_method_32_code 175 = .ok (.istore 5, 2) := by decide +kernel
theorem d_LinkAuditModel_covers_177 : decode prog_12_method_32_code 177 = .ok (.iload 5, 2) := by decide +kernel
theorem d_LinkAuditModel_covers_179 : decode prog_12_method_32_code 179 = .ok (.iload 4, 2) := by decide +kernel
theorem d_LinkAuditModel_covers_181 : decode prog_12_method_32_code 181 = .ok (.iadd, 1) := by decide +kernel
theorem d_LinkAuditModel_covers_182 : decode prog_12_method_32_code 182 = .ok (.iload_n 3, 1) := by decide +kernel
theorem d_LinkAuditModel_covers_183 : decode prog_12_method_32_code 183 = .ok (.if_icmp .ge 20, 3) := by decide +kernel
theorem d_LinkAuditModel_covers_186 : decode prog_12_method_32_code 186 = .ok (.aload_n 0, 1) := by decide +kernel
theorem d_LinkAuditModel_covers_187 : decode prog_12_method_32_code 187 = .ok (.iload 5, 2) := by decide +kernel
theorem d_LinkAuditModel_covers_189 : decode prog_12_method_32_code 189 = .ok (.iload 5, 2) := by decide +kernel
theorem d_LinkAuditModel_covers_191 : decode prog_12_method_32_code 191 = .ok (.iload 4, 2) := by decide +kernel
theorem d_LinkAuditModel_covers_193 : decode prog_12_method_32_code 193 = .ok (.iadd, 1) := by decide +kernel
theorem d_LinkAuditModel_covers_194 : decode prog_12_method_32_code 194 = .ok (.invokevirtual 178, 3) := by decide +kernel
theorem d_LinkAuditModel_covers_197 : decode prog_12_method_32_code 197 = .ok (.iinc 5 1, 3) := by decide +kernel
theorem d_LinkAuditModel_covers_200 : decode prog_12_method_32_code 200 = .ok (.goto (-23), 3) := by decide +kernel
theorem d_LinkAuditModel_covers_203 : decode prog_12_method_32_code 203 = .ok (.iinc 4 1, 3) := by decide +kernel
theorem d_LinkAuditModel_covers_206 : decode prog_12_method_32_code 206 = .ok (.goto (-38), 3) := by decide +kernel
theorem d_LinkAuditModel_covers_209 : decode prog_12_method_32_code 209 = .ok (.aload_n 0, 1) := by decide +kernel
theorem d_LinkAuditModel_covers_210 : decode prog_12_method_32_code 210 = .ok (.getfield 86, 3) := by decide +kernel
theorem d_LinkAuditModel_covers_213 : decode prog_12_method_32_code 213 = .ok (.iload_n 3, 1) := by decide +kernel
theorem d_LinkAuditModel_covers_214 : decode prog_12_method_32_code 214 = .ok (.iconst 1, 1) := by decide +kernel
theorem d_LinkAuditModel_covers_215 : decode prog_12_method_32_code 215 = .ok (.isub, 1) := by decide +kernel
theorem d_LinkAuditModel_covers_216 : decode prog_12_method_32_code 216 = .ok (.baload, 1) := by decide +kernel
theorem d_LinkAuditModel_covers_217 : decode prog_12_method_32_code 217 = .ok (.ireturn, 1) := by decide +kernel
theorem d_LinkAuditModel_selected_0 : decode prog_12_method_35_code 0 = .ok (.aload_n 0, 1) := by decide +kernel
theorem d_LinkAuditModel_selected_1 : decode prog_12_method_35_code 1 = .ok (.getfield 50, 3) := by decide +kernel
theorem d_LinkAuditModel_selected_4 : decode prog_12_method_35_code 4 = .ok (.iload_n 2, 1) := by decide +kernel
theorem d_LinkAuditModel_selected_5 : decode prog_12_method_35_code 5 = .ok (.iaload, 1) := by decide +kernel
theorem d_LinkAuditModel_selected_6 : decode prog_12_method_35_code 6 = .ok (.iconst 3, 1) := by decide +kernel
theorem d_LinkAuditModel_selected_7 : decode prog_12_method_35_code 7 = .ok (.iand, 1) := by decide +kernel
theorem d_LinkAuditModel_selected_8 : decode prog_12_method_35_code 8 = .ok (.iconst 3, 1) := by decide +kernel
theorem d_LinkAuditModel_selected_9 : decode prog_12_method_35_code 9 = .ok (.if_icmp .ne 5, 3) := by decide +kernel
theorem d_LinkAuditModel_selected_12 : decode prog_12_method_35_code 12 = .ok (.iload_n 2, 1) := by decide +kernel
theorem d_LinkAuditModel_selected_13 : decode prog_12_method_35_code 13 = .ok (.ireturn, 1) := by decide +kernel
theorem d_LinkAuditModel_selected_14 : decode prog_12_method_35_code 14 = .ok (.iload_n 1, 1) := by decide +kernel
theorem d_LinkAuditModel_selected_15 : decode prog_12_method_35_code 15 = .ok (.istore_n 3, 1) := by decide +kernel
theorem d_LinkAuditModel_selected_16 : decode prog_12_method_35_code 16 = .ok (.iload_n 3, 1) := by decide +kernel
theorem d_LinkAuditModel_selected_17 : decode prog_12_method_35_code 17 = .ok (.ifCond .le 63, 3) := by decide +kernel
theorem d_LinkAuditModel_selected_20 : decode prog_12_method_35_code 20 = .ok (.aload_n 0, 1) := by decide +kernel
theorem d_LinkAuditModel_selected_21 : decode prog_12_method_35_code 21 = .ok (.iload_n 3, 1) := by decide +kernel
theorem d_LinkAuditModel_selected_22 : decode prog_12_method_35_code 22 = .ok (.iconst 1, 1) := by decide +kernel
theorem d_LinkAuditModel_selected_23 : decode prog_12_method_35_code 23 = .ok (.aload_n 0, 1) := by decide +kernel
theorem d_LinkAuditModel_selected_24 : decode prog_12_method_35_code 24 = .ok (.getfield 41, 3) := by decide +kernel
theorem d_LinkAuditModel_selected_27 : decode prog_12_method_35_code 27 = .ok (.iload_n 2, 1) := by decide +kernel
theorem d_LinkAuditModel_selected_28 : decode prog_12_method_35_code 28 = .ok (.iaload, 1) := by decide +kernel
theorem d_LinkAuditModel_selected_29 : decode prog_12_method_35_code 29 = .ok (.aload_n 0, 1) := by decide +kernel
theorem d_LinkAuditModel_selected_30 : decode prog_12_method_35_code 30 = .ok (.getfield 44, 3) := by decide +kernel
theorem d_LinkAuditModel_selected_33 : decode prog_12_method_35_code 33 = .ok (.iload_n 2, 1) := by decide +kernel
theorem d_LinkAuditModel_selected_34 : decode prog_12_method_35_code 34 = .ok (.iaload, 1) := by decide +kernel
theorem d_LinkAuditModel_selected_35 : decode prog_12_method_35_code 35 = .ok (.aload_n 0, 1) := by decide +kernel
theorem d_LinkAuditModel_selected_36 : decode prog_12_method_35_code 36 = .ok (.getfield 47, 3) := by decide +kernel
theorem d_LinkAuditModel_selected_39 : decode prog_12_method_35_code 39 = .ok (.iload_n 2, 1) := by decide +kernel
theorem d_LinkAuditModel_selected_40 : decode prog_12_method_35_code 40 = .ok (.iaload, 1) := by decide +kernel
theorem d_LinkAuditModel_selected_41 : decode prog_12_method_35_code 41 = .ok (.invokevirtual 142, 3) := by decide +kernel
theorem d_LinkAuditModel_selected_44 : decode prog_12_method_35_code 44 = .ok (.istore 4, 2) := by decide +kernel
theorem d_LinkAuditModel_selected_46 : decode prog_12_method_35_code 46 = .ok (.iload 4, 2) := by decide +kernel
theorem d_LinkAuditModel_selected_48 : decode prog_12_method_35_code 48 = .ok (.ifCond .le 22, 3) := by decide +kernel
theorem d_LinkAuditModel_selected_51 : decode prog_12_method_35_code 51 = .ok (.iload 4, 2) := by decide +kernel
theorem d_LinkAuditModel_selected_53 : decode prog_12_method_35_code 53 = .ok (.iload_n 2, 1) := by decide +kernel
theorem d_LinkAuditModel_selected_54 : decode prog_12_method_35_code 54 = .ok (.if_icmp .eq 13, 3) := by decide +kernel
theorem d_LinkAuditModel_selected_57 : decode prog_12_method_35_code 57 = .ok (.aload_n 0, 1) := by decide +kernel
theorem d_LinkAuditModel_selected_58 : decode prog_12_method_35_code 58 = .ok (.iload 4, 2) := by decide +kernel
theorem d_LinkAuditModel_selected_60 : decode prog_12_method_35_code 60 = .ok (.iload_n 2, 1) := by decide +kernel
theorem d_LinkAuditModel_selected_61 : decode prog_12_method_35_code 61 = .ok (.invokevirtual 182, 3) := by decide +kernel
theorem d_LinkAuditModel_selected_64 : decode prog_12_method_35_code 64 = .ok (.ifCond .eq 6, 3) := by decide +kernel
theorem d_LinkAuditModel_selected_67 : decode prog_12_method_35_code 67 = .ok (.iload 4, 2) := by decide +kernel
theorem d_LinkAuditModel_selected_69 : decode prog_12_method_35_code 69 = .ok (.ireturn, 1) := by decide +kernel
theorem d_LinkAuditModel_selected_70 : decode prog_12_method_35_code 70 = .ok (.aload_n 0, 1) := by decide +kernel
theorem d_LinkAuditModel_selected_71 : decode prog_12_method_35_code 71 = .ok (.getfield 59, 3) := by decide +kernel
theorem d_LinkAuditModel_selected_74 : decode prog_12_method_35_code 74 = .ok (.iload_n 3, 1) := by decide +kernel
theorem d_LinkAuditModel_selected_75 : decode prog_12_method_35_code 75 = .ok (.iaload, 1) := by decide +kernel
theorem d_LinkAuditModel_selected_76 : decode prog_12_method_35_code 76 = .ok (.istore_n 3, 1) := by decide +kernel
theorem d_LinkAuditModel_selected_77 : decode prog_12_method_35_code 77 = .ok (.goto (-61), 3) := by decide +kernel
theorem d_LinkAuditModel_selected_80 : decode prog_12_method_35_code 80 = .ok (.aload_n 0, 1) := by decide +kernel
theorem d_LinkAuditModel_selected_81 : decode prog_12_method_35_code 81 = .ok (.iload_n 1, 1) := by decide +kernel
theorem d_LinkAuditModel_selected_82 : decode prog_12_method_35_code 82 = .ok (.aload_n 0, 1) := by decide +kernel
theorem d_LinkAuditModel_selected_83 : decode prog_12_method_35_code 83 = .ok (.getfield 41, 3) := by decide +kernel
theorem d_LinkAuditModel_selected_86 : decode prog_12_method_35_code 86 = .ok (.iload_n 2, 1) := by decide +kernel
theorem d_LinkAuditModel_selected_87 : decode prog_12_method_35_code 87 = .ok (.iaload, 1) := by decide +kernel
theorem d_LinkAuditModel_selected_88 : decode prog_12_method_35_code 88 = .ok (.aload_n 0, 1) := by decide +kernel
theorem d_LinkAuditModel_selected_89 : decode prog_12_method_35_code 89 = .ok (.getfield 44, 3) := by decide +kernel
theorem d_LinkAuditModel_selected_92 : decode prog_12_method_35_code 92 = .ok (.iload_n 2, 1) := by decide +kernel
theorem d_LinkAuditModel_selected_93 : decode prog_12_method_35_code 93 = .ok (.iaload, 1) := by decide +kernel
theorem d_LinkAuditModel_selected_94 : decode prog_12_method_35_code 94 = .ok (.aload_n 0, 1) := by decide +kernel
theorem d_LinkAuditModel_selected_95 : decode prog_12_method_35_code 95 = .ok (.getfield 47, 3) := by decide +kernel
theorem d_LinkAuditModel_selected_98 : decode prog_12_method_35_code 98 = .ok (.iload_n 2, 1) := by decide +kernel
theorem d_LinkAuditModel_selected_99 : decode prog_12_method_35_code 99 = .ok (.iaload, 1) := by decide +kernel
theorem d_LinkAuditModel_selected_100 : decode prog_12_method_35_code 100 = .ok (.invokevirtual 156, 3) := by decide +kernel
theorem d_LinkAuditModel_selected_103 : decode prog_12_method_35_code 103 = .ok (.istore_n 3, 1) := by decide +kernel
theorem d_LinkAuditModel_selected_104 : decode prog_12_method_35_code 104 = .ok (.iload_n 3, 1) := by decide +kernel
theorem d_LinkAuditModel_selected_105 : decode prog_12_method_35_code 105 = .ok (.ifCond .le 7, 3) := by decide +kernel
theorem d_LinkAuditModel_selected_108 : decode prog_12_method_35_code 108 = .ok (.iload_n 3, 1) := by decide +kernel
theorem d_LinkAuditModel_selected_109 : decode prog_12_method_35_code 109 = .ok (.goto 14, 3) := by decide +kernel
theorem d_LinkAuditModel_selected_112 : decode prog_12_method_35_code 112 = .ok (.iload_n 3, 1) := by decide +kernel
theorem d_LinkAuditModel_selected_113 : decode prog_12_method_35_code 113 = .ok (.ifCond .ge 8, 3) := by decide +kernel
theorem d_LinkAuditModel_selected_116 : decode prog_12_method_35_code 116 = .ok (.bipush (-5), 2) := by decide +kernel
theorem d_LinkAuditModel_selected_118 : decode prog_12_method_35_code 118 = .ok (.goto 5, 3) := by decide +kernel
theorem d_LinkAuditModel_selected_121 : decode prog_12_method_35_code 121 = .ok (.bipush (-9), 2) := by decide +kernel
theorem d_LinkAuditModel_selected_123 : decode prog_12_method_35_code 123 = .ok (.ireturn, 1) := by decide +kernel
theorem d_LinkAuditModel_select2_0 : decode prog_12_method_36_code 0 = .ok (.aload_n 0, 1) := by decide +kernel
theorem d_LinkAuditModel_select2_1 : decode prog_12_method_36_code 1 = .ok (.iload_n 1, 1) := by decide +kernel
theorem d_LinkAuditModel_select2_2 : decode prog_12_method_36_code 2 = .ok (.iload_n 2, 1) := by decide +kernel
theorem d_LinkAuditModel_select2_3 : decode prog_12_method_36_code 3 = .ok (.invokevirtual 185, 3) := by decide +kernel
theorem d_LinkAuditModel_select2_6 : decode prog_12_method_36_code 6 = .ok (.istore_n 3, 1) := by decide +kernel
theorem d_LinkAuditModel_select2_7 : decode prog_12_method_36_code 7 = .ok (.iload_n 3, 1) := by decide +kernel
theorem d_LinkAuditModel_select2_8 : decode prog_12_method_36_code 8 = .ok (.ifCond .lt 15, 3) := by decide +kernel
theorem d_LinkAuditModel_select2_11 : decode prog_12_method_36_code 11 = .ok (.aload_n 0, 1) := by decide +kernel
theorem d_LinkAuditModel_select2_12 : decode prog_12_method_36_code 12 = .ok (.getfield 50, 3) := by decide +kernel
theorem d_LinkAuditModel_select2_15 : decode prog_12_method_36_code 15 = .ok (.iload_n 2, 1) := by decide +kernel
theorem d_LinkAuditModel_select2_16 : decode prog_12_method_36_code 16 = .ok (.iaload, 1) := by decide +kernel
theorem d_LinkAuditModel_select2_17 : decode prog_12_method_36_code 17 = .ok (.iconst 3, 1) := by decide +kernel
theorem d_LinkAuditModel_select2_18 : decode prog_12_method_36_code 18 = .ok (.iand, 1) := by decide +kernel
theorem d_LinkAuditModel_select2_19 : decode prog_12_method_36_code 19 = .ok (.iconst 3, 1) := by decide +kernel
theorem d_LinkAuditModel_select2_20 : decode prog_12_method_36_code 20 = .ok (.if_icmp .ne 5, 3) := by decide +kernel
theorem d_LinkAuditModel_select2_23 : decode prog_12_method_36_code 23 = .ok (.iload_n 3, 1) := by decide +kernel
theorem d_LinkAuditModel_select2_24 : decode prog_12_method_36_code 24 = .ok (.ireturn, 1) := by decide +kernel
theorem d_LinkAuditModel_select2_25 : decode prog_12_method_36_code 25 = .ok (.aload_n 0, 1) := by decide +kernel
theorem d_LinkAuditModel_select2_26 : decode prog_12_method_36_code 26 = .ok (.getfield 50, 3) := by decide +kernel
theorem d_LinkAuditModel_select2_29 : decode prog_12_method_36_code 29 = .ok (.iload_n 3, 1) := by decide +kernel
theorem d_LinkAuditModel_select2_30 : decode prog_12_method_36_code 30 = .ok (.iaload, 1) := by decide +kernel
theorem d_LinkAuditModel_select2_31 : decode prog_12_method_36_code 31 = .ok (.bipush 8, 2) := by decide +kernel
theorem d_LinkAuditModel_select2_33 : decode prog_12_method_36_code 33 = .ok (.iand, 1) := by decide +kernel
theorem d_LinkAuditModel_select2_34 : decode prog_12_method_36_code 34 = .ok (.ifCond .eq 6, 3) := by decide +kernel
theorem d_LinkAuditModel_select2_37 : decode prog_12_method_36_code 37 = .ok (.bipush (-9), 2) := by decide +kernel
theorem d_LinkAuditModel_select2_39 : decode prog_12_method_36_code 39 = .ok (.ireturn, 1) := by decide +kernel
theorem d_LinkAuditModel_select2_40 : decode prog_12_method_36_code 40 = .ok (.aload_n 0, 1) := by decide +kernel
theorem d_LinkAuditModel_select2_41 : decode prog_12_method_36_code 41 = .ok (.aload_n 0, 1) := by decide +kernel
theorem d_LinkAuditModel_select2_42 : decode prog_12_method_36_code 42 = .ok (.getfield 34, 3) := by decide +kernel
theorem d_LinkAuditModel_select2_45 : decode prog_12_method_36_code 45 = .ok (.iload_n 2, 1) := by decide +kernel
theorem d_LinkAuditModel_select2_46 : decode prog_12_method_36_code 46 = .ok (.iaload, 1) := by decide +kernel
theorem d_LinkAuditModel_select2_47 : decode prog_12_method_36_code 47 = .ok (.invokevirtual 111, 3) := by decide +kernel
theorem d_LinkAuditModel_select2_50 : decode prog_12_method_36_code 50 = .ok (.ifCond .eq 19, 3) := by decide +kernel
theorem d_LinkAuditModel_select2_53 : decode prog_12_method_36_code 53 = .ok (.aload_n 0, 1) := by decide +kernel
theorem d_LinkAuditModel_select2_54 : decode prog_12_method_36_code 54 = .ok (.getfield 50, 3) := by decide +kernel
theorem d_LinkAuditModel_select2_57 : decode prog_12_method_36_code 57 = .ok (.iload_n 3, 1) := by decide +kernel
theorem d_LinkAuditModel_select2_58 : decode prog_12_method_36_code 58 = .ok (.iaload, 1) := by decide +kernel
theorem d_LinkAuditModel_select2_59 : decode prog_12_method_36_code 59 = .ok (.iconst 3, 1) := by decide +kernel
theorem d_LinkAuditModel_select2_60 : decode prog_12_method_36_code 60 = .ok (.iand, 1) := by decide +kernel
theorem d_LinkAuditModel_select2_61 : decode prog_12_method_36_code 61 = .ok (.ifCond .eq 8, 3) := by decide +kernel
theorem d_LinkAuditModel_select2_64 : decode prog_12_method_36_code 64 = .ok (.bipush (-6), 2) := by decide +kernel
theorem d_LinkAuditModel_select2_66 : decode prog_12_method_36_code 66 = .ok (.goto 4, 3) := by decide +kernel
theorem d_LinkAuditModel_select2_69 : decode prog_12_method_36_code 69 = .ok (.iload_n 3, 1) := by decide +kernel
theorem d_LinkAuditModel_select2_70 : decode prog_12_method_36_code 70 = .ok (.ireturn, 1) := by decide +kernel
theorem d_LinkAuditModel_select_0 : decode prog_12_method_45_code 0 = .ok (.iload_n 1, 1) := by decide +kernel
theorem d_LinkAuditModel_select_1 : decode prog_12_method_45_code 1 = .ok (.iconst 1, 1) := by decide +kernel
theorem d_LinkAuditModel_select_2 : decode prog_12_method_45_code 2 = .ok (.aload_n 0, 1) := by decide +kernel
theorem d_LinkAuditModel_select_3 : decode prog_12_method_45_code 3 = .ok (.getfield 96, 3) := by decide +kernel
theorem d_LinkAuditModel_select_6 : decode prog_12_method_45_code 6 = .ok (.invokestatic 92, 3) := by decide +kernel
theorem d_LinkAuditModel_select_9 : decode prog_12_method_45_code 9 = .ok (.ifCond .eq 15, 3) := by decide +kernel
theorem d_LinkAuditModel_select_12 : decode prog_12_method_45_code 12 = .ok (.iload_n 2, 1) := by decide +kernel
theorem d_LinkAuditModel_select_13 : decode prog_12_method_45_code 13 = .ok (.iconst 1, 1) := by decide +kernel
theorem d_LinkAuditModel_select_14 : decode prog_12_method_45_code 14 = .ok (.aload_n 0, 1) := by decide +kernel
theorem d_LinkAuditModel_select_15 : decode prog_12_method_45_code 15 = .ok (.getfield 104, 3) := by decide +kernel
theorem d_LinkAuditModel_select_18 : decode prog_12_method_45_code 18 = .ok (.invokestatic 92, 3) := by decide +kernel
theorem d_LinkAuditModel_select_21 : decode prog_12_method_45_code 21 = .ok (.ifCond .ne 5, 3) := by decide +kernel
theorem d_LinkAuditModel_select_24 : decode prog_12_method_45_code 24 = .ok (.iconst (-1), 1) := by decide +kernel
theorem d_LinkAuditModel_select_25 : decode prog_12_method_45_code 25 = .ok (.ireturn, 1) := by decide +kernel
theorem d_LinkAuditModel_select_26 : decode prog_12_method_45_code 26 = .ok (.aload_n 0, 1) := by decide +kernel
theorem d_LinkAuditModel_select_27 : decode prog_12_method_45_code 27 = .ok (.invokevirtual 210, 3) := by decide +kernel
theorem d_LinkAuditModel_select_30 : decode prog_12_method_45_code 30 = .ok (.aload_n 0, 1) := by decide +kernel
theorem d_LinkAuditModel_select_31 : decode prog_12_method_45_code 31 = .ok (.iload_n 1, 1) := by decide +kernel
theorem d_LinkAuditModel_select_32 : decode prog_12_method_45_code 32 = .ok (.aload_n 0, 1) := by decide +kernel
theorem d_LinkAuditModel_select_33 : decode prog_12_method_45_code 33 = .ok (.getfield 34, 3) := by decide +kernel
theorem d_LinkAuditModel_select_36 : decode prog_12_method_45_code 36 = .ok (.iload_n 2, 1) := by decide +kernel
theorem d_LinkAuditModel_select_37 : decode prog_12_method_45_code 37 = .ok (.iaload, 1) := by decide +kernel
theorem d_LinkAuditModel_select_38 : decode prog_12_method_45_code 38 = .ok (.invokevirtual 139, 3) := by decide +kernel
theorem d_LinkAuditModel_select_41 : decode prog_12_method_45_code 41 = .ok (.ifCond .ne 17, 3) := by decide +kernel
theorem d_LinkAuditModel_select_44 : decode prog_12_method_45_code 44 = .ok (.aload_n 0, 1) := by decide +kernel
theorem d_LinkAuditModel_select_45 : decode prog_12_method_45_code 45 = .ok (.iload_n 1, 1) := by decide +kernel
theorem d_LinkAuditModel_select_46 : decode prog_12_method_45_code 46 = .ok (.aload_n 0, 1) := by decide +kernel
theorem d_LinkAuditModel_select_47 : decode prog_12_method_45_code 47 = .ok (.getfield 34, 3) := by decide +kernel
theorem d_LinkAuditModel_select_50 : decode prog_12_method_45_code 50 = .ok (.iload_n 2, 1) := by decide +kernel
theorem d_LinkAuditModel_select_51 : decode prog_12_method_45_code 51 = .ok (.iaload, 1) := by decide +kernel
theorem d_LinkAuditModel_select_52 : decode prog_12_method_45_code 52 = .ok (.invokevirtual 146, 3) := by decide +kernel
theorem d_LinkAuditModel_select_55 : decode prog_12_method_45_code 55 = .ok (.ifCond .eq 7, 3) := by decide +kernel
theorem d_LinkAuditModel_select_58 : decode prog_12_method_45_code 58 = .ok (.iconst 1, 1) := by decide +kernel
theorem d_LinkAuditModel_select_59 : decode prog_12_method_45_code 59 = .ok (.goto 4, 3) := by decide +kernel
theorem d_LinkAuditModel_select_62 : decode prog_12_method_45_code 62 = .ok (.iconst 0, 1) := by decide +kernel
theorem d_LinkAuditModel_select_63 : decode prog_12_method_45_code 63 = .ok (.istore_n 3, 1) := by decide +kernel
theorem d_LinkAuditModel_select_64 : decode prog_12_method_45_code 64 = .ok (.aload_n 0, 1) := by decide +kernel
theorem d_LinkAuditModel_select_65 : decode prog_12_method_45_code 65 = .ok (.getfield 56, 3) := by decide +kernel
theorem d_LinkAuditModel_select_68 : decode prog_12_method_45_code 68 = .ok (.iload_n 1, 1) := by decide +kernel
theorem d_LinkAuditModel_select_69 : decode prog_12_method_45_code 69 = .ok (.iaload, 1) := by decide +kernel
theorem d_LinkAuditModel_select_70 : decode prog_12_method_45_code 70 = .ok (.ifCond .ne 35, 3) := by decide +kernel
theorem d_LinkAuditModel_select_73 : decode prog_12_method_45_code 73 = .ok (.aload_n 0, 1) := by decide +kernel
theorem d_LinkAuditModel_select_74 : decode prog_12_method_45_code 74 = .ok (.iload_n 1, 1) := by decide +kernel
theorem d_LinkAuditModel_select_75 : decode prog_12_method_45_code 75 = .ok (.invokevirtual 111, 3) := by decide +kernel
theorem d_LinkAuditModel_select_78 : decode prog_12_method_45_code 78 = .ok (.ifCond .ne 27, 3) := by decide +kernel
theorem d_LinkAuditModel_select_81 : decode prog_12_method_45_code 81 = .ok (.aload_n 0, 1) := by decide +kernel
theorem d_LinkAuditModel_select_82 : decode prog_12_method_45_code 82 = .ok (.getfield 37, 3) := by decide +kernel
theorem d_LinkAuditModel_select_85 : decode prog_12_method_45_code 85 = .ok (.iload_n 2, 1) := by decide +kernel
theorem d_LinkAuditModel_select_86 : decode prog_12_method_45_code 86 = .ok (.baload, 1) := by decide +kernel
theorem d_LinkAuditModel_select_87 : decode prog_12_method_45_code 87 = .ok (.ifCond .eq 18, 3) := by decide +kernel
theorem d_LinkAuditModel_select_90 : decode prog_12_method_45_code 90 = .ok (.aload_n 0, 1) := by decide +kernel
theorem d_LinkAuditModel_select_91 : decode prog_12_method_45_code 91 = .ok (.getfield 50, 3) := by decide +kernel
theorem d_LinkAuditModel_select_94 : decode prog_12_method_45_code 94 = .ok (.iload_n 2, 1) := by decide +kernel
theorem d_LinkAuditModel_select_95 : decode prog_12_method_45_code 95 = .ok (.iaload, 1) := by decide +kernel
theorem d_LinkAuditModel_select_96 : decode prog_12_method_45_code 96 = .ok (.iconst 4, 1) := by decide +kernel
theorem d_LinkAuditModel_select_97 : decode prog_12_method_45_code 97 = .ok (.iand, 1) := by decide +kernel
theorem d_LinkAuditModel_select_98 : decode prog_12_method_45_code 98 = .ok (.ifCond .ne 7, 3) := by decide +kernel
theorem d_LinkAuditModel_select_101 : decode prog_12_method_45_code 101 = .ok (.iload_n 3, 1) := by decide +kernel
theorem d_LinkAuditModel_select_102 : decode prog_12_method_45_code 102 = .ok (.ifCond .ne 5, 3) := by decide +kernel
theorem d_LinkAuditModel_select_105 : decode prog_12_method_45_code 105 = .ok (.iconst (-1), 1) := by decide +kernel
theorem d_LinkAuditModel_select_106 : decode prog_12_method_45_code 106 = .ok (.ireturn, 1) := by decide +kernel
theorem d_LinkAuditModel_select_107 : decode prog_12_method_45_code 107 = .ok (.aload_n 0, 1) := by decide +kernel
theorem d_LinkAuditModel_select_108 : decode prog_12_method_45_code 108 = .ok (.iload_n 1, 1) := by decide +kernel
theorem d_LinkAuditModel_select_109 : decode prog_12_method_45_code 109 = .ok (.iload_n 2, 1) := by decide +kernel
theorem d_LinkAuditModel_select_110 : decode prog_12_method_45_code 110 = .ok (.invokevirtual 188, 3) := by decide +kernel
theorem d_LinkAuditModel_select_113 : decode prog_12_method_45_code 113 = .ok (.ireturn, 1) := by decide +kernel
theorem d_LinkAuditModel_overridesIt_0 : decode prog_12_method_34_code 0 = .ok (.aload_n 0, 1) := by decide +kernel
theorem d_LinkAuditModel_overridesIt_1 : decode prog_12_method_34_code 1 = .ok (.getfield 34, 3) := by decide +kernel
theorem d_LinkAuditModel_overridesIt_4 : decode prog_12_method_34_code 4 = .ok (.iload_n 1, 1) := by decide +kernel
theorem d_LinkAuditModel_overridesIt_5 : decode prog_12_method_34_code 5 = .ok (.iaload, 1) := by decide +kernel
theorem d_LinkAuditModel_overridesIt_6 : decode prog_12_method_34_code 6 = .ok (.istore_n 3, 1) := by decide +kernel
theorem d_LinkAuditModel_overridesIt_7 : decode prog_12_method_34_code 7 = .ok (.aload_n 0, 1) := by decide +kernel
theorem d_LinkAuditModel_overridesIt_8 : decode prog_12_method_34_code 8 = .ok (.getfield 34, 3) := by decide +kernel
theorem d_LinkAuditModel_overridesIt_11 : decode prog_12_method_34_code 11 = .ok (.iload_n 2, 1) := by decide +kernel
theorem d_LinkAuditModel_overridesIt_12 : decode prog_12_method_34_code 12 = .ok (.iaload, 1) := by decide +kernel
theorem d_LinkAuditModel_overridesIt_13 : decode prog_12_method_34_code 13 = .ok (.istore 4, 2) := by decide +kernel
theorem d_LinkAuditModel_overridesIt_15 : decode prog_12_method_34_code 15 = .ok (.iload_n 3, 1) := by decide +kernel
theorem d_LinkAuditModel_overridesIt_16 : decode prog_12_method_34_code 16 = .ok (.iload 4, 2) := by decide +kernel
theorem d_LinkAuditModel_overridesIt_18 : decode prog_12_method_34_code 18 = .ok (.if_icmp .eq 13, 3) := by decide +kernel
theorem d_LinkAuditModel_overridesIt_21 : decode prog_12_method_34_code 21 = .ok (.aload_n 0, 1) := by decide +kernel
theorem d_LinkAuditModel_overridesIt_22 : decode prog_12_method_34_code 22 = .ok (.iload_n 3, 1) := by decide +kernel
theorem d_LinkAuditModel_overridesIt_23 : decode prog_12_method_34_code 23 = .ok (.iload 4, 2) := by decide +kernel
theorem d_LinkAuditModel_overridesIt_25 : decode prog_12_method_34_code 25 = .ok (.invokevirtual 139, 3) := by decide +kernel
theorem d_LinkAuditModel_overridesIt_28 : decode prog_12_method_34_code 28 = .ok (.ifCond .ne 13, 3) := by decide +kernel
theorem d_LinkAuditModel_overridesIt_31 : decode prog_12_method_34_code 31 = .ok (.aload_n 0, 1) := by decide +kernel
theorem d_LinkAuditModel_overridesIt_32 : decode prog_12_method_34_code 32 = .ok (.iload_n 3, 1) := by decide +kernel
theorem d_LinkAuditModel_overridesIt_33 : decode prog_12_method_34_code 33 = .ok (.iload 4, 2) := by decide +kernel
theorem d_LinkAuditModel_overridesIt_35 : decode prog_12_method_34_code 35 = .ok (.invokevirtual 146, 3) := by decide +kernel
theorem d_LinkAuditModel_overridesIt_38 : decode prog_12_method_34_code 38 = .ok (.ifCond .eq 16, 3) := by decide +kernel
theorem d_LinkAuditModel_overridesIt_41 : decode prog_12_method_34_code 41 = .ok (.aload_n 0, 1) := by decide +kernel
theorem d_LinkAuditModel_overridesIt_42 : decode prog_12_method_34_code 42 = .ok (.iload_n 1, 1) := by decide +kernel
theorem d_LinkAuditModel_overridesIt_43 : decode prog_12_method_34_code 43 = .ok (.iload_n 2, 1) := by decide +kernel
theorem d_LinkAuditModel_overridesIt_44 : decode prog_12_method_34_code 44 = .ok (.invokevirtual 182, 3) := by decide +kernel
theorem d_LinkAuditModel_overridesIt_47 : decode prog_12_method_34_code 47 = .ok (.ifCond .eq 7, 3) := by decide +kernel
theorem d_LinkAuditModel_overridesIt_50 : decode prog_12_method_34_code 50 = .ok (.iconst 1, 1) := by decide +kernel
theorem d_LinkAuditModel_overridesIt_51 : decode prog_12_method_34_code 51 = .ok (.goto 4, 3) := by decide +kernel
theorem d_LinkAuditModel_overridesIt_54 : decode prog_12_method_34_code 54 = .ok (.iconst 0, 1) := by decide +kernel
theorem d_LinkAuditModel_overridesIt_55 : decode prog_12_method_34_code 55 = .ok (.ireturn, 1) := by decide +kernel
theorem d_LinkAuditModel_overrides_0 : decode prog_12_method_46_code 0 = .ok (.iload_n 1, 1) := by decide +kernel
theorem d_LinkAuditModel_overrides_1 : decode prog_12_method_46_code 1 = .ok (.iconst 1, 1) := by decide +kernel
theorem d_LinkAuditModel_overrides_2 : decode prog_12_method_46_code 2 = .ok (.aload_n 0, 1) := by decide +kernel
theorem d_LinkAuditModel_overrides_3 : decode prog_12_method_46_code 3 = .ok (.getfield 104, 3) := by decide +kernel
theorem d_LinkAuditModel_overrides_6 : decode prog_12_method_46_code 6 = .ok (.invokestatic 92, 3) := by decide +kernel
theorem d_LinkAuditModel_overrides_9 : decode prog_12_method_46_code 9 = .ok (.ifCond .eq 33, 3) := by decide +kernel
theorem d_LinkAuditModel_overrides_12 : decode prog_12_method_46_code 12 = .ok (.iload_n 2, 1) := by decide +kernel
theorem d_LinkAuditModel_overrides_13 : decode prog_12_method_46_code 13 = .ok (.iconst 1, 1) := by decide +kernel
theorem d_LinkAuditModel_overrides_14 : decode prog_12_method_46_code 14 = .ok (.aload_n 0, 1) := by decide +kernel
theorem d_LinkAuditModel_overrides_15 : decode prog_12_method_46_code 15 = .ok (.getfield 104, 3) := by decide +kernel
theorem d_LinkAuditModel_overrides_18 : decode prog_12_method_46_code 18 = .ok (.invokestatic 92, 3) := by decide +kernel
theorem d_LinkAuditModel_overrides_21 : decode prog_12_method_46_code 21 = .ok (.ifCond .eq 21, 3) := by decide +kernel
theorem d_LinkAuditModel_overrides_24 : decode prog_12_method_46_code 24 = .ok (.aload_n 0, 1) := by decide +kernel
theorem d_LinkAuditModel_overrides_25 : decode prog_12_method_46_code 25 = .ok (.getfield 37, 3) := by decide +kernel
theorem d_LinkAuditModel_overrides_28 : decode prog_12_method_46_code 28 = .ok (.iload_n 1, 1) := by decide +kernel
theorem d_LinkAuditModel_overrides_29 : decode prog_12_method_46_code 29 = .ok (.baload, 1) := by decide +kernel
theorem d_LinkAuditModel_overrides_30 : decode prog_12_method_46_code 30 = .ok (.ifCond .eq 12, 3) := by decide +kernel
theorem d_LinkAuditModel_overrides_33 : decode prog_12_method_46_code 33 = .ok (.aload_n 0, 1) := by decide +kernel
theorem d_LinkAuditModel_overrides_34 : decode prog_12_method_46_code 34 = .ok (.getfield 37, 3) := by decide +kernel
theorem d_LinkAuditModel_overrides_37 : decode prog_12_method_46_code 37 = .ok (.iload_n 2, 1) := by decide +kernel
theorem d_LinkAuditModel_overrides_38 : decode prog_12_method_46_code 38 = .ok (.baload, 1) := by decide +kernel
theorem d_LinkAuditModel_overrides_39 : decode prog_12_method_46_code 39 = .ok (.ifCond .ne 5, 3) := by decide +kernel
theorem d_LinkAuditModel_overrides_42 : decode prog_12_method_46_code 42 = .ok (.iconst 0, 1) := by decide +kernel
theorem d_LinkAuditModel_overrides_43 : decode prog_12_method_46_code 43 = .ok (.ireturn, 1) := by decide +kernel
theorem d_LinkAuditModel_overrides_44 : decode prog_12_method_46_code 44 = .ok (.aload_n 0, 1) := by decide +kernel
theorem d_LinkAuditModel_overrides_45 : decode prog_12_method_46_code 45 = .ok (.invokevirtual 210, 3) := by decide +kernel
theorem d_LinkAuditModel_overrides_48 : decode prog_12_method_46_code 48 = .ok (.aload_n 0, 1) := by decide +kernel
theorem d_LinkAuditModel_overrides_49 : decode prog_12_method_46_code 49 = .ok (.getfield 56, 3) := by decide +kernel
theorem d_LinkAuditModel_overrides_52 : decode prog_12_method_46_code 52 = .ok (.aload_n 0, 1) := by decide +kernel
theorem d_LinkAuditModel_overrides_53 : decode prog_12_method_46_code 53 = .ok (.getfield 34, 3) := by decide +kernel
theorem d_LinkAuditModel_overrides_56 : decode prog_12_method_46_code 56 = .ok (.iload_n 1, 1) := by decide +kernel
theorem d_LinkAuditModel_overrides_57 : decode prog_12_method_46_code 57 = .ok (.iaload, 1) := by decide +kernel
theorem d_LinkAuditModel_overrides_58 : decode prog_12_method_46_code 58 = .ok (.iaload, 1) := by decide +kernel
theorem d_LinkAuditModel_overrides_59 : decode prog_12_method_46_code 59 = .ok (.ifCond .ne 30, 3) := by decide +kernel
theorem d_LinkAuditModel_overrides_62 : decode prog_12_method_46_code 62 = .ok (.aload_n 0, 1) := by decide +kernel
theorem d_LinkAuditModel_overrides_63 : decode prog_12_method_46_code 63 = .ok (.getfield 56, 3) := by decide +kernel
theorem d_LinkAuditModel_overrides_66 : decode prog_12_method_46_code 66 = .ok (.aload_n 0, 1) := by decide +kernel
theorem d_LinkAuditModel_overrides_67 : decode prog_12_method_46_code 67 = .ok (.getfield 34, 3) := by decide +kernel
theorem d_LinkAuditModel_overrides_70 : decode prog_12_method_46_code 70 = .ok (.iload_n 2, 1) := by decide +kernel
theorem d_LinkAuditModel_overrides_71 : decode prog_12_method_46_code 71 = .ok (.iaload, 1) := by decide +kernel
theorem d_LinkAuditModel_overrides_72 : decode prog_12_method_46_code 72 = .ok (.iaload, 1) := by decide +kernel
theorem d_LinkAuditModel_overrides_73 : decode prog_12_method_46_code 73 = .ok (.ifCond .ne 16, 3) := by decide +kernel
theorem d_LinkAuditModel_overrides_76 : decode prog_12_method_46_code 76 = .ok (.aload_n 0, 1) := by decide +kernel
theorem d_LinkAuditModel_overrides_77 : decode prog_12_method_46_code 77 = .ok (.iload_n 1, 1) := by decide +kernel
theorem d_LinkAuditModel_overrides_78 : decode prog_12_method_46_code 78 = .ok (.iload_n 2, 1) := by decide +kernel
theorem d_LinkAuditModel_overrides_79 : decode prog_12_method_46_code 79 = .ok (.invokevirtual 201, 3) := by decide +kernel
theorem d_LinkAuditModel_overrides_82 : decode prog_12_method_46_code 82 = .ok (.ifCond .eq 7, 3) := by decide +kernel
theorem d_LinkAuditModel_overrides_85 : decode prog_12_method_46_code 85 = .ok (.iconst 1, 1) := by decide +kernel
theorem d_LinkAuditModel_overrides_86 : decode prog_12_method_46_code 86 = .ok (.goto 4, 3) := by decide +kernel
theorem d_LinkAuditModel_overrides_89 : decode prog_12_method_46_code 89 = .ok (.iconst 0, 1) := by decide +kernel
theorem d_LinkAuditModel_overrides_90 : decode prog_12_method_46_code 90 = .ok (.ireturn, 1) := by decide +kernel
theorem d_LinkAuditModel_allGaps_0 : decode prog_12_method_37_code 0 = .ok (.iconst 0, 1) := by decide +kernel
theorem d_LinkAuditModel_allGaps_1 : decode prog_12_method_37_code 1 = .ok (.istore_n 1, 1) := by decide +kernel
theorem d_LinkAuditModel_allGaps_2 : decode prog_12_method_37_code 2 = .ok (.iconst 1, 1) := by decide +kernel
theorem d_LinkAuditModel_allGaps_3 : decode prog_12_method_37_code 3 = .ok (.istore_n 2, 1) := by decide +kernel
theorem d_LinkAuditModel_allGaps_4 : decode prog_12_method_37_code 4 = .ok (.iload_n 2, 1) := by decide +kernel
theorem d_LinkAuditModel_allGaps_5 : decode prog_12_method_37_code 5 = .ok (.aload_n 0, 1) := by decide +kernel
theorem d_LinkAuditModel_allGaps_6 : decode prog_12_method_37_code 6 = .ok (.getfield 96, 3) := by decide +kernel
theorem d_LinkAuditModel_allGaps_9 : decode prog_12_method_37_code 9 = .ok (.if_icmp .gt 128, 3) := by decide +kernel
theorem d_LinkAuditModel_allGaps_12 : decode prog_12_method_37_code 12 = .ok (.aload_n 0, 1) := by decide +kernel
theorem d_LinkAuditModel_allGaps_13 : decode prog_12_method_37_code 13 = .ok (.getfield 56, 3) := by decide +kernel
theorem d_LinkAuditModel_allGaps_16 : decode prog_12_method_37_code 16 = .ok (.iload_n 2, 1) := by decide +kernel
theorem d_LinkAuditModel_allGaps_17 : decode prog_12_method_37_code 17 = .ok (.iaload, 1) := by decide +kernel
theorem d_LinkAuditModel_allGaps_18 : decode prog_12_method_37_code 18 = .ok (.ifCond .ne 113, 3) := by decide +kernel
theorem d_LinkAuditModel_allGaps_21 : decode prog_12_method_37_code 21 = .ok (.aload_n 0, 1) := by decide +kernel
theorem d_LinkAuditModel_allGaps_22 : decode prog_12_method_37_code 22 = .ok (.getfield 25, 3) := by decide +kernel
theorem d_LinkAuditModel_allGaps_25 : decode prog_12_method_37_code 25 = .ok (.iload_n 2, 1) := by decide +kernel
theorem d_LinkAuditModel_allGaps_26 : decode prog_12_method_37_code 26 = .ok (.iaload, 1) := by decide +kernel
theorem d_LinkAuditModel_allGaps_27 : decode prog_12_method_37_code 27 = .ok (.bipush 12, 2) := by decide +kernel
theorem d_LinkAuditModel_allGaps_29 : decode prog_12_method_37_code 29 = .ok (.iand, 1) := by decide +kernel
theorem d_LinkAuditModel_allGaps_30 : decode prog_12_method_37_code 30 = .ok (.ifCond .eq 6, 3) := by decide +kernel
theorem d_LinkAuditModel_allGaps_33 : decode prog_12_method_37_code 33 = .ok (.goto 98, 3) := by decide +kernel
theorem d_LinkAuditModel_allGaps_36 : decode prog_12_method_37_code 36 = .ok (.iconst 1, 1) := by decide +kernel
theorem d_LinkAuditModel_allGaps_37 : decode prog_12_method_37_code 37 = .ok (.istore_n 3, 1) := by decide +kernel
theorem d_LinkAuditModel_allGaps_38 : decode prog_12_method_37_code 38 = .ok (.iload_n 3, 1) := by decide +kernel
theorem d_LinkAuditModel_allGaps_39 : decode prog_12_method_37_code 39 = .ok (.aload_n 0, 1) := by decide +kernel
theorem d_LinkAuditModel_allGaps_40 : decode prog_12_method_37_code 40 = .ok (.getfield 104, 3) := by decide +kernel
theorem d_LinkAuditModel_allGaps_43 : decode prog_12_method_37_code 43 = .ok (.if_icmp .gt 88, 3) := by decide +kernel
theorem d_LinkAuditModel_allGaps_46 : decode prog_12_method_37_code 46 = .ok (.aload_n 0, 1) := by decide +kernel
theorem d_LinkAuditModel_allGaps_47 : decode prog_12_method_37_code 47 = .ok (.iload_n 2, 1) := by decide +kernel
theorem d_LinkAuditModel_allGaps_48 : decode prog_12_method_37_code 48 = .ok (.aload_n 0, 1) := by decide +kernel
theorem d_LinkAuditModel_allGaps_49 : decode prog_12_method_37_code 49 = .ok (.getfield 34, 3) := by decide +kernel
theorem d_LinkAuditModel_allGaps_52 : decode prog_12_method_37_code 52 = .ok (.iload_n 3, 1) := by decide +kernel
theorem d_LinkAuditModel_allGaps_53 : decode prog_12_method_37_code 53 = .ok (.iaload, 1) := by decide +kernel
theorem d_LinkAuditModel_allGaps_54 : decode prog_12_method_37_code 54 = .ok (.invokevirtual 139, 3) := by decide +kernel
theorem d_LinkAuditModel_allGaps_57 : decode prog_12_method_37_code 57 = .ok (.ifCond .eq 13, 3) := by decide +kernel
theorem d_LinkAuditModel_allGaps_60 : decode prog_12_method_37_code 60 = .ok (.aload_n 0, 1) := by decide +kernel
theorem d_LinkAuditModel_allGaps_61 : decode prog_12_method_37_code 61 = .ok (.getfield 34, 3) := by decide +kernel
theorem d_LinkAuditModel_allGaps_64 : decode prog_12_method_37_code 64 = .ok (.iload_n 3, 1) := by decide +kernel
theorem d_LinkAuditModel_allGaps_65 : decode prog_12_method_37_code 65 = .ok (.iaload, 1) := by decide +kernel
theorem d_LinkAuditModel_allGaps_66 : decode prog_12_method_37_code 66 = .ok (.iload_n 2, 1) := by decide +kernel
theorem d_LinkAuditModel_allGaps_67 : decode prog_12_method_37_code 67 = .ok (.if_icmp .ne 17, 3) := by decide +kernel
theorem d_LinkAuditModel_allGaps_70 : decode prog_12_method_37_code 70 = .ok (.aload_n 0, 1) := by decide +kernel
theorem d_LinkAuditModel_allGaps_71 : decode prog_12_method_37_code 71 = .ok (.iload_n 2, 1) := by decide +kernel
theorem d_LinkAuditModel_allGaps_72 : decode prog_12_method_37_code 72 = .ok (.aload_n 0, 1) := by decide +kernel
theorem d_LinkAuditModel_allGaps_73 : decode prog_12_method_37_code 73 = .ok (.getfield 34, 3) := by decide +kernel
theorem d_LinkAuditModel_allGaps_76 : decode prog_12_method_37_code 76 = .ok (.iload_n 3, 1) := by decide +kernel
theorem d_LinkAuditModel_allGaps_77 : decode prog_12_method_37_code 77 = .ok (.iaload, 1) := by decide +kernel
theorem d_LinkAuditModel_allGaps_78 : decode prog_12_method_37_code 78 = .ok (.invokevirtual 146, 3) := by decide +kernel
theorem d_LinkAuditModel_allGaps_81 : decode prog_12_method_37_code 81 = .ok (.ifCond .eq 7, 3) := by decide +kernel
theorem d_LinkAuditModel_allGaps_84 : decode prog_12_method_37_code 84 = .ok (.iconst 1, 1) := by decide +kernel
theorem d_LinkAuditModel_allGaps_85 : decode prog_12_method_37_code 85 = .ok (.goto 4, 3) := by decide +kernel
theorem d_LinkAuditModel_allGaps_88 : decode prog_12_method_37_code 88 = .ok (.iconst 0, 1) := by decide +kernel
theorem d_LinkAuditModel_allGaps_89 : decode prog_12_method_37_code 89 = .ok (.istore 4, 2) := by decide +kernel
theorem d_LinkAuditModel_allGaps_91 : decode prog_12_method_37_code 91 = .ok (.iload 4, 2) := by decide +kernel
theorem d_LinkAuditModel_allGaps_93 : decode prog_12_method_37_code 93 = .ok (.ifCond .eq 32, 3) := by decide +kernel
theorem d_LinkAuditModel_allGaps_96 : decode prog_12_method_37_code 96 = .ok (.aload_n 0, 1) := by decide +kernel
theorem d_LinkAuditModel_allGaps_97 : decode prog_12_method_37_code 97 = .ok (.getfield 37, 3) := by decide +kernel
theorem d_LinkAuditModel_allGaps_100 : decode prog_12_method_37_code 100 = .ok (.iload_n 3, 1) := by decide +kernel
