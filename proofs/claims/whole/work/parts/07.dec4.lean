theorem d_Agreements_listConflicts_0 : decode prog_2_method_4_code 0 = .ok (.iconst 0, 1) := by decide +kernel
theorem d_Agreements_listConflicts_1 : decode prog_2_method_4_code 1 = .ok (.istore_n 1, 1) := by decide +kernel
theorem d_Agreements_listConflicts_2 : decode prog_2_method_4_code 2 = .ok (.iload_n 1, 1) := by decide +kernel
theorem d_Agreements_listConflicts_3 : decode prog_2_method_4_code 3 = .ok (.bipush 12, 2) := by decide +kernel
theorem d_Agreements_listConflicts_5 : decode prog_2_method_4_code 5 = .ok (.if_icmp .ge 87, 3) := by decide +kernel
theorem d_Agreements_listConflicts_8 : decode prog_2_method_4_code 8 = .ok (.iconst 0, 1) := by decide +kernel
theorem d_Agreements_listConflicts_9 : decode prog_2_method_4_code 9 = .ok (.istore_n 2, 1) := by decide +kernel
theorem d_Agreements_listConflicts_10 : decode prog_2_method_4_code 10 = .ok (.iload_n 2, 1) := by decide +kernel
theorem d_Agreements_listConflicts_11 : decode prog_2_method_4_code 11 = .ok (.iconst 5, 1) := by decide +kernel
theorem d_Agreements_listConflicts_12 : decode prog_2_method_4_code 12 = .ok (.if_icmp .ge 74, 3) := by decide +kernel
theorem d_Agreements_listConflicts_15 : decode prog_2_method_4_code 15 = .ok (.iload_n 2, 1) := by decide +kernel
theorem d_Agreements_listConflicts_16 : decode prog_2_method_4_code 16 = .ok (.iconst 1, 1) := by decide +kernel
theorem d_Agreements_listConflicts_17 : decode prog_2_method_4_code 17 = .ok (.iadd, 1) := by decide +kernel
theorem d_Agreements_listConflicts_18 : decode prog_2_method_4_code 18 = .ok (.istore_n 3, 1) := by decide +kernel
theorem d_Agreements_listConflicts_19 : decode prog_2_method_4_code 19 = .ok (.iload_n 3, 1) := by decide +kernel
theorem d_Agreements_listConflicts_20 : decode prog_2_method_4_code 20 = .ok (.iconst 5, 1) := by decide +kernel
theorem d_Agreements_listConflicts_21 : decode prog_2_method_4_code 21 = .ok (.if_icmp .ge 59, 3) := by decide +kernel
theorem d_Agreements_listConflicts_24 : decode prog_2_method_4_code 24 = .ok (.aload_n 0, 1) := by decide +kernel
theorem d_Agreements_listConflicts_25 : decode prog_2_method_4_code 25 = .ok (.iload_n 1, 1) := by decide +kernel
theorem d_Agreements_listConflicts_26 : decode prog_2_method_4_code 26 = .ok (.iload_n 2, 1) := by decide +kernel
theorem d_Agreements_listConflicts_27 : decode prog_2_method_4_code 27 = .ok (.iload_n 3, 1) := by decide +kernel
theorem d_Agreements_listConflicts_28 : decode prog_2_method_4_code 28 = .ok (.invokevirtual 34, 3) := by decide +kernel
theorem d_Agreements_listConflicts_31 : decode prog_2_method_4_code 31 = .ok (.ifCond .eq 43, 3) := by decide +kernel
theorem d_Agreements_listConflicts_34 : decode prog_2_method_4_code 34 = .ok (.aload_n 0, 1) := by decide +kernel
theorem d_Agreements_listConflicts_35 : decode prog_2_method_4_code 35 = .ok (.getfield 16, 3) := by decide +kernel
theorem d_Agreements_listConflicts_38 : decode prog_2_method_4_code 38 = .ok (.aload_n 0, 1) := by decide +kernel
theorem d_Agreements_listConflicts_39 : decode prog_2_method_4_code 39 = .ok (.getfield 26, 3) := by decide +kernel
theorem d_Agreements_listConflicts_42 : decode prog_2_method_4_code 42 = .ok (.iload_n 1, 1) := by decide +kernel
theorem d_Agreements_listConflicts_43 : decode prog_2_method_4_code 43 = .ok (.iastore, 1) := by decide +kernel
theorem d_Agreements_listConflicts_44 : decode prog_2_method_4_code 44 = .ok (.aload_n 0, 1) := by decide +kernel
theorem d_Agreements_listConflicts_45 : decode prog_2_method_4_code 45 = .ok (.getfield 20, 3) := by decide +kernel
theorem d_Agreements_listConflicts_48 : decode prog_2_method_4_code 48 = .ok (.aload_n 0, 1) := by decide +kernel
theorem d_Agreements_listConflicts_49 : decode prog_2_method_4_code 49 = .ok (.getfield 26, 3) := by decide +kernel
theorem d_Agreements_listConflicts_52 : decode prog_2_method_4_code 52 = .ok (.iload_n 2, 1) := by decide +kernel
theorem d_Agreements_listConflicts_53 : decode prog_2_method_4_code 53 = .ok (.iastore, 1) := by decide +kernel
theorem d_Agreements_listConflicts_54 : decode prog_2_method_4_code 54 = .ok (.aload_n 0, 1) := by decide +kernel
theorem d_Agreements_listConflicts_55 : decode prog_2_method_4_code 55 = .ok (.getfield 23, 3) := by decide +kernel
theorem d_Agreements_listConflicts_58 : decode prog_2_method_4_code 58 = .ok (.aload_n 0, 1) := by decide +kernel
theorem d_Agreements_listConflicts_59 : decode prog_2_method_4_code 59 = .ok (.getfield 26, 3) := by decide +kernel
theorem d_Agreements_listConflicts_62 : decode prog_2_method_4_code 62 = .ok (.iload_n 3, 1) := by decide +kernel
theorem d_Agreements_listConflicts_63 : decode prog_2_method_4_code 63 = .ok (.iastore, 1) := by decide +kernel
theorem d_Agreements_listConflicts_64 : decode prog_2_method_4_code 64 = .ok (.aload_n 0, 1) := by decide +kernel
theorem d_Agreements_listConflicts_65 : decode prog_2_method_4_code 65 = .ok (.dup, 1) := by decide +kernel
theorem d_Agreements_listConflicts_66 : decode prog_2_method_4_code 66 = .ok (.getfield 26, 3) := by decide +kernel
theorem d_Agreements_listConflicts_69 : decode prog_2_method_4_code 69 = .ok (.iconst 1, 1) := by decide +kernel
theorem d_Agreements_listConflicts_70 : decode prog_2_method_4_code 70 = .ok (.iadd, 1) := by decide +kernel
theorem d_Agreements_listConflicts_71 : decode prog_2_method_4_code 71 = .ok (.putfield 26, 3) := by decide +kernel
theorem d_Agreements_listConflicts_74 : decode prog_2_method_4_code 74 = .ok (.iinc 3 1, 3) := by decide +kernel
theorem d_Agreements_listConflicts_77 : decode prog_2_method_4_code 77 = .ok (.goto (-58), 3) := by decide +kernel
theorem d_Agreements_listConflicts_80 : decode prog_2_method_4_code 80 = .ok (.iinc 2 1, 3) := by decide +kernel
theorem d_Agreements_listConflicts_83 : decode prog_2_method_4_code 83 = .ok (.goto (-73), 3) := by decide +kernel
theorem d_Agreements_listConflicts_86 : decode prog_2_method_4_code 86 = .ok (.iinc 1 1, 3) := by decide +kernel
theorem d_Agreements_listConflicts_89 : decode prog_2_method_4_code 89 = .ok (.goto (-87), 3) := by decide +kernel
theorem d_Agreements_listConflicts_92 : decode prog_2_method_4_code 92 = .ok (.return_, 1) := by decide +kernel
theorem d_LinkAudit_agree_0 : decode prog_1_method_27_code 0 = .ok (.aload_n 0, 1) := by decide +kernel
theorem d_LinkAudit_agree_1 : decode prog_1_method_27_code 1 = .ok (.getfield 82, 3) := by decide +kernel
theorem d_LinkAudit_agree_4 : decode prog_1_method_27_code 4 = .ok (.ifCond .eq 4, 3) := by decide +kernel
theorem d_LinkAudit_agree_7 : decode prog_1_method_27_code 7 = .ok (.return_, 1) := by decide +kernel
theorem d_LinkAudit_agree_8 : decode prog_1_method_27_code 8 = .ok (.aload_n 0, 1) := by decide +kernel
theorem d_LinkAudit_agree_9 : decode prog_1_method_27_code 9 = .ok (.getfield 74, 3) := by decide +kernel
theorem d_LinkAudit_agree_12 : decode prog_1_method_27_code 12 = .ok (.invokevirtual 208, 3) := by decide +kernel
theorem d_LinkAudit_agree_15 : decode prog_1_method_27_code 15 = .ok (.iconst 0, 1) := by decide +kernel
theorem d_LinkAudit_agree_16 : decode prog_1_method_27_code 16 = .ok (.istore_n 1, 1) := by decide +kernel
theorem d_LinkAudit_agree_17 : decode prog_1_method_27_code 17 = .ok (.iload_n 1, 1) := by decide +kernel
theorem d_LinkAudit_agree_18 : decode prog_1_method_27_code 18 = .ok (.aload_n 0, 1) := by decide +kernel
theorem d_LinkAudit_agree_19 : decode prog_1_method_27_code 19 = .ok (.getfield 33, 3) := by decide +kernel
theorem d_LinkAudit_agree_22 : decode prog_1_method_27_code 22 = .ok (.getfield 139, 3) := by decide +kernel
theorem d_LinkAudit_agree_25 : decode prog_1_method_27_code 25 = .ok (.if_icmp .ge 48, 3) := by decide +kernel
theorem d_LinkAudit_agree_28 : decode prog_1_method_27_code 28 = .ok (.aload_n 0, 1) := by decide +kernel
theorem d_LinkAudit_agree_29 : decode prog_1_method_27_code 29 = .ok (.getfield 56, 3) := by decide +kernel
theorem d_LinkAudit_agree_32 : decode prog_1_method_27_code 32 = .ok (.iload_n 1, 1) := by decide +kernel
theorem d_LinkAudit_agree_33 : decode prog_1_method_27_code 33 = .ok (.invokevirtual 150, 3) := by decide +kernel
theorem d_LinkAudit_agree_36 : decode prog_1_method_27_code 36 = .ok (.istore_n 2, 1) := by decide +kernel
theorem d_LinkAudit_agree_37 : decode prog_1_method_27_code 37 = .ok (.iload_n 2, 1) := by decide +kernel
theorem d_LinkAudit_agree_38 : decode prog_1_method_27_code 38 = .ok (.ifCond .le 29, 3) := by decide +kernel
theorem d_LinkAudit_agree_41 : decode prog_1_method_27_code 41 = .ok (.aload_n 0, 1) := by decide +kernel
theorem d_LinkAudit_agree_42 : decode prog_1_method_27_code 42 = .ok (.getfield 33, 3) := by decide +kernel
theorem d_LinkAudit_agree_45 : decode prog_1_method_27_code 45 = .ok (.getfield 211, 3) := by decide +kernel
theorem d_LinkAudit_agree_48 : decode prog_1_method_27_code 48 = .ok (.iload_n 1, 1) := by decide +kernel
theorem d_LinkAudit_agree_49 : decode prog_1_method_27_code 49 = .ok (.iaload, 1) := by decide +kernel
theorem d_LinkAudit_agree_50 : decode prog_1_method_27_code 50 = .ok (.ifCond .eq 17, 3) := by decide +kernel
theorem d_LinkAudit_agree_53 : decode prog_1_method_27_code 53 = .ok (.aload_n 0, 1) := by decide +kernel
theorem d_LinkAudit_agree_54 : decode prog_1_method_27_code 54 = .ok (.iload_n 2, 1) := by decide +kernel
theorem d_LinkAudit_agree_55 : decode prog_1_method_27_code 55 = .ok (.aload_n 0, 1) := by decide +kernel
theorem d_LinkAudit_agree_56 : decode prog_1_method_27_code 56 = .ok (.getfield 33, 3) := by decide +kernel
theorem d_LinkAudit_agree_59 : decode prog_1_method_27_code 59 = .ok (.getfield 214, 3) := by decide +kernel
theorem d_LinkAudit_agree_62 : decode prog_1_method_27_code 62 = .ok (.iload_n 1, 1) := by decide +kernel
theorem d_LinkAudit_agree_63 : decode prog_1_method_27_code 63 = .ok (.iaload, 1) := by decide +kernel
theorem d_LinkAudit_agree_64 : decode prog_1_method_27_code 64 = .ok (.invokevirtual 217, 3) := by decide +kernel
theorem d_LinkAudit_agree_67 : decode prog_1_method_27_code 67 = .ok (.iinc 1 1, 3) := by decide +kernel
theorem d_LinkAudit_agree_70 : decode prog_1_method_27_code 70 = .ok (.goto (-53), 3) := by decide +kernel
theorem d_LinkAudit_agree_73 : decode prog_1_method_27_code 73 = .ok (.iconst 1, 1) := by decide +kernel
theorem d_LinkAudit_agree_74 : decode prog_1_method_27_code 74 = .ok (.istore_n 1, 1) := by decide +kernel
theorem d_LinkAudit_agree_75 : decode prog_1_method_27_code 75 = .ok (.iload_n 1, 1) := by decide +kernel
theorem d_LinkAudit_agree_76 : decode prog_1_method_27_code 76 = .ok (.aload_n 0, 1) := by decide +kernel
theorem d_LinkAudit_agree_77 : decode prog_1_method_27_code 77 = .ok (.getfield 26, 3) := by decide +kernel
theorem d_LinkAudit_agree_80 : decode prog_1_method_27_code 80 = .ok (.getfield 186, 3) := by decide +kernel
theorem d_LinkAudit_agree_83 : decode prog_1_method_27_code 83 = .ok (.if_icmp .gt 54, 3) := by decide +kernel
theorem d_LinkAudit_agree_86 : decode prog_1_method_27_code 86 = .ok (.iconst 1, 1) := by decide +kernel
theorem d_LinkAudit_agree_87 : decode prog_1_method_27_code 87 = .ok (.istore_n 2, 1) := by decide +kernel
theorem d_LinkAudit_agree_88 : decode prog_1_method_27_code 88 = .ok (.iload_n 2, 1) := by decide +kernel
theorem d_LinkAudit_agree_89 : decode prog_1_method_27_code 89 = .ok (.aload_n 0, 1) := by decide +kernel
theorem d_LinkAudit_agree_90 : decode prog_1_method_27_code 90 = .ok (.getfield 26, 3) := by decide +kernel
theorem d_LinkAudit_agree_93 : decode prog_1_method_27_code 93 = .ok (.getfield 186, 3) := by decide +kernel
theorem d_LinkAudit_agree_96 : decode prog_1_method_27_code 96 = .ok (.if_icmp .gt 35, 3) := by decide +kernel
theorem d_LinkAudit_agree_99 : decode prog_1_method_27_code 99 = .ok (.aload_n 0, 1) := by decide +kernel
theorem d_LinkAudit_agree_100 : decode prog_1_method_27_code 100 = .ok (.getfield 65, 3) := by decide +kernel
theorem d_LinkAudit_agree_103 : decode prog_1_method_27_code 103 = .ok (.iload_n 1, 1) := by decide +kernel
theorem d_LinkAudit_agree_104 : decode prog_1_method_27_code 104 = .ok (.iload_n 2, 1) := by decide +kernel
theorem d_LinkAudit_agree_105 : decode prog_1_method_27_code 105 = .ok (.invokevirtual 163, 3) := by decide +kernel
theorem d_LinkAudit_agree_108 : decode prog_1_method_27_code 108 = .ok (.ifCond .eq 17, 3) := by decide +kernel
theorem d_LinkAudit_agree_111 : decode prog_1_method_27_code 111 = .ok (.aload_n 0, 1) := by decide +kernel
theorem d_LinkAudit_agree_112 : decode prog_1_method_27_code 112 = .ok (.iload_n 2, 1) := by decide +kernel
theorem d_LinkAudit_agree_113 : decode prog_1_method_27_code 113 = .ok (.aload_n 0, 1) := by decide +kernel
theorem d_LinkAudit_agree_114 : decode prog_1_method_27_code 114 = .ok (.getfield 26, 3) := by decide +kernel
theorem d_LinkAudit_agree_117 : decode prog_1_method_27_code 117 = .ok (.getfield 221, 3) := by decide +kernel
theorem d_LinkAudit_agree_120 : decode prog_1_method_27_code 120 = .ok (.iload_n 1, 1) := by decide +kernel
theorem d_LinkAudit_agree_121 : decode prog_1_method_27_code 121 = .ok (.iaload, 1) := by decide +kernel
theorem d_LinkAudit_agree_122 : decode prog_1_method_27_code 122 = .ok (.invokevirtual 217, 3) := by decide +kernel
theorem d_LinkAudit_agree_125 : decode prog_1_method_27_code 125 = .ok (.iinc 2 1, 3) := by decide +kernel
theorem d_LinkAudit_agree_128 : decode prog_1_method_27_code 128 = .ok (.goto (-40), 3) := by decide +kernel
theorem d_LinkAudit_agree_131 : decode prog_1_method_27_code 131 = .ok (.iinc 1 1, 3) := by decide +kernel
theorem d_LinkAudit_agree_134 : decode prog_1_method_27_code 134 = .ok (.goto (-59), 3) := by decide +kernel
theorem d_LinkAudit_agree_137 : decode prog_1_method_27_code 137 = .ok (.aload_n 0, 1) := by decide +kernel
theorem d_LinkAudit_agree_138 : decode prog_1_method_27_code 138 = .ok (.getfield 74, 3) := by decide +kernel
theorem d_LinkAudit_agree_141 : decode prog_1_method_27_code 141 = .ok (.invokevirtual 224, 3) := by decide +kernel
theorem d_LinkAudit_agree_144 : decode prog_1_method_27_code 144 = .ok (.aload_n 0, 1) := by decide +kernel
theorem d_LinkAudit_agree_145 : decode prog_1_method_27_code 145 = .ok (.iconst 1, 1) := by decide +kernel
theorem d_LinkAudit_agree_146 : decode prog_1_method_27_code 146 = .ok (.putfield 82, 3) := by decide +kernel
theorem d_LinkAudit_agree_149 : decode prog_1_method_27_code 149 = .ok (.return_, 1) := by decide +kernel
theorem d_LinkAudit_conflicts_0 : decode prog_1_method_14_code 0 = .ok (.aload_n 0, 1) := by decide +kernel
theorem d_LinkAudit_conflicts_1 : decode prog_1_method_14_code 1 = .ok (.invokevirtual 144, 3) := by decide +kernel
theorem d_LinkAudit_conflicts_4 : decode prog_1_method_14_code 4 = .ok (.aload_n 0, 1) := by decide +kernel
theorem d_LinkAudit_conflicts_5 : decode prog_1_method_14_code 5 = .ok (.invokevirtual 170, 3) := by decide +kernel
theorem d_LinkAudit_conflicts_8 : decode prog_1_method_14_code 8 = .ok (.aload_n 0, 1) := by decide +kernel
theorem d_LinkAudit_conflicts_9 : decode prog_1_method_14_code 9 = .ok (.getfield 74, 3) := by decide +kernel
theorem d_LinkAudit_conflicts_12 : decode prog_1_method_14_code 12 = .ok (.getfield 173, 3) := by decide +kernel
theorem d_LinkAudit_conflicts_15 : decode prog_1_method_14_code 15 = .ok (.ireturn, 1) := by decide +kernel
theorem d_LinkAudit_conflict_0 : decode prog_1_method_15_code 0 = .ok (.aload_n 0, 1) := by decide +kernel
theorem d_LinkAudit_conflict_1 : decode prog_1_method_15_code 1 = .ok (.invokevirtual 144, 3) := by decide +kernel
theorem d_LinkAudit_conflict_4 : decode prog_1_method_15_code 4 = .ok (.aload_n 0, 1) := by decide +kernel
theorem d_LinkAudit_conflict_5 : decode prog_1_method_15_code 5 = .ok (.invokevirtual 170, 3) := by decide +kernel
theorem d_LinkAudit_conflict_8 : decode prog_1_method_15_code 8 = .ok (.iload_n 1, 1) := by decide +kernel
theorem d_LinkAudit_conflict_9 : decode prog_1_method_15_code 9 = .ok (.aload_n 0, 1) := by decide +kernel
theorem d_LinkAudit_conflict_10 : decode prog_1_method_15_code 10 = .ok (.getfield 74, 3) := by decide +kernel
theorem d_LinkAudit_conflict_13 : decode prog_1_method_15_code 13 = .ok (.getfield 173, 3) := by decide +kernel
theorem d_LinkAudit_conflict_16 : decode prog_1_method_15_code 16 = .ok (.invokestatic 89, 3) := by decide +kernel
theorem d_LinkAudit_conflict_19 : decode prog_1_method_15_code 19 = .ok (.ifCond .ne 5, 3) := by decide +kernel
theorem d_LinkAudit_conflict_22 : decode prog_1_method_15_code 22 = .ok (.iconst (-1), 1) := by decide +kernel
theorem d_LinkAudit_conflict_23 : decode prog_1_method_15_code 23 = .ok (.ireturn, 1) := by decide +kernel
theorem d_LinkAudit_conflict_24 : decode prog_1_method_15_code 24 = .ok (.iload_n 2, 1) := by decide +kernel
theorem d_LinkAudit_conflict_25 : decode prog_1_method_15_code 25 = .ok (.tableswitch 57 0 2 #[27, 37, 47], 27) := by decide +kernel
theorem d_LinkAudit_conflict_52 : decode prog_1_method_15_code 52 = .ok (.aload_n 0, 1) := by decide +kernel
theorem d_LinkAudit_conflict_53 : decode prog_1_method_15_code 53 = .ok (.getfield 74, 3) := by decide +kernel
theorem d_LinkAudit_conflict_56 : decode prog_1_method_15_code 56 = .ok (.getfield 174, 3) := by decide +kernel
theorem d_LinkAudit_conflict_59 : decode prog_1_method_15_code 59 = .ok (.iload_n 1, 1) := by decide +kernel
theorem d_LinkAudit_conflict_60 : decode prog_1_method_15_code 60 = .ok (.iaload, 1) := by decide +kernel
theorem d_LinkAudit_conflict_61 : decode prog_1_method_15_code 61 = .ok (.ireturn, 1) := by decide +kernel
theorem d_LinkAudit_conflict_62 : decode prog_1_method_15_code 62 = .ok (.aload_n 0, 1) := by decide +kernel
theorem d_LinkAudit_conflict_63 : decode prog_1_method_15_code 63 = .ok (.getfield 74, 3) := by decide +kernel
theorem d_LinkAudit_conflict_66 : decode prog_1_method_15_code 66 = .ok (.getfield 177, 3) := by decide +kernel
theorem d_LinkAudit_conflict_69 : decode prog_1_method_15_code 69 = .ok (.iload_n 1, 1) := by decide +kernel
theorem d_LinkAudit_conflict_70 : decode prog_1_method_15_code 70 = .ok (.iaload, 1) := by decide +kernel
theorem d_LinkAudit_conflict_71 : decode prog_1_method_15_code 71 = .ok (.ireturn, 1) := by decide +kernel
theorem d_LinkAudit_conflict_72 : decode prog_1_method_15_code 72 = .ok (.aload_n 0, 1) := by decide +kernel
theorem d_LinkAudit_conflict_73 : decode prog_1_method_15_code 73 = .ok (.getfield 74, 3) := by decide +kernel
theorem d_LinkAudit_conflict_76 : decode prog_1_method_15_code 76 = .ok (.getfield 180, 3) := by decide +kernel
theorem d_LinkAudit_conflict_79 : decode prog_1_method_15_code 79 = .ok (.iload_n 1, 1) := by decide +kernel
theorem d_LinkAudit_conflict_80 : decode prog_1_method_15_code 80 = .ok (.iaload, 1) := by decide +kernel
theorem d_LinkAudit_conflict_81 : decode prog_1_method_15_code 81 = .ok (.ireturn, 1) := by decide +kernel
theorem d_LinkAudit_conflict_82 : decode prog_1_method_15_code 82 = .ok (.iconst (-1), 1) := by decide +kernel
theorem d_LinkAudit_conflict_83 : decode prog_1_method_15_code 83 = .ok (.ireturn, 1) := by decide +kernel
theorem d_Resolver_codeCount_0 : decode prog_9_method_2_code 0 = .ok (.iconst 0, 1) := by decide +kernel
theorem d_Resolver_codeCount_1 : decode prog_9_method_2_code 1 = .ok (.istore_n 1, 1) := by decide +kernel
theorem d_Resolver_codeCount_2 : decode prog_9_method_2_code 2 = .ok (.iconst 0, 1) := by decide +kernel
theorem d_Resolver_codeCount_3 : decode prog_9_method_2_code 3 = .ok (.istore_n 2, 1) := by decide +kernel
theorem d_Resolver_codeCount_4 : decode prog_9_method_2_code 4 = .ok (.iload_n 2, 1) := by decide +kernel
theorem d_Resolver_codeCount_5 : decode prog_9_method_2_code 5 = .ok (.aload_n 0, 1) := by decide +kernel
theorem d_Resolver_codeCount_6 : decode prog_9_method_2_code 6 = .ok (.getfield 34, 3) := by decide +kernel
theorem d_Resolver_codeCount_9 : decode prog_9_method_2_code 9 = .ok (.getfield 42, 3) := by decide +kernel
theorem d_Resolver_codeCount_12 : decode prog_9_method_2_code 12 = .ok (.if_icmp .ge 20, 3) := by decide +kernel
theorem d_Resolver_codeCount_15 : decode prog_9_method_2_code 15 = .ok (.aload_n 0, 1) := by decide +kernel
theorem d_Resolver_codeCount_16 : decode prog_9_method_2_code 16 = .ok (.iload_n 2, 1) := by decide +kernel
theorem d_Resolver_codeCount_17 : decode prog_9_method_2_code 17 = .ok (.invokevirtual 47, 3) := by decide +kernel
theorem d_Resolver_codeCount_20 : decode prog_9_method_2_code 20 = .ok (.ifCond .ge 6, 3) := by decide +kernel
theorem d_Resolver_codeCount_23 : decode prog_9_method_2_code 23 = .ok (.iinc 1 1, 3) := by decide +kernel
theorem d_Resolver_codeCount_26 : decode prog_9_method_2_code 26 = .ok (.iinc 2 1, 3) := by decide +kernel
theorem d_Resolver_codeCount_29 : decode prog_9_method_2_code 29 = .ok (.goto (-25), 3) := by decide +kernel
theorem d_Resolver_codeCount_32 : decode prog_9_method_2_code 32 = .ok (.iload_n 1, 1) := by decide +kernel
theorem d_Resolver_codeCount_33 : decode prog_9_method_2_code 33 = .ok (.ireturn, 1) := by decide +kernel
theorem d_LinkAudit_faults_0 : decode prog_1_method_16_code 0 = .ok (.aload_n 0, 1) := by decide +kernel
theorem d_LinkAudit_faults_1 : decode prog_1_method_16_code 1 = .ok (.invokevirtual 144, 3) := by decide +kernel
theorem d_LinkAudit_faults_4 : decode prog_1_method_16_code 4 = .ok (.aload_n 0, 1) := by decide +kernel
theorem d_LinkAudit_faults_5 : decode prog_1_method_16_code 5 = .ok (.invokevirtual 170, 3) := by decide +kernel
theorem d_LinkAudit_faults_8 : decode prog_1_method_16_code 8 = .ok (.aload_n 0, 1) := by decide +kernel
theorem d_LinkAudit_faults_9 : decode prog_1_method_16_code 9 = .ok (.getfield 56, 3) := by decide +kernel
theorem d_LinkAudit_faults_12 : decode prog_1_method_16_code 12 = .ok (.invokevirtual 183, 3) := by decide +kernel
theorem d_LinkAudit_faults_15 : decode prog_1_method_16_code 15 = .ok (.aload_n 0, 1) := by decide +kernel
theorem d_LinkAudit_faults_16 : decode prog_1_method_16_code 16 = .ok (.getfield 65, 3) := by decide +kernel
theorem d_LinkAudit_faults_19 : decode prog_1_method_16_code 19 = .ok (.invokevirtual 166, 3) := by decide +kernel
theorem d_LinkAudit_faults_22 : decode prog_1_method_16_code 22 = .ok (.iadd, 1) := by decide +kernel
theorem d_LinkAudit_faults_23 : decode prog_1_method_16_code 23 = .ok (.aload_n 0, 1) := by decide +kernel
theorem d_LinkAudit_faults_24 : decode prog_1_method_16_code 24 = .ok (.getfield 74, 3) := by decide +kernel
theorem d_LinkAudit_faults_27 : decode prog_1_method_16_code 27 = .ok (.getfield 173, 3) := by decide +kernel
theorem d_LinkAudit_faults_30 : decode prog_1_method_16_code 30 = .ok (.iadd, 1) := by decide +kernel
theorem d_LinkAudit_faults_31 : decode prog_1_method_16_code 31 = .ok (.ireturn, 1) := by decide +kernel
theorem d_LinkAudit_count_0 : decode prog_1_method_17_code 0 = .ok (.iload_n 1, 1) := by decide +kernel
theorem d_LinkAudit_count_1 : decode prog_1_method_17_code 1 = .ok (.tableswitch 51 0 2 #[27, 35, 43], 27) := by decide +kernel
theorem d_LinkAudit_count_28 : decode prog_1_method_17_code 28 = .ok (.aload_n 0, 1) := by decide +kernel
theorem d_LinkAudit_count_29 : decode prog_1_method_17_code 29 = .ok (.getfield 19, 3) := by decide +kernel
theorem d_LinkAudit_count_32 : decode prog_1_method_17_code 32 = .ok (.getfield 115, 3) := by decide +kernel
theorem d_LinkAudit_count_35 : decode prog_1_method_17_code 35 = .ok (.ireturn, 1) := by decide +kernel
theorem d_LinkAudit_count_36 : decode prog_1_method_17_code 36 = .ok (.aload_n 0, 1) := by decide +kernel
theorem d_LinkAudit_count_37 : decode prog_1_method_17_code 37 = .ok (.getfield 26, 3) := by decide +kernel
theorem d_LinkAudit_count_40 : decode prog_1_method_17_code 40 = .ok (.getfield 186, 3) := by decide +kernel
theorem d_LinkAudit_count_43 : decode prog_1_method_17_code 43 = .ok (.ireturn, 1) := by decide +kernel
theorem d_LinkAudit_count_44 : decode prog_1_method_17_code 44 = .ok (.aload_n 0, 1) := by decide +kernel
theorem d_LinkAudit_count_45 : decode prog_1_method_17_code 45 = .ok (.getfield 33, 3) := by decide +kernel
theorem d_LinkAudit_count_48 : decode prog_1_method_17_code 48 = .ok (.getfield 139, 3) := by decide +kernel
theorem d_LinkAudit_count_51 : decode prog_1_method_17_code 51 = .ok (.ireturn, 1) := by decide +kernel
theorem d_LinkAudit_count_52 : decode prog_1_method_17_code 52 = .ok (.iconst (-1), 1) := by decide +kernel
theorem d_LinkAudit_count_53 : decode prog_1_method_17_code 53 = .ok (.ireturn, 1) := by decide +kernel
theorem d_LinkAuditModel_in_0 : decode prog_12_method_2_code 0 = .ok (.iload_n 0, 1) := by decide +kernel
theorem d_LinkAuditModel_in_1 : decode prog_12_method_2_code 1 = .ok (.iload_n 1, 1) := by decide +kernel
theorem d_LinkAuditModel_in_2 : decode prog_12_method_2_code 2 = .ok (.if_icmp .lt 12, 3) := by decide +kernel
theorem d_LinkAuditModel_in_5 : decode prog_12_method_2_code 5 = .ok (.iload_n 0, 1) := by decide +kernel
theorem d_LinkAuditModel_in_6 : decode prog_12_method_2_code 6 = .ok (.iload_n 2, 1) := by decide +kernel
theorem d_LinkAuditModel_in_7 : decode prog_12_method_2_code 7 = .ok (.if_icmp .gt 7, 3) := by decide +kernel
theorem d_LinkAuditModel_in_10 : decode prog_12_method_2_code 10 = .ok (.iconst 1, 1) := by decide +kernel
theorem d_LinkAuditModel_in_11 : decode prog_12_method_2_code 11 = .ok (.goto 4, 3) := by decide +kernel
theorem d_LinkAuditModel_in_14 : decode prog_12_method_2_code 14 = .ok (.iconst 0, 1) := by decide +kernel
theorem d_LinkAuditModel_in_15 : decode prog_12_method_2_code 15 = .ok (.ireturn, 1) := by decide +kernel
theorem d_LinkAuditModel_provide_0 : decode prog_12_method_3_code 0 = .ok (.iload_n 1, 1) := by decide +kernel
theorem d_LinkAuditModel_provide_1 : decode prog_12_method_3_code 1 = .ok (.iconst 1, 1) := by decide +kernel
theorem d_LinkAuditModel_provide_2 : decode prog_12_method_3_code 2 = .ok (.iconst 4, 1) := by decide +kernel
theorem d_LinkAuditModel_provide_3 : decode prog_12_method_3_code 3 = .ok (.invokestatic 92, 3) := by decide +kernel
theorem d_LinkAuditModel_provide_6 : decode prog_12_method_3_code 6 = .ok (.ifCond .eq 17, 3) := by decide +kernel
theorem d_LinkAuditModel_provide_9 : decode prog_12_method_3_code 9 = .ok (.iload_n 2, 1) := by decide +kernel
theorem d_LinkAuditModel_provide_10 : decode prog_12_method_3_code 10 = .ok (.iconst 0, 1) := by decide +kernel
theorem d_LinkAuditModel_provide_11 : decode prog_12_method_3_code 11 = .ok (.iconst 4, 1) := by decide +kernel
theorem d_LinkAuditModel_provide_12 : decode prog_12_method_3_code 12 = .ok (.invokestatic 92, 3) := by decide +kernel
theorem d_LinkAuditModel_provide_15 : decode prog_12_method_3_code 15 = .ok (.ifCond .eq 8, 3) := by decide +kernel
theorem d_LinkAuditModel_provide_18 : decode prog_12_method_3_code 18 = .ok (.iload_n 1, 1) := by decide +kernel
theorem d_LinkAuditModel_provide_19 : decode prog_12_method_3_code 19 = .ok (.iload_n 2, 1) := by decide +kernel
theorem d_LinkAuditModel_provide_20 : decode prog_12_method_3_code 20 = .ok (.if_icmp .ne 5, 3) := by decide +kernel
theorem d_LinkAuditModel_provide_23 : decode prog_12_method_3_code 23 = .ok (.iconst (-1), 1) := by decide +kernel
theorem d_LinkAuditModel_provide_24 : decode prog_12_method_3_code 24 = .ok (.ireturn, 1) := by decide +kernel
theorem d_LinkAuditModel_provide_25 : decode prog_12_method_3_code 25 = .ok (.iconst 0, 1) := by decide +kernel
theorem d_LinkAuditModel_provide_26 : decode prog_12_method_3_code 26 = .ok (.istore_n 3, 1) := by decide +kernel
theorem d_LinkAuditModel_provide_27 : decode prog_12_method_3_code 27 = .ok (.iload_n 3, 1) := by decide +kernel
theorem d_LinkAuditModel_provide_28 : decode prog_12_method_3_code 28 = .ok (.aload_n 0, 1) := by decide +kernel
theorem d_LinkAuditModel_provide_29 : decode prog_12_method_3_code 29 = .ok (.getfield 7, 3) := by decide +kernel
theorem d_LinkAuditModel_provide_32 : decode prog_12_method_3_code 32 = .ok (.iload_n 1, 1) := by decide +kernel
theorem d_LinkAuditModel_provide_33 : decode prog_12_method_3_code 33 = .ok (.iaload, 1) := by decide +kernel
theorem d_LinkAuditModel_provide_34 : decode prog_12_method_3_code 34 = .ok (.if_icmp .ge 25, 3) := by decide +kernel
theorem d_LinkAuditModel_provide_37 : decode prog_12_method_3_code 37 = .ok (.aload_n 0, 1) := by decide +kernel
theorem d_LinkAuditModel_provide_38 : decode prog_12_method_3_code 38 = .ok (.getfield 13, 3) := by decide +kernel
theorem d_LinkAuditModel_provide_41 : decode prog_12_method_3_code 41 = .ok (.iconst 3, 1) := by decide +kernel
theorem d_LinkAuditModel_provide_42 : decode prog_12_method_3_code 42 = .ok (.iload_n 1, 1) := by decide +kernel
theorem d_LinkAuditModel_provide_43 : decode prog_12_method_3_code 43 = .ok (.imul, 1) := by decide +kernel
theorem d_LinkAuditModel_provide_44 : decode prog_12_method_3_code 44 = .ok (.iload_n 3, 1) := by decide +kernel
theorem d_LinkAuditModel_provide_45 : decode prog_12_method_3_code 45 = .ok (.iadd, 1) := by decide +kernel
theorem d_LinkAuditModel_provide_46 : decode prog_12_method_3_code 46 = .ok (.iaload, 1) := by decide +kernel
theorem d_LinkAuditModel_provide_47 : decode prog_12_method_3_code 47 = .ok (.iload_n 2, 1) := by decide +kernel
theorem d_LinkAuditModel_provide_48 : decode prog_12_method_3_code 48 = .ok (.if_icmp .ne 5, 3) := by decide +kernel
theorem d_LinkAuditModel_provide_51 : decode prog_12_method_3_code 51 = .ok (.iconst (-1), 1) := by decide +kernel
theorem d_LinkAuditModel_provide_52 : decode prog_12_method_3_code 52 = .ok (.ireturn, 1) := by decide +kernel
theorem d_LinkAuditModel_provide_53 : decode prog_12_method_3_code 53 = .ok (.iinc 3 1, 3) := by decide +kernel
theorem d_LinkAuditModel_provide_56 : decode prog_12_method_3_code 56 = .ok (.goto (-29), 3) := by decide +kernel
theorem d_LinkAuditModel_provide_59 : decode prog_12_method_3_code 59 = .ok (.aload_n 0, 1) := by decide +kernel
theorem d_LinkAuditModel_provide_60 : decode prog_12_method_3_code 60 = .ok (.getfield 7, 3) := by decide +kernel
theorem d_LinkAuditModel_provide_63 : decode prog_12_method_3_code 63 = .ok (.iload_n 1, 1) := by decide +kernel
theorem d_LinkAuditModel_provide_64 : decode prog_12_method_3_code 64 = .ok (.iaload, 1) := by decide +kernel
theorem d_LinkAuditModel_provide_65 : decode prog_12_method_3_code 65 = .ok (.iconst 3, 1) := by decide +kernel
theorem d_LinkAuditModel_provide_66 : decode prog_12_method_3_code 66 = .ok (.if_icmp .ne 6, 3) := by decide +kernel
theorem d_LinkAuditModel_provide_69 : decode prog_12_method_3_code 69 = .ok (.bipush (-2), 2) := by decide +kernel
theorem d_LinkAuditModel_provide_71 : decode prog_12_method_3_code 71 = .ok (.ireturn, 1) := by decide +kernel
theorem d_LinkAuditModel_provide_72 : decode prog_12_method_3_code 72 = .ok (.aload_n 0, 1) := by decide +kernel
theorem d_LinkAuditModel_provide_73 : decode prog_12_method_3_code 73 = .ok (.getfield 13, 3) := by decide +kernel
theorem d_LinkAuditModel_provide_76 : decode prog_12_method_3_code 76 = .ok (.iconst 3, 1) := by decide +kernel
theorem d_LinkAuditModel_provide_77 : decode prog_12_method_3_code 77 = .ok (.iload_n 1, 1) := by decide +kernel
theorem d_LinkAuditModel_provide_78 : decode prog_12_method_3_code 78 = .ok (.imul, 1) := by decide +kernel
theorem d_LinkAuditModel_provide_79 : decode prog_12_method_3_code 79 = .ok (.aload_n 0, 1) := by decide +kernel
theorem d_LinkAuditModel_provide_80 : decode prog_12_method_3_code 80 = .ok (.getfield 7, 3) := by decide +kernel
theorem d_LinkAuditModel_provide_83 : decode prog_12_method_3_code 83 = .ok (.iload_n 1, 1) := by decide +kernel
theorem d_LinkAuditModel_provide_84 : decode prog_12_method_3_code 84 = .ok (.iaload, 1) := by decide +kernel
theorem d_LinkAuditModel_provide_85 : decode prog_12_method_3_code 85 = .ok (.iadd, 1) := by decide +kernel
theorem d_LinkAuditModel_provide_86 : decode prog_12_method_3_code 86 = .ok (.iload_n 2, 1) := by decide +kernel
theorem d_LinkAuditModel_provide_87 : decode prog_12_method_3_code 87 = .ok (.iastore, 1) := by decide +kernel
theorem d_LinkAuditModel_provide_88 : decode prog_12_method_3_code 88 = .ok (.aload_n 0, 1) := by decide +kernel
theorem d_LinkAuditModel_provide_89 : decode prog_12_method_3_code 89 = .ok (.getfield 7, 3) := by decide +kernel
theorem d_LinkAuditModel_provide_92 : decode prog_12_method_3_code 92 = .ok (.iload_n 1, 1) := by decide +kernel
theorem d_LinkAuditModel_provide_93 : decode prog_12_method_3_code 93 = .ok (.dup2, 1) := by decide +kernel
theorem d_LinkAuditModel_provide_94 : decode prog_12_method_3_code 94 = .ok (.iaload, 1) := by decide +kernel
theorem d_LinkAuditModel_provide_95 : decode prog_12_method_3_code 95 = .ok (.iconst 1, 1) := by decide +kernel
theorem d_LinkAuditModel_provide_96 : decode prog_12_method_3_code 96 = .ok (.iadd, 1) := by decide +kernel
theorem d_LinkAuditModel_provide_97 : decode prog_12_method_3_code 97 = .ok (.iastore, 1) := by decide +kernel
theorem d_LinkAuditModel_provide_98 : decode prog_12_method_3_code 98 = .ok (.aload_n 0, 1) := by decide +kernel
theorem d_LinkAuditModel_provide_99 : decode prog_12_method_3_code 99 = .ok (.getfield 7, 3) := by decide +kernel
theorem d_LinkAuditModel_provide_102 : decode prog_12_method_3_code 102 = .ok (.iload_n 1, 1) := by decide +kernel
theorem d_LinkAuditModel_provide_103 : decode prog_12_method_3_code 103 = .ok (.iaload, 1) := by decide +kernel
theorem d_LinkAuditModel_provide_104 : decode prog_12_method_3_code 104 = .ok (.ireturn, 1) := by decide +kernel
theorem d_LinkAuditModel_mask_0 : decode prog_12_method_4_code 0 = .ok (.iload_n 1, 1) := by decide +kernel
theorem d_LinkAuditModel_mask_1 : decode prog_12_method_4_code 1 = .ok (.iconst 1, 1) := by decide +kernel
theorem d_LinkAuditModel_mask_2 : decode prog_12_method_4_code 2 = .ok (.iconst 4, 1) := by decide +kernel
theorem d_LinkAuditModel_mask_3 : decode prog_12_method_4_code 3 = .ok (.invokestatic 92, 3) := by decide +kernel
theorem d_LinkAuditModel_mask_6 : decode prog_12_method_4_code 6 = .ok (.ifCond .eq 13, 3) := by decide +kernel
theorem d_LinkAuditModel_mask_9 : decode prog_12_method_4_code 9 = .ok (.iload_n 2, 1) := by decide +kernel
theorem d_LinkAuditModel_mask_10 : decode prog_12_method_4_code 10 = .ok (.iconst 0, 1) := by decide +kernel
theorem d_LinkAuditModel_mask_11 : decode prog_12_method_4_code 11 = .ok (.bipush 11, 2) := by decide +kernel
theorem d_LinkAuditModel_mask_13 : decode prog_12_method_4_code 13 = .ok (.invokestatic 92, 3) := by decide +kernel
theorem d_LinkAuditModel_mask_16 : decode prog_12_method_4_code 16 = .ok (.ifCond .ne 5, 3) := by decide +kernel
theorem d_LinkAuditModel_mask_19 : decode prog_12_method_4_code 19 = .ok (.iconst (-1), 1) := by decide +kernel
theorem d_LinkAuditModel_mask_20 : decode prog_12_method_4_code 20 = .ok (.ireturn, 1) := by decide +kernel
theorem d_LinkAuditModel_mask_21 : decode prog_12_method_4_code 21 = .ok (.aload_n 0, 1) := by decide +kernel
theorem d_LinkAuditModel_mask_22 : decode prog_12_method_4_code 22 = .ok (.getfield 16, 3) := by decide +kernel
theorem d_LinkAuditModel_mask_25 : decode prog_12_method_4_code 25 = .ok (.iload_n 1, 1) := by decide +kernel
theorem d_LinkAuditModel_mask_26 : decode prog_12_method_4_code 26 = .ok (.iload_n 3, 1) := by decide +kernel
theorem d_LinkAuditModel_mask_27 : decode prog_12_method_4_code 27 = .ok (.ifCond .eq 16, 3) := by decide +kernel
theorem d_LinkAuditModel_mask_30 : decode prog_12_method_4_code 30 = .ok (.aload_n 0, 1) := by decide +kernel
theorem d_LinkAuditModel_mask_31 : decode prog_12_method_4_code 31 = .ok (.getfield 16, 3) := by decide +kernel
theorem d_LinkAuditModel_mask_34 : decode prog_12_method_4_code 34 = .ok (.iload_n 1, 1) := by decide +kernel
theorem d_LinkAuditModel_mask_35 : decode prog_12_method_4_code 35 = .ok (.iaload, 1) := by decide +kernel
theorem d_LinkAuditModel_mask_36 : decode prog_12_method_4_code 36 = .ok (.iconst 1, 1) := by decide +kernel
theorem d_LinkAuditModel_mask_37 : decode prog_12_method_4_code 37 = .ok (.iload_n 2, 1) := by decide +kernel
theorem d_LinkAuditModel_mask_38 : decode prog_12_method_4_code 38 = .ok (.ishl, 1) := by decide +kernel
theorem d_LinkAuditModel_mask_39 : decode prog_12_method_4_code 39 = .ok (.ior, 1) := by decide +kernel
theorem d_LinkAuditModel_mask_40 : decode prog_12_method_4_code 40 = .ok (.goto 15, 3) := by decide +kernel
theorem d_LinkAuditModel_mask_43 : decode prog_12_method_4_code 43 = .ok (.aload_n 0, 1) := by decide +kernel
theorem d_LinkAuditModel_mask_44 : decode prog_12_method_4_code 44 = .ok (.getfield 16, 3) := by decide +kernel
theorem d_LinkAuditModel_mask_47 : decode prog_12_method_4_code 47 = .ok (.iload_n 1, 1) := by decide +kernel
theorem d_LinkAuditModel_mask_48 : decode prog_12_method_4_code 48 = .ok (.iaload, 1) := by decide +kernel
theorem d_LinkAuditModel_mask_49 : decode prog_12_method_4_code 49 = .ok (.iconst 1, 1) := by decide +kernel
theorem d_LinkAuditModel_mask_50 : decode prog_12_method_4_code 50 = .ok (.iload_n 2, 1) := by decide +kernel
theorem d_LinkAuditModel_mask_51 : decode prog_12_method_4_code 51 = .ok (.ishl, 1) := by decide +kernel
theorem d_LinkAuditModel_mask_52 : decode prog_12_method_4_code 52 = .ok (.iconst (-1), 1) := by decide +kernel
theorem d_LinkAuditModel_mask_53 : decode prog_12_method_4_code 53 = .ok (.ixor, 1) := by decide +kernel
theorem d_LinkAuditModel_mask_54 : decode prog_12_method_4_code 54 = .ok (.iand, 1) := by decide +kernel
theorem d_LinkAuditModel_mask_55 : decode prog_12_method_4_code 55 = .ok (.iastore, 1) := by decide +kernel
theorem d_LinkAuditModel_mask_56 : decode prog_12_method_4_code 56 = .ok (.iconst 0, 1) := by decide +kernel
theorem d_LinkAuditModel_mask_57 : decode prog_12_method_4_code 57 = .ok (.ireturn, 1) := by decide +kernel
theorem d_LinkAuditModel_own_0 : decode prog_12_method_5_code 0 = .ok (.iconst 1, 1) := by decide +kernel
theorem d_LinkAuditModel_own_1 : decode prog_12_method_5_code 1 = .ok (.istore_n 3, 1) := by decide +kernel
theorem d_LinkAuditModel_own_2 : decode prog_12_method_5_code 2 = .ok (.iload_n 3, 1) := by decide +kernel
theorem d_LinkAuditModel_own_3 : decode prog_12_method_5_code 3 = .ok (.aload_n 0, 1) := by decide +kernel
theorem d_LinkAuditModel_own_4 : decode prog_12_method_5_code 4 = .ok (.getfield 96, 3) := by decide +kernel
theorem d_LinkAuditModel_own_7 : decode prog_12_method_5_code 7 = .ok (.if_icmp .gt 31, 3) := by decide +kernel
theorem d_LinkAuditModel_own_10 : decode prog_12_method_5_code 10 = .ok (.aload_n 0, 1) := by decide +kernel
theorem d_LinkAuditModel_own_11 : decode prog_12_method_5_code 11 = .ok (.getfield 19, 3) := by decide +kernel
theorem d_LinkAuditModel_own_14 : decode prog_12_method_5_code 14 = .ok (.iload_n 3, 1) := by decide +kernel
theorem d_LinkAuditModel_own_15 : decode prog_12_method_5_code 15 = .ok (.iaload, 1) := by decide +kernel
theorem d_LinkAuditModel_own_16 : decode prog_12_method_5_code 16 = .ok (.iload_n 1, 1) := by decide +kernel
theorem d_LinkAuditModel_own_17 : decode prog_12_method_5_code 17 = .ok (.if_icmp .ne 15, 3) := by decide +kernel
theorem d_LinkAuditModel_own_20 : decode prog_12_method_5_code 20 = .ok (.aload_n 0, 1) := by decide +kernel
theorem d_LinkAuditModel_own_21 : decode prog_12_method_5_code 21 = .ok (.getfield 22, 3) := by decide +kernel
theorem d_LinkAuditModel_own_24 : decode prog_12_method_5_code 24 = .ok (.iload_n 3, 1) := by decide +kernel
theorem d_LinkAuditModel_own_25 : decode prog_12_method_5_code 25 = .ok (.iaload, 1) := by decide +kernel
theorem d_LinkAuditModel_own_26 : decode prog_12_method_5_code 26 = .ok (.iload_n 2, 1) := by decide +kernel
theorem d_LinkAuditModel_own_27 : decode prog_12_method_5_code 27 = .ok (.if_icmp .ne 5, 3) := by decide +kernel
theorem d_LinkAuditModel_own_30 : decode prog_12_method_5_code 30 = .ok (.iload_n 3, 1) := by decide +kernel
theorem d_LinkAuditModel_own_31 : decode prog_12_method_5_code 31 = .ok (.ireturn, 1) := by decide +kernel
theorem d_LinkAuditModel_own_32 : decode prog_12_method_5_code 32 = .ok (.iinc 3 1, 3) := by decide +kernel
theorem d_LinkAuditModel_own_35 : decode prog_12_method_5_code 35 = .ok (.goto (-33), 3) := by decide +kernel
theorem d_LinkAuditModel_own_38 : decode prog_12_method_5_code 38 = .ok (.iconst 0, 1) := by decide +kernel
theorem d_LinkAuditModel_own_39 : decode prog_12_method_5_code 39 = .ok (.ireturn, 1) := by decide +kernel
theorem d_LinkAuditModel_define_0 : decode prog_12_method_7_code 0 = .ok (.iload_n 1, 1) := by decide +kernel
theorem d_LinkAuditModel_define_1 : decode prog_12_method_7_code 1 = .ok (.iconst 0, 1) := by decide +kernel
theorem d_LinkAuditModel_define_2 : decode prog_12_method_7_code 2 = .ok (.iconst 4, 1) := by decide +kernel
theorem d_LinkAuditModel_define_3 : decode prog_12_method_7_code 3 = .ok (.invokestatic 92, 3) := by decide +kernel
theorem d_LinkAuditModel_define_6 : decode prog_12_method_7_code 6 = .ok (.ifCond .eq 46, 3) := by decide +kernel
theorem d_LinkAuditModel_define_9 : decode prog_12_method_7_code 9 = .ok (.iload_n 2, 1) := by decide +kernel
theorem d_LinkAuditModel_define_10 : decode prog_12_method_7_code 10 = .ok (.iconst 0, 1) := by decide +kernel
theorem d_LinkAuditModel_define_11 : decode prog_12_method_7_code 11 = .ok (.bipush 11, 2) := by decide +kernel
theorem d_LinkAuditModel_define_13 : decode prog_12_method_7_code 13 = .ok (.invokestatic 92, 3) := by decide +kernel
theorem d_LinkAuditModel_define_16 : decode prog_12_method_7_code 16 = .ok (.ifCond .eq 36, 3) := by decide +kernel
theorem d_LinkAuditModel_define_19 : decode prog_12_method_7_code 19 = .ok (.iload_n 3, 1) := by decide +kernel
theorem d_LinkAuditModel_define_20 : decode prog_12_method_7_code 20 = .ok (.iconst 0, 1) := by decide +kernel
theorem d_LinkAuditModel_define_21 : decode prog_12_method_7_code 21 = .ok (.bipush 15, 2) := by decide +kernel
theorem d_LinkAuditModel_define_23 : decode prog_12_method_7_code 23 = .ok (.invokestatic 92, 3) := by decide +kernel
theorem d_LinkAuditModel_define_26 : decode prog_12_method_7_code 26 = .ok (.ifCond .eq 26, 3) := by decide +kernel
theorem d_LinkAuditModel_define_29 : decode prog_12_method_7_code 29 = .ok (.iload 4, 2) := by decide +kernel
theorem d_LinkAuditModel_define_31 : decode prog_12_method_7_code 31 = .ok (.iconst 0, 1) := by decide +kernel
theorem d_LinkAuditModel_define_32 : decode prog_12_method_7_code 32 = .ok (.bipush 12, 2) := by decide +kernel
theorem d_LinkAuditModel_define_34 : decode prog_12_method_7_code 34 = .ok (.invokestatic 92, 3) := by decide +kernel
theorem d_LinkAuditModel_define_37 : decode prog_12_method_7_code 37 = .ok (.ifCond .eq 15, 3) := by decide +kernel
theorem d_LinkAuditModel_define_40 : decode prog_12_method_7_code 40 = .ok (.iload 5, 2) := by decide +kernel
theorem d_LinkAuditModel_define_42 : decode prog_12_method_7_code 42 = .ok (.iconst 0, 1) := by decide +kernel
theorem d_LinkAuditModel_define_43 : decode prog_12_method_7_code 43 = .ok (.sipush 4095, 3) := by decide +kernel
theorem d_LinkAuditModel_define_46 : decode prog_12_method_7_code 46 = .ok (.invokestatic 92, 3) := by decide +kernel
theorem d_LinkAuditModel_define_49 : decode prog_12_method_7_code 49 = .ok (.ifCond .ne 5, 3) := by decide +kernel
theorem d_LinkAuditModel_define_52 : decode prog_12_method_7_code 52 = .ok (.iconst (-1), 1) := by decide +kernel
theorem d_LinkAuditModel_define_53 : decode prog_12_method_7_code 53 = .ok (.ireturn, 1) := by decide +kernel
theorem d_LinkAuditModel_define_54 : decode prog_12_method_7_code 54 = .ok (.iload_n 3, 1) := by decide +kernel
theorem d_LinkAuditModel_define_55 : decode prog_12_method_7_code 55 = .ok (.bipush 8, 2) := by decide +kernel
theorem d_LinkAuditModel_define_57 : decode prog_12_method_7_code 57 = .ok (.iand, 1) := by decide +kernel
theorem d_LinkAuditModel_define_58 : decode prog_12_method_7_code 58 = .ok (.ifCond .eq 16, 3) := by decide +kernel
theorem d_LinkAuditModel_define_61 : decode prog_12_method_7_code 61 = .ok (.iload 4, 2) := by decide +kernel
theorem d_LinkAuditModel_define_63 : decode prog_12_method_7_code 63 = .ok (.bipush 12, 2) := by decide +kernel
theorem d_LinkAuditModel_define_65 : decode prog_12_method_7_code 65 = .ok (.if_icmp .lt 18, 3) := by decide +kernel
theorem d_LinkAuditModel_define_68 : decode prog_12_method_7_code 68 = .ok (.iload_n 3, 1) := by decide +kernel
theorem d_LinkAuditModel_define_69 : decode prog_12_method_7_code 69 = .ok (.iconst 2, 1) := by decide +kernel
theorem d_LinkAuditModel_define_70 : decode prog_12_method_7_code 70 = .ok (.iand, 1) := by decide +kernel
theorem d_LinkAuditModel_define_71 : decode prog_12_method_7_code 71 = .ok (.ifCond .ne 12, 3) := by decide +kernel
theorem d_LinkAuditModel_define_74 : decode prog_12_method_7_code 74 = .ok (.aload_n 0, 1) := by decide +kernel
theorem d_LinkAuditModel_define_75 : decode prog_12_method_7_code 75 = .ok (.iload_n 1, 1) := by decide +kernel
theorem d_LinkAuditModel_define_76 : decode prog_12_method_7_code 76 = .ok (.iload_n 2, 1) := by decide +kernel
theorem d_LinkAuditModel_define_77 : decode prog_12_method_7_code 77 = .ok (.invokevirtual 100, 3) := by decide +kernel
theorem d_LinkAuditModel_define_80 : decode prog_12_method_7_code 80 = .ok (.ifCond .le 5, 3) := by decide +kernel
theorem d_LinkAuditModel_define_83 : decode prog_12_method_7_code 83 = .ok (.iconst (-1), 1) := by decide +kernel
theorem d_LinkAuditModel_define_84 : decode prog_12_method_7_code 84 = .ok (.ireturn, 1) := by decide +kernel
theorem d_LinkAuditModel_define_85 : decode prog_12_method_7_code 85 = .ok (.aload_n 0, 1) := by decide +kernel
theorem d_LinkAuditModel_define_86 : decode prog_12_method_7_code 86 = .ok (.getfield 96, 3) := by decide +kernel
theorem d_LinkAuditModel_define_89 : decode prog_12_method_7_code 89 = .ok (.bipush 16, 2) := by decide +kernel
theorem d_LinkAuditModel_define_91 : decode prog_12_method_7_code 91 = .ok (.if_icmp .ne 6, 3) := by decide +kernel
theorem d_LinkAuditModel_define_94 : decode prog_12_method_7_code 94 = .ok (.bipush (-2), 2) := by decide +kernel
theorem d_LinkAuditModel_define_96 : decode prog_12_method_7_code 96 = .ok (.ireturn, 1) := by decide +kernel
theorem d_LinkAuditModel_define_97 : decode prog_12_method_7_code 97 = .ok (.aload_n 0, 1) := by decide +kernel
theorem d_LinkAuditModel_define_98 : decode prog_12_method_7_code 98 = .ok (.dup, 1) := by decide +kernel
theorem d_LinkAuditModel_define_99 : decode prog_12_method_7_code 99 = .ok (.getfield 96, 3) := by decide +kernel
theorem d_LinkAuditModel_define_102 : decode prog_12_method_7_code 102 = .ok (.iconst 1, 1) := by decide +kernel
theorem d_LinkAuditModel_define_103 : decode prog_12_method_7_code 103 = .ok (.iadd, 1) := by decide +kernel
theorem d_LinkAuditModel_define_104 : decode prog_12_method_7_code 104 = .ok (.putfield 96, 3) := by decide +kernel
theorem d_LinkAuditModel_define_107 : decode prog_12_method_7_code 107 = .ok (.aload_n 0, 1) := by decide +kernel
theorem d_LinkAuditModel_define_108 : decode prog_12_method_7_code 108 = .ok (.getfield 19, 3) := by decide +kernel
theorem d_LinkAuditModel_define_111 : decode prog_12_method_7_code 111 = .ok (.aload_n 0, 1) := by decide +kernel
theorem d_LinkAuditModel_define_112 : decode prog_12_method_7_code 112 = .ok (.getfield 96, 3) := by decide +kernel
theorem d_LinkAuditModel_define_115 : decode prog_12_method_7_code 115 = .ok (.iload_n 1, 1) := by decide +kernel
theorem d_LinkAuditModel_define_116 : decode prog_12_method_7_code 116 = .ok (.iastore, 1) := by decide +kernel
theorem d_LinkAuditModel_define_117 : decode prog_12_method_7_code 117 = .ok (.aload_n 0, 1) := by decide +kernel
theorem d_LinkAuditModel_define_118 : decode prog_12_method_7_code 118 = .ok (.getfield 22, 3) := by decide +kernel
theorem d_LinkAuditModel_define_121 : decode prog_12_method_7_code 121 = .ok (.aload_n 0, 1) := by decide +kernel
theorem d_LinkAuditModel_define_122 : decode prog_12_method_7_code 122 = .ok (.getfield 96, 3) := by decide +kernel
theorem d_LinkAuditModel_define_125 : decode prog_12_method_7_code 125 = .ok (.iload_n 2, 1) := by decide +kernel
theorem d_LinkAuditModel_define_126 : decode prog_12_method_7_code 126 = .ok (.iastore, 1) := by decide +kernel
theorem d_LinkAuditModel_define_127 : decode prog_12_method_7_code 127 = .ok (.aload_n 0, 1) := by decide +kernel
theorem d_LinkAuditModel_define_128 : decode prog_12_method_7_code 128 = .ok (.getfield 25, 3) := by decide +kernel
theorem d_LinkAuditModel_define_131 : decode prog_12_method_7_code 131 = .ok (.aload_n 0, 1) := by decide +kernel
theorem d_LinkAuditModel_define_132 : decode prog_12_method_7_code 132 = .ok (.getfield 96, 3) := by decide +kernel
theorem d_LinkAuditModel_define_135 : decode prog_12_method_7_code 135 = .ok (.iload_n 3, 1) := by decide +kernel
theorem d_LinkAuditModel_define_136 : decode prog_12_method_7_code 136 = .ok (.iastore, 1) := by decide +kernel
theorem d_LinkAuditModel_define_137 : decode prog_12_method_7_code 137 = .ok (.aload_n 0, 1) := by decide +kernel
theorem d_LinkAuditModel_define_138 : decode prog_12_method_7_code 138 = .ok (.getfield 28, 3) := by decide +kernel
theorem d_LinkAuditModel_define_141 : decode prog_12_method_7_code 141 = .ok (.aload_n 0, 1) := by decide +kernel
theorem d_LinkAuditModel_define_142 : decode prog_12_method_7_code 142 = .ok (.getfield 96, 3) := by decide +kernel
theorem d_LinkAuditModel_define_145 : decode prog_12_method_7_code 145 = .ok (.iload 4, 2) := by decide +kernel
theorem d_LinkAuditModel_define_147 : decode prog_12_method_7_code 147 = .ok (.iastore, 1) := by decide +kernel
theorem d_LinkAuditModel_define_148 : decode prog_12_method_7_code 148 = .ok (.aload_n 0, 1) := by decide +kernel
theorem d_LinkAuditModel_define_149 : decode prog_12_method_7_code 149 = .ok (.getfield 31, 3) := by decide +kernel
theorem d_LinkAuditModel_define_152 : decode prog_12_method_7_code 152 = .ok (.aload_n 0, 1) := by decide +kernel
theorem d_LinkAuditModel_define_153 : decode prog_12_method_7_code 153 = .ok (.getfield 96, 3) := by decide +kernel
theorem d_LinkAuditModel_define_156 : decode prog_12_method_7_code 156 = .ok (.iload 5, 2) := by decide +kernel
theorem d_LinkAuditModel_define_158 : decode prog_12_method_7_code 158 = .ok (.iastore, 1) := by decide +kernel
theorem d_LinkAuditModel_define_159 : decode prog_12_method_7_code 159 = .ok (.aload_n 0, 1) := by decide +kernel
theorem d_LinkAuditModel_define_160 : decode prog_12_method_7_code 160 = .ok (.getfield 96, 3) := by decide +kernel
theorem d_LinkAuditModel_define_163 : decode prog_12_method_7_code 163 = .ok (.ireturn, 1) := by decide +kernel
theorem d_LinkAuditModel_add_0 : decode prog_12_method_9_code 0 = .ok (.iconst 1, 1) := by decide +kernel
theorem d_LinkAuditModel_add_1 : decode prog_12_method_9_code 1 = .ok (.istore 7, 2) := by decide +kernel
theorem d_LinkAuditModel_add_3 : decode prog_12_method_9_code 3 = .ok (.iload 7, 2) := by decide +kernel
theorem d_LinkAuditModel_add_5 : decode prog_12_method_9_code 5 = .ok (.aload_n 0, 1) := by decide +kernel
theorem d_LinkAuditModel_add_6 : decode prog_12_method_9_code 6 = .ok (.getfield 104, 3) := by decide +kernel
theorem d_LinkAuditModel_add_9 : decode prog_12_method_9_code 9 = .ok (.if_icmp .gt 68, 3) := by decide +kernel
theorem d_LinkAuditModel_add_12 : decode prog_12_method_9_code 12 = .ok (.aload_n 0, 1) := by decide +kernel
theorem d_LinkAuditModel_add_13 : decode prog_12_method_9_code 13 = .ok (.getfield 34, 3) := by decide +kernel
theorem d_LinkAuditModel_add_16 : decode prog_12_method_9_code 16 = .ok (.iload 7, 2) := by decide +kernel
theorem d_LinkAuditModel_add_18 : decode prog_12_method_9_code 18 = .ok (.iaload, 1) := by decide +kernel
theorem d_LinkAuditModel_add_19 : decode prog_12_method_9_code 19 = .ok (.iload_n 1, 1) := by decide +kernel
theorem d_LinkAuditModel_add_20 : decode prog_12_method_9_code 20 = .ok (.if_icmp .ne 51, 3) := by decide +kernel
theorem d_LinkAuditModel_add_23 : decode prog_12_method_9_code 23 = .ok (.aload_n 0, 1) := by decide +kernel
theorem d_LinkAuditModel_add_24 : decode prog_12_method_9_code 24 = .ok (.getfield 37, 3) := by decide +kernel
theorem d_LinkAuditModel_add_27 : decode prog_12_method_9_code 27 = .ok (.iload 7, 2) := by decide +kernel
theorem d_LinkAuditModel_add_29 : decode prog_12_method_9_code 29 = .ok (.baload, 1) := by decide +kernel
theorem d_LinkAuditModel_add_30 : decode prog_12_method_9_code 30 = .ok (.iload_n 2, 1) := by decide +kernel
theorem d_LinkAuditModel_add_31 : decode prog_12_method_9_code 31 = .ok (.if_icmp .ne 40, 3) := by decide +kernel
theorem d_LinkAuditModel_add_34 : decode prog_12_method_9_code 34 = .ok (.aload_n 0, 1) := by decide +kernel
theorem d_LinkAuditModel_add_35 : decode prog_12_method_9_code 35 = .ok (.getfield 41, 3) := by decide +kernel
theorem d_LinkAuditModel_add_38 : decode prog_12_method_9_code 38 = .ok (.iload 7, 2) := by decide +kernel
theorem d_LinkAuditModel_add_40 : decode prog_12_method_9_code 40 = .ok (.iaload, 1) := by decide +kernel
theorem d_LinkAuditModel_add_41 : decode prog_12_method_9_code 41 = .ok (.iload_n 3, 1) := by decide +kernel
theorem d_LinkAuditModel_add_42 : decode prog_12_method_9_code 42 = .ok (.if_icmp .ne 29, 3) := by decide +kernel
theorem d_LinkAuditModel_add_45 : decode prog_12_method_9_code 45 = .ok (.aload_n 0, 1) := by decide +kernel
theorem d_LinkAuditModel_add_46 : decode prog_12_method_9_code 46 = .ok (.getfield 44, 3) := by decide +kernel
theorem d_LinkAuditModel_add_49 : decode prog_12_method_9_code 49 = .ok (.iload 7, 2) := by decide +kernel
theorem d_LinkAuditModel_add_51 : decode prog_12_method_9_code 51 = .ok (.iaload, 1) := by decide +kernel
theorem d_LinkAuditModel_add_52 : decode prog_12_method_9_code 52 = .ok (.iload 4, 2) := by decide +kernel
theorem d_LinkAuditModel_add_54 : decode prog_12_method_9_code 54 = .ok (.if_icmp .ne 17, 3) := by decide +kernel
theorem d_LinkAuditModel_add_57 : decode prog_12_method_9_code 57 = .ok (.aload_n 0, 1) := by decide +kernel
theorem d_LinkAuditModel_add_58 : decode prog_12_method_9_code 58 = .ok (.getfield 47, 3) := by decide +kernel
theorem d_LinkAuditModel_add_61 : decode prog_12_method_9_code 61 = .ok (.iload 7, 2) := by decide +kernel
theorem d_LinkAuditModel_add_63 : decode prog_12_method_9_code 63 = .ok (.iaload, 1) := by decide +kernel
theorem d_LinkAuditModel_add_64 : decode prog_12_method_9_code 64 = .ok (.iload 5, 2) := by decide +kernel
theorem d_LinkAuditModel_add_66 : decode prog_12_method_9_code 66 = .ok (.if_icmp .ne 5, 3) := by decide +kernel
theorem d_LinkAuditModel_add_69 : decode prog_12_method_9_code 69 = .ok (.iconst (-1), 1) := by decide +kernel
theorem d_LinkAuditModel_add_70 : decode prog_12_method_9_code 70 = .ok (.ireturn, 1) := by decide +kernel
theorem d_LinkAuditModel_add_71 : decode prog_12_method_9_code 71 = .ok (.iinc 7 1, 3) := by decide +kernel
theorem d_LinkAuditModel_add_74 : decode prog_12_method_9_code 74 = .ok (.goto (-71), 3) := by decide +kernel
theorem d_LinkAuditModel_add_77 : decode prog_12_method_9_code 77 = .ok (.aload_n 0, 1) := by decide +kernel
theorem d_LinkAuditModel_add_78 : decode prog_12_method_9_code 78 = .ok (.getfield 104, 3) := by decide +kernel
theorem d_LinkAuditModel_add_81 : decode prog_12_method_9_code 81 = .ok (.bipush 40, 2) := by decide +kernel
theorem d_LinkAuditModel_add_83 : decode prog_12_method_9_code 83 = .ok (.if_icmp .ne 6, 3) := by decide +kernel
theorem d_LinkAuditModel_add_86 : decode prog_12_method_9_code 86 = .ok (.bipush (-2), 2) := by decide +kernel
theorem d_LinkAuditModel_add_88 : decode prog_12_method_9_code 88 = .ok (.ireturn, 1) := by decide +kernel
theorem d_LinkAuditModel_add_89 : decode prog_12_method_9_code 89 = .ok (.aload_n 0, 1) := by decide +kernel
theorem d_LinkAuditModel_add_90 : decode prog_12_method_9_code 90 = .ok (.dup, 1) := by decide +kernel
theorem d_LinkAuditModel_add_91 : decode prog_12_method_9_code 91 = .ok (.getfield 104, 3) := by decide +kernel
theorem d_LinkAuditModel_add_94 : decode prog_12_method_9_code 94 = .ok (.iconst 1, 1) := by decide +kernel
theorem d_LinkAuditModel_add_95 : decode prog_12_method_9_code 95 = .ok (.iadd, 1) := by decide +kernel
theorem d_LinkAuditModel_add_96 : decode prog_12_method_9_code 96 = .ok (.putfield 104, 3) := by decide +kernel
theorem d_LinkAuditModel_add_99 : decode prog_12_method_9_code 99 = .ok (.aload_n 0, 1) := by decide +kernel
theorem d_LinkAuditModel_add_100 : decode prog_12_method_9_code 100 = .ok (.getfield 34, 3) := by decide +kernel
theorem d_LinkAuditModel_add_103 : decode prog_12_method_9_code 103 = .ok (.aload_n 0, 1) := by decide +kernel
theorem d_LinkAuditModel_add_104 : decode prog_12_method_9_code 104 = .ok (.getfield 104, 3) := by decide +kernel
theorem d_LinkAuditModel_add_107 : decode prog_12_method_9_code 107 = .ok (.iload_n 1, 1) := by decide +kernel
theorem d_LinkAuditModel_add_108 : decode prog_12_method_9_code 108 = .ok (.iastore, 1) := by decide +kernel
theorem d_LinkAuditModel_add_109 : decode prog_12_method_9_code 109 = .ok (.aload_n 0, 1) := by decide +kernel
theorem d_LinkAuditModel_add_110 : decode prog_12_method_9_code 110 = .ok (.getfield 37, 3) := by decide +kernel
theorem d_LinkAuditModel_add_113 : decode prog_12_method_9_code 113 = .ok (.aload_n 0, 1) := by decide +kernel
theorem d_LinkAuditModel_add_114 : decode prog_12_method_9_code 114 = .ok (.getfield 104, 3) := by decide +kernel
theorem d_LinkAuditModel_add_117 : decode prog_12_method_9_code 117 = .ok (.iload_n 2, 1) := by decide +kernel
theorem d_LinkAuditModel_add_118 : decode prog_12_method_9_code 118 = .ok (.bastore, 1) := by decide +kernel
theorem d_LinkAuditModel_add_119 : decode prog_12_method_9_code 119 = .ok (.aload_n 0, 1) := by decide +kernel
theorem d_LinkAuditModel_add_120 : decode prog_12_method_9_code 120 = .ok (.getfield 41, 3) := by decide +kernel
theorem d_LinkAuditModel_add_123 : decode prog_12_method_9_code 123 = .ok (.aload_n 0, 1) := by decide +kernel
theorem d_LinkAuditModel_add_124 : decode prog_12_method_9_code 124 = .ok (.getfield 104, 3) := by decide +kernel
theorem d_LinkAuditModel_add_127 : decode prog_12_method_9_code 127 = .ok (.iload_n 3, 1) := by decide +kernel
theorem d_LinkAuditModel_add_128 : decode prog_12_method_9_code 128 = .ok (.iastore, 1) := by decide +kernel
theorem d_LinkAuditModel_add_129 : decode prog_12_method_9_code 129 = .ok (.aload_n 0, 1) := by decide +kernel
theorem d_LinkAuditModel_add_130 : decode prog_12_method_9_code 130 = .ok (.getfield 44, 3) := by decide +kernel
theorem d_LinkAuditModel_add_133 : decode prog_12_method_9_code 133 = .ok (.aload_n 0, 1) := by decide +kernel
theorem d_LinkAuditModel_add_134 : decode prog_12_method_9_code 134 = .ok (.getfield 104, 3) := by decide +kernel
theorem d_LinkAuditModel_add_137 : decode prog_12_method_9_code 137 = .ok (.iload 4, 2) := by decide +kernel
theorem d_LinkAuditModel_add_139 : decode prog_12_method_9_code 139 = .ok (.iastore, 1) := by decide +kernel
theorem d_LinkAuditModel_add_140 : decode prog_12_method_9_code 140 = .ok (.aload_n 0, 1) := by decide +kernel
theorem d_LinkAuditModel_add_141 : decode prog_12_method_9_code 141 = .ok (.getfield 47, 3) := by decide +kernel
theorem d_LinkAuditModel_add_144 : decode prog_12_method_9_code 144 = .ok (.aload_n 0, 1) := by decide +kernel
theorem d_LinkAuditModel_add_145 : decode prog_12_method_9_code 145 = .ok (.getfield 104, 3) := by decide +kernel
theorem d_LinkAuditModel_add_148 : decode prog_12_method_9_code 148 = .ok (.iload 5, 2) := by decide +kernel
theorem d_LinkAuditModel_add_150 : decode prog_12_method_9_code 150 = .ok (.iastore, 1) := by decide +kernel
theorem d_LinkAuditModel_add_151 : decode prog_12_method_9_code 151 = .ok (.aload_n 0, 1) := by decide +kernel
theorem d_LinkAuditModel_add_152 : decode prog_12_method_9_code 152 = .ok (.getfield 50, 3) := by decide +kernel
theorem d_LinkAuditModel_add_155 : decode prog_12_method_9_code 155 = .ok (.aload_n 0, 1) := by decide +kernel
theorem d_LinkAuditModel_add_156 : decode prog_12_method_9_code 156 = .ok (.getfield 104, 3) := by decide +kernel
theorem d_LinkAuditModel_add_159 : decode prog_12_method_9_code 159 = .ok (.iload 6, 2) := by decide +kernel
theorem d_LinkAuditModel_add_161 : decode prog_12_method_9_code 161 = .ok (.iastore, 1) := by decide +kernel
theorem d_LinkAuditModel_add_162 : decode prog_12_method_9_code 162 = .ok (.aload_n 0, 1) := by decide +kernel
theorem d_LinkAuditModel_add_163 : decode prog_12_method_9_code 163 = .ok (.getfield 104, 3) := by decide +kernel
theorem d_LinkAuditModel_add_166 : decode prog_12_method_9_code 166 = .ok (.ireturn, 1) := by decide +kernel
theorem d_LinkAuditModel_field_0 : decode prog_12_method_10_code 0 = .ok (.iload_n 1, 1) := by decide +kernel
theorem d_LinkAuditModel_field_1 : decode prog_12_method_10_code 1 = .ok (.iconst 1, 1) := by decide +kernel
theorem d_LinkAuditModel_field_2 : decode prog_12_method_10_code 2 = .ok (.aload_n 0, 1) := by decide +kernel
theorem d_LinkAuditModel_field_3 : decode prog_12_method_10_code 3 = .ok (.getfield 96, 3) := by decide +kernel
theorem d_LinkAuditModel_field_6 : decode prog_12_method_10_code 6 = .ok (.invokestatic 92, 3) := by decide +kernel
theorem d_LinkAuditModel_field_9 : decode prog_12_method_10_code 9 = .ok (.ifCond .eq 33, 3) := by decide +kernel
theorem d_LinkAuditModel_field_12 : decode prog_12_method_10_code 12 = .ok (.iload_n 2, 1) := by decide +kernel
theorem d_LinkAuditModel_field_13 : decode prog_12_method_10_code 13 = .ok (.iconst 0, 1) := by decide +kernel
theorem d_LinkAuditModel_field_14 : decode prog_12_method_10_code 14 = .ok (.iconst 3, 1) := by decide +kernel
theorem d_LinkAuditModel_field_15 : decode prog_12_method_10_code 15 = .ok (.invokestatic 92, 3) := by decide +kernel
theorem d_LinkAuditModel_field_18 : decode prog_12_method_10_code 18 = .ok (.ifCond .eq 24, 3) := by decide +kernel
theorem d_LinkAuditModel_field_21 : decode prog_12_method_10_code 21 = .ok (.iload_n 3, 1) := by decide +kernel
theorem d_LinkAuditModel_field_22 : decode prog_12_method_10_code 22 = .ok (.iconst 0, 1) := by decide +kernel
theorem d_LinkAuditModel_field_23 : decode prog_12_method_10_code 23 = .ok (.bipush 12, 2) := by decide +kernel
theorem d_LinkAuditModel_field_25 : decode prog_12_method_10_code 25 = .ok (.invokestatic 92, 3) := by decide +kernel
theorem d_LinkAuditModel_field_28 : decode prog_12_method_10_code 28 = .ok (.ifCond .eq 14, 3) := by decide +kernel
theorem d_LinkAuditModel_field_31 : decode prog_12_method_10_code 31 = .ok (.iload 4, 2) := by decide +kernel
theorem d_LinkAuditModel_field_33 : decode prog_12_method_10_code 33 = .ok (.iconst 0, 1) := by decide +kernel
theorem d_LinkAuditModel_field_34 : decode prog_12_method_10_code 34 = .ok (.bipush 7, 2) := by decide +kernel
theorem d_LinkAuditModel_field_36 : decode prog_12_method_10_code 36 = .ok (.invokestatic 92, 3) := by decide +kernel
theorem d_LinkAuditModel_field_39 : decode prog_12_method_10_code 39 = .ok (.ifCond .ne 5, 3) := by decide +kernel
theorem d_LinkAuditModel_field_42 : decode prog_12_method_10_code 42 = .ok (.iconst (-1), 1) := by decide +kernel
theorem d_LinkAuditModel_field_43 : decode prog_12_method_10_code 43 = .ok (.ireturn, 1) := by decide +kernel
theorem d_LinkAuditModel_field_44 : decode prog_12_method_10_code 44 = .ok (.aload_n 0, 1) := by decide +kernel
theorem d_LinkAuditModel_field_45 : decode prog_12_method_10_code 45 = .ok (.iload_n 1, 1) := by decide +kernel
theorem d_LinkAuditModel_field_46 : decode prog_12_method_10_code 46 = .ok (.iconst 0, 1) := by decide +kernel
theorem d_LinkAuditModel_field_47 : decode prog_12_method_10_code 47 = .ok (.iload_n 2, 1) := by decide +kernel
theorem d_LinkAuditModel_field_48 : decode prog_12_method_10_code 48 = .ok (.iload_n 3, 1) := by decide +kernel
theorem d_LinkAuditModel_field_49 : decode prog_12_method_10_code 49 = .ok (.bipush 12, 2) := by decide +kernel
theorem d_LinkAuditModel_field_51 : decode prog_12_method_10_code 51 = .ok (.iload 4, 2) := by decide +kernel
theorem d_LinkAuditModel_field_53 : decode prog_12_method_10_code 53 = .ok (.invokevirtual 107, 3) := by decide +kernel
theorem d_LinkAuditModel_field_56 : decode prog_12_method_10_code 56 = .ok (.ireturn, 1) := by decide +kernel
theorem d_LinkAuditModel_isInterface_0 : decode prog_12_method_8_code 0 = .ok (.aload_n 0, 1) := by decide +kernel
theorem d_LinkAuditModel_isInterface_1 : decode prog_12_method_8_code 1 = .ok (.getfield 25, 3) := by decide +kernel
theorem d_LinkAuditModel_isInterface_4 : decode prog_12_method_8_code 4 = .ok (.iload_n 1, 1) := by decide +kernel
theorem d_LinkAuditModel_isInterface_5 : decode prog_12_method_8_code 5 = .ok (.iaload, 1) := by decide +kernel
theorem d_LinkAuditModel_isInterface_6 : decode prog_12_method_8_code 6 = .ok (.bipush 8, 2) := by decide +kernel
theorem d_LinkAuditModel_isInterface_8 : decode prog_12_method_8_code 8 = .ok (.iand, 1) := by decide +kernel
theorem d_LinkAuditModel_isInterface_9 : decode prog_12_method_8_code 9 = .ok (.ifCond .eq 7, 3) := by decide +kernel
theorem d_LinkAuditModel_isInterface_12 : decode prog_12_method_8_code 12 = .ok (.iconst 1, 1) := by decide +kernel
theorem d_LinkAuditModel_isInterface_13 : decode prog_12_method_8_code 13 = .ok (.goto 4, 3) := by decide +kernel
theorem d_LinkAuditModel_isInterface_16 : decode prog_12_method_8_code 16 = .ok (.iconst 0, 1) := by decide +kernel
theorem d_LinkAuditModel_isInterface_17 : decode prog_12_method_8_code 17 = .ok (.ireturn, 1) := by decide +kernel
theorem d_LinkAuditModel_method_0 : decode prog_12_method_11_code 0 = .ok (.iload_n 1, 1) := by decide +kernel
theorem d_LinkAuditModel_method_1 : decode prog_12_method_11_code 1 = .ok (.iconst 1, 1) := by decide +kernel
theorem d_LinkAuditModel_method_2 : decode prog_12_method_11_code 2 = .ok (.aload_n 0, 1) := by decide +kernel
theorem d_LinkAuditModel_method_3 : decode prog_12_method_11_code 3 = .ok (.getfield 96, 3) := by decide +kernel
theorem d_LinkAuditModel_method_6 : decode prog_12_method_11_code 6 = .ok (.invokestatic 92, 3) := by decide +kernel
theorem d_LinkAuditModel_method_9 : decode prog_12_method_11_code 9 = .ok (.ifCond .eq 44, 3) := by decide +kernel
theorem d_LinkAuditModel_method_12 : decode prog_12_method_11_code 12 = .ok (.iload_n 2, 1) := by decide +kernel
theorem d_LinkAuditModel_method_13 : decode prog_12_method_11_code 13 = .ok (.iconst 0, 1) := by decide +kernel
theorem d_LinkAuditModel_method_14 : decode prog_12_method_11_code 14 = .ok (.iconst 3, 1) := by decide +kernel
theorem d_LinkAuditModel_method_15 : decode prog_12_method_11_code 15 = .ok (.invokestatic 92, 3) := by decide +kernel
theorem d_LinkAuditModel_method_18 : decode prog_12_method_11_code 18 = .ok (.ifCond .eq 35, 3) := by decide +kernel
theorem d_LinkAuditModel_method_21 : decode prog_12_method_11_code 21 = .ok (.iload_n 3, 1) := by decide +kernel
theorem d_LinkAuditModel_method_22 : decode prog_12_method_11_code 22 = .ok (.iconst 0, 1) := by decide +kernel
theorem d_LinkAuditModel_method_23 : decode prog_12_method_11_code 23 = .ok (.bipush 12, 2) := by decide +kernel
theorem d_LinkAuditModel_method_25 : decode prog_12_method_11_code 25 = .ok (.invokestatic 92, 3) := by decide +kernel
theorem d_LinkAuditModel_method_28 : decode prog_12_method_11_code 28 = .ok (.ifCond .eq 25, 3) := by decide +kernel
theorem d_LinkAuditModel_method_31 : decode prog_12_method_11_code 31 = .ok (.iload 4, 2) := by decide +kernel
theorem d_LinkAuditModel_method_33 : decode prog_12_method_11_code 33 = .ok (.iconst 0, 1) := by decide +kernel
theorem d_LinkAuditModel_method_34 : decode prog_12_method_11_code 34 = .ok (.bipush 12, 2) := by decide +kernel
theorem d_LinkAuditModel_method_36 : decode prog_12_method_11_code 36 = .ok (.invokestatic 92, 3) := by decide +kernel
theorem d_LinkAuditModel_method_39 : decode prog_12_method_11_code 39 = .ok (.ifCond .eq 14, 3) := by decide +kernel
theorem d_LinkAuditModel_method_42 : decode prog_12_method_11_code 42 = .ok (.iload 5, 2) := by decide +kernel
theorem d_LinkAuditModel_method_44 : decode prog_12_method_11_code 44 = .ok (.iconst 0, 1) := by decide +kernel
theorem d_LinkAuditModel_method_45 : decode prog_12_method_11_code 45 = .ok (.bipush 15, 2) := by decide +kernel
theorem d_LinkAuditModel_method_47 : decode prog_12_method_11_code 47 = .ok (.invokestatic 92, 3) := by decide +kernel
theorem d_LinkAuditModel_method_50 : decode prog_12_method_11_code 50 = .ok (.ifCond .ne 5, 3) := by decide +kernel
theorem d_LinkAuditModel_method_53 : decode prog_12_method_11_code 53 = .ok (.iconst (-1), 1) := by decide +kernel
theorem d_LinkAuditModel_method_54 : decode prog_12_method_11_code 54 = .ok (.ireturn, 1) := by decide +kernel
theorem d_LinkAuditModel_method_55 : decode prog_12_method_11_code 55 = .ok (.iload 5, 2) := by decide +kernel
theorem d_LinkAuditModel_method_57 : decode prog_12_method_11_code 57 = .ok (.iconst 3, 1) := by decide +kernel
theorem d_LinkAuditModel_method_58 : decode prog_12_method_11_code 58 = .ok (.iand, 1) := by decide +kernel
theorem d_LinkAuditModel_method_59 : decode prog_12_method_11_code 59 = .ok (.istore 6, 2) := by decide +kernel
theorem d_LinkAuditModel_method_61 : decode prog_12_method_11_code 61 = .ok (.aload_n 0, 1) := by decide +kernel
theorem d_LinkAuditModel_method_62 : decode prog_12_method_11_code 62 = .ok (.iload_n 1, 1) := by decide +kernel
theorem d_LinkAuditModel_method_63 : decode prog_12_method_11_code 63 = .ok (.invokevirtual 111, 3) := by decide +kernel
theorem d_LinkAuditModel_method_66 : decode prog_12_method_11_code 66 = .ok (.ifCond .eq 14, 3) := by decide +kernel
theorem d_LinkAuditModel_method_69 : decode prog_12_method_11_code 69 = .ok (.iload 6, 2) := by decide +kernel
theorem d_LinkAuditModel_method_71 : decode prog_12_method_11_code 71 = .ok (.ifCond .eq 9, 3) := by decide +kernel
theorem d_LinkAuditModel_method_74 : decode prog_12_method_11_code 74 = .ok (.iload 6, 2) := by decide +kernel
theorem d_LinkAuditModel_method_76 : decode prog_12_method_11_code 76 = .ok (.iconst 3, 1) := by decide +kernel
theorem d_LinkAuditModel_method_77 : decode prog_12_method_11_code 77 = .ok (.if_icmp .ne 24, 3) := by decide +kernel
theorem d_LinkAuditModel_method_80 : decode prog_12_method_11_code 80 = .ok (.iload 5, 2) := by decide +kernel
theorem d_LinkAuditModel_method_82 : decode prog_12_method_11_code 82 = .ok (.bipush 8, 2) := by decide +kernel
theorem d_LinkAuditModel_method_84 : decode prog_12_method_11_code 84 = .ok (.iand, 1) := by decide +kernel
theorem d_LinkAuditModel_method_85 : decode prog_12_method_11_code 85 = .ok (.ifCond .eq 18, 3) := by decide +kernel
theorem d_LinkAuditModel_method_88 : decode prog_12_method_11_code 88 = .ok (.iload 6, 2) := by decide +kernel
theorem d_LinkAuditModel_method_90 : decode prog_12_method_11_code 90 = .ok (.iconst 3, 1) := by decide +kernel
theorem d_LinkAuditModel_method_91 : decode prog_12_method_11_code 91 = .ok (.if_icmp .eq 10, 3) := by decide +kernel
theorem d_LinkAuditModel_method_94 : decode prog_12_method_11_code 94 = .ok (.iload 5, 2) := by decide +kernel
theorem d_LinkAuditModel_method_96 : decode prog_12_method_11_code 96 = .ok (.iconst 4, 1) := by decide +kernel
theorem d_LinkAuditModel_method_97 : decode prog_12_method_11_code 97 = .ok (.iand, 1) := by decide +kernel
theorem d_LinkAuditModel_method_98 : decode prog_12_method_11_code 98 = .ok (.ifCond .eq 5, 3) := by decide +kernel
theorem d_LinkAuditModel_method_101 : decode prog_12_method_11_code 101 = .ok (.iconst (-1), 1) := by decide +kernel
theorem d_LinkAuditModel_method_102 : decode prog_12_method_11_code 102 = .ok (.ireturn, 1) := by decide +kernel
theorem d_LinkAuditModel_method_103 : decode prog_12_method_11_code 103 = .ok (.aload_n 0, 1) := by decide +kernel
theorem d_LinkAuditModel_method_104 : decode prog_12_method_11_code 104 = .ok (.iload_n 1, 1) := by decide +kernel
theorem d_LinkAuditModel_method_105 : decode prog_12_method_11_code 105 = .ok (.iconst 1, 1) := by decide +kernel
theorem d_LinkAuditModel_method_106 : decode prog_12_method_11_code 106 = .ok (.iload_n 2, 1) := by decide +kernel
theorem d_LinkAuditModel_method_107 : decode prog_12_method_11_code 107 = .ok (.iload_n 3, 1) := by decide +kernel
theorem d_LinkAuditModel_method_108 : decode prog_12_method_11_code 108 = .ok (.iload 4, 2) := by decide +kernel
theorem d_LinkAuditModel_method_110 : decode prog_12_method_11_code 110 = .ok (.iload 5, 2) := by decide +kernel
theorem d_LinkAuditModel_method_112 : decode prog_12_method_11_code 112 = .ok (.invokevirtual 107, 3) := by decide +kernel
theorem d_LinkAuditModel_method_115 : decode prog_12_method_11_code 115 = .ok (.ireturn, 1) := by decide +kernel
theorem d_LinkAuditModel_reference_0 : decode prog_12_method_12_code 0 = .ok (.iload_n 1, 1) := by decide +kernel
theorem d_LinkAuditModel_reference_1 : decode prog_12_method_12_code 1 = .ok (.iconst 1, 1) := by decide +kernel
theorem d_LinkAuditModel_reference_2 : decode prog_12_method_12_code 2 = .ok (.aload_n 0, 1) := by decide +kernel
theorem d_LinkAuditModel_reference_3 : decode prog_12_method_12_code 3 = .ok (.getfield 96, 3) := by decide +kernel
theorem d_LinkAuditModel_reference_6 : decode prog_12_method_12_code 6 = .ok (.invokestatic 92, 3) := by decide +kernel
theorem d_LinkAuditModel_reference_9 : decode prog_12_method_12_code 9 = .ok (.ifCond .eq 45, 3) := by decide +kernel
theorem d_LinkAuditModel_reference_12 : decode prog_12_method_12_code 12 = .ok (.iload_n 2, 1) := by decide +kernel
theorem d_LinkAuditModel_reference_13 : decode prog_12_method_12_code 13 = .ok (.iconst 0, 1) := by decide +kernel
theorem d_LinkAuditModel_reference_14 : decode prog_12_method_12_code 14 = .ok (.bipush 23, 2) := by decide +kernel
theorem d_LinkAuditModel_reference_16 : decode prog_12_method_12_code 16 = .ok (.invokestatic 92, 3) := by decide +kernel
theorem d_LinkAuditModel_reference_19 : decode prog_12_method_12_code 19 = .ok (.ifCond .eq 35, 3) := by decide +kernel
theorem d_LinkAuditModel_reference_22 : decode prog_12_method_12_code 22 = .ok (.iload_n 3, 1) := by decide +kernel
theorem d_LinkAuditModel_reference_23 : decode prog_12_method_12_code 23 = .ok (.iconst 0, 1) := by decide +kernel
theorem d_LinkAuditModel_reference_24 : decode prog_12_method_12_code 24 = .ok (.bipush 11, 2) := by decide +kernel
theorem d_LinkAuditModel_reference_26 : decode prog_12_method_12_code 26 = .ok (.invokestatic 92, 3) := by decide +kernel
theorem d_LinkAuditModel_reference_29 : decode prog_12_method_12_code 29 = .ok (.ifCond .eq 25, 3) := by decide +kernel
theorem d_LinkAuditModel_reference_32 : decode prog_12_method_12_code 32 = .ok (.iload 4, 2) := by decide +kernel
theorem d_LinkAuditModel_reference_34 : decode prog_12_method_12_code 34 = .ok (.iconst 0, 1) := by decide +kernel
theorem d_LinkAuditModel_reference_35 : decode prog_12_method_12_code 35 = .ok (.bipush 12, 2) := by decide +kernel
theorem d_LinkAuditModel_reference_37 : decode prog_12_method_12_code 37 = .ok (.invokestatic 92, 3) := by decide +kernel
theorem d_LinkAuditModel_reference_40 : decode prog_12_method_12_code 40 = .ok (.ifCond .eq 14, 3) := by decide +kernel
theorem d_LinkAuditModel_reference_43 : decode prog_12_method_12_code 43 = .ok (.iload 5, 2) := by decide +kernel
theorem d_LinkAuditModel_reference_45 : decode prog_12_method_12_code 45 = .ok (.iconst 0, 1) := by decide +kernel
theorem d_LinkAuditModel_reference_46 : decode prog_12_method_12_code 46 = .ok (.bipush 12, 2) := by decide +kernel
theorem d_LinkAuditModel_reference_48 : decode prog_12_method_12_code 48 = .ok (.invokestatic 92, 3) := by decide +kernel
theorem d_LinkAuditModel_reference_51 : decode prog_12_method_12_code 51 = .ok (.ifCond .ne 5, 3) := by decide +kernel
theorem d_LinkAuditModel_reference_54 : decode prog_12_method_12_code 54 = .ok (.iconst (-1), 1) := by decide +kernel
theorem d_LinkAuditModel_reference_55 : decode prog_12_method_12_code 55 = .ok (.ireturn, 1) := by decide +kernel
theorem d_LinkAuditModel_reference_56 : decode prog_12_method_12_code 56 = .ok (.aload_n 0, 1) := by decide +kernel
theorem d_LinkAuditModel_reference_57 : decode prog_12_method_12_code 57 = .ok (.getfield 115, 3) := by decide +kernel
theorem d_LinkAuditModel_reference_60 : decode prog_12_method_12_code 60 = .ok (.bipush 12, 2) := by decide +kernel
theorem d_LinkAuditModel_reference_62 : decode prog_12_method_12_code 62 = .ok (.if_icmp .ne 6, 3) := by decide +kernel
theorem d_LinkAuditModel_reference_65 : decode prog_12_method_12_code 65 = .ok (.bipush (-2), 2) := by decide +kernel
theorem d_LinkAuditModel_reference_67 : decode prog_12_method_12_code 67 = .ok (.ireturn, 1) := by decide +kernel
theorem d_LinkAuditModel_reference_68 : decode prog_12_method_12_code 68 = .ok (.iconst 5, 1) := by decide +kernel
theorem d_LinkAuditModel_reference_69 : decode prog_12_method_12_code 69 = .ok (.aload_n 0, 1) := by decide +kernel
theorem d_LinkAuditModel_reference_70 : decode prog_12_method_12_code 70 = .ok (.getfield 115, 3) := by decide +kernel
theorem d_LinkAuditModel_reference_73 : decode prog_12_method_12_code 73 = .ok (.imul, 1) := by decide +kernel
theorem d_LinkAuditModel_reference_74 : decode prog_12_method_12_code 74 = .ok (.istore 6, 2) := by decide +kernel
theorem d_LinkAuditModel_reference_76 : decode prog_12_method_12_code 76 = .ok (.aload_n 0, 1) := by decide +kernel
theorem d_LinkAuditModel_reference_77 : decode prog_12_method_12_code 77 = .ok (.getfield 53, 3) := by decide +kernel
theorem d_LinkAuditModel_reference_80 : decode prog_12_method_12_code 80 = .ok (.iload 6, 2) := by decide +kernel
theorem d_LinkAuditModel_reference_82 : decode prog_12_method_12_code 82 = .ok (.iload_n 1, 1) := by decide +kernel
theorem d_LinkAuditModel_reference_83 : decode prog_12_method_12_code 83 = .ok (.iastore, 1) := by decide +kernel
theorem d_LinkAuditModel_reference_84 : decode prog_12_method_12_code 84 = .ok (.aload_n 0, 1) := by decide +kernel
theorem d_LinkAuditModel_reference_85 : decode prog_12_method_12_code 85 = .ok (.getfield 53, 3) := by decide +kernel
theorem d_LinkAuditModel_reference_88 : decode prog_12_method_12_code 88 = .ok (.iload 6, 2) := by decide +kernel
theorem d_LinkAuditModel_reference_90 : decode prog_12_method_12_code 90 = .ok (.iconst 1, 1) := by decide +kernel
theorem d_LinkAuditModel_reference_91 : decode prog_12_method_12_code 91 = .ok (.iadd, 1) := by decide +kernel
theorem d_LinkAuditModel_reference_92 : decode prog_12_method_12_code 92 = .ok (.iload_n 2, 1) := by decide +kernel
theorem d_LinkAuditModel_reference_93 : decode prog_12_method_12_code 93 = .ok (.iastore, 1) := by decide +kernel
theorem d_LinkAuditModel_reference_94 : decode prog_12_method_12_code 94 = .ok (.aload_n 0, 1) := by decide +kernel
theorem d_LinkAuditModel_reference_95 : decode prog_12_method_12_code 95 = .ok (.getfield 53, 3) := by decide +kernel
theorem d_LinkAuditModel_reference_98 : decode prog_12_method_12_code 98 = .ok (.iload 6, 2) := by decide +kernel
theorem d_LinkAuditModel_reference_100 : decode prog_12_method_12_code 100 = .ok (.iconst 2, 1) := by decide +kernel
theorem d_LinkAuditModel_reference_101 : decode prog_12_method_12_code 101 = .ok (.iadd, 1) := by decide +kernel
theorem d_LinkAuditModel_reference_102 : decode prog_12_method_12_code 102 = .ok (.iload_n 3, 1) := by decide +kernel
theorem d_LinkAuditModel_reference_103 : decode prog_12_method_12_code 103 = .ok (.iastore, 1) := by decide +kernel
theorem d_LinkAuditModel_reference_104 : decode prog_12_method_12_code 104 = .ok (.aload_n 0, 1) := by decide +kernel
theorem d_LinkAuditModel_reference_105 : decode prog_12_method_12_code 105 = .ok (.getfield 53, 3) := by decide +kernel
theorem d_LinkAuditModel_reference_108 : decode prog_12_method_12_code 108 = .ok (.iload 6, 2) := by decide +kernel
theorem d_LinkAuditModel_reference_110 : decode prog_12_method_12_code 110 = .ok (.iconst 3, 1) := by decide +kernel
theorem d_LinkAuditModel_reference_111 : decode prog_12_method_12_code 111 = .ok (.iadd, 1) := by decide +kernel
theorem d_LinkAuditModel_reference_112 : decode prog_12_method_12_code 112 = .ok (.iload 4, 2) := by decide +kernel
theorem d_LinkAuditModel_reference_114 : decode prog_12_method_12_code 114 = .ok (.iastore, 1) := by decide +kernel
theorem d_LinkAuditModel_reference_115 : decode prog_12_method_12_code 115 = .ok (.aload_n 0, 1) := by decide +kernel
theorem d_LinkAuditModel_reference_116 : decode prog_12_method_12_code 116 = .ok (.getfield 53, 3) := by decide +kernel
theorem d_LinkAuditModel_reference_119 : decode prog_12_method_12_code 119 = .ok (.iload 6, 2) := by decide +kernel
theorem d_LinkAuditModel_reference_121 : decode prog_12_method_12_code 121 = .ok (.iconst 4, 1) := by decide +kernel
theorem d_LinkAuditModel_reference_122 : decode prog_12_method_12_code 122 = .ok (.iadd, 1) := by decide +kernel
theorem d_LinkAuditModel_reference_123 : decode prog_12_method_12_code 123 = .ok (.iload 5, 2) := by decide +kernel
theorem d_LinkAuditModel_reference_125 : decode prog_12_method_12_code 125 = .ok (.iastore, 1) := by decide +kernel
theorem d_LinkAuditModel_reference_126 : decode prog_12_method_12_code 126 = .ok (.aload_n 0, 1) := by decide +kernel
theorem d_LinkAuditModel_reference_127 : decode prog_12_method_12_code 127 = .ok (.dup, 1) := by decide +kernel
theorem d_LinkAuditModel_reference_128 : decode prog_12_method_12_code 128 = .ok (.getfield 115, 3) := by decide +kernel
theorem d_LinkAuditModel_reference_131 : decode prog_12_method_12_code 131 = .ok (.iconst 1, 1) := by decide +kernel
theorem d_LinkAuditModel_reference_132 : decode prog_12_method_12_code 132 = .ok (.iadd, 1) := by decide +kernel
theorem d_LinkAuditModel_reference_133 : decode prog_12_method_12_code 133 = .ok (.putfield 115, 3) := by decide +kernel
theorem d_LinkAuditModel_reference_136 : decode prog_12_method_12_code 136 = .ok (.aload_n 0, 1) := by decide +kernel
theorem d_LinkAuditModel_reference_137 : decode prog_12_method_12_code 137 = .ok (.getfield 115, 3) := by decide +kernel
theorem d_LinkAuditModel_reference_140 : decode prog_12_method_12_code 140 = .ok (.iconst 1, 1) := by decide +kernel
theorem d_LinkAuditModel_reference_141 : decode prog_12_method_12_code 141 = .ok (.isub, 1) := by decide +kernel
theorem d_LinkAuditModel_reference_142 : decode prog_12_method_12_code 142 = .ok (.ireturn, 1) := by decide +kernel
theorem d_LinkAuditModel_found_0 : decode prog_12_method_6_code 0 = .ok (.iload_n 1, 1) := by decide +kernel
theorem d_LinkAuditModel_found_1 : decode prog_12_method_6_code 1 = .ok (.ifCond .eq 16, 3) := by decide +kernel
theorem d_LinkAuditModel_found_4 : decode prog_12_method_6_code 4 = .ok (.aload_n 0, 1) := by decide +kernel
theorem d_LinkAuditModel_found_5 : decode prog_12_method_6_code 5 = .ok (.getfield 16, 3) := by decide +kernel
theorem d_LinkAuditModel_found_8 : decode prog_12_method_6_code 8 = .ok (.iload_n 1, 1) := by decide +kernel
theorem d_LinkAuditModel_found_9 : decode prog_12_method_6_code 9 = .ok (.iaload, 1) := by decide +kernel
theorem d_LinkAuditModel_found_10 : decode prog_12_method_6_code 10 = .ok (.iload_n 2, 1) := by decide +kernel
theorem d_LinkAuditModel_found_11 : decode prog_12_method_6_code 11 = .ok (.ishr, 1) := by decide +kernel
theorem d_LinkAuditModel_found_12 : decode prog_12_method_6_code 12 = .ok (.iconst 1, 1) := by decide +kernel
theorem d_LinkAuditModel_found_13 : decode prog_12_method_6_code 13 = .ok (.iand, 1) := by decide +kernel
theorem d_LinkAuditModel_found_14 : decode prog_12_method_6_code 14 = .ok (.ifCond .eq 10, 3) := by decide +kernel
theorem d_LinkAuditModel_found_17 : decode prog_12_method_6_code 17 = .ok (.aload_n 0, 1) := by decide +kernel
theorem d_LinkAuditModel_found_18 : decode prog_12_method_6_code 18 = .ok (.iload_n 1, 1) := by decide +kernel
theorem d_LinkAuditModel_found_19 : decode prog_12_method_6_code 19 = .ok (.iload_n 2, 1) := by decide +kernel
theorem d_LinkAuditModel_found_20 : decode prog_12_method_6_code 20 = .ok (.invokevirtual 100, 3) := by decide +kernel
theorem d_LinkAuditModel_found_23 : decode prog_12_method_6_code 23 = .ok (.ireturn, 1) := by decide +kernel
theorem d_LinkAuditModel_found_24 : decode prog_12_method_6_code 24 = .ok (.aload_n 0, 1) := by decide +kernel
theorem d_LinkAuditModel_found_25 : decode prog_12_method_6_code 25 = .ok (.iconst 0, 1) := by decide +kernel
theorem d_LinkAuditModel_found_26 : decode prog_12_method_6_code 26 = .ok (.iload_n 2, 1) := by decide +kernel
theorem d_LinkAuditModel_found_27 : decode prog_12_method_6_code 27 = .ok (.invokevirtual 100, 3) := by decide +kernel
theorem d_LinkAuditModel_found_30 : decode prog_12_method_6_code 30 = .ok (.istore_n 3, 1) := by decide +kernel
theorem d_LinkAuditModel_found_31 : decode prog_12_method_6_code 31 = .ok (.iconst 0, 1) := by decide +kernel
theorem d_LinkAuditModel_found_32 : decode prog_12_method_6_code 32 = .ok (.istore 4, 2) := by decide +kernel
theorem d_LinkAuditModel_found_34 : decode prog_12_method_6_code 34 = .ok (.iload 4, 2) := by decide +kernel
theorem d_LinkAuditModel_found_36 : decode prog_12_method_6_code 36 = .ok (.aload_n 0, 1) := by decide +kernel
theorem d_LinkAuditModel_found_37 : decode prog_12_method_6_code 37 = .ok (.getfield 7, 3) := by decide +kernel
theorem d_LinkAuditModel_found_40 : decode prog_12_method_6_code 40 = .ok (.iload_n 1, 1) := by decide +kernel
theorem d_LinkAuditModel_found_41 : decode prog_12_method_6_code 41 = .ok (.iaload, 1) := by decide +kernel
theorem d_LinkAuditModel_found_42 : decode prog_12_method_6_code 42 = .ok (.if_icmp .ge 30, 3) := by decide +kernel
theorem d_LinkAuditModel_found_45 : decode prog_12_method_6_code 45 = .ok (.iload_n 3, 1) := by decide +kernel
theorem d_LinkAuditModel_found_46 : decode prog_12_method_6_code 46 = .ok (.ifCond .ne 26, 3) := by decide +kernel
theorem d_LinkAuditModel_found_49 : decode prog_12_method_6_code 49 = .ok (.aload_n 0, 1) := by decide +kernel
theorem d_LinkAuditModel_found_50 : decode prog_12_method_6_code 50 = .ok (.aload_n 0, 1) := by decide +kernel
theorem d_LinkAuditModel_found_51 : decode prog_12_method_6_code 51 = .ok (.getfield 13, 3) := by decide +kernel
theorem d_LinkAuditModel_found_54 : decode prog_12_method_6_code 54 = .ok (.iconst 3, 1) := by decide +kernel
theorem d_LinkAuditModel_found_55 : decode prog_12_method_6_code 55 = .ok (.iload_n 1, 1) := by decide +kernel
theorem d_LinkAuditModel_found_56 : decode prog_12_method_6_code 56 = .ok (.imul, 1) := by decide +kernel
theorem d_LinkAuditModel_found_57 : decode prog_12_method_6_code 57 = .ok (.iload 4, 2) := by decide +kernel
theorem d_LinkAuditModel_found_59 : decode prog_12_method_6_code 59 = .ok (.iadd, 1) := by decide +kernel
theorem d_LinkAuditModel_found_60 : decode prog_12_method_6_code 60 = .ok (.iaload, 1) := by decide +kernel
theorem d_LinkAuditModel_found_61 : decode prog_12_method_6_code 61 = .ok (.iload_n 2, 1) := by decide +kernel
theorem d_LinkAuditModel_found_62 : decode prog_12_method_6_code 62 = .ok (.invokevirtual 100, 3) := by decide +kernel
theorem d_LinkAuditModel_found_65 : decode prog_12_method_6_code 65 = .ok (.istore_n 3, 1) := by decide +kernel
theorem d_LinkAuditModel_found_66 : decode prog_12_method_6_code 66 = .ok (.iinc 4 1, 3) := by decide +kernel
theorem d_LinkAuditModel_found_69 : decode prog_12_method_6_code 69 = .ok (.goto (-35), 3) := by decide +kernel
theorem d_LinkAuditModel_found_72 : decode prog_12_method_6_code 72 = .ok (.iload_n 3, 1) := by decide +kernel
theorem d_LinkAuditModel_found_73 : decode prog_12_method_6_code 73 = .ok (.ifCond .ne 12, 3) := by decide +kernel
theorem d_LinkAuditModel_found_76 : decode prog_12_method_6_code 76 = .ok (.aload_n 0, 1) := by decide +kernel
theorem d_LinkAuditModel_found_77 : decode prog_12_method_6_code 77 = .ok (.iload_n 1, 1) := by decide +kernel
theorem d_LinkAuditModel_found_78 : decode prog_12_method_6_code 78 = .ok (.iload_n 2, 1) := by decide +kernel
theorem d_LinkAuditModel_found_79 : decode prog_12_method_6_code 79 = .ok (.invokevirtual 100, 3) := by decide +kernel
theorem d_LinkAuditModel_found_82 : decode prog_12_method_6_code 82 = .ok (.goto 4, 3) := by decide +kernel
theorem d_LinkAuditModel_found_85 : decode prog_12_method_6_code 85 = .ok (.iload_n 3, 1) := by decide +kernel
theorem d_LinkAuditModel_found_86 : decode prog_12_method_6_code 86 = .ok (.ireturn, 1) := by decide +kernel
theorem d_LinkAuditModel_find_0 : decode prog_12_method_42_code 0 = .ok (.iload_n 1, 1) := by decide +kernel
theorem d_LinkAuditModel_find_1 : decode prog_12_method_42_code 1 = .ok (.iconst 0, 1) := by decide +kernel
theorem d_LinkAuditModel_find_2 : decode prog_12_method_42_code 2 = .ok (.iconst 4, 1) := by decide +kernel
theorem d_LinkAuditModel_find_3 : decode prog_12_method_42_code 3 = .ok (.invokestatic 92, 3) := by decide +kernel
theorem d_LinkAuditModel_find_6 : decode prog_12_method_42_code 6 = .ok (.ifCond .eq 13, 3) := by decide +kernel
theorem d_LinkAuditModel_find_9 : decode prog_12_method_42_code 9 = .ok (.iload_n 2, 1) := by decide +kernel
theorem d_LinkAuditModel_find_10 : decode prog_12_method_42_code 10 = .ok (.iconst 0, 1) := by decide +kernel
theorem d_LinkAuditModel_find_11 : decode prog_12_method_42_code 11 = .ok (.bipush 11, 2) := by decide +kernel
theorem d_LinkAuditModel_find_13 : decode prog_12_method_42_code 13 = .ok (.invokestatic 92, 3) := by decide +kernel
theorem d_LinkAuditModel_find_16 : decode prog_12_method_42_code 16 = .ok (.ifCond .ne 5, 3) := by decide +kernel
theorem d_LinkAuditModel_find_19 : decode prog_12_method_42_code 19 = .ok (.iconst (-1), 1) := by decide +kernel
