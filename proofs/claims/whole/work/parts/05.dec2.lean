theorem d_Classes_areNeighbours_23 : decode prog_3_method_6_code 23 = .ok (.aload_n 0, 1) := by decide +kernel
theorem d_Classes_areNeighbours_24 : decode prog_3_method_6_code 24 = .ok (.getfield 15, 3) := by decide +kernel
theorem d_Classes_areNeighbours_27 : decode prog_3_method_6_code 27 = .ok (.iload_n 2, 1) := by decide +kernel
theorem d_Classes_areNeighbours_28 : decode prog_3_method_6_code 28 = .ok (.iaload, 1) := by decide +kernel
theorem d_Classes_areNeighbours_29 : decode prog_3_method_6_code 29 = .ok (.iconst 4, 1) := by decide +kernel
theorem d_Classes_areNeighbours_30 : decode prog_3_method_6_code 30 = .ok (.idiv, 1) := by decide +kernel
theorem d_Classes_areNeighbours_31 : decode prog_3_method_6_code 31 = .ok (.if_icmp .ne 7, 3) := by decide +kernel
theorem d_Classes_areNeighbours_34 : decode prog_3_method_6_code 34 = .ok (.iconst 1, 1) := by decide +kernel
theorem d_Classes_areNeighbours_35 : decode prog_3_method_6_code 35 = .ok (.goto 4, 3) := by decide +kernel
theorem d_Classes_areNeighbours_38 : decode prog_3_method_6_code 38 = .ok (.iconst 0, 1) := by decide +kernel
theorem d_Classes_areNeighbours_39 : decode prog_3_method_6_code 39 = .ok (.ireturn, 1) := by decide +kernel
theorem d_Classes_mayUse_0 : decode prog_3_method_7_code 0 = .ok (.aload_n 0, 1) := by decide +kernel
theorem d_Classes_mayUse_1 : decode prog_3_method_7_code 1 = .ok (.getfield 18, 3) := by decide +kernel
theorem d_Classes_mayUse_4 : decode prog_3_method_7_code 4 = .ok (.iload_n 2, 1) := by decide +kernel
theorem d_Classes_mayUse_5 : decode prog_3_method_7_code 5 = .ok (.iaload, 1) := by decide +kernel
theorem d_Classes_mayUse_6 : decode prog_3_method_7_code 6 = .ok (.iconst 1, 1) := by decide +kernel
theorem d_Classes_mayUse_7 : decode prog_3_method_7_code 7 = .ok (.iand, 1) := by decide +kernel
theorem d_Classes_mayUse_8 : decode prog_3_method_7_code 8 = .ok (.ifCond .ne 12, 3) := by decide +kernel
theorem d_Classes_mayUse_11 : decode prog_3_method_7_code 11 = .ok (.aload_n 0, 1) := by decide +kernel
theorem d_Classes_mayUse_12 : decode prog_3_method_7_code 12 = .ok (.iload_n 1, 1) := by decide +kernel
theorem d_Classes_mayUse_13 : decode prog_3_method_7_code 13 = .ok (.iload_n 2, 1) := by decide +kernel
theorem d_Classes_mayUse_14 : decode prog_3_method_7_code 14 = .ok (.invokevirtual 31, 3) := by decide +kernel
theorem d_Classes_mayUse_17 : decode prog_3_method_7_code 17 = .ok (.ifCond .eq 7, 3) := by decide +kernel
theorem d_Classes_mayUse_20 : decode prog_3_method_7_code 20 = .ok (.iconst 1, 1) := by decide +kernel
theorem d_Classes_mayUse_21 : decode prog_3_method_7_code 21 = .ok (.goto 4, 3) := by decide +kernel
theorem d_Classes_mayUse_24 : decode prog_3_method_7_code 24 = .ok (.iconst 0, 1) := by decide +kernel
theorem d_Classes_mayUse_25 : decode prog_3_method_7_code 25 = .ok (.ireturn, 1) := by decide +kernel
theorem d_Links_superCode_0 : decode prog_5_method_8_code 0 = .ok (.aload_n 0, 1) := by decide +kernel
theorem d_Links_superCode_1 : decode prog_5_method_8_code 1 = .ok (.getfield 36, 3) := by decide +kernel
theorem d_Links_superCode_4 : decode prog_5_method_8_code 4 = .ok (.aload_n 0, 1) := by decide +kernel
theorem d_Links_superCode_5 : decode prog_5_method_8_code 5 = .ok (.getfield 40, 3) := by decide +kernel
theorem d_Links_superCode_8 : decode prog_5_method_8_code 8 = .ok (.getfield 63, 3) := by decide +kernel
theorem d_Links_superCode_11 : decode prog_5_method_8_code 11 = .ok (.iload_n 1, 1) := by decide +kernel
theorem d_Links_superCode_12 : decode prog_5_method_8_code 12 = .ok (.iaload, 1) := by decide +kernel
theorem d_Links_superCode_13 : decode prog_5_method_8_code 13 = .ok (.iload_n 2, 1) := by decide +kernel
theorem d_Links_superCode_14 : decode prog_5_method_8_code 14 = .ok (.invokevirtual 65, 3) := by decide +kernel
theorem d_Links_superCode_17 : decode prog_5_method_8_code 17 = .ok (.istore 5, 2) := by decide +kernel
theorem d_Links_superCode_19 : decode prog_5_method_8_code 19 = .ok (.iload 5, 2) := by decide +kernel
theorem d_Links_superCode_21 : decode prog_5_method_8_code 21 = .ok (.ifCond .ne 6, 3) := by decide +kernel
theorem d_Links_superCode_24 : decode prog_5_method_8_code 24 = .ok (.bipush (-3), 2) := by decide +kernel
theorem d_Links_superCode_26 : decode prog_5_method_8_code 26 = .ok (.ireturn, 1) := by decide +kernel
theorem d_Links_superCode_27 : decode prog_5_method_8_code 27 = .ok (.aload_n 0, 1) := by decide +kernel
theorem d_Links_superCode_28 : decode prog_5_method_8_code 28 = .ok (.iload 5, 2) := by decide +kernel
theorem d_Links_superCode_30 : decode prog_5_method_8_code 30 = .ok (.iload 4, 2) := by decide +kernel
theorem d_Links_superCode_32 : decode prog_5_method_8_code 32 = .ok (.invokevirtual 55, 3) := by decide +kernel
theorem d_Links_superCode_35 : decode prog_5_method_8_code 35 = .ok (.istore 6, 2) := by decide +kernel
theorem d_Links_superCode_37 : decode prog_5_method_8_code 37 = .ok (.iload 6, 2) := by decide +kernel
theorem d_Links_superCode_39 : decode prog_5_method_8_code 39 = .ok (.ifCond .ge 6, 3) := by decide +kernel
theorem d_Links_superCode_42 : decode prog_5_method_8_code 42 = .ok (.iload 6, 2) := by decide +kernel
theorem d_Links_superCode_44 : decode prog_5_method_8_code 44 = .ok (.ireturn, 1) := by decide +kernel
theorem d_Links_superCode_45 : decode prog_5_method_8_code 45 = .ok (.iload_n 3, 1) := by decide +kernel
theorem d_Links_superCode_46 : decode prog_5_method_8_code 46 = .ok (.ifCond .eq 18, 3) := by decide +kernel
theorem d_Links_superCode_49 : decode prog_5_method_8_code 49 = .ok (.aload_n 0, 1) := by decide +kernel
theorem d_Links_superCode_50 : decode prog_5_method_8_code 50 = .ok (.getfield 40, 3) := by decide +kernel
theorem d_Links_superCode_53 : decode prog_5_method_8_code 53 = .ok (.iload 5, 2) := by decide +kernel
theorem d_Links_superCode_55 : decode prog_5_method_8_code 55 = .ok (.invokevirtual 92, 3) := by decide +kernel
theorem d_Links_superCode_58 : decode prog_5_method_8_code 58 = .ok (.ifCond .ne 21, 3) := by decide +kernel
theorem d_Links_superCode_61 : decode prog_5_method_8_code 61 = .ok (.goto 15, 3) := by decide +kernel
theorem d_Links_superCode_64 : decode prog_5_method_8_code 64 = .ok (.aload_n 0, 1) := by decide +kernel
theorem d_Links_superCode_65 : decode prog_5_method_8_code 65 = .ok (.getfield 40, 3) := by decide +kernel
theorem d_Links_superCode_68 : decode prog_5_method_8_code 68 = .ok (.iload 5, 2) := by decide +kernel
theorem d_Links_superCode_70 : decode prog_5_method_8_code 70 = .ok (.invokevirtual 95, 3) := by decide +kernel
theorem d_Links_superCode_73 : decode prog_5_method_8_code 73 = .ok (.ifCond .ne 6, 3) := by decide +kernel
theorem d_Links_superCode_76 : decode prog_5_method_8_code 76 = .ok (.bipush (-5), 2) := by decide +kernel
theorem d_Links_superCode_78 : decode prog_5_method_8_code 78 = .ok (.ireturn, 1) := by decide +kernel
theorem d_Links_superCode_79 : decode prog_5_method_8_code 79 = .ok (.aload_n 0, 1) := by decide +kernel
theorem d_Links_superCode_80 : decode prog_5_method_8_code 80 = .ok (.getfield 40, 3) := by decide +kernel
theorem d_Links_superCode_83 : decode prog_5_method_8_code 83 = .ok (.iload_n 1, 1) := by decide +kernel
theorem d_Links_superCode_84 : decode prog_5_method_8_code 84 = .ok (.iload 5, 2) := by decide +kernel
theorem d_Links_superCode_86 : decode prog_5_method_8_code 86 = .ok (.invokevirtual 74, 3) := by decide +kernel
theorem d_Links_superCode_89 : decode prog_5_method_8_code 89 = .ok (.ifCond .eq 8, 3) := by decide +kernel
theorem d_Links_superCode_92 : decode prog_5_method_8_code 92 = .ok (.iload 5, 2) := by decide +kernel
theorem d_Links_superCode_94 : decode prog_5_method_8_code 94 = .ok (.goto 5, 3) := by decide +kernel
theorem d_Links_superCode_97 : decode prog_5_method_8_code 97 = .ok (.bipush (-6), 2) := by decide +kernel
theorem d_Links_superCode_99 : decode prog_5_method_8_code 99 = .ok (.ireturn, 1) := by decide +kernel
theorem d_Links_noteSuper_0 : decode prog_5_method_10_code 0 = .ok (.aload_n 0, 1) := by decide +kernel
theorem d_Links_noteSuper_1 : decode prog_5_method_10_code 1 = .ok (.getfield 17, 3) := by decide +kernel
theorem d_Links_noteSuper_4 : decode prog_5_method_10_code 4 = .ok (.iload_n 2, 1) := by decide +kernel
theorem d_Links_noteSuper_5 : decode prog_5_method_10_code 5 = .ok (.aaload, 1) := by decide +kernel
theorem d_Links_noteSuper_6 : decode prog_5_method_10_code 6 = .ok (.iconst 0, 1) := by decide +kernel
theorem d_Links_noteSuper_7 : decode prog_5_method_10_code 7 = .ok (.aload_n 0, 1) := by decide +kernel
theorem d_Links_noteSuper_8 : decode prog_5_method_10_code 8 = .ok (.getfield 17, 3) := by decide +kernel
theorem d_Links_noteSuper_11 : decode prog_5_method_10_code 11 = .ok (.iload_n 1, 1) := by decide +kernel
theorem d_Links_noteSuper_12 : decode prog_5_method_10_code 12 = .ok (.aaload, 1) := by decide +kernel
theorem d_Links_noteSuper_13 : decode prog_5_method_10_code 13 = .ok (.iconst 1, 1) := by decide +kernel
theorem d_Links_noteSuper_14 : decode prog_5_method_10_code 14 = .ok (.aload_n 0, 1) := by decide +kernel
theorem d_Links_noteSuper_15 : decode prog_5_method_10_code 15 = .ok (.getfield 20, 3) := by decide +kernel
theorem d_Links_noteSuper_18 : decode prog_5_method_10_code 18 = .ok (.iload_n 2, 1) := by decide +kernel
theorem d_Links_noteSuper_19 : decode prog_5_method_10_code 19 = .ok (.iaload, 1) := by decide +kernel
theorem d_Links_noteSuper_20 : decode prog_5_method_10_code 20 = .ok (.invokestatic 102, 3) := by decide +kernel
theorem d_Links_noteSuper_23 : decode prog_5_method_10_code 23 = .ok (.aload_n 0, 1) := by decide +kernel
theorem d_Links_noteSuper_24 : decode prog_5_method_10_code 24 = .ok (.getfield 20, 3) := by decide +kernel
theorem d_Links_noteSuper_27 : decode prog_5_method_10_code 27 = .ok (.iload_n 1, 1) := by decide +kernel
theorem d_Links_noteSuper_28 : decode prog_5_method_10_code 28 = .ok (.aload_n 0, 1) := by decide +kernel
theorem d_Links_noteSuper_29 : decode prog_5_method_10_code 29 = .ok (.getfield 20, 3) := by decide +kernel
theorem d_Links_noteSuper_32 : decode prog_5_method_10_code 32 = .ok (.iload_n 2, 1) := by decide +kernel
theorem d_Links_noteSuper_33 : decode prog_5_method_10_code 33 = .ok (.iaload, 1) := by decide +kernel
theorem d_Links_noteSuper_34 : decode prog_5_method_10_code 34 = .ok (.iconst 1, 1) := by decide +kernel
theorem d_Links_noteSuper_35 : decode prog_5_method_10_code 35 = .ok (.iadd, 1) := by decide +kernel
theorem d_Links_noteSuper_36 : decode prog_5_method_10_code 36 = .ok (.iastore, 1) := by decide +kernel
theorem d_Links_noteSuper_37 : decode prog_5_method_10_code 37 = .ok (.aload_n 0, 1) := by decide +kernel
theorem d_Links_noteSuper_38 : decode prog_5_method_10_code 38 = .ok (.getfield 23, 3) := by decide +kernel
theorem d_Links_noteSuper_41 : decode prog_5_method_10_code 41 = .ok (.iload_n 1, 1) := by decide +kernel
theorem d_Links_noteSuper_42 : decode prog_5_method_10_code 42 = .ok (.iconst 1, 1) := by decide +kernel
theorem d_Links_noteSuper_43 : decode prog_5_method_10_code 43 = .ok (.iload_n 2, 1) := by decide +kernel
theorem d_Links_noteSuper_44 : decode prog_5_method_10_code 44 = .ok (.ishl, 1) := by decide +kernel
theorem d_Links_noteSuper_45 : decode prog_5_method_10_code 45 = .ok (.aload_n 0, 1) := by decide +kernel
theorem d_Links_noteSuper_46 : decode prog_5_method_10_code 46 = .ok (.getfield 23, 3) := by decide +kernel
theorem d_Links_noteSuper_49 : decode prog_5_method_10_code 49 = .ok (.iload_n 2, 1) := by decide +kernel
theorem d_Links_noteSuper_50 : decode prog_5_method_10_code 50 = .ok (.iaload, 1) := by decide +kernel
theorem d_Links_noteSuper_51 : decode prog_5_method_10_code 51 = .ok (.ior, 1) := by decide +kernel
theorem d_Links_noteSuper_52 : decode prog_5_method_10_code 52 = .ok (.iastore, 1) := by decide +kernel
theorem d_Links_noteSuper_53 : decode prog_5_method_10_code 53 = .ok (.aload_n 0, 1) := by decide +kernel
theorem d_Links_noteSuper_54 : decode prog_5_method_10_code 54 = .ok (.getfield 26, 3) := by decide +kernel
theorem d_Links_noteSuper_57 : decode prog_5_method_10_code 57 = .ok (.iload_n 1, 1) := by decide +kernel
theorem d_Links_noteSuper_58 : decode prog_5_method_10_code 58 = .ok (.aload_n 0, 1) := by decide +kernel
theorem d_Links_noteSuper_59 : decode prog_5_method_10_code 59 = .ok (.getfield 26, 3) := by decide +kernel
theorem d_Links_noteSuper_62 : decode prog_5_method_10_code 62 = .ok (.iload_n 2, 1) := by decide +kernel
theorem d_Links_noteSuper_63 : decode prog_5_method_10_code 63 = .ok (.iaload, 1) := by decide +kernel
theorem d_Links_noteSuper_64 : decode prog_5_method_10_code 64 = .ok (.iastore, 1) := by decide +kernel
theorem d_Links_noteSuper_65 : decode prog_5_method_10_code 65 = .ok (.return_, 1) := by decide +kernel
theorem d_Links_noteSupers_0 : decode prog_5_method_9_code 0 = .ok (.aload_n 0, 1) := by decide +kernel
theorem d_Links_noteSupers_1 : decode prog_5_method_9_code 1 = .ok (.getfield 17, 3) := by decide +kernel
theorem d_Links_noteSupers_4 : decode prog_5_method_9_code 4 = .ok (.iload_n 1, 1) := by decide +kernel
theorem d_Links_noteSupers_5 : decode prog_5_method_9_code 5 = .ok (.aaload, 1) := by decide +kernel
theorem d_Links_noteSupers_6 : decode prog_5_method_9_code 6 = .ok (.iconst 0, 1) := by decide +kernel
theorem d_Links_noteSupers_7 : decode prog_5_method_9_code 7 = .ok (.iload_n 1, 1) := by decide +kernel
theorem d_Links_noteSupers_8 : decode prog_5_method_9_code 8 = .ok (.iastore, 1) := by decide +kernel
theorem d_Links_noteSupers_9 : decode prog_5_method_9_code 9 = .ok (.aload_n 0, 1) := by decide +kernel
theorem d_Links_noteSupers_10 : decode prog_5_method_9_code 10 = .ok (.getfield 20, 3) := by decide +kernel
theorem d_Links_noteSupers_13 : decode prog_5_method_9_code 13 = .ok (.iload_n 1, 1) := by decide +kernel
theorem d_Links_noteSupers_14 : decode prog_5_method_9_code 14 = .ok (.iconst 1, 1) := by decide +kernel
theorem d_Links_noteSupers_15 : decode prog_5_method_9_code 15 = .ok (.iastore, 1) := by decide +kernel
theorem d_Links_noteSupers_16 : decode prog_5_method_9_code 16 = .ok (.aload_n 0, 1) := by decide +kernel
theorem d_Links_noteSupers_17 : decode prog_5_method_9_code 17 = .ok (.getfield 23, 3) := by decide +kernel
theorem d_Links_noteSupers_20 : decode prog_5_method_9_code 20 = .ok (.iload_n 1, 1) := by decide +kernel
theorem d_Links_noteSupers_21 : decode prog_5_method_9_code 21 = .ok (.iconst 0, 1) := by decide +kernel
theorem d_Links_noteSupers_22 : decode prog_5_method_9_code 22 = .ok (.iastore, 1) := by decide +kernel
theorem d_Links_noteSupers_23 : decode prog_5_method_9_code 23 = .ok (.aload_n 0, 1) := by decide +kernel
theorem d_Links_noteSupers_24 : decode prog_5_method_9_code 24 = .ok (.getfield 26, 3) := by decide +kernel
theorem d_Links_noteSupers_27 : decode prog_5_method_9_code 27 = .ok (.iload_n 1, 1) := by decide +kernel
theorem d_Links_noteSupers_28 : decode prog_5_method_9_code 28 = .ok (.iconst 0, 1) := by decide +kernel
theorem d_Links_noteSupers_29 : decode prog_5_method_9_code 29 = .ok (.iastore, 1) := by decide +kernel
theorem d_Links_noteSupers_30 : decode prog_5_method_9_code 30 = .ok (.aload_n 0, 1) := by decide +kernel
theorem d_Links_noteSupers_31 : decode prog_5_method_9_code 31 = .ok (.getfield 40, 3) := by decide +kernel
theorem d_Links_noteSupers_34 : decode prog_5_method_9_code 34 = .ok (.getfield 78, 3) := by decide +kernel
theorem d_Links_noteSupers_37 : decode prog_5_method_9_code 37 = .ok (.iload_n 1, 1) := by decide +kernel
theorem d_Links_noteSupers_38 : decode prog_5_method_9_code 38 = .ok (.iaload, 1) := by decide +kernel
theorem d_Links_noteSupers_39 : decode prog_5_method_9_code 39 = .ok (.bipush 12, 2) := by decide +kernel
theorem d_Links_noteSupers_41 : decode prog_5_method_9_code 41 = .ok (.if_icmp .eq 33, 3) := by decide +kernel
theorem d_Links_noteSupers_44 : decode prog_5_method_9_code 44 = .ok (.aload_n 0, 1) := by decide +kernel
theorem d_Links_noteSupers_45 : decode prog_5_method_9_code 45 = .ok (.iload_n 1, 1) := by decide +kernel
theorem d_Links_noteSupers_46 : decode prog_5_method_9_code 46 = .ok (.aload_n 0, 1) := by decide +kernel
theorem d_Links_noteSupers_47 : decode prog_5_method_9_code 47 = .ok (.getfield 36, 3) := by decide +kernel
theorem d_Links_noteSupers_50 : decode prog_5_method_9_code 50 = .ok (.aload_n 0, 1) := by decide +kernel
theorem d_Links_noteSupers_51 : decode prog_5_method_9_code 51 = .ok (.getfield 40, 3) := by decide +kernel
theorem d_Links_noteSupers_54 : decode prog_5_method_9_code 54 = .ok (.getfield 63, 3) := by decide +kernel
theorem d_Links_noteSupers_57 : decode prog_5_method_9_code 57 = .ok (.iload_n 1, 1) := by decide +kernel
theorem d_Links_noteSupers_58 : decode prog_5_method_9_code 58 = .ok (.iaload, 1) := by decide +kernel
theorem d_Links_noteSupers_59 : decode prog_5_method_9_code 59 = .ok (.aload_n 0, 1) := by decide +kernel
theorem d_Links_noteSupers_60 : decode prog_5_method_9_code 60 = .ok (.getfield 40, 3) := by decide +kernel
theorem d_Links_noteSupers_63 : decode prog_5_method_9_code 63 = .ok (.getfield 78, 3) := by decide +kernel
theorem d_Links_noteSupers_66 : decode prog_5_method_9_code 66 = .ok (.iload_n 1, 1) := by decide +kernel
theorem d_Links_noteSupers_67 : decode prog_5_method_9_code 67 = .ok (.iaload, 1) := by decide +kernel
theorem d_Links_noteSupers_68 : decode prog_5_method_9_code 68 = .ok (.invokevirtual 65, 3) := by decide +kernel
theorem d_Links_noteSupers_71 : decode prog_5_method_9_code 71 = .ok (.invokevirtual 98, 3) := by decide +kernel
theorem d_Links_noteSupers_74 : decode prog_5_method_9_code 74 = .ok (.iconst 0, 1) := by decide +kernel
theorem d_Links_noteSupers_75 : decode prog_5_method_9_code 75 = .ok (.istore_n 2, 1) := by decide +kernel
theorem d_Links_noteSupers_76 : decode prog_5_method_9_code 76 = .ok (.iload_n 2, 1) := by decide +kernel
theorem d_Links_noteSupers_77 : decode prog_5_method_9_code 77 = .ok (.bipush 12, 2) := by decide +kernel
theorem d_Links_noteSupers_79 : decode prog_5_method_9_code 79 = .ok (.if_icmp .ge 63, 3) := by decide +kernel
theorem d_Links_noteSupers_82 : decode prog_5_method_9_code 82 = .ok (.aload_n 0, 1) := by decide +kernel
theorem d_Links_noteSupers_83 : decode prog_5_method_9_code 83 = .ok (.getfield 40, 3) := by decide +kernel
theorem d_Links_noteSupers_86 : decode prog_5_method_9_code 86 = .ok (.getfield 85, 3) := by decide +kernel
theorem d_Links_noteSupers_89 : decode prog_5_method_9_code 89 = .ok (.iload_n 1, 1) := by decide +kernel
theorem d_Links_noteSupers_90 : decode prog_5_method_9_code 90 = .ok (.iaload, 1) := by decide +kernel
theorem d_Links_noteSupers_91 : decode prog_5_method_9_code 91 = .ok (.i2l, 1) := by decide +kernel
theorem d_Links_noteSupers_92 : decode prog_5_method_9_code 92 = .ok (.iload_n 2, 1) := by decide +kernel
theorem d_Links_noteSupers_93 : decode prog_5_method_9_code 93 = .ok (.invokestatic 59, 3) := by decide +kernel
theorem d_Links_noteSupers_96 : decode prog_5_method_9_code 96 = .ok (.ifCond .eq 40, 3) := by decide +kernel
theorem d_Links_noteSupers_99 : decode prog_5_method_9_code 99 = .ok (.aload_n 0, 1) := by decide +kernel
theorem d_Links_noteSupers_100 : decode prog_5_method_9_code 100 = .ok (.getfield 36, 3) := by decide +kernel
theorem d_Links_noteSupers_103 : decode prog_5_method_9_code 103 = .ok (.aload_n 0, 1) := by decide +kernel
theorem d_Links_noteSupers_104 : decode prog_5_method_9_code 104 = .ok (.getfield 40, 3) := by decide +kernel
theorem d_Links_noteSupers_107 : decode prog_5_method_9_code 107 = .ok (.getfield 63, 3) := by decide +kernel
theorem d_Links_noteSupers_110 : decode prog_5_method_9_code 110 = .ok (.iload_n 1, 1) := by decide +kernel
theorem d_Links_noteSupers_111 : decode prog_5_method_9_code 111 = .ok (.iaload, 1) := by decide +kernel
theorem d_Links_noteSupers_112 : decode prog_5_method_9_code 112 = .ok (.iload_n 2, 1) := by decide +kernel
theorem d_Links_noteSupers_113 : decode prog_5_method_9_code 113 = .ok (.invokevirtual 65, 3) := by decide +kernel
theorem d_Links_noteSupers_116 : decode prog_5_method_9_code 116 = .ok (.istore_n 3, 1) := by decide +kernel
theorem d_Links_noteSupers_117 : decode prog_5_method_9_code 117 = .ok (.aload_n 0, 1) := by decide +kernel
theorem d_Links_noteSupers_118 : decode prog_5_method_9_code 118 = .ok (.getfield 26, 3) := by decide +kernel
theorem d_Links_noteSupers_121 : decode prog_5_method_9_code 121 = .ok (.iload_n 1, 1) := by decide +kernel
theorem d_Links_noteSupers_122 : decode prog_5_method_9_code 122 = .ok (.dup2, 1) := by decide +kernel
theorem d_Links_noteSupers_123 : decode prog_5_method_9_code 123 = .ok (.iaload, 1) := by decide +kernel
theorem d_Links_noteSupers_124 : decode prog_5_method_9_code 124 = .ok (.iconst 1, 1) := by decide +kernel
theorem d_Links_noteSupers_125 : decode prog_5_method_9_code 125 = .ok (.iload_n 3, 1) := by decide +kernel
theorem d_Links_noteSupers_126 : decode prog_5_method_9_code 126 = .ok (.ishl, 1) := by decide +kernel
theorem d_Links_noteSupers_127 : decode prog_5_method_9_code 127 = .ok (.aload_n 0, 1) := by decide +kernel
theorem d_Links_noteSupers_128 : decode prog_5_method_9_code 128 = .ok (.getfield 26, 3) := by decide +kernel
theorem d_Links_noteSupers_131 : decode prog_5_method_9_code 131 = .ok (.iload_n 3, 1) := by decide +kernel
theorem d_Links_noteSupers_132 : decode prog_5_method_9_code 132 = .ok (.iaload, 1) := by decide +kernel
theorem d_Links_noteSupers_133 : decode prog_5_method_9_code 133 = .ok (.ior, 1) := by decide +kernel
theorem d_Links_noteSupers_134 : decode prog_5_method_9_code 134 = .ok (.ior, 1) := by decide +kernel
theorem d_Links_noteSupers_135 : decode prog_5_method_9_code 135 = .ok (.iastore, 1) := by decide +kernel
theorem d_Links_noteSupers_136 : decode prog_5_method_9_code 136 = .ok (.iinc 2 1, 3) := by decide +kernel
theorem d_Links_noteSupers_139 : decode prog_5_method_9_code 139 = .ok (.goto (-63), 3) := by decide +kernel
theorem d_Links_noteSupers_142 : decode prog_5_method_9_code 142 = .ok (.aload_n 0, 1) := by decide +kernel
theorem d_Links_noteSupers_143 : decode prog_5_method_9_code 143 = .ok (.getfield 9, 3) := by decide +kernel
theorem d_Links_noteSupers_146 : decode prog_5_method_9_code 146 = .ok (.iload_n 1, 1) := by decide +kernel
theorem d_Links_noteSupers_147 : decode prog_5_method_9_code 147 = .ok (.iload_n 1, 1) := by decide +kernel
theorem d_Links_noteSupers_148 : decode prog_5_method_9_code 148 = .ok (.iastore, 1) := by decide +kernel
theorem d_Links_noteSupers_149 : decode prog_5_method_9_code 149 = .ok (.aload_n 0, 1) := by decide +kernel
theorem d_Links_noteSupers_150 : decode prog_5_method_9_code 150 = .ok (.getfield 29, 3) := by decide +kernel
theorem d_Links_noteSupers_153 : decode prog_5_method_9_code 153 = .ok (.aload_n 0, 1) := by decide +kernel
theorem d_Links_noteSupers_154 : decode prog_5_method_9_code 154 = .ok (.getfield 32, 3) := by decide +kernel
theorem d_Links_noteSupers_157 : decode prog_5_method_9_code 157 = .ok (.iload_n 1, 1) := by decide +kernel
theorem d_Links_noteSupers_158 : decode prog_5_method_9_code 158 = .ok (.iastore, 1) := by decide +kernel
theorem d_Links_noteSupers_159 : decode prog_5_method_9_code 159 = .ok (.aload_n 0, 1) := by decide +kernel
theorem d_Links_noteSupers_160 : decode prog_5_method_9_code 160 = .ok (.dup, 1) := by decide +kernel
theorem d_Links_noteSupers_161 : decode prog_5_method_9_code 161 = .ok (.getfield 32, 3) := by decide +kernel
theorem d_Links_noteSupers_164 : decode prog_5_method_9_code 164 = .ok (.iconst 1, 1) := by decide +kernel
theorem d_Links_noteSupers_165 : decode prog_5_method_9_code 165 = .ok (.iadd, 1) := by decide +kernel
theorem d_Links_noteSupers_166 : decode prog_5_method_9_code 166 = .ok (.putfield 32, 3) := by decide +kernel
theorem d_Links_noteSupers_169 : decode prog_5_method_9_code 169 = .ok (.return_, 1) := by decide +kernel
theorem d_Links_loadCode_0 : decode prog_5_method_7_code 0 = .ok (.iload_n 2, 1) := by decide +kernel
theorem d_Links_loadCode_1 : decode prog_5_method_7_code 1 = .ok (.i2l, 1) := by decide +kernel
theorem d_Links_loadCode_2 : decode prog_5_method_7_code 2 = .ok (.iload_n 1, 1) := by decide +kernel
theorem d_Links_loadCode_3 : decode prog_5_method_7_code 3 = .ok (.invokestatic 59, 3) := by decide +kernel
theorem d_Links_loadCode_6 : decode prog_5_method_7_code 6 = .ok (.ifCond .eq 6, 3) := by decide +kernel
theorem d_Links_loadCode_9 : decode prog_5_method_7_code 9 = .ok (.bipush (-4), 2) := by decide +kernel
theorem d_Links_loadCode_11 : decode prog_5_method_7_code 11 = .ok (.ireturn, 1) := by decide +kernel
theorem d_Links_loadCode_12 : decode prog_5_method_7_code 12 = .ok (.aload_n 0, 1) := by decide +kernel
theorem d_Links_loadCode_13 : decode prog_5_method_7_code 13 = .ok (.iload_n 1, 1) := by decide +kernel
theorem d_Links_loadCode_14 : decode prog_5_method_7_code 14 = .ok (.invokevirtual 70, 3) := by decide +kernel
theorem d_Links_loadCode_17 : decode prog_5_method_7_code 17 = .ok (.ifCond .eq 5, 3) := by decide +kernel
theorem d_Links_loadCode_20 : decode prog_5_method_7_code 20 = .ok (.iload_n 1, 1) := by decide +kernel
theorem d_Links_loadCode_21 : decode prog_5_method_7_code 21 = .ok (.ireturn, 1) := by decide +kernel
theorem d_Links_loadCode_22 : decode prog_5_method_7_code 22 = .ok (.iload_n 2, 1) := by decide +kernel
theorem d_Links_loadCode_23 : decode prog_5_method_7_code 23 = .ok (.iconst 1, 1) := by decide +kernel
theorem d_Links_loadCode_24 : decode prog_5_method_7_code 24 = .ok (.iload_n 1, 1) := by decide +kernel
theorem d_Links_loadCode_25 : decode prog_5_method_7_code 25 = .ok (.ishl, 1) := by decide +kernel
theorem d_Links_loadCode_26 : decode prog_5_method_7_code 26 = .ok (.ior, 1) := by decide +kernel
theorem d_Links_loadCode_27 : decode prog_5_method_7_code 27 = .ok (.istore_n 3, 1) := by decide +kernel
theorem d_Links_loadCode_28 : decode prog_5_method_7_code 28 = .ok (.aload_n 0, 1) := by decide +kernel
theorem d_Links_loadCode_29 : decode prog_5_method_7_code 29 = .ok (.getfield 40, 3) := by decide +kernel
theorem d_Links_loadCode_32 : decode prog_5_method_7_code 32 = .ok (.getfield 78, 3) := by decide +kernel
theorem d_Links_loadCode_35 : decode prog_5_method_7_code 35 = .ok (.iload_n 1, 1) := by decide +kernel
theorem d_Links_loadCode_36 : decode prog_5_method_7_code 36 = .ok (.iaload, 1) := by decide +kernel
theorem d_Links_loadCode_37 : decode prog_5_method_7_code 37 = .ok (.istore 4, 2) := by decide +kernel
theorem d_Links_loadCode_39 : decode prog_5_method_7_code 39 = .ok (.iload 4, 2) := by decide +kernel
theorem d_Links_loadCode_41 : decode prog_5_method_7_code 41 = .ok (.bipush 12, 2) := by decide +kernel
theorem d_Links_loadCode_43 : decode prog_5_method_7_code 43 = .ok (.if_icmp .ne 7, 3) := by decide +kernel
theorem d_Links_loadCode_46 : decode prog_5_method_7_code 46 = .ok (.iload_n 1, 1) := by decide +kernel
theorem d_Links_loadCode_47 : decode prog_5_method_7_code 47 = .ok (.goto 12, 3) := by decide +kernel
theorem d_Links_loadCode_50 : decode prog_5_method_7_code 50 = .ok (.aload_n 0, 1) := by decide +kernel
theorem d_Links_loadCode_51 : decode prog_5_method_7_code 51 = .ok (.iload_n 1, 1) := by decide +kernel
theorem d_Links_loadCode_52 : decode prog_5_method_7_code 52 = .ok (.iload 4, 2) := by decide +kernel
theorem d_Links_loadCode_54 : decode prog_5_method_7_code 54 = .ok (.iconst 0, 1) := by decide +kernel
theorem d_Links_loadCode_55 : decode prog_5_method_7_code 55 = .ok (.iload_n 3, 1) := by decide +kernel
theorem d_Links_loadCode_56 : decode prog_5_method_7_code 56 = .ok (.invokevirtual 81, 3) := by decide +kernel
theorem d_Links_loadCode_59 : decode prog_5_method_7_code 59 = .ok (.istore 5, 2) := by decide +kernel
theorem d_Links_loadCode_61 : decode prog_5_method_7_code 61 = .ok (.iconst 0, 1) := by decide +kernel
theorem d_Links_loadCode_62 : decode prog_5_method_7_code 62 = .ok (.istore 6, 2) := by decide +kernel
theorem d_Links_loadCode_64 : decode prog_5_method_7_code 64 = .ok (.iload 6, 2) := by decide +kernel
theorem d_Links_loadCode_66 : decode prog_5_method_7_code 66 = .ok (.bipush 12, 2) := by decide +kernel
theorem d_Links_loadCode_68 : decode prog_5_method_7_code 68 = .ok (.if_icmp .ge 43, 3) := by decide +kernel
theorem d_Links_loadCode_71 : decode prog_5_method_7_code 71 = .ok (.iload 5, 2) := by decide +kernel
theorem d_Links_loadCode_73 : decode prog_5_method_7_code 73 = .ok (.ifCond .le 38, 3) := by decide +kernel
theorem d_Links_loadCode_76 : decode prog_5_method_7_code 76 = .ok (.aload_n 0, 1) := by decide +kernel
theorem d_Links_loadCode_77 : decode prog_5_method_7_code 77 = .ok (.getfield 40, 3) := by decide +kernel
theorem d_Links_loadCode_80 : decode prog_5_method_7_code 80 = .ok (.getfield 85, 3) := by decide +kernel
theorem d_Links_loadCode_83 : decode prog_5_method_7_code 83 = .ok (.iload_n 1, 1) := by decide +kernel
theorem d_Links_loadCode_84 : decode prog_5_method_7_code 84 = .ok (.iaload, 1) := by decide +kernel
theorem d_Links_loadCode_85 : decode prog_5_method_7_code 85 = .ok (.i2l, 1) := by decide +kernel
theorem d_Links_loadCode_86 : decode prog_5_method_7_code 86 = .ok (.iload 6, 2) := by decide +kernel
theorem d_Links_loadCode_88 : decode prog_5_method_7_code 88 = .ok (.invokestatic 59, 3) := by decide +kernel
theorem d_Links_loadCode_91 : decode prog_5_method_7_code 91 = .ok (.ifCond .eq 14, 3) := by decide +kernel
theorem d_Links_loadCode_94 : decode prog_5_method_7_code 94 = .ok (.aload_n 0, 1) := by decide +kernel
theorem d_Links_loadCode_95 : decode prog_5_method_7_code 95 = .ok (.iload_n 1, 1) := by decide +kernel
theorem d_Links_loadCode_96 : decode prog_5_method_7_code 96 = .ok (.iload 6, 2) := by decide +kernel
theorem d_Links_loadCode_98 : decode prog_5_method_7_code 98 = .ok (.iconst 1, 1) := by decide +kernel
theorem d_Links_loadCode_99 : decode prog_5_method_7_code 99 = .ok (.iload_n 3, 1) := by decide +kernel
theorem d_Links_loadCode_100 : decode prog_5_method_7_code 100 = .ok (.invokevirtual 81, 3) := by decide +kernel
theorem d_Links_loadCode_103 : decode prog_5_method_7_code 103 = .ok (.istore 5, 2) := by decide +kernel
theorem d_Links_loadCode_105 : decode prog_5_method_7_code 105 = .ok (.iinc 6 1, 3) := by decide +kernel
theorem d_Links_loadCode_108 : decode prog_5_method_7_code 108 = .ok (.goto (-44), 3) := by decide +kernel
theorem d_Links_loadCode_111 : decode prog_5_method_7_code 111 = .ok (.iload 5, 2) := by decide +kernel
theorem d_Links_loadCode_113 : decode prog_5_method_7_code 113 = .ok (.ifCond .ge 6, 3) := by decide +kernel
theorem d_Links_loadCode_116 : decode prog_5_method_7_code 116 = .ok (.iload 5, 2) := by decide +kernel
theorem d_Links_loadCode_118 : decode prog_5_method_7_code 118 = .ok (.ireturn, 1) := by decide +kernel
theorem d_Links_loadCode_119 : decode prog_5_method_7_code 119 = .ok (.aload_n 0, 1) := by decide +kernel
theorem d_Links_loadCode_120 : decode prog_5_method_7_code 120 = .ok (.iload_n 1, 1) := by decide +kernel
theorem d_Links_loadCode_121 : decode prog_5_method_7_code 121 = .ok (.invokevirtual 88, 3) := by decide +kernel
theorem d_Links_loadCode_124 : decode prog_5_method_7_code 124 = .ok (.iload_n 1, 1) := by decide +kernel
theorem d_Links_loadCode_125 : decode prog_5_method_7_code 125 = .ok (.ireturn, 1) := by decide +kernel
theorem d_Links_renew_0 : decode prog_5_method_2_code 0 = .ok (.aload_n 0, 1) := by decide +kernel
theorem d_Links_renew_1 : decode prog_5_method_2_code 1 = .ok (.iconst 0, 1) := by decide +kernel
theorem d_Links_renew_2 : decode prog_5_method_2_code 2 = .ok (.putfield 32, 3) := by decide +kernel
theorem d_Links_renew_5 : decode prog_5_method_2_code 5 = .ok (.aload_n 0, 1) := by decide +kernel
theorem d_Links_renew_6 : decode prog_5_method_2_code 6 = .ok (.getfield 9, 3) := by decide +kernel
theorem d_Links_renew_9 : decode prog_5_method_2_code 9 = .ok (.iconst 0, 1) := by decide +kernel
theorem d_Links_renew_10 : decode prog_5_method_2_code 10 = .ok (.invokestatic 44, 3) := by decide +kernel
theorem d_Links_renew_13 : decode prog_5_method_2_code 13 = .ok (.iconst 1, 1) := by decide +kernel
theorem d_Links_renew_14 : decode prog_5_method_2_code 14 = .ok (.istore_n 1, 1) := by decide +kernel
theorem d_Links_renew_15 : decode prog_5_method_2_code 15 = .ok (.iload_n 1, 1) := by decide +kernel
theorem d_Links_renew_16 : decode prog_5_method_2_code 16 = .ok (.aload_n 0, 1) := by decide +kernel
theorem d_Links_renew_17 : decode prog_5_method_2_code 17 = .ok (.getfield 40, 3) := by decide +kernel
theorem d_Links_renew_20 : decode prog_5_method_2_code 20 = .ok (.getfield 50, 3) := by decide +kernel
theorem d_Links_renew_23 : decode prog_5_method_2_code 23 = .ok (.if_icmp .gt 21, 3) := by decide +kernel
theorem d_Links_renew_26 : decode prog_5_method_2_code 26 = .ok (.aload_n 0, 1) := by decide +kernel
theorem d_Links_renew_27 : decode prog_5_method_2_code 27 = .ok (.getfield 9, 3) := by decide +kernel
theorem d_Links_renew_30 : decode prog_5_method_2_code 30 = .ok (.iload_n 1, 1) := by decide +kernel
theorem d_Links_renew_31 : decode prog_5_method_2_code 31 = .ok (.aload_n 0, 1) := by decide +kernel
theorem d_Links_renew_32 : decode prog_5_method_2_code 32 = .ok (.iload_n 1, 1) := by decide +kernel
theorem d_Links_renew_33 : decode prog_5_method_2_code 33 = .ok (.iconst 0, 1) := by decide +kernel
theorem d_Links_renew_34 : decode prog_5_method_2_code 34 = .ok (.invokevirtual 55, 3) := by decide +kernel
theorem d_Links_renew_37 : decode prog_5_method_2_code 37 = .ok (.iastore, 1) := by decide +kernel
theorem d_Links_renew_38 : decode prog_5_method_2_code 38 = .ok (.iinc 1 1, 3) := by decide +kernel
theorem d_Links_renew_41 : decode prog_5_method_2_code 41 = .ok (.goto (-26), 3) := by decide +kernel
theorem d_Links_renew_44 : decode prog_5_method_2_code 44 = .ok (.return_, 1) := by decide +kernel
theorem d_Selector_likeOnes_0 : decode prog_10_method_4_code 0 = .ok (.aload_n 0, 1) := by decide +kernel
theorem d_Selector_likeOnes_1 : decode prog_10_method_4_code 1 = .ok (.getfield 33, 3) := by decide +kernel
theorem d_Selector_likeOnes_4 : decode prog_10_method_4_code 4 = .ok (.aload_n 0, 1) := by decide +kernel
theorem d_Selector_likeOnes_5 : decode prog_10_method_4_code 5 = .ok (.getfield 33, 3) := by decide +kernel
theorem d_Selector_likeOnes_8 : decode prog_10_method_4_code 8 = .ok (.getfield 88, 3) := by decide +kernel
theorem d_Selector_likeOnes_11 : decode prog_10_method_4_code 11 = .ok (.iload_n 1, 1) := by decide +kernel
theorem d_Selector_likeOnes_12 : decode prog_10_method_4_code 12 = .ok (.iaload, 1) := by decide +kernel
theorem d_Selector_likeOnes_13 : decode prog_10_method_4_code 13 = .ok (.invokevirtual 91, 3) := by decide +kernel
theorem d_Selector_likeOnes_16 : decode prog_10_method_4_code 16 = .ok (.aload_n 0, 1) := by decide +kernel
theorem d_Selector_likeOnes_17 : decode prog_10_method_4_code 17 = .ok (.getfield 33, 3) := by decide +kernel
theorem d_Selector_likeOnes_20 : decode prog_10_method_4_code 20 = .ok (.getfield 54, 3) := by decide +kernel
theorem d_Selector_likeOnes_23 : decode prog_10_method_4_code 23 = .ok (.land, 1) := by decide +kernel
theorem d_Selector_likeOnes_24 : decode prog_10_method_4_code 24 = .ok (.lreturn, 1) := by decide +kernel
theorem d_Long_bitCount_0 : decode prog_13_method_50_code 0 = .ok (.lload_n 0, 1) := by decide +kernel
theorem d_Long_bitCount_1 : decode prog_13_method_50_code 1 = .ok (.lload_n 0, 1) := by decide +kernel
theorem d_Long_bitCount_2 : decode prog_13_method_50_code 2 = .ok (.iconst 1, 1) := by decide +kernel
theorem d_Long_bitCount_3 : decode prog_13_method_50_code 3 = .ok (.lushr, 1) := by decide +kernel
theorem d_Long_bitCount_4 : decode prog_13_method_50_code 4 = .ok (.ldc2_w 314, 3) := by decide +kernel
theorem d_Long_bitCount_7 : decode prog_13_method_50_code 7 = .ok (.land, 1) := by decide +kernel
theorem d_Long_bitCount_8 : decode prog_13_method_50_code 8 = .ok (.lsub, 1) := by decide +kernel
theorem d_Long_bitCount_9 : decode prog_13_method_50_code 9 = .ok (.lstore_n 0, 1) := by decide +kernel
theorem d_Long_bitCount_10 : decode prog_13_method_50_code 10 = .ok (.lload_n 0, 1) := by decide +kernel
theorem d_Long_bitCount_11 : decode prog_13_method_50_code 11 = .ok (.ldc2_w 316, 3) := by decide +kernel
theorem d_Long_bitCount_14 : decode prog_13_method_50_code 14 = .ok (.land, 1) := by decide +kernel
theorem d_Long_bitCount_15 : decode prog_13_method_50_code 15 = .ok (.lload_n 0, 1) := by decide +kernel
theorem d_Long_bitCount_16 : decode prog_13_method_50_code 16 = .ok (.iconst 2, 1) := by decide +kernel
theorem d_Long_bitCount_17 : decode prog_13_method_50_code 17 = .ok (.lushr, 1) := by decide +kernel
theorem d_Long_bitCount_18 : decode prog_13_method_50_code 18 = .ok (.ldc2_w 316, 3) := by decide +kernel
theorem d_Long_bitCount_21 : decode prog_13_method_50_code 21 = .ok (.land, 1) := by decide +kernel
theorem d_Long_bitCount_22 : decode prog_13_method_50_code 22 = .ok (.ladd, 1) := by decide +kernel
theorem d_Long_bitCount_23 : decode prog_13_method_50_code 23 = .ok (.lstore_n 0, 1) := by decide +kernel
theorem d_Long_bitCount_24 : decode prog_13_method_50_code 24 = .ok (.lload_n 0, 1) := by decide +kernel
theorem d_Long_bitCount_25 : decode prog_13_method_50_code 25 = .ok (.lload_n 0, 1) := by decide +kernel
theorem d_Long_bitCount_26 : decode prog_13_method_50_code 26 = .ok (.iconst 4, 1) := by decide +kernel
theorem d_Long_bitCount_27 : decode prog_13_method_50_code 27 = .ok (.lushr, 1) := by decide +kernel
theorem d_Long_bitCount_28 : decode prog_13_method_50_code 28 = .ok (.ladd, 1) := by decide +kernel
theorem d_Long_bitCount_29 : decode prog_13_method_50_code 29 = .ok (.ldc2_w 318, 3) := by decide +kernel
theorem d_Long_bitCount_32 : decode prog_13_method_50_code 32 = .ok (.land, 1) := by decide +kernel
theorem d_Long_bitCount_33 : decode prog_13_method_50_code 33 = .ok (.lstore_n 0, 1) := by decide +kernel
theorem d_Long_bitCount_34 : decode prog_13_method_50_code 34 = .ok (.lload_n 0, 1) := by decide +kernel
theorem d_Long_bitCount_35 : decode prog_13_method_50_code 35 = .ok (.lload_n 0, 1) := by decide +kernel
theorem d_Long_bitCount_36 : decode prog_13_method_50_code 36 = .ok (.bipush 8, 2) := by decide +kernel
theorem d_Long_bitCount_38 : decode prog_13_method_50_code 38 = .ok (.lushr, 1) := by decide +kernel
theorem d_Long_bitCount_39 : decode prog_13_method_50_code 39 = .ok (.ladd, 1) := by decide +kernel
theorem d_Long_bitCount_40 : decode prog_13_method_50_code 40 = .ok (.lstore_n 0, 1) := by decide +kernel
theorem d_Long_bitCount_41 : decode prog_13_method_50_code 41 = .ok (.lload_n 0, 1) := by decide +kernel
theorem d_Long_bitCount_42 : decode prog_13_method_50_code 42 = .ok (.lload_n 0, 1) := by decide +kernel
theorem d_Long_bitCount_43 : decode prog_13_method_50_code 43 = .ok (.bipush 16, 2) := by decide +kernel
theorem d_Long_bitCount_45 : decode prog_13_method_50_code 45 = .ok (.lushr, 1) := by decide +kernel
theorem d_Long_bitCount_46 : decode prog_13_method_50_code 46 = .ok (.ladd, 1) := by decide +kernel
theorem d_Long_bitCount_47 : decode prog_13_method_50_code 47 = .ok (.lstore_n 0, 1) := by decide +kernel
theorem d_Long_bitCount_48 : decode prog_13_method_50_code 48 = .ok (.lload_n 0, 1) := by decide +kernel
theorem d_Long_bitCount_49 : decode prog_13_method_50_code 49 = .ok (.lload_n 0, 1) := by decide +kernel
theorem d_Long_bitCount_50 : decode prog_13_method_50_code 50 = .ok (.bipush 32, 2) := by decide +kernel
theorem d_Long_bitCount_52 : decode prog_13_method_50_code 52 = .ok (.lushr, 1) := by decide +kernel
theorem d_Long_bitCount_53 : decode prog_13_method_50_code 53 = .ok (.ladd, 1) := by decide +kernel
theorem d_Long_bitCount_54 : decode prog_13_method_50_code 54 = .ok (.lstore_n 0, 1) := by decide +kernel
theorem d_Long_bitCount_55 : decode prog_13_method_50_code 55 = .ok (.lload_n 0, 1) := by decide +kernel
theorem d_Long_bitCount_56 : decode prog_13_method_50_code 56 = .ok (.l2i, 1) := by decide +kernel
theorem d_Long_bitCount_57 : decode prog_13_method_50_code 57 = .ok (.bipush 127, 2) := by decide +kernel
theorem d_Long_bitCount_59 : decode prog_13_method_50_code 59 = .ok (.iand, 1) := by decide +kernel
theorem d_Long_bitCount_60 : decode prog_13_method_50_code 60 = .ok (.ireturn, 1) := by decide +kernel
theorem d_LinkAudit_lowestBit_0 : decode prog_1_method_23_code 0 = .ok (.lload_n 0, 1) := by decide +kernel
theorem d_LinkAudit_lowestBit_1 : decode prog_1_method_23_code 1 = .ok (.lload_n 0, 1) := by decide +kernel
theorem d_LinkAudit_lowestBit_2 : decode prog_1_method_23_code 2 = .ok (.lneg, 1) := by decide +kernel
theorem d_LinkAudit_lowestBit_3 : decode prog_1_method_23_code 3 = .ok (.land, 1) := by decide +kernel
theorem d_LinkAudit_lowestBit_4 : decode prog_1_method_23_code 4 = .ok (.lconst 1, 1) := by decide +kernel
theorem d_LinkAudit_lowestBit_5 : decode prog_1_method_23_code 5 = .ok (.lsub, 1) := by decide +kernel
theorem d_LinkAudit_lowestBit_6 : decode prog_1_method_23_code 6 = .ok (.invokestatic 188, 3) := by decide +kernel
theorem d_LinkAudit_lowestBit_9 : decode prog_1_method_23_code 9 = .ok (.ireturn, 1) := by decide +kernel
theorem d_Selector_coversAtOnce_0 : decode prog_10_method_5_code 0 = .ok (.aload_n 0, 1) := by decide +kernel
theorem d_Selector_coversAtOnce_1 : decode prog_10_method_5_code 1 = .ok (.getfield 33, 3) := by decide +kernel
theorem d_Selector_coversAtOnce_4 : decode prog_10_method_5_code 4 = .ok (.iload_n 2, 1) := by decide +kernel
theorem d_Selector_coversAtOnce_5 : decode prog_10_method_5_code 5 = .ok (.invokevirtual 94, 3) := by decide +kernel
theorem d_Selector_coversAtOnce_8 : decode prog_10_method_5_code 8 = .ok (.iconst 2, 1) := by decide +kernel
theorem d_Selector_coversAtOnce_9 : decode prog_10_method_5_code 9 = .ok (.if_icmp .ne 31, 3) := by decide +kernel
theorem d_Selector_coversAtOnce_12 : decode prog_10_method_5_code 12 = .ok (.aload_n 0, 1) := by decide +kernel
theorem d_Selector_coversAtOnce_13 : decode prog_10_method_5_code 13 = .ok (.getfield 28, 3) := by decide +kernel
theorem d_Selector_coversAtOnce_16 : decode prog_10_method_5_code 16 = .ok (.aload_n 0, 1) := by decide +kernel
theorem d_Selector_coversAtOnce_17 : decode prog_10_method_5_code 17 = .ok (.getfield 33, 3) := by decide +kernel
theorem d_Selector_coversAtOnce_20 : decode prog_10_method_5_code 20 = .ok (.getfield 51, 3) := by decide +kernel
theorem d_Selector_coversAtOnce_23 : decode prog_10_method_5_code 23 = .ok (.iload_n 1, 1) := by decide +kernel
theorem d_Selector_coversAtOnce_24 : decode prog_10_method_5_code 24 = .ok (.iaload, 1) := by decide +kernel
theorem d_Selector_coversAtOnce_25 : decode prog_10_method_5_code 25 = .ok (.aload_n 0, 1) := by decide +kernel
theorem d_Selector_coversAtOnce_26 : decode prog_10_method_5_code 26 = .ok (.getfield 33, 3) := by decide +kernel
theorem d_Selector_coversAtOnce_29 : decode prog_10_method_5_code 29 = .ok (.getfield 51, 3) := by decide +kernel
theorem d_Selector_coversAtOnce_32 : decode prog_10_method_5_code 32 = .ok (.iload_n 2, 1) := by decide +kernel
theorem d_Selector_coversAtOnce_33 : decode prog_10_method_5_code 33 = .ok (.iaload, 1) := by decide +kernel
theorem d_Selector_coversAtOnce_34 : decode prog_10_method_5_code 34 = .ok (.invokevirtual 98, 3) := by decide +kernel
theorem d_Selector_coversAtOnce_37 : decode prog_10_method_5_code 37 = .ok (.ifCond .eq 7, 3) := by decide +kernel
theorem d_Selector_coversAtOnce_40 : decode prog_10_method_5_code 40 = .ok (.iconst 1, 1) := by decide +kernel
theorem d_Selector_coversAtOnce_41 : decode prog_10_method_5_code 41 = .ok (.goto 4, 3) := by decide +kernel
theorem d_Selector_coversAtOnce_44 : decode prog_10_method_5_code 44 = .ok (.iconst 0, 1) := by decide +kernel
theorem d_Selector_coversAtOnce_45 : decode prog_10_method_5_code 45 = .ok (.ireturn, 1) := by decide +kernel
theorem d_Selector_coveredFrom_0 : decode prog_10_method_3_code 0 = .ok (.aload_n 0, 1) := by decide +kernel
theorem d_Selector_coveredFrom_1 : decode prog_10_method_3_code 1 = .ok (.iload_n 2, 1) := by decide +kernel
theorem d_Selector_coveredFrom_2 : decode prog_10_method_3_code 2 = .ok (.invokevirtual 66, 3) := by decide +kernel
theorem d_Selector_coveredFrom_5 : decode prog_10_method_3_code 5 = .ok (.lstore_n 3, 1) := by decide +kernel
theorem d_Selector_coveredFrom_6 : decode prog_10_method_3_code 6 = .ok (.lconst 0, 1) := by decide +kernel
theorem d_Selector_coveredFrom_7 : decode prog_10_method_3_code 7 = .ok (.lstore 5, 2) := by decide +kernel
theorem d_Selector_coveredFrom_9 : decode prog_10_method_3_code 9 = .ok (.lconst 0, 1) := by decide +kernel
theorem d_Selector_coveredFrom_10 : decode prog_10_method_3_code 10 = .ok (.lstore 7, 2) := by decide +kernel
theorem d_Selector_coveredFrom_12 : decode prog_10_method_3_code 12 = .ok (.iconst 1, 1) := by decide +kernel
theorem d_Selector_coveredFrom_13 : decode prog_10_method_3_code 13 = .ok (.istore 9, 2) := by decide +kernel
theorem d_Selector_coveredFrom_15 : decode prog_10_method_3_code 15 = .ok (.iload 9, 2) := by decide +kernel
theorem d_Selector_coveredFrom_17 : decode prog_10_method_3_code 17 = .ok (.aload_n 0, 1) := by decide +kernel
theorem d_Selector_coveredFrom_18 : decode prog_10_method_3_code 18 = .ok (.getfield 21, 3) := by decide +kernel
theorem d_Selector_coveredFrom_21 : decode prog_10_method_3_code 21 = .ok (.getfield 70, 3) := by decide +kernel
theorem d_Selector_coveredFrom_24 : decode prog_10_method_3_code 24 = .ok (.iload_n 1, 1) := by decide +kernel
theorem d_Selector_coveredFrom_25 : decode prog_10_method_3_code 25 = .ok (.iaload, 1) := by decide +kernel
theorem d_Selector_coveredFrom_26 : decode prog_10_method_3_code 26 = .ok (.if_icmp .ge 86, 3) := by decide +kernel
theorem d_Selector_coveredFrom_29 : decode prog_10_method_3_code 29 = .ok (.aload_n 0, 1) := by decide +kernel
theorem d_Selector_coveredFrom_30 : decode prog_10_method_3_code 30 = .ok (.getfield 33, 3) := by decide +kernel
theorem d_Selector_coveredFrom_33 : decode prog_10_method_3_code 33 = .ok (.getfield 73, 3) := by decide +kernel
theorem d_Selector_coveredFrom_36 : decode prog_10_method_3_code 36 = .ok (.aload_n 0, 1) := by decide +kernel
theorem d_Selector_coveredFrom_37 : decode prog_10_method_3_code 37 = .ok (.getfield 21, 3) := by decide +kernel
theorem d_Selector_coveredFrom_40 : decode prog_10_method_3_code 40 = .ok (.getfield 76, 3) := by decide +kernel
theorem d_Selector_coveredFrom_43 : decode prog_10_method_3_code 43 = .ok (.iload_n 1, 1) := by decide +kernel
theorem d_Selector_coveredFrom_44 : decode prog_10_method_3_code 44 = .ok (.aaload, 1) := by decide +kernel
theorem d_Selector_coveredFrom_45 : decode prog_10_method_3_code 45 = .ok (.iload 9, 2) := by decide +kernel
theorem d_Selector_coveredFrom_47 : decode prog_10_method_3_code 47 = .ok (.iaload, 1) := by decide +kernel
theorem d_Selector_coveredFrom_48 : decode prog_10_method_3_code 48 = .ok (.laload, 1) := by decide +kernel
theorem d_Selector_coveredFrom_49 : decode prog_10_method_3_code 49 = .ok (.lload_n 3, 1) := by decide +kernel
theorem d_Selector_coveredFrom_50 : decode prog_10_method_3_code 50 = .ok (.land, 1) := by decide +kernel
theorem d_Selector_coveredFrom_51 : decode prog_10_method_3_code 51 = .ok (.lstore 10, 2) := by decide +kernel
theorem d_Selector_coveredFrom_53 : decode prog_10_method_3_code 53 = .ok (.lload 10, 2) := by decide +kernel
theorem d_Selector_coveredFrom_55 : decode prog_10_method_3_code 55 = .ok (.lconst 0, 1) := by decide +kernel
theorem d_Selector_coveredFrom_56 : decode prog_10_method_3_code 56 = .ok (.lcmp, 1) := by decide +kernel
theorem d_Selector_coveredFrom_57 : decode prog_10_method_3_code 57 = .ok (.ifCond .eq 49, 3) := by decide +kernel
theorem d_Selector_coveredFrom_60 : decode prog_10_method_3_code 60 = .ok (.lload 10, 2) := by decide +kernel
theorem d_Selector_coveredFrom_62 : decode prog_10_method_3_code 62 = .ok (.invokestatic 80, 3) := by decide +kernel
theorem d_Selector_coveredFrom_65 : decode prog_10_method_3_code 65 = .ok (.istore 12, 2) := by decide +kernel
theorem d_Selector_coveredFrom_67 : decode prog_10_method_3_code 67 = .ok (.aload_n 0, 1) := by decide +kernel
theorem d_Selector_coveredFrom_68 : decode prog_10_method_3_code 68 = .ok (.iload_n 2, 1) := by decide +kernel
theorem d_Selector_coveredFrom_69 : decode prog_10_method_3_code 69 = .ok (.iload 12, 2) := by decide +kernel
theorem d_Selector_coveredFrom_71 : decode prog_10_method_3_code 71 = .ok (.invokevirtual 84, 3) := by decide +kernel
theorem d_Selector_coveredFrom_74 : decode prog_10_method_3_code 74 = .ok (.ifCond .ne 13, 3) := by decide +kernel
theorem d_Selector_coveredFrom_77 : decode prog_10_method_3_code 77 = .ok (.lload 7, 2) := by decide +kernel
theorem d_Selector_coveredFrom_79 : decode prog_10_method_3_code 79 = .ok (.iload 12, 2) := by decide +kernel
theorem d_Selector_coveredFrom_81 : decode prog_10_method_3_code 81 = .ok (.invokestatic 58, 3) := by decide +kernel
theorem d_Selector_coveredFrom_84 : decode prog_10_method_3_code 84 = .ok (.ifCond .eq 22, 3) := by decide +kernel
theorem d_Selector_coveredFrom_87 : decode prog_10_method_3_code 87 = .ok (.lload 5, 2) := by decide +kernel
theorem d_Selector_coveredFrom_89 : decode prog_10_method_3_code 89 = .ok (.lload 10, 2) := by decide +kernel
theorem d_Selector_coveredFrom_91 : decode prog_10_method_3_code 91 = .ok (.lor, 1) := by decide +kernel
theorem d_Selector_coveredFrom_92 : decode prog_10_method_3_code 92 = .ok (.lstore 5, 2) := by decide +kernel
theorem d_Selector_coveredFrom_94 : decode prog_10_method_3_code 94 = .ok (.lload 7, 2) := by decide +kernel
theorem d_Selector_coveredFrom_96 : decode prog_10_method_3_code 96 = .ok (.aload_n 0, 1) := by decide +kernel
theorem d_Selector_coveredFrom_97 : decode prog_10_method_3_code 97 = .ok (.getfield 9, 3) := by decide +kernel
theorem d_Selector_coveredFrom_100 : decode prog_10_method_3_code 100 = .ok (.iload 12, 2) := by decide +kernel
theorem d_Selector_coveredFrom_102 : decode prog_10_method_3_code 102 = .ok (.laload, 1) := by decide +kernel
theorem d_Selector_coveredFrom_103 : decode prog_10_method_3_code 103 = .ok (.lor, 1) := by decide +kernel
theorem d_Selector_coveredFrom_104 : decode prog_10_method_3_code 104 = .ok (.lstore 7, 2) := by decide +kernel
theorem d_Selector_coveredFrom_106 : decode prog_10_method_3_code 106 = .ok (.iinc 9 1, 3) := by decide +kernel
theorem d_Selector_coveredFrom_109 : decode prog_10_method_3_code 109 = .ok (.goto (-94), 3) := by decide +kernel
theorem d_Selector_coveredFrom_112 : decode prog_10_method_3_code 112 = .ok (.lload 5, 2) := by decide +kernel
theorem d_Selector_coveredFrom_114 : decode prog_10_method_3_code 114 = .ok (.lreturn, 1) := by decide +kernel
theorem d_Selector_renew_0 : decode prog_10_method_2_code 0 = .ok (.iconst 0, 1) := by decide +kernel
theorem d_Selector_renew_1 : decode prog_10_method_2_code 1 = .ok (.istore_n 1, 1) := by decide +kernel
theorem d_Selector_renew_2 : decode prog_10_method_2_code 2 = .ok (.iload_n 1, 1) := by decide +kernel
theorem d_Selector_renew_3 : decode prog_10_method_2_code 3 = .ok (.aload_n 0, 1) := by decide +kernel
theorem d_Selector_renew_4 : decode prog_10_method_2_code 4 = .ok (.getfield 21, 3) := by decide +kernel
theorem d_Selector_renew_7 : decode prog_10_method_2_code 7 = .ok (.getfield 38, 3) := by decide +kernel
theorem d_Selector_renew_10 : decode prog_10_method_2_code 10 = .ok (.if_icmp .ge 77, 3) := by decide +kernel
theorem d_Selector_renew_13 : decode prog_10_method_2_code 13 = .ok (.aload_n 0, 1) := by decide +kernel
theorem d_Selector_renew_14 : decode prog_10_method_2_code 14 = .ok (.getfield 21, 3) := by decide +kernel
theorem d_Selector_renew_17 : decode prog_10_method_2_code 17 = .ok (.getfield 42, 3) := by decide +kernel
theorem d_Selector_renew_20 : decode prog_10_method_2_code 20 = .ok (.iload_n 1, 1) := by decide +kernel
theorem d_Selector_renew_21 : decode prog_10_method_2_code 21 = .ok (.iaload, 1) := by decide +kernel
theorem d_Selector_renew_22 : decode prog_10_method_2_code 22 = .ok (.istore_n 2, 1) := by decide +kernel
theorem d_Selector_renew_23 : decode prog_10_method_2_code 23 = .ok (.iconst 1, 1) := by decide +kernel
theorem d_Selector_renew_24 : decode prog_10_method_2_code 24 = .ok (.istore_n 3, 1) := by decide +kernel
theorem d_Selector_renew_25 : decode prog_10_method_2_code 25 = .ok (.iload_n 3, 1) := by decide +kernel
theorem d_Selector_renew_26 : decode prog_10_method_2_code 26 = .ok (.aload_n 0, 1) := by decide +kernel
theorem d_Selector_renew_27 : decode prog_10_method_2_code 27 = .ok (.getfield 33, 3) := by decide +kernel
theorem d_Selector_renew_30 : decode prog_10_method_2_code 30 = .ok (.getfield 46, 3) := by decide +kernel
theorem d_Selector_renew_33 : decode prog_10_method_2_code 33 = .ok (.if_icmp .gt 48, 3) := by decide +kernel
theorem d_Selector_renew_36 : decode prog_10_method_2_code 36 = .ok (.aload_n 0, 1) := by decide +kernel
theorem d_Selector_renew_37 : decode prog_10_method_2_code 37 = .ok (.getfield 33, 3) := by decide +kernel
theorem d_Selector_renew_40 : decode prog_10_method_2_code 40 = .ok (.getfield 51, 3) := by decide +kernel
theorem d_Selector_renew_43 : decode prog_10_method_2_code 43 = .ok (.iload_n 3, 1) := by decide +kernel
theorem d_Selector_renew_44 : decode prog_10_method_2_code 44 = .ok (.iaload, 1) := by decide +kernel
theorem d_Selector_renew_45 : decode prog_10_method_2_code 45 = .ok (.iload_n 2, 1) := by decide +kernel
theorem d_Selector_renew_46 : decode prog_10_method_2_code 46 = .ok (.if_icmp .ne 29, 3) := by decide +kernel
theorem d_Selector_renew_49 : decode prog_10_method_2_code 49 = .ok (.aload_n 0, 1) := by decide +kernel
theorem d_Selector_renew_50 : decode prog_10_method_2_code 50 = .ok (.getfield 33, 3) := by decide +kernel
theorem d_Selector_renew_53 : decode prog_10_method_2_code 53 = .ok (.getfield 54, 3) := by decide +kernel
theorem d_Selector_renew_56 : decode prog_10_method_2_code 56 = .ok (.iload_n 3, 1) := by decide +kernel
theorem d_Selector_renew_57 : decode prog_10_method_2_code 57 = .ok (.invokestatic 58, 3) := by decide +kernel
theorem d_Selector_renew_60 : decode prog_10_method_2_code 60 = .ok (.ifCond .eq 15, 3) := by decide +kernel
theorem d_Selector_renew_63 : decode prog_10_method_2_code 63 = .ok (.aload_n 0, 1) := by decide +kernel
theorem d_Selector_renew_64 : decode prog_10_method_2_code 64 = .ok (.getfield 9, 3) := by decide +kernel
theorem d_Selector_renew_67 : decode prog_10_method_2_code 67 = .ok (.iload_n 3, 1) := by decide +kernel
theorem d_Selector_renew_68 : decode prog_10_method_2_code 68 = .ok (.aload_n 0, 1) := by decide +kernel
theorem d_Selector_renew_69 : decode prog_10_method_2_code 69 = .ok (.iload_n 2, 1) := by decide +kernel
theorem d_Selector_renew_70 : decode prog_10_method_2_code 70 = .ok (.iload_n 3, 1) := by decide +kernel
theorem d_Selector_renew_71 : decode prog_10_method_2_code 71 = .ok (.invokevirtual 62, 3) := by decide +kernel
theorem d_Selector_renew_74 : decode prog_10_method_2_code 74 = .ok (.lastore, 1) := by decide +kernel
theorem d_Selector_renew_75 : decode prog_10_method_2_code 75 = .ok (.iinc 3 1, 3) := by decide +kernel
theorem d_Selector_renew_78 : decode prog_10_method_2_code 78 = .ok (.goto (-53), 3) := by decide +kernel
theorem d_Selector_renew_81 : decode prog_10_method_2_code 81 = .ok (.iinc 1 1, 3) := by decide +kernel
theorem d_Selector_renew_84 : decode prog_10_method_2_code 84 = .ok (.goto (-82), 3) := by decide +kernel
theorem d_Selector_renew_87 : decode prog_10_method_2_code 87 = .ok (.return_, 1) := by decide +kernel
theorem d_LinkAudit_link_0 : decode prog_1_method_26_code 0 = .ok (.aload_n 0, 1) := by decide +kernel
theorem d_LinkAudit_link_1 : decode prog_1_method_26_code 1 = .ok (.getfield 78, 3) := by decide +kernel
theorem d_LinkAudit_link_4 : decode prog_1_method_26_code 4 = .ok (.ifCond .ne 22, 3) := by decide +kernel
theorem d_LinkAudit_link_7 : decode prog_1_method_26_code 7 = .ok (.aload_n 0, 1) := by decide +kernel
theorem d_LinkAudit_link_8 : decode prog_1_method_26_code 8 = .ok (.getfield 42, 3) := by decide +kernel
theorem d_LinkAudit_link_11 : decode prog_1_method_26_code 11 = .ok (.invokevirtual 204, 3) := by decide +kernel
theorem d_LinkAudit_link_14 : decode prog_1_method_26_code 14 = .ok (.aload_n 0, 1) := by decide +kernel
theorem d_LinkAudit_link_15 : decode prog_1_method_26_code 15 = .ok (.getfield 65, 3) := by decide +kernel
theorem d_LinkAudit_link_18 : decode prog_1_method_26_code 18 = .ok (.invokevirtual 207, 3) := by decide +kernel
theorem d_LinkAudit_link_21 : decode prog_1_method_26_code 21 = .ok (.aload_n 0, 1) := by decide +kernel
theorem d_LinkAudit_link_22 : decode prog_1_method_26_code 22 = .ok (.iconst 1, 1) := by decide +kernel
theorem d_LinkAudit_link_23 : decode prog_1_method_26_code 23 = .ok (.putfield 78, 3) := by decide +kernel
theorem d_LinkAudit_link_26 : decode prog_1_method_26_code 26 = .ok (.return_, 1) := by decide +kernel
theorem d_LinkAudit_load_0 : decode prog_1_method_9_code 0 = .ok (.aload_n 0, 1) := by decide +kernel
theorem d_LinkAudit_load_1 : decode prog_1_method_9_code 1 = .ok (.iload_n 1, 1) := by decide +kernel
theorem d_LinkAudit_load_2 : decode prog_1_method_9_code 2 = .ok (.invokevirtual 123, 3) := by decide +kernel
theorem d_LinkAudit_load_5 : decode prog_1_method_9_code 5 = .ok (.ifCond .ne 5, 3) := by decide +kernel
theorem d_LinkAudit_load_8 : decode prog_1_method_9_code 8 = .ok (.iconst (-1), 1) := by decide +kernel
theorem d_LinkAudit_load_9 : decode prog_1_method_9_code 9 = .ok (.ireturn, 1) := by decide +kernel
theorem d_LinkAudit_load_10 : decode prog_1_method_9_code 10 = .ok (.aload_n 0, 1) := by decide +kernel
theorem d_LinkAudit_load_11 : decode prog_1_method_9_code 11 = .ok (.invokevirtual 144, 3) := by decide +kernel
theorem d_LinkAudit_load_14 : decode prog_1_method_9_code 14 = .ok (.aload_n 0, 1) := by decide +kernel
theorem d_LinkAudit_load_15 : decode prog_1_method_9_code 15 = .ok (.getfield 42, 3) := by decide +kernel
theorem d_LinkAudit_load_18 : decode prog_1_method_9_code 18 = .ok (.getfield 147, 3) := by decide +kernel
theorem d_LinkAudit_load_21 : decode prog_1_method_9_code 21 = .ok (.iload_n 1, 1) := by decide +kernel
theorem d_LinkAudit_load_22 : decode prog_1_method_9_code 22 = .ok (.iaload, 1) := by decide +kernel
theorem d_LinkAudit_load_23 : decode prog_1_method_9_code 23 = .ok (.ireturn, 1) := by decide +kernel
theorem d_Links_resolved_0 : decode prog_5_method_6_code 0 = .ok (.aload_n 0, 1) := by decide +kernel
theorem d_Links_resolved_1 : decode prog_5_method_6_code 1 = .ok (.getfield 36, 3) := by decide +kernel
theorem d_Links_resolved_4 : decode prog_5_method_6_code 4 = .ok (.aload_n 0, 1) := by decide +kernel
theorem d_Links_resolved_5 : decode prog_5_method_6_code 5 = .ok (.getfield 40, 3) := by decide +kernel
theorem d_Links_resolved_8 : decode prog_5_method_6_code 8 = .ok (.getfield 63, 3) := by decide +kernel
theorem d_Links_resolved_11 : decode prog_5_method_6_code 11 = .ok (.iload_n 1, 1) := by decide +kernel
theorem d_Links_resolved_12 : decode prog_5_method_6_code 12 = .ok (.iaload, 1) := by decide +kernel
theorem d_Links_resolved_13 : decode prog_5_method_6_code 13 = .ok (.iload_n 2, 1) := by decide +kernel
theorem d_Links_resolved_14 : decode prog_5_method_6_code 14 = .ok (.invokevirtual 65, 3) := by decide +kernel
theorem d_Links_resolved_17 : decode prog_5_method_6_code 17 = .ok (.istore_n 3, 1) := by decide +kernel
theorem d_Links_resolved_18 : decode prog_5_method_6_code 18 = .ok (.iload_n 3, 1) := by decide +kernel
theorem d_Links_resolved_19 : decode prog_5_method_6_code 19 = .ok (.ifCond .ne 6, 3) := by decide +kernel
theorem d_Links_resolved_22 : decode prog_5_method_6_code 22 = .ok (.bipush (-3), 2) := by decide +kernel
theorem d_Links_resolved_24 : decode prog_5_method_6_code 24 = .ok (.ireturn, 1) := by decide +kernel
theorem d_Links_resolved_25 : decode prog_5_method_6_code 25 = .ok (.aload_n 0, 1) := by decide +kernel
theorem d_Links_resolved_26 : decode prog_5_method_6_code 26 = .ok (.iload_n 3, 1) := by decide +kernel
theorem d_Links_resolved_27 : decode prog_5_method_6_code 27 = .ok (.invokevirtual 70, 3) := by decide +kernel
theorem d_Links_resolved_30 : decode prog_5_method_6_code 30 = .ok (.ifCond .ne 10, 3) := by decide +kernel
theorem d_Links_resolved_33 : decode prog_5_method_6_code 33 = .ok (.aload_n 0, 1) := by decide +kernel
theorem d_Links_resolved_34 : decode prog_5_method_6_code 34 = .ok (.getfield 9, 3) := by decide +kernel
theorem d_Links_resolved_37 : decode prog_5_method_6_code 37 = .ok (.iload_n 3, 1) := by decide +kernel
theorem d_Links_resolved_38 : decode prog_5_method_6_code 38 = .ok (.iaload, 1) := by decide +kernel
theorem d_Links_resolved_39 : decode prog_5_method_6_code 39 = .ok (.ireturn, 1) := by decide +kernel
theorem d_Links_resolved_40 : decode prog_5_method_6_code 40 = .ok (.aload_n 0, 1) := by decide +kernel
theorem d_Links_resolved_41 : decode prog_5_method_6_code 41 = .ok (.getfield 40, 3) := by decide +kernel
theorem d_Links_resolved_44 : decode prog_5_method_6_code 44 = .ok (.iload_n 1, 1) := by decide +kernel
theorem d_Links_resolved_45 : decode prog_5_method_6_code 45 = .ok (.iload_n 3, 1) := by decide +kernel
theorem d_Links_resolved_46 : decode prog_5_method_6_code 46 = .ok (.invokevirtual 74, 3) := by decide +kernel
theorem d_Links_resolved_49 : decode prog_5_method_6_code 49 = .ok (.ifCond .eq 7, 3) := by decide +kernel
theorem d_Links_resolved_52 : decode prog_5_method_6_code 52 = .ok (.iload_n 3, 1) := by decide +kernel
theorem d_Links_resolved_53 : decode prog_5_method_6_code 53 = .ok (.goto 5, 3) := by decide +kernel
theorem d_Links_resolved_56 : decode prog_5_method_6_code 56 = .ok (.bipush (-6), 2) := by decide +kernel
theorem d_Links_resolved_58 : decode prog_5_method_6_code 58 = .ok (.ireturn, 1) := by decide +kernel
theorem d_Classes_isAbstract_0 : decode prog_3_method_4_code 0 = .ok (.aload_n 0, 1) := by decide +kernel
theorem d_Classes_isAbstract_1 : decode prog_3_method_4_code 1 = .ok (.getfield 18, 3) := by decide +kernel
theorem d_Classes_isAbstract_4 : decode prog_3_method_4_code 4 = .ok (.iload_n 1, 1) := by decide +kernel
theorem d_Classes_isAbstract_5 : decode prog_3_method_4_code 5 = .ok (.iaload, 1) := by decide +kernel
theorem d_Classes_isAbstract_6 : decode prog_3_method_4_code 6 = .ok (.bipush 12, 2) := by decide +kernel
theorem d_Classes_isAbstract_8 : decode prog_3_method_4_code 8 = .ok (.iand, 1) := by decide +kernel
theorem d_Classes_isAbstract_9 : decode prog_3_method_4_code 9 = .ok (.ifCond .eq 7, 3) := by decide +kernel
theorem d_Classes_isAbstract_12 : decode prog_3_method_4_code 12 = .ok (.iconst 1, 1) := by decide +kernel
theorem d_Classes_isAbstract_13 : decode prog_3_method_4_code 13 = .ok (.goto 4, 3) := by decide +kernel
theorem d_Classes_isAbstract_16 : decode prog_3_method_4_code 16 = .ok (.iconst 0, 1) := by decide +kernel
theorem d_Classes_isAbstract_17 : decode prog_3_method_4_code 17 = .ok (.ireturn, 1) := by decide +kernel
theorem d_Resolver_isKindOfClass_0 : decode prog_9_method_4_code 0 = .ok (.iload_n 1, 1) := by decide +kernel
theorem d_Resolver_isKindOfClass_1 : decode prog_9_method_4_code 1 = .ok (.iconst 3, 1) := by decide +kernel
theorem d_Resolver_isKindOfClass_2 : decode prog_9_method_4_code 2 = .ok (.if_icmp .ne 20, 3) := by decide +kernel
theorem d_Resolver_isKindOfClass_5 : decode prog_9_method_4_code 5 = .ok (.aload_n 0, 1) := by decide +kernel
theorem d_Resolver_isKindOfClass_6 : decode prog_9_method_4_code 6 = .ok (.getfield 28, 3) := by decide +kernel
theorem d_Resolver_isKindOfClass_9 : decode prog_9_method_4_code 9 = .ok (.iload_n 2, 1) := by decide +kernel
theorem d_Resolver_isKindOfClass_10 : decode prog_9_method_4_code 10 = .ok (.invokevirtual 82, 3) := by decide +kernel
theorem d_Resolver_isKindOfClass_13 : decode prog_9_method_4_code 13 = .ok (.ifCond .ne 7, 3) := by decide +kernel
theorem d_Resolver_isKindOfClass_16 : decode prog_9_method_4_code 16 = .ok (.iconst 1, 1) := by decide +kernel
theorem d_Resolver_isKindOfClass_17 : decode prog_9_method_4_code 17 = .ok (.goto 4, 3) := by decide +kernel
theorem d_Resolver_isKindOfClass_20 : decode prog_9_method_4_code 20 = .ok (.iconst 0, 1) := by decide +kernel
theorem d_Resolver_isKindOfClass_21 : decode prog_9_method_4_code 21 = .ok (.ireturn, 1) := by decide +kernel
theorem d_Resolver_isKindOfClass_22 : decode prog_9_method_4_code 22 = .ok (.iload_n 1, 1) := by decide +kernel
theorem d_Resolver_isKindOfClass_23 : decode prog_9_method_4_code 23 = .ok (.iconst 5, 1) := by decide +kernel
theorem d_Resolver_isKindOfClass_24 : decode prog_9_method_4_code 24 = .ok (.if_icmp .ne 14, 3) := by decide +kernel
theorem d_Resolver_isKindOfClass_27 : decode prog_9_method_4_code 27 = .ok (.aload_n 0, 1) := by decide +kernel
theorem d_Resolver_isKindOfClass_28 : decode prog_9_method_4_code 28 = .ok (.getfield 28, 3) := by decide +kernel
theorem d_Resolver_isKindOfClass_31 : decode prog_9_method_4_code 31 = .ok (.iload_n 2, 1) := by decide +kernel
theorem d_Resolver_isKindOfClass_32 : decode prog_9_method_4_code 32 = .ok (.invokevirtual 82, 3) := by decide +kernel
theorem d_Resolver_isKindOfClass_35 : decode prog_9_method_4_code 35 = .ok (.ifCond .eq 7, 3) := by decide +kernel
theorem d_Resolver_isKindOfClass_38 : decode prog_9_method_4_code 38 = .ok (.iconst 1, 1) := by decide +kernel
theorem d_Resolver_isKindOfClass_39 : decode prog_9_method_4_code 39 = .ok (.goto 4, 3) := by decide +kernel
theorem d_Resolver_isKindOfClass_42 : decode prog_9_method_4_code 42 = .ok (.iconst 0, 1) := by decide +kernel
theorem d_Resolver_isKindOfClass_43 : decode prog_9_method_4_code 43 = .ok (.ireturn, 1) := by decide +kernel
theorem d_References_wantsField_0 : decode prog_8_method_3_code 0 = .ok (.aload_n 0, 1) := by decide +kernel
theorem d_References_wantsField_1 : decode prog_8_method_3_code 1 = .ok (.getfield 15, 3) := by decide +kernel
theorem d_References_wantsField_4 : decode prog_8_method_3_code 4 = .ok (.iload_n 1, 1) := by decide +kernel
theorem d_References_wantsField_5 : decode prog_8_method_3_code 5 = .ok (.iaload, 1) := by decide +kernel
theorem d_References_wantsField_6 : decode prog_8_method_3_code 6 = .ok (.iconst 1, 1) := by decide +kernel
theorem d_References_wantsField_7 : decode prog_8_method_3_code 7 = .ok (.if_icmp .eq 13, 3) := by decide +kernel
theorem d_References_wantsField_10 : decode prog_8_method_3_code 10 = .ok (.aload_n 0, 1) := by decide +kernel
theorem d_References_wantsField_11 : decode prog_8_method_3_code 11 = .ok (.getfield 15, 3) := by decide +kernel
theorem d_References_wantsField_14 : decode prog_8_method_3_code 14 = .ok (.iload_n 1, 1) := by decide +kernel
theorem d_References_wantsField_15 : decode prog_8_method_3_code 15 = .ok (.iaload, 1) := by decide +kernel
theorem d_References_wantsField_16 : decode prog_8_method_3_code 16 = .ok (.iconst 2, 1) := by decide +kernel
theorem d_References_wantsField_17 : decode prog_8_method_3_code 17 = .ok (.if_icmp .ne 7, 3) := by decide +kernel
theorem d_References_wantsField_20 : decode prog_8_method_3_code 20 = .ok (.iconst 1, 1) := by decide +kernel
theorem d_References_wantsField_21 : decode prog_8_method_3_code 21 = .ok (.goto 4, 3) := by decide +kernel
theorem d_References_wantsField_24 : decode prog_8_method_3_code 24 = .ok (.iconst 0, 1) := by decide +kernel
theorem d_References_wantsField_25 : decode prog_8_method_3_code 25 = .ok (.ireturn, 1) := by decide +kernel
theorem d_Resolver_searchField_0 : decode prog_9_method_7_code 0 = .ok (.aload_n 0, 1) := by decide +kernel
theorem d_Resolver_searchField_1 : decode prog_9_method_7_code 1 = .ok (.getfield 9, 3) := by decide +kernel
theorem d_Resolver_searchField_4 : decode prog_9_method_7_code 4 = .ok (.i2l, 1) := by decide +kernel
theorem d_Resolver_searchField_5 : decode prog_9_method_7_code 5 = .ok (.iload_n 1, 1) := by decide +kernel
theorem d_Resolver_searchField_6 : decode prog_9_method_7_code 6 = .ok (.invokestatic 125, 3) := by decide +kernel
theorem d_Resolver_searchField_9 : decode prog_9_method_7_code 9 = .ok (.ifCond .eq 5, 3) := by decide +kernel
theorem d_Resolver_searchField_12 : decode prog_9_method_7_code 12 = .ok (.iconst 0, 1) := by decide +kernel
theorem d_Resolver_searchField_13 : decode prog_9_method_7_code 13 = .ok (.ireturn, 1) := by decide +kernel
theorem d_Resolver_searchField_14 : decode prog_9_method_7_code 14 = .ok (.aload_n 0, 1) := by decide +kernel
theorem d_Resolver_searchField_15 : decode prog_9_method_7_code 15 = .ok (.dup, 1) := by decide +kernel
theorem d_Resolver_searchField_16 : decode prog_9_method_7_code 16 = .ok (.getfield 9, 3) := by decide +kernel
theorem d_Resolver_searchField_19 : decode prog_9_method_7_code 19 = .ok (.iconst 1, 1) := by decide +kernel
theorem d_Resolver_searchField_20 : decode prog_9_method_7_code 20 = .ok (.iload_n 1, 1) := by decide +kernel
theorem d_Resolver_searchField_21 : decode prog_9_method_7_code 21 = .ok (.ishl, 1) := by decide +kernel
theorem d_Resolver_searchField_22 : decode prog_9_method_7_code 22 = .ok (.ior, 1) := by decide +kernel
theorem d_Resolver_searchField_23 : decode prog_9_method_7_code 23 = .ok (.putfield 9, 3) := by decide +kernel
theorem d_Resolver_searchField_26 : decode prog_9_method_7_code 26 = .ok (.aload_n 0, 1) := by decide +kernel
theorem d_Resolver_searchField_27 : decode prog_9_method_7_code 27 = .ok (.getfield 33, 3) := by decide +kernel
theorem d_Resolver_searchField_30 : decode prog_9_method_7_code 30 = .ok (.getfield 129, 3) := by decide +kernel
theorem d_Resolver_searchField_33 : decode prog_9_method_7_code 33 = .ok (.iload_n 1, 1) := by decide +kernel
theorem d_Resolver_searchField_34 : decode prog_9_method_7_code 34 = .ok (.laload, 1) := by decide +kernel
theorem d_Resolver_searchField_35 : decode prog_9_method_7_code 35 = .ok (.lload_n 2, 1) := by decide +kernel
theorem d_Resolver_searchField_36 : decode prog_9_method_7_code 36 = .ok (.land, 1) := by decide +kernel
theorem d_Resolver_searchField_37 : decode prog_9_method_7_code 37 = .ok (.lstore 4, 2) := by decide +kernel
theorem d_Resolver_searchField_39 : decode prog_9_method_7_code 39 = .ok (.lload 4, 2) := by decide +kernel
theorem d_Resolver_searchField_41 : decode prog_9_method_7_code 41 = .ok (.lconst 0, 1) := by decide +kernel
theorem d_Resolver_searchField_42 : decode prog_9_method_7_code 42 = .ok (.lcmp, 1) := by decide +kernel
theorem d_Resolver_searchField_43 : decode prog_9_method_7_code 43 = .ok (.ifCond .eq 9, 3) := by decide +kernel
theorem d_Resolver_searchField_46 : decode prog_9_method_7_code 46 = .ok (.lload 4, 2) := by decide +kernel
theorem d_Resolver_searchField_48 : decode prog_9_method_7_code 48 = .ok (.invokestatic 133, 3) := by decide +kernel
theorem d_Resolver_searchField_51 : decode prog_9_method_7_code 51 = .ok (.ireturn, 1) := by decide +kernel
theorem d_Resolver_searchField_52 : decode prog_9_method_7_code 52 = .ok (.iconst 0, 1) := by decide +kernel
theorem d_Resolver_searchField_53 : decode prog_9_method_7_code 53 = .ok (.istore 6, 2) := by decide +kernel
theorem d_Resolver_searchField_55 : decode prog_9_method_7_code 55 = .ok (.iconst 0, 1) := by decide +kernel
theorem d_Resolver_searchField_56 : decode prog_9_method_7_code 56 = .ok (.istore 7, 2) := by decide +kernel
theorem d_Resolver_searchField_58 : decode prog_9_method_7_code 58 = .ok (.iload 7, 2) := by decide +kernel
theorem d_Resolver_searchField_60 : decode prog_9_method_7_code 60 = .ok (.bipush 12, 2) := by decide +kernel
theorem d_Resolver_searchField_62 : decode prog_9_method_7_code 62 = .ok (.if_icmp .ge 60, 3) := by decide +kernel
theorem d_Resolver_searchField_65 : decode prog_9_method_7_code 65 = .ok (.iload 6, 2) := by decide +kernel
theorem d_Resolver_searchField_67 : decode prog_9_method_7_code 67 = .ok (.ifCond .ne 55, 3) := by decide +kernel
theorem d_Resolver_searchField_70 : decode prog_9_method_7_code 70 = .ok (.aload_n 0, 1) := by decide +kernel
theorem d_Resolver_searchField_71 : decode prog_9_method_7_code 71 = .ok (.getfield 28, 3) := by decide +kernel
theorem d_Resolver_searchField_74 : decode prog_9_method_7_code 74 = .ok (.getfield 137, 3) := by decide +kernel
theorem d_Resolver_searchField_77 : decode prog_9_method_7_code 77 = .ok (.iload_n 1, 1) := by decide +kernel
theorem d_Resolver_searchField_78 : decode prog_9_method_7_code 78 = .ok (.iaload, 1) := by decide +kernel
theorem d_Resolver_searchField_79 : decode prog_9_method_7_code 79 = .ok (.i2l, 1) := by decide +kernel
theorem d_Resolver_searchField_80 : decode prog_9_method_7_code 80 = .ok (.iload 7, 2) := by decide +kernel
theorem d_Resolver_searchField_82 : decode prog_9_method_7_code 82 = .ok (.invokestatic 125, 3) := by decide +kernel
theorem d_Resolver_searchField_85 : decode prog_9_method_7_code 85 = .ok (.ifCond .eq 31, 3) := by decide +kernel
theorem d_Resolver_searchField_88 : decode prog_9_method_7_code 88 = .ok (.aload_n 0, 1) := by decide +kernel
theorem d_Resolver_searchField_89 : decode prog_9_method_7_code 89 = .ok (.aload_n 0, 1) := by decide +kernel
theorem d_Resolver_searchField_90 : decode prog_9_method_7_code 90 = .ok (.getfield 21, 3) := by decide +kernel
theorem d_Resolver_searchField_93 : decode prog_9_method_7_code 93 = .ok (.getfield 140, 3) := by decide +kernel
theorem d_Resolver_searchField_96 : decode prog_9_method_7_code 96 = .ok (.aload_n 0, 1) := by decide +kernel
theorem d_Resolver_searchField_97 : decode prog_9_method_7_code 97 = .ok (.getfield 28, 3) := by decide +kernel
theorem d_Resolver_searchField_100 : decode prog_9_method_7_code 100 = .ok (.getfield 144, 3) := by decide +kernel
theorem d_Resolver_searchField_103 : decode prog_9_method_7_code 103 = .ok (.iload_n 1, 1) := by decide +kernel
theorem d_Resolver_searchField_104 : decode prog_9_method_7_code 104 = .ok (.iaload, 1) := by decide +kernel
theorem d_Resolver_searchField_105 : decode prog_9_method_7_code 105 = .ok (.iload 7, 2) := by decide +kernel
theorem d_Resolver_searchField_107 : decode prog_9_method_7_code 107 = .ok (.invokevirtual 146, 3) := by decide +kernel
theorem d_Resolver_searchField_110 : decode prog_9_method_7_code 110 = .ok (.lload_n 2, 1) := by decide +kernel
theorem d_Resolver_searchField_111 : decode prog_9_method_7_code 111 = .ok (.invokevirtual 97, 3) := by decide +kernel
theorem d_Resolver_searchField_114 : decode prog_9_method_7_code 114 = .ok (.istore 6, 2) := by decide +kernel
theorem d_Resolver_searchField_116 : decode prog_9_method_7_code 116 = .ok (.iinc 7 1, 3) := by decide +kernel
theorem d_Resolver_searchField_119 : decode prog_9_method_7_code 119 = .ok (.goto (-61), 3) := by decide +kernel
theorem d_Resolver_searchField_122 : decode prog_9_method_7_code 122 = .ok (.iload 6, 2) := by decide +kernel
theorem d_Resolver_searchField_124 : decode prog_9_method_7_code 124 = .ok (.ifCond .ne 34, 3) := by decide +kernel
theorem d_Resolver_searchField_127 : decode prog_9_method_7_code 127 = .ok (.aload_n 0, 1) := by decide +kernel
theorem d_Resolver_searchField_128 : decode prog_9_method_7_code 128 = .ok (.getfield 21, 3) := by decide +kernel
theorem d_Resolver_searchField_131 : decode prog_9_method_7_code 131 = .ok (.getfield 151, 3) := by decide +kernel
theorem d_Resolver_searchField_134 : decode prog_9_method_7_code 134 = .ok (.iload_n 1, 1) := by decide +kernel
theorem d_Resolver_searchField_135 : decode prog_9_method_7_code 135 = .ok (.iaload, 1) := by decide +kernel
theorem d_Resolver_searchField_136 : decode prog_9_method_7_code 136 = .ok (.iconst 1, 1) := by decide +kernel
theorem d_Resolver_searchField_137 : decode prog_9_method_7_code 137 = .ok (.if_icmp .le 21, 3) := by decide +kernel
theorem d_Resolver_searchField_140 : decode prog_9_method_7_code 140 = .ok (.aload_n 0, 1) := by decide +kernel
theorem d_Resolver_searchField_141 : decode prog_9_method_7_code 141 = .ok (.aload_n 0, 1) := by decide +kernel
theorem d_Resolver_searchField_142 : decode prog_9_method_7_code 142 = .ok (.getfield 21, 3) := by decide +kernel
theorem d_Resolver_searchField_145 : decode prog_9_method_7_code 145 = .ok (.getfield 154, 3) := by decide +kernel
theorem d_Resolver_searchField_148 : decode prog_9_method_7_code 148 = .ok (.iload_n 1, 1) := by decide +kernel
theorem d_Resolver_searchField_149 : decode prog_9_method_7_code 149 = .ok (.aaload, 1) := by decide +kernel
theorem d_Resolver_searchField_150 : decode prog_9_method_7_code 150 = .ok (.iconst 1, 1) := by decide +kernel
theorem d_Resolver_searchField_151 : decode prog_9_method_7_code 151 = .ok (.iaload, 1) := by decide +kernel
theorem d_Resolver_searchField_152 : decode prog_9_method_7_code 152 = .ok (.lload_n 2, 1) := by decide +kernel
theorem d_Resolver_searchField_153 : decode prog_9_method_7_code 153 = .ok (.invokevirtual 97, 3) := by decide +kernel
theorem d_Resolver_searchField_156 : decode prog_9_method_7_code 156 = .ok (.istore 6, 2) := by decide +kernel
theorem d_Resolver_searchField_158 : decode prog_9_method_7_code 158 = .ok (.iload 6, 2) := by decide +kernel
theorem d_Resolver_searchField_160 : decode prog_9_method_7_code 160 = .ok (.ireturn, 1) := by decide +kernel
theorem d_Inheritance_offered_0 : decode prog_4_method_2_code 0 = .ok (.lconst 0, 1) := by decide +kernel
theorem d_Inheritance_offered_1 : decode prog_4_method_2_code 1 = .ok (.lstore 4, 2) := by decide +kernel
theorem d_Inheritance_offered_3 : decode prog_4_method_2_code 3 = .ok (.iconst 1, 1) := by decide +kernel
theorem d_Inheritance_offered_4 : decode prog_4_method_2_code 4 = .ok (.istore 6, 2) := by decide +kernel
theorem d_Inheritance_offered_6 : decode prog_4_method_2_code 6 = .ok (.iload 6, 2) := by decide +kernel
theorem d_Inheritance_offered_8 : decode prog_4_method_2_code 8 = .ok (.aload_n 0, 1) := by decide +kernel
theorem d_Inheritance_offered_9 : decode prog_4_method_2_code 9 = .ok (.getfield 7, 3) := by decide +kernel
theorem d_Inheritance_offered_12 : decode prog_4_method_2_code 12 = .ok (.getfield 17, 3) := by decide +kernel
theorem d_Inheritance_offered_15 : decode prog_4_method_2_code 15 = .ok (.getfield 23, 3) := by decide +kernel
theorem d_Inheritance_offered_18 : decode prog_4_method_2_code 18 = .ok (.if_icmp .gt 42, 3) := by decide +kernel
theorem d_Inheritance_offered_21 : decode prog_4_method_2_code 21 = .ok (.aload_n 0, 1) := by decide +kernel
theorem d_Inheritance_offered_22 : decode prog_4_method_2_code 22 = .ok (.getfield 7, 3) := by decide +kernel
theorem d_Inheritance_offered_25 : decode prog_4_method_2_code 25 = .ok (.getfield 29, 3) := by decide +kernel
theorem d_Inheritance_offered_28 : decode prog_4_method_2_code 28 = .ok (.iload_n 1, 1) := by decide +kernel
theorem d_Inheritance_offered_29 : decode prog_4_method_2_code 29 = .ok (.iaload, 1) := by decide +kernel
theorem d_Inheritance_offered_30 : decode prog_4_method_2_code 30 = .ok (.i2l, 1) := by decide +kernel
theorem d_Inheritance_offered_31 : decode prog_4_method_2_code 31 = .ok (.iload 6, 2) := by decide +kernel
theorem d_Inheritance_offered_33 : decode prog_4_method_2_code 33 = .ok (.invokestatic 33, 3) := by decide +kernel
theorem d_Inheritance_offered_36 : decode prog_4_method_2_code 36 = .ok (.ifCond .eq 18, 3) := by decide +kernel
theorem d_Inheritance_offered_39 : decode prog_4_method_2_code 39 = .ok (.lload 4, 2) := by decide +kernel
theorem d_Inheritance_offered_41 : decode prog_4_method_2_code 41 = .ok (.aload_n 0, 1) := by decide +kernel
theorem d_Inheritance_offered_42 : decode prog_4_method_2_code 42 = .ok (.getfield 13, 3) := by decide +kernel
theorem d_Inheritance_offered_45 : decode prog_4_method_2_code 45 = .ok (.getfield 39, 3) := by decide +kernel
theorem d_Inheritance_offered_48 : decode prog_4_method_2_code 48 = .ok (.iload 6, 2) := by decide +kernel
theorem d_Inheritance_offered_50 : decode prog_4_method_2_code 50 = .ok (.laload, 1) := by decide +kernel
theorem d_Inheritance_offered_51 : decode prog_4_method_2_code 51 = .ok (.lor, 1) := by decide +kernel
theorem d_Inheritance_offered_52 : decode prog_4_method_2_code 52 = .ok (.lstore 4, 2) := by decide +kernel
theorem d_Inheritance_offered_54 : decode prog_4_method_2_code 54 = .ok (.iinc 6 1, 3) := by decide +kernel
theorem d_Inheritance_offered_57 : decode prog_4_method_2_code 57 = .ok (.goto (-51), 3) := by decide +kernel
theorem d_Inheritance_offered_60 : decode prog_4_method_2_code 60 = .ok (.lload 4, 2) := by decide +kernel
theorem d_Inheritance_offered_62 : decode prog_4_method_2_code 62 = .ok (.lload_n 2, 1) := by decide +kernel
theorem d_Inheritance_offered_63 : decode prog_4_method_2_code 63 = .ok (.land, 1) := by decide +kernel
theorem d_Inheritance_offered_64 : decode prog_4_method_2_code 64 = .ok (.aload_n 0, 1) := by decide +kernel
theorem d_Inheritance_offered_65 : decode prog_4_method_2_code 65 = .ok (.getfield 13, 3) := by decide +kernel
theorem d_Inheritance_offered_68 : decode prog_4_method_2_code 68 = .ok (.getfield 45, 3) := by decide +kernel
theorem d_Inheritance_offered_71 : decode prog_4_method_2_code 71 = .ok (.land, 1) := by decide +kernel
theorem d_Inheritance_offered_72 : decode prog_4_method_2_code 72 = .ok (.lreturn, 1) := by decide +kernel
theorem d_Inheritance_mostSpecificWithCode_0 : decode prog_4_method_3_code 0 = .ok (.iconst 0, 1) := by decide +kernel
theorem d_Inheritance_mostSpecificWithCode_1 : decode prog_4_method_3_code 1 = .ok (.istore_n 3, 1) := by decide +kernel
theorem d_Inheritance_mostSpecificWithCode_2 : decode prog_4_method_3_code 2 = .ok (.iconst 1, 1) := by decide +kernel
theorem d_Inheritance_mostSpecificWithCode_3 : decode prog_4_method_3_code 3 = .ok (.istore 4, 2) := by decide +kernel
theorem d_Inheritance_mostSpecificWithCode_5 : decode prog_4_method_3_code 5 = .ok (.iload 4, 2) := by decide +kernel
theorem d_Inheritance_mostSpecificWithCode_7 : decode prog_4_method_3_code 7 = .ok (.aload_n 0, 1) := by decide +kernel
theorem d_Inheritance_mostSpecificWithCode_8 : decode prog_4_method_3_code 8 = .ok (.getfield 13, 3) := by decide +kernel
theorem d_Inheritance_mostSpecificWithCode_11 : decode prog_4_method_3_code 11 = .ok (.getfield 49, 3) := by decide +kernel
theorem d_Inheritance_mostSpecificWithCode_14 : decode prog_4_method_3_code 14 = .ok (.if_icmp .gt 39, 3) := by decide +kernel
theorem d_Inheritance_mostSpecificWithCode_17 : decode prog_4_method_3_code 17 = .ok (.lload_n 1, 1) := by decide +kernel
theorem d_Inheritance_mostSpecificWithCode_18 : decode prog_4_method_3_code 18 = .ok (.iload 4, 2) := by decide +kernel
theorem d_Inheritance_mostSpecificWithCode_20 : decode prog_4_method_3_code 20 = .ok (.invokestatic 33, 3) := by decide +kernel
theorem d_Inheritance_mostSpecificWithCode_23 : decode prog_4_method_3_code 23 = .ok (.ifCond .eq 24, 3) := by decide +kernel
theorem d_Inheritance_mostSpecificWithCode_26 : decode prog_4_method_3_code 26 = .ok (.iload_n 3, 1) := by decide +kernel
theorem d_Inheritance_mostSpecificWithCode_27 : decode prog_4_method_3_code 27 = .ok (.aload_n 0, 1) := by decide +kernel
theorem d_Inheritance_mostSpecificWithCode_28 : decode prog_4_method_3_code 28 = .ok (.getfield 7, 3) := by decide +kernel
theorem d_Inheritance_mostSpecificWithCode_31 : decode prog_4_method_3_code 31 = .ok (.getfield 29, 3) := by decide +kernel
theorem d_Inheritance_mostSpecificWithCode_34 : decode prog_4_method_3_code 34 = .ok (.aload_n 0, 1) := by decide +kernel
theorem d_Inheritance_mostSpecificWithCode_35 : decode prog_4_method_3_code 35 = .ok (.getfield 13, 3) := by decide +kernel
theorem d_Inheritance_mostSpecificWithCode_38 : decode prog_4_method_3_code 38 = .ok (.getfield 50, 3) := by decide +kernel
theorem d_Inheritance_mostSpecificWithCode_41 : decode prog_4_method_3_code 41 = .ok (.iload 4, 2) := by decide +kernel
theorem d_Inheritance_mostSpecificWithCode_43 : decode prog_4_method_3_code 43 = .ok (.iaload, 1) := by decide +kernel
theorem d_Inheritance_mostSpecificWithCode_44 : decode prog_4_method_3_code 44 = .ok (.iaload, 1) := by decide +kernel
theorem d_Inheritance_mostSpecificWithCode_45 : decode prog_4_method_3_code 45 = .ok (.ior, 1) := by decide +kernel
theorem d_Inheritance_mostSpecificWithCode_46 : decode prog_4_method_3_code 46 = .ok (.istore_n 3, 1) := by decide +kernel
theorem d_Inheritance_mostSpecificWithCode_47 : decode prog_4_method_3_code 47 = .ok (.iinc 4 1, 3) := by decide +kernel
theorem d_Inheritance_mostSpecificWithCode_50 : decode prog_4_method_3_code 50 = .ok (.goto (-45), 3) := by decide +kernel
theorem d_Inheritance_mostSpecificWithCode_53 : decode prog_4_method_3_code 53 = .ok (.lconst 0, 1) := by decide +kernel
theorem d_Inheritance_mostSpecificWithCode_54 : decode prog_4_method_3_code 54 = .ok (.lstore 4, 2) := by decide +kernel
theorem d_Inheritance_mostSpecificWithCode_56 : decode prog_4_method_3_code 56 = .ok (.iconst 1, 1) := by decide +kernel
theorem d_Inheritance_mostSpecificWithCode_57 : decode prog_4_method_3_code 57 = .ok (.istore 6, 2) := by decide +kernel
theorem d_Inheritance_mostSpecificWithCode_59 : decode prog_4_method_3_code 59 = .ok (.iload 6, 2) := by decide +kernel
theorem d_Inheritance_mostSpecificWithCode_61 : decode prog_4_method_3_code 61 = .ok (.aload_n 0, 1) := by decide +kernel
theorem d_Inheritance_mostSpecificWithCode_62 : decode prog_4_method_3_code 62 = .ok (.getfield 13, 3) := by decide +kernel
theorem d_Inheritance_mostSpecificWithCode_65 : decode prog_4_method_3_code 65 = .ok (.getfield 49, 3) := by decide +kernel
theorem d_Inheritance_mostSpecificWithCode_68 : decode prog_4_method_3_code 68 = .ok (.if_icmp .gt 45, 3) := by decide +kernel
theorem d_Inheritance_mostSpecificWithCode_71 : decode prog_4_method_3_code 71 = .ok (.lload_n 1, 1) := by decide +kernel
theorem d_Inheritance_mostSpecificWithCode_72 : decode prog_4_method_3_code 72 = .ok (.iload 6, 2) := by decide +kernel
theorem d_Inheritance_mostSpecificWithCode_74 : decode prog_4_method_3_code 74 = .ok (.invokestatic 33, 3) := by decide +kernel
theorem d_Inheritance_mostSpecificWithCode_77 : decode prog_4_method_3_code 77 = .ok (.ifCond .eq 30, 3) := by decide +kernel
theorem d_Inheritance_mostSpecificWithCode_80 : decode prog_4_method_3_code 80 = .ok (.iload_n 3, 1) := by decide +kernel
theorem d_Inheritance_mostSpecificWithCode_81 : decode prog_4_method_3_code 81 = .ok (.i2l, 1) := by decide +kernel
