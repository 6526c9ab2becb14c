theorem d_Inheritance_mostSpecificWithCode_82 : decode prog_4_method_3_code 82 = .ok (.aload_n 0, 1) := by decide +kernel
theorem d_Inheritance_mostSpecificWithCode_83 : decode prog_4_method_3_code 83 = .ok (.getfield 13, 3) := by decide +kernel
theorem d_Inheritance_mostSpecificWithCode_86 : decode prog_4_method_3_code 86 = .ok (.getfield 50, 3) := by decide +kernel
theorem d_Inheritance_mostSpecificWithCode_89 : decode prog_4_method_3_code 89 = .ok (.iload 6, 2) := by decide +kernel
theorem d_Inheritance_mostSpecificWithCode_91 : decode prog_4_method_3_code 91 = .ok (.iaload, 1) := by decide +kernel
theorem d_Inheritance_mostSpecificWithCode_92 : decode prog_4_method_3_code 92 = .ok (.invokestatic 33, 3) := by decide +kernel
theorem d_Inheritance_mostSpecificWithCode_95 : decode prog_4_method_3_code 95 = .ok (.ifCond .ne 12, 3) := by decide +kernel
theorem d_Inheritance_mostSpecificWithCode_98 : decode prog_4_method_3_code 98 = .ok (.lload 4, 2) := by decide +kernel
theorem d_Inheritance_mostSpecificWithCode_100 : decode prog_4_method_3_code 100 = .ok (.lconst 1, 1) := by decide +kernel
theorem d_Inheritance_mostSpecificWithCode_101 : decode prog_4_method_3_code 101 = .ok (.iload 6, 2) := by decide +kernel
theorem d_Inheritance_mostSpecificWithCode_103 : decode prog_4_method_3_code 103 = .ok (.lshl, 1) := by decide +kernel
theorem d_Inheritance_mostSpecificWithCode_104 : decode prog_4_method_3_code 104 = .ok (.lor, 1) := by decide +kernel
theorem d_Inheritance_mostSpecificWithCode_105 : decode prog_4_method_3_code 105 = .ok (.lstore 4, 2) := by decide +kernel
theorem d_Inheritance_mostSpecificWithCode_107 : decode prog_4_method_3_code 107 = .ok (.iinc 6 1, 3) := by decide +kernel
theorem d_Inheritance_mostSpecificWithCode_110 : decode prog_4_method_3_code 110 = .ok (.goto (-51), 3) := by decide +kernel
theorem d_Inheritance_mostSpecificWithCode_113 : decode prog_4_method_3_code 113 = .ok (.lload 4, 2) := by decide +kernel
theorem d_Inheritance_mostSpecificWithCode_115 : decode prog_4_method_3_code 115 = .ok (.aload_n 0, 1) := by decide +kernel
theorem d_Inheritance_mostSpecificWithCode_116 : decode prog_4_method_3_code 116 = .ok (.getfield 13, 3) := by decide +kernel
theorem d_Inheritance_mostSpecificWithCode_119 : decode prog_4_method_3_code 119 = .ok (.getfield 53, 3) := by decide +kernel
theorem d_Inheritance_mostSpecificWithCode_122 : decode prog_4_method_3_code 122 = .ok (.ldc2_w 56, 3) := by decide +kernel
theorem d_Inheritance_mostSpecificWithCode_125 : decode prog_4_method_3_code 125 = .ok (.lxor, 1) := by decide +kernel
theorem d_Inheritance_mostSpecificWithCode_126 : decode prog_4_method_3_code 126 = .ok (.land, 1) := by decide +kernel
theorem d_Inheritance_mostSpecificWithCode_127 : decode prog_4_method_3_code 127 = .ok (.lreturn, 1) := by decide +kernel
theorem d_Resolver_foundMethod_0 : decode prog_9_method_8_code 0 = .ok (.iconst 0, 1) := by decide +kernel
theorem d_Resolver_foundMethod_1 : decode prog_9_method_8_code 1 = .ok (.istore 4, 2) := by decide +kernel
theorem d_Resolver_foundMethod_3 : decode prog_9_method_8_code 3 = .ok (.iload 4, 2) := by decide +kernel
theorem d_Resolver_foundMethod_5 : decode prog_9_method_8_code 5 = .ok (.aload_n 0, 1) := by decide +kernel
theorem d_Resolver_foundMethod_6 : decode prog_9_method_8_code 6 = .ok (.getfield 21, 3) := by decide +kernel
theorem d_Resolver_foundMethod_9 : decode prog_9_method_8_code 9 = .ok (.getfield 151, 3) := by decide +kernel
theorem d_Resolver_foundMethod_12 : decode prog_9_method_8_code 12 = .ok (.iload_n 1, 1) := by decide +kernel
theorem d_Resolver_foundMethod_13 : decode prog_9_method_8_code 13 = .ok (.iaload, 1) := by decide +kernel
theorem d_Resolver_foundMethod_14 : decode prog_9_method_8_code 14 = .ok (.if_icmp .ge 46, 3) := by decide +kernel
theorem d_Resolver_foundMethod_17 : decode prog_9_method_8_code 17 = .ok (.aload_n 0, 1) := by decide +kernel
theorem d_Resolver_foundMethod_18 : decode prog_9_method_8_code 18 = .ok (.getfield 33, 3) := by decide +kernel
theorem d_Resolver_foundMethod_21 : decode prog_9_method_8_code 21 = .ok (.getfield 129, 3) := by decide +kernel
theorem d_Resolver_foundMethod_24 : decode prog_9_method_8_code 24 = .ok (.aload_n 0, 1) := by decide +kernel
theorem d_Resolver_foundMethod_25 : decode prog_9_method_8_code 25 = .ok (.getfield 21, 3) := by decide +kernel
theorem d_Resolver_foundMethod_28 : decode prog_9_method_8_code 28 = .ok (.getfield 154, 3) := by decide +kernel
theorem d_Resolver_foundMethod_31 : decode prog_9_method_8_code 31 = .ok (.iload_n 1, 1) := by decide +kernel
theorem d_Resolver_foundMethod_32 : decode prog_9_method_8_code 32 = .ok (.aaload, 1) := by decide +kernel
theorem d_Resolver_foundMethod_33 : decode prog_9_method_8_code 33 = .ok (.iload 4, 2) := by decide +kernel
theorem d_Resolver_foundMethod_35 : decode prog_9_method_8_code 35 = .ok (.iaload, 1) := by decide +kernel
theorem d_Resolver_foundMethod_36 : decode prog_9_method_8_code 36 = .ok (.laload, 1) := by decide +kernel
theorem d_Resolver_foundMethod_37 : decode prog_9_method_8_code 37 = .ok (.lload_n 2, 1) := by decide +kernel
theorem d_Resolver_foundMethod_38 : decode prog_9_method_8_code 38 = .ok (.land, 1) := by decide +kernel
theorem d_Resolver_foundMethod_39 : decode prog_9_method_8_code 39 = .ok (.lstore 5, 2) := by decide +kernel
theorem d_Resolver_foundMethod_41 : decode prog_9_method_8_code 41 = .ok (.lload 5, 2) := by decide +kernel
theorem d_Resolver_foundMethod_43 : decode prog_9_method_8_code 43 = .ok (.lconst 0, 1) := by decide +kernel
theorem d_Resolver_foundMethod_44 : decode prog_9_method_8_code 44 = .ok (.lcmp, 1) := by decide +kernel
theorem d_Resolver_foundMethod_45 : decode prog_9_method_8_code 45 = .ok (.ifCond .eq 9, 3) := by decide +kernel
theorem d_Resolver_foundMethod_48 : decode prog_9_method_8_code 48 = .ok (.lload 5, 2) := by decide +kernel
theorem d_Resolver_foundMethod_50 : decode prog_9_method_8_code 50 = .ok (.invokestatic 133, 3) := by decide +kernel
theorem d_Resolver_foundMethod_53 : decode prog_9_method_8_code 53 = .ok (.ireturn, 1) := by decide +kernel
theorem d_Resolver_foundMethod_54 : decode prog_9_method_8_code 54 = .ok (.iinc 4 1, 3) := by decide +kernel
theorem d_Resolver_foundMethod_57 : decode prog_9_method_8_code 57 = .ok (.goto (-54), 3) := by decide +kernel
theorem d_Resolver_foundMethod_60 : decode prog_9_method_8_code 60 = .ok (.aload_n 0, 1) := by decide +kernel
theorem d_Resolver_foundMethod_61 : decode prog_9_method_8_code 61 = .ok (.getfield 38, 3) := by decide +kernel
theorem d_Resolver_foundMethod_64 : decode prog_9_method_8_code 64 = .ok (.iload_n 1, 1) := by decide +kernel
theorem d_Resolver_foundMethod_65 : decode prog_9_method_8_code 65 = .ok (.lload_n 2, 1) := by decide +kernel
theorem d_Resolver_foundMethod_66 : decode prog_9_method_8_code 66 = .ok (.invokevirtual 158, 3) := by decide +kernel
theorem d_Resolver_foundMethod_69 : decode prog_9_method_8_code 69 = .ok (.lstore 4, 2) := by decide +kernel
theorem d_Resolver_foundMethod_71 : decode prog_9_method_8_code 71 = .ok (.lload 4, 2) := by decide +kernel
theorem d_Resolver_foundMethod_73 : decode prog_9_method_8_code 73 = .ok (.lconst 0, 1) := by decide +kernel
theorem d_Resolver_foundMethod_74 : decode prog_9_method_8_code 74 = .ok (.lcmp, 1) := by decide +kernel
theorem d_Resolver_foundMethod_75 : decode prog_9_method_8_code 75 = .ok (.ifCond .ne 5, 3) := by decide +kernel
theorem d_Resolver_foundMethod_78 : decode prog_9_method_8_code 78 = .ok (.iconst 0, 1) := by decide +kernel
theorem d_Resolver_foundMethod_79 : decode prog_9_method_8_code 79 = .ok (.ireturn, 1) := by decide +kernel
theorem d_Resolver_foundMethod_80 : decode prog_9_method_8_code 80 = .ok (.aload_n 0, 1) := by decide +kernel
theorem d_Resolver_foundMethod_81 : decode prog_9_method_8_code 81 = .ok (.getfield 38, 3) := by decide +kernel
theorem d_Resolver_foundMethod_84 : decode prog_9_method_8_code 84 = .ok (.lload 4, 2) := by decide +kernel
theorem d_Resolver_foundMethod_86 : decode prog_9_method_8_code 86 = .ok (.invokevirtual 162, 3) := by decide +kernel
theorem d_Resolver_foundMethod_89 : decode prog_9_method_8_code 89 = .ok (.lstore 6, 2) := by decide +kernel
theorem d_Resolver_foundMethod_91 : decode prog_9_method_8_code 91 = .ok (.lload 6, 2) := by decide +kernel
theorem d_Resolver_foundMethod_93 : decode prog_9_method_8_code 93 = .ok (.invokestatic 166, 3) := by decide +kernel
theorem d_Resolver_foundMethod_96 : decode prog_9_method_8_code 96 = .ok (.iconst 1, 1) := by decide +kernel
theorem d_Resolver_foundMethod_97 : decode prog_9_method_8_code 97 = .ok (.if_icmp .ne 8, 3) := by decide +kernel
theorem d_Resolver_foundMethod_100 : decode prog_9_method_8_code 100 = .ok (.lload 6, 2) := by decide +kernel
theorem d_Resolver_foundMethod_102 : decode prog_9_method_8_code 102 = .ok (.goto 5, 3) := by decide +kernel
theorem d_Resolver_foundMethod_105 : decode prog_9_method_8_code 105 = .ok (.lload 4, 2) := by decide +kernel
theorem d_Resolver_foundMethod_107 : decode prog_9_method_8_code 107 = .ok (.invokestatic 133, 3) := by decide +kernel
theorem d_Resolver_foundMethod_110 : decode prog_9_method_8_code 110 = .ok (.ireturn, 1) := by decide +kernel
theorem d_Links_isSubclass_0 : decode prog_5_method_4_code 0 = .ok (.iload_n 1, 1) := by decide +kernel
theorem d_Links_isSubclass_1 : decode prog_5_method_4_code 1 = .ok (.iload_n 2, 1) := by decide +kernel
theorem d_Links_isSubclass_2 : decode prog_5_method_4_code 2 = .ok (.if_icmp .eq 17, 3) := by decide +kernel
theorem d_Links_isSubclass_5 : decode prog_5_method_4_code 5 = .ok (.aload_n 0, 1) := by decide +kernel
theorem d_Links_isSubclass_6 : decode prog_5_method_4_code 6 = .ok (.getfield 23, 3) := by decide +kernel
theorem d_Links_isSubclass_9 : decode prog_5_method_4_code 9 = .ok (.iload_n 1, 1) := by decide +kernel
theorem d_Links_isSubclass_10 : decode prog_5_method_4_code 10 = .ok (.iaload, 1) := by decide +kernel
theorem d_Links_isSubclass_11 : decode prog_5_method_4_code 11 = .ok (.i2l, 1) := by decide +kernel
theorem d_Links_isSubclass_12 : decode prog_5_method_4_code 12 = .ok (.iload_n 2, 1) := by decide +kernel
theorem d_Links_isSubclass_13 : decode prog_5_method_4_code 13 = .ok (.invokestatic 59, 3) := by decide +kernel
theorem d_Links_isSubclass_16 : decode prog_5_method_4_code 16 = .ok (.ifCond .eq 7, 3) := by decide +kernel
theorem d_Links_isSubclass_19 : decode prog_5_method_4_code 19 = .ok (.iconst 1, 1) := by decide +kernel
theorem d_Links_isSubclass_20 : decode prog_5_method_4_code 20 = .ok (.goto 4, 3) := by decide +kernel
theorem d_Links_isSubclass_23 : decode prog_5_method_4_code 23 = .ok (.iconst 0, 1) := by decide +kernel
theorem d_Links_isSubclass_24 : decode prog_5_method_4_code 24 = .ok (.ireturn, 1) := by decide +kernel
theorem d_Resolver_mayReach_0 : decode prog_9_method_6_code 0 = .ok (.aload_n 0, 1) := by decide +kernel
theorem d_Resolver_mayReach_1 : decode prog_9_method_6_code 1 = .ok (.getfield 33, 3) := by decide +kernel
theorem d_Resolver_mayReach_4 : decode prog_9_method_6_code 4 = .ok (.getfield 113, 3) := by decide +kernel
theorem d_Resolver_mayReach_7 : decode prog_9_method_6_code 7 = .ok (.iload_n 2, 1) := by decide +kernel
theorem d_Resolver_mayReach_8 : decode prog_9_method_6_code 8 = .ok (.iaload, 1) := by decide +kernel
theorem d_Resolver_mayReach_9 : decode prog_9_method_6_code 9 = .ok (.istore_n 3, 1) := by decide +kernel
theorem d_Resolver_mayReach_10 : decode prog_9_method_6_code 10 = .ok (.aload_n 0, 1) := by decide +kernel
theorem d_Resolver_mayReach_11 : decode prog_9_method_6_code 11 = .ok (.getfield 33, 3) := by decide +kernel
theorem d_Resolver_mayReach_14 : decode prog_9_method_6_code 14 = .ok (.iload_n 2, 1) := by decide +kernel
theorem d_Resolver_mayReach_15 : decode prog_9_method_6_code 15 = .ok (.invokevirtual 116, 3) := by decide +kernel
theorem d_Resolver_mayReach_18 : decode prog_9_method_6_code 18 = .ok (.tableswitch 68 0 2 #[26, 28, 58], 26) := by decide +kernel
theorem d_Resolver_mayReach_44 : decode prog_9_method_6_code 44 = .ok (.iconst 1, 1) := by decide +kernel
theorem d_Resolver_mayReach_45 : decode prog_9_method_6_code 45 = .ok (.ireturn, 1) := by decide +kernel
theorem d_Resolver_mayReach_46 : decode prog_9_method_6_code 46 = .ok (.aload_n 0, 1) := by decide +kernel
theorem d_Resolver_mayReach_47 : decode prog_9_method_6_code 47 = .ok (.getfield 28, 3) := by decide +kernel
theorem d_Resolver_mayReach_50 : decode prog_9_method_6_code 50 = .ok (.iload_n 1, 1) := by decide +kernel
theorem d_Resolver_mayReach_51 : decode prog_9_method_6_code 51 = .ok (.iload_n 3, 1) := by decide +kernel
theorem d_Resolver_mayReach_52 : decode prog_9_method_6_code 52 = .ok (.invokevirtual 119, 3) := by decide +kernel
theorem d_Resolver_mayReach_55 : decode prog_9_method_6_code 55 = .ok (.ifCond .ne 15, 3) := by decide +kernel
theorem d_Resolver_mayReach_58 : decode prog_9_method_6_code 58 = .ok (.aload_n 0, 1) := by decide +kernel
theorem d_Resolver_mayReach_59 : decode prog_9_method_6_code 59 = .ok (.getfield 21, 3) := by decide +kernel
theorem d_Resolver_mayReach_62 : decode prog_9_method_6_code 62 = .ok (.iload_n 1, 1) := by decide +kernel
theorem d_Resolver_mayReach_63 : decode prog_9_method_6_code 63 = .ok (.iload_n 3, 1) := by decide +kernel
theorem d_Resolver_mayReach_64 : decode prog_9_method_6_code 64 = .ok (.invokevirtual 122, 3) := by decide +kernel
theorem d_Resolver_mayReach_67 : decode prog_9_method_6_code 67 = .ok (.ifCond .eq 7, 3) := by decide +kernel
theorem d_Resolver_mayReach_70 : decode prog_9_method_6_code 70 = .ok (.iconst 1, 1) := by decide +kernel
theorem d_Resolver_mayReach_71 : decode prog_9_method_6_code 71 = .ok (.goto 4, 3) := by decide +kernel
theorem d_Resolver_mayReach_74 : decode prog_9_method_6_code 74 = .ok (.iconst 0, 1) := by decide +kernel
theorem d_Resolver_mayReach_75 : decode prog_9_method_6_code 75 = .ok (.ireturn, 1) := by decide +kernel
theorem d_Resolver_mayReach_76 : decode prog_9_method_6_code 76 = .ok (.aload_n 0, 1) := by decide +kernel
theorem d_Resolver_mayReach_77 : decode prog_9_method_6_code 77 = .ok (.getfield 28, 3) := by decide +kernel
theorem d_Resolver_mayReach_80 : decode prog_9_method_6_code 80 = .ok (.iload_n 1, 1) := by decide +kernel
theorem d_Resolver_mayReach_81 : decode prog_9_method_6_code 81 = .ok (.iload_n 3, 1) := by decide +kernel
theorem d_Resolver_mayReach_82 : decode prog_9_method_6_code 82 = .ok (.invokevirtual 119, 3) := by decide +kernel
theorem d_Resolver_mayReach_85 : decode prog_9_method_6_code 85 = .ok (.ireturn, 1) := by decide +kernel
theorem d_Resolver_mayReach_86 : decode prog_9_method_6_code 86 = .ok (.iload_n 1, 1) := by decide +kernel
theorem d_Resolver_mayReach_87 : decode prog_9_method_6_code 87 = .ok (.iload_n 3, 1) := by decide +kernel
theorem d_Resolver_mayReach_88 : decode prog_9_method_6_code 88 = .ok (.if_icmp .ne 7, 3) := by decide +kernel
theorem d_Resolver_mayReach_91 : decode prog_9_method_6_code 91 = .ok (.iconst 1, 1) := by decide +kernel
theorem d_Resolver_mayReach_92 : decode prog_9_method_6_code 92 = .ok (.goto 4, 3) := by decide +kernel
theorem d_Resolver_mayReach_95 : decode prog_9_method_6_code 95 = .ok (.iconst 0, 1) := by decide +kernel
theorem d_Resolver_mayReach_96 : decode prog_9_method_6_code 96 = .ok (.ireturn, 1) := by decide +kernel
theorem d_References_wantsStatic_0 : decode prog_8_method_4_code 0 = .ok (.aload_n 0, 1) := by decide +kernel
theorem d_References_wantsStatic_1 : decode prog_8_method_4_code 1 = .ok (.getfield 15, 3) := by decide +kernel
theorem d_References_wantsStatic_4 : decode prog_8_method_4_code 4 = .ok (.iload_n 1, 1) := by decide +kernel
theorem d_References_wantsStatic_5 : decode prog_8_method_4_code 5 = .ok (.iaload, 1) := by decide +kernel
theorem d_References_wantsStatic_6 : decode prog_8_method_4_code 6 = .ok (.iconst 2, 1) := by decide +kernel
theorem d_References_wantsStatic_7 : decode prog_8_method_4_code 7 = .ok (.if_icmp .eq 13, 3) := by decide +kernel
theorem d_References_wantsStatic_10 : decode prog_8_method_4_code 10 = .ok (.aload_n 0, 1) := by decide +kernel
theorem d_References_wantsStatic_11 : decode prog_8_method_4_code 11 = .ok (.getfield 15, 3) := by decide +kernel
theorem d_References_wantsStatic_14 : decode prog_8_method_4_code 14 = .ok (.iload_n 1, 1) := by decide +kernel
theorem d_References_wantsStatic_15 : decode prog_8_method_4_code 15 = .ok (.iaload, 1) := by decide +kernel
theorem d_References_wantsStatic_16 : decode prog_8_method_4_code 16 = .ok (.iconst 4, 1) := by decide +kernel
theorem d_References_wantsStatic_17 : decode prog_8_method_4_code 17 = .ok (.if_icmp .ne 7, 3) := by decide +kernel
theorem d_References_wantsStatic_20 : decode prog_8_method_4_code 20 = .ok (.iconst 1, 1) := by decide +kernel
theorem d_References_wantsStatic_21 : decode prog_8_method_4_code 21 = .ok (.goto 4, 3) := by decide +kernel
theorem d_References_wantsStatic_24 : decode prog_8_method_4_code 24 = .ok (.iconst 0, 1) := by decide +kernel
theorem d_References_wantsStatic_25 : decode prog_8_method_4_code 25 = .ok (.ireturn, 1) := by decide +kernel
theorem d_Resolver_memberVerdict_0 : decode prog_9_method_5_code 0 = .ok (.aload_n 0, 1) := by decide +kernel
theorem d_Resolver_memberVerdict_1 : decode prog_9_method_5_code 1 = .ok (.getfield 33, 3) := by decide +kernel
theorem d_Resolver_memberVerdict_4 : decode prog_9_method_5_code 4 = .ok (.aload_n 0, 1) := by decide +kernel
theorem d_Resolver_memberVerdict_5 : decode prog_9_method_5_code 5 = .ok (.getfield 34, 3) := by decide +kernel
theorem d_Resolver_memberVerdict_8 : decode prog_9_method_5_code 8 = .ok (.getfield 85, 3) := by decide +kernel
theorem d_Resolver_memberVerdict_11 : decode prog_9_method_5_code 11 = .ok (.iload_n 1, 1) := by decide +kernel
theorem d_Resolver_memberVerdict_12 : decode prog_9_method_5_code 12 = .ok (.iaload, 1) := by decide +kernel
theorem d_Resolver_memberVerdict_13 : decode prog_9_method_5_code 13 = .ok (.invokevirtual 88, 3) := by decide +kernel
theorem d_Resolver_memberVerdict_16 : decode prog_9_method_5_code 16 = .ok (.lstore 4, 2) := by decide +kernel
theorem d_Resolver_memberVerdict_18 : decode prog_9_method_5_code 18 = .ok (.aload_n 0, 1) := by decide +kernel
theorem d_Resolver_memberVerdict_19 : decode prog_9_method_5_code 19 = .ok (.iconst 0, 1) := by decide +kernel
theorem d_Resolver_memberVerdict_20 : decode prog_9_method_5_code 20 = .ok (.putfield 9, 3) := by decide +kernel
theorem d_Resolver_memberVerdict_23 : decode prog_9_method_5_code 23 = .ok (.aload_n 0, 1) := by decide +kernel
theorem d_Resolver_memberVerdict_24 : decode prog_9_method_5_code 24 = .ok (.getfield 34, 3) := by decide +kernel
theorem d_Resolver_memberVerdict_27 : decode prog_9_method_5_code 27 = .ok (.iload_n 1, 1) := by decide +kernel
theorem d_Resolver_memberVerdict_28 : decode prog_9_method_5_code 28 = .ok (.invokevirtual 94, 3) := by decide +kernel
theorem d_Resolver_memberVerdict_31 : decode prog_9_method_5_code 31 = .ok (.ifCond .eq 13, 3) := by decide +kernel
theorem d_Resolver_memberVerdict_34 : decode prog_9_method_5_code 34 = .ok (.aload_n 0, 1) := by decide +kernel
theorem d_Resolver_memberVerdict_35 : decode prog_9_method_5_code 35 = .ok (.iload_n 3, 1) := by decide +kernel
theorem d_Resolver_memberVerdict_36 : decode prog_9_method_5_code 36 = .ok (.lload 4, 2) := by decide +kernel
theorem d_Resolver_memberVerdict_38 : decode prog_9_method_5_code 38 = .ok (.invokevirtual 97, 3) := by decide +kernel
theorem d_Resolver_memberVerdict_41 : decode prog_9_method_5_code 41 = .ok (.goto 10, 3) := by decide +kernel
theorem d_Resolver_memberVerdict_44 : decode prog_9_method_5_code 44 = .ok (.aload_n 0, 1) := by decide +kernel
theorem d_Resolver_memberVerdict_45 : decode prog_9_method_5_code 45 = .ok (.iload_n 3, 1) := by decide +kernel
theorem d_Resolver_memberVerdict_46 : decode prog_9_method_5_code 46 = .ok (.lload 4, 2) := by decide +kernel
theorem d_Resolver_memberVerdict_48 : decode prog_9_method_5_code 48 = .ok (.invokevirtual 101, 3) := by decide +kernel
theorem d_Resolver_memberVerdict_51 : decode prog_9_method_5_code 51 = .ok (.istore 6, 2) := by decide +kernel
theorem d_Resolver_memberVerdict_53 : decode prog_9_method_5_code 53 = .ok (.iload 6, 2) := by decide +kernel
theorem d_Resolver_memberVerdict_55 : decode prog_9_method_5_code 55 = .ok (.ifCond .ne 6, 3) := by decide +kernel
theorem d_Resolver_memberVerdict_58 : decode prog_9_method_5_code 58 = .ok (.bipush (-7), 2) := by decide +kernel
theorem d_Resolver_memberVerdict_60 : decode prog_9_method_5_code 60 = .ok (.ireturn, 1) := by decide +kernel
theorem d_Resolver_memberVerdict_61 : decode prog_9_method_5_code 61 = .ok (.aload_n 0, 1) := by decide +kernel
theorem d_Resolver_memberVerdict_62 : decode prog_9_method_5_code 62 = .ok (.iload_n 2, 1) := by decide +kernel
theorem d_Resolver_memberVerdict_63 : decode prog_9_method_5_code 63 = .ok (.iload 6, 2) := by decide +kernel
theorem d_Resolver_memberVerdict_65 : decode prog_9_method_5_code 65 = .ok (.invokevirtual 104, 3) := by decide +kernel
theorem d_Resolver_memberVerdict_68 : decode prog_9_method_5_code 68 = .ok (.ifCond .ne 6, 3) := by decide +kernel
theorem d_Resolver_memberVerdict_71 : decode prog_9_method_5_code 71 = .ok (.bipush (-6), 2) := by decide +kernel
theorem d_Resolver_memberVerdict_73 : decode prog_9_method_5_code 73 = .ok (.ireturn, 1) := by decide +kernel
theorem d_Resolver_memberVerdict_74 : decode prog_9_method_5_code 74 = .ok (.aload_n 0, 1) := by decide +kernel
theorem d_Resolver_memberVerdict_75 : decode prog_9_method_5_code 75 = .ok (.getfield 33, 3) := by decide +kernel
theorem d_Resolver_memberVerdict_78 : decode prog_9_method_5_code 78 = .ok (.iload 6, 2) := by decide +kernel
theorem d_Resolver_memberVerdict_80 : decode prog_9_method_5_code 80 = .ok (.invokevirtual 107, 3) := by decide +kernel
theorem d_Resolver_memberVerdict_83 : decode prog_9_method_5_code 83 = .ok (.aload_n 0, 1) := by decide +kernel
theorem d_Resolver_memberVerdict_84 : decode prog_9_method_5_code 84 = .ok (.getfield 34, 3) := by decide +kernel
theorem d_Resolver_memberVerdict_87 : decode prog_9_method_5_code 87 = .ok (.iload_n 1, 1) := by decide +kernel
theorem d_Resolver_memberVerdict_88 : decode prog_9_method_5_code 88 = .ok (.invokevirtual 110, 3) := by decide +kernel
theorem d_Resolver_memberVerdict_91 : decode prog_9_method_5_code 91 = .ok (.if_icmp .ne 8, 3) := by decide +kernel
theorem d_Resolver_memberVerdict_94 : decode prog_9_method_5_code 94 = .ok (.iload 6, 2) := by decide +kernel
theorem d_Resolver_memberVerdict_96 : decode prog_9_method_5_code 96 = .ok (.goto 5, 3) := by decide +kernel
theorem d_Resolver_memberVerdict_99 : decode prog_9_method_5_code 99 = .ok (.bipush (-5), 2) := by decide +kernel
theorem d_Resolver_memberVerdict_101 : decode prog_9_method_5_code 101 = .ok (.ireturn, 1) := by decide +kernel
theorem d_Resolver_verdictOf_0 : decode prog_9_method_3_code 0 = .ok (.aload_n 0, 1) := by decide +kernel
theorem d_Resolver_verdictOf_1 : decode prog_9_method_3_code 1 = .ok (.getfield 34, 3) := by decide +kernel
theorem d_Resolver_verdictOf_4 : decode prog_9_method_3_code 4 = .ok (.getfield 51, 3) := by decide +kernel
theorem d_Resolver_verdictOf_7 : decode prog_9_method_3_code 7 = .ok (.iload_n 1, 1) := by decide +kernel
theorem d_Resolver_verdictOf_8 : decode prog_9_method_3_code 8 = .ok (.iaload, 1) := by decide +kernel
theorem d_Resolver_verdictOf_9 : decode prog_9_method_3_code 9 = .ok (.istore_n 2, 1) := by decide +kernel
theorem d_Resolver_verdictOf_10 : decode prog_9_method_3_code 10 = .ok (.aload_n 0, 1) := by decide +kernel
theorem d_Resolver_verdictOf_11 : decode prog_9_method_3_code 11 = .ok (.getfield 21, 3) := by decide +kernel
theorem d_Resolver_verdictOf_14 : decode prog_9_method_3_code 14 = .ok (.iload_n 2, 1) := by decide +kernel
theorem d_Resolver_verdictOf_15 : decode prog_9_method_3_code 15 = .ok (.invokevirtual 55, 3) := by decide +kernel
theorem d_Resolver_verdictOf_18 : decode prog_9_method_3_code 18 = .ok (.ifCond .ne 6, 3) := by decide +kernel
theorem d_Resolver_verdictOf_21 : decode prog_9_method_3_code 21 = .ok (.bipush (-10), 2) := by decide +kernel
theorem d_Resolver_verdictOf_23 : decode prog_9_method_3_code 23 = .ok (.ireturn, 1) := by decide +kernel
theorem d_Resolver_verdictOf_24 : decode prog_9_method_3_code 24 = .ok (.aload_n 0, 1) := by decide +kernel
theorem d_Resolver_verdictOf_25 : decode prog_9_method_3_code 25 = .ok (.getfield 21, 3) := by decide +kernel
theorem d_Resolver_verdictOf_28 : decode prog_9_method_3_code 28 = .ok (.iload_n 2, 1) := by decide +kernel
theorem d_Resolver_verdictOf_29 : decode prog_9_method_3_code 29 = .ok (.aload_n 0, 1) := by decide +kernel
theorem d_Resolver_verdictOf_30 : decode prog_9_method_3_code 30 = .ok (.getfield 34, 3) := by decide +kernel
theorem d_Resolver_verdictOf_33 : decode prog_9_method_3_code 33 = .ok (.getfield 59, 3) := by decide +kernel
theorem d_Resolver_verdictOf_36 : decode prog_9_method_3_code 36 = .ok (.iload_n 1, 1) := by decide +kernel
theorem d_Resolver_verdictOf_37 : decode prog_9_method_3_code 37 = .ok (.iaload, 1) := by decide +kernel
theorem d_Resolver_verdictOf_38 : decode prog_9_method_3_code 38 = .ok (.invokevirtual 62, 3) := by decide +kernel
theorem d_Resolver_verdictOf_41 : decode prog_9_method_3_code 41 = .ok (.istore_n 3, 1) := by decide +kernel
theorem d_Resolver_verdictOf_42 : decode prog_9_method_3_code 42 = .ok (.iload_n 3, 1) := by decide +kernel
theorem d_Resolver_verdictOf_43 : decode prog_9_method_3_code 43 = .ok (.ifCond .ge 5, 3) := by decide +kernel
theorem d_Resolver_verdictOf_46 : decode prog_9_method_3_code 46 = .ok (.iload_n 3, 1) := by decide +kernel
theorem d_Resolver_verdictOf_47 : decode prog_9_method_3_code 47 = .ok (.ireturn, 1) := by decide +kernel
theorem d_Resolver_verdictOf_48 : decode prog_9_method_3_code 48 = .ok (.aload_n 0, 1) := by decide +kernel
theorem d_Resolver_verdictOf_49 : decode prog_9_method_3_code 49 = .ok (.getfield 34, 3) := by decide +kernel
theorem d_Resolver_verdictOf_52 : decode prog_9_method_3_code 52 = .ok (.getfield 66, 3) := by decide +kernel
theorem d_Resolver_verdictOf_55 : decode prog_9_method_3_code 55 = .ok (.iload_n 1, 1) := by decide +kernel
theorem d_Resolver_verdictOf_56 : decode prog_9_method_3_code 56 = .ok (.iaload, 1) := by decide +kernel
theorem d_Resolver_verdictOf_57 : decode prog_9_method_3_code 57 = .ok (.ifCond .ne 21, 3) := by decide +kernel
theorem d_Resolver_verdictOf_60 : decode prog_9_method_3_code 60 = .ok (.aload_n 0, 1) := by decide +kernel
theorem d_Resolver_verdictOf_61 : decode prog_9_method_3_code 61 = .ok (.getfield 28, 3) := by decide +kernel
theorem d_Resolver_verdictOf_64 : decode prog_9_method_3_code 64 = .ok (.iload_n 3, 1) := by decide +kernel
theorem d_Resolver_verdictOf_65 : decode prog_9_method_3_code 65 = .ok (.invokevirtual 69, 3) := by decide +kernel
theorem d_Resolver_verdictOf_68 : decode prog_9_method_3_code 68 = .ok (.ifCond .eq 8, 3) := by decide +kernel
theorem d_Resolver_verdictOf_71 : decode prog_9_method_3_code 71 = .ok (.bipush (-8), 2) := by decide +kernel
theorem d_Resolver_verdictOf_73 : decode prog_9_method_3_code 73 = .ok (.goto 4, 3) := by decide +kernel
theorem d_Resolver_verdictOf_76 : decode prog_9_method_3_code 76 = .ok (.iload_n 3, 1) := by decide +kernel
theorem d_Resolver_verdictOf_77 : decode prog_9_method_3_code 77 = .ok (.ireturn, 1) := by decide +kernel
theorem d_Resolver_verdictOf_78 : decode prog_9_method_3_code 78 = .ok (.aload_n 0, 1) := by decide +kernel
theorem d_Resolver_verdictOf_79 : decode prog_9_method_3_code 79 = .ok (.aload_n 0, 1) := by decide +kernel
theorem d_Resolver_verdictOf_80 : decode prog_9_method_3_code 80 = .ok (.getfield 34, 3) := by decide +kernel
theorem d_Resolver_verdictOf_83 : decode prog_9_method_3_code 83 = .ok (.getfield 66, 3) := by decide +kernel
theorem d_Resolver_verdictOf_86 : decode prog_9_method_3_code 86 = .ok (.iload_n 1, 1) := by decide +kernel
theorem d_Resolver_verdictOf_87 : decode prog_9_method_3_code 87 = .ok (.iaload, 1) := by decide +kernel
theorem d_Resolver_verdictOf_88 : decode prog_9_method_3_code 88 = .ok (.iload_n 3, 1) := by decide +kernel
theorem d_Resolver_verdictOf_89 : decode prog_9_method_3_code 89 = .ok (.invokevirtual 74, 3) := by decide +kernel
theorem d_Resolver_verdictOf_92 : decode prog_9_method_3_code 92 = .ok (.ifCond .ne 6, 3) := by decide +kernel
theorem d_Resolver_verdictOf_95 : decode prog_9_method_3_code 95 = .ok (.bipush (-5), 2) := by decide +kernel
theorem d_Resolver_verdictOf_97 : decode prog_9_method_3_code 97 = .ok (.ireturn, 1) := by decide +kernel
theorem d_Resolver_verdictOf_98 : decode prog_9_method_3_code 98 = .ok (.aload_n 0, 1) := by decide +kernel
theorem d_Resolver_verdictOf_99 : decode prog_9_method_3_code 99 = .ok (.iload_n 1, 1) := by decide +kernel
theorem d_Resolver_verdictOf_100 : decode prog_9_method_3_code 100 = .ok (.iload_n 2, 1) := by decide +kernel
theorem d_Resolver_verdictOf_101 : decode prog_9_method_3_code 101 = .ok (.iload_n 3, 1) := by decide +kernel
theorem d_Resolver_verdictOf_102 : decode prog_9_method_3_code 102 = .ok (.invokevirtual 78, 3) := by decide +kernel
theorem d_Resolver_verdictOf_105 : decode prog_9_method_3_code 105 = .ok (.ireturn, 1) := by decide +kernel
theorem d_LinkAudit_verdict_0 : decode prog_1_method_10_code 0 = .ok (.iload_n 1, 1) := by decide +kernel
theorem d_LinkAudit_verdict_1 : decode prog_1_method_10_code 1 = .ok (.aload_n 0, 1) := by decide +kernel
theorem d_LinkAudit_verdict_2 : decode prog_1_method_10_code 2 = .ok (.getfield 33, 3) := by decide +kernel
theorem d_LinkAudit_verdict_5 : decode prog_1_method_10_code 5 = .ok (.getfield 139, 3) := by decide +kernel
theorem d_LinkAudit_verdict_8 : decode prog_1_method_10_code 8 = .ok (.invokestatic 89, 3) := by decide +kernel
theorem d_LinkAudit_verdict_11 : decode prog_1_method_10_code 11 = .ok (.ifCond .ne 5, 3) := by decide +kernel
theorem d_LinkAudit_verdict_14 : decode prog_1_method_10_code 14 = .ok (.iconst (-1), 1) := by decide +kernel
theorem d_LinkAudit_verdict_15 : decode prog_1_method_10_code 15 = .ok (.ireturn, 1) := by decide +kernel
theorem d_LinkAudit_verdict_16 : decode prog_1_method_10_code 16 = .ok (.aload_n 0, 1) := by decide +kernel
theorem d_LinkAudit_verdict_17 : decode prog_1_method_10_code 17 = .ok (.invokevirtual 144, 3) := by decide +kernel
theorem d_LinkAudit_verdict_20 : decode prog_1_method_10_code 20 = .ok (.aload_n 0, 1) := by decide +kernel
theorem d_LinkAudit_verdict_21 : decode prog_1_method_10_code 21 = .ok (.getfield 56, 3) := by decide +kernel
theorem d_LinkAudit_verdict_24 : decode prog_1_method_10_code 24 = .ok (.iload_n 1, 1) := by decide +kernel
theorem d_LinkAudit_verdict_25 : decode prog_1_method_10_code 25 = .ok (.invokevirtual 150, 3) := by decide +kernel
theorem d_LinkAudit_verdict_28 : decode prog_1_method_10_code 28 = .ok (.ireturn, 1) := by decide +kernel
theorem d_LinkAudit_isMethod_0 : decode prog_1_method_21_code 0 = .ok (.iload_n 1, 1) := by decide +kernel
theorem d_LinkAudit_isMethod_1 : decode prog_1_method_21_code 1 = .ok (.iconst 1, 1) := by decide +kernel
theorem d_LinkAudit_isMethod_2 : decode prog_1_method_21_code 2 = .ok (.if_icmp .lt 29, 3) := by decide +kernel
theorem d_LinkAudit_isMethod_5 : decode prog_1_method_21_code 5 = .ok (.iload_n 1, 1) := by decide +kernel
theorem d_LinkAudit_isMethod_6 : decode prog_1_method_21_code 6 = .ok (.aload_n 0, 1) := by decide +kernel
theorem d_LinkAudit_isMethod_7 : decode prog_1_method_21_code 7 = .ok (.getfield 26, 3) := by decide +kernel
theorem d_LinkAudit_isMethod_10 : decode prog_1_method_21_code 10 = .ok (.getfield 186, 3) := by decide +kernel
theorem d_LinkAudit_isMethod_13 : decode prog_1_method_21_code 13 = .ok (.if_icmp .gt 18, 3) := by decide +kernel
theorem d_LinkAudit_isMethod_16 : decode prog_1_method_21_code 16 = .ok (.aload_n 0, 1) := by decide +kernel
theorem d_LinkAudit_isMethod_17 : decode prog_1_method_21_code 17 = .ok (.getfield 26, 3) := by decide +kernel
theorem d_LinkAudit_isMethod_20 : decode prog_1_method_21_code 20 = .ok (.iload_n 1, 1) := by decide +kernel
theorem d_LinkAudit_isMethod_21 : decode prog_1_method_21_code 21 = .ok (.invokevirtual 187, 3) := by decide +kernel
theorem d_LinkAudit_isMethod_24 : decode prog_1_method_21_code 24 = .ok (.ifCond .eq 7, 3) := by decide +kernel
theorem d_LinkAudit_isMethod_27 : decode prog_1_method_21_code 27 = .ok (.iconst 1, 1) := by decide +kernel
theorem d_LinkAudit_isMethod_28 : decode prog_1_method_21_code 28 = .ok (.goto 4, 3) := by decide +kernel
theorem d_LinkAudit_isMethod_31 : decode prog_1_method_21_code 31 = .ok (.iconst 0, 1) := by decide +kernel
theorem d_LinkAudit_isMethod_32 : decode prog_1_method_21_code 32 = .ok (.ireturn, 1) := by decide +kernel
theorem d_Links_isProperSuper_0 : decode prog_5_method_5_code 0 = .ok (.aload_n 0, 1) := by decide +kernel
theorem d_Links_isProperSuper_1 : decode prog_5_method_5_code 1 = .ok (.getfield 23, 3) := by decide +kernel
theorem d_Links_isProperSuper_4 : decode prog_5_method_5_code 4 = .ok (.iload_n 1, 1) := by decide +kernel
theorem d_Links_isProperSuper_5 : decode prog_5_method_5_code 5 = .ok (.iaload, 1) := by decide +kernel
theorem d_Links_isProperSuper_6 : decode prog_5_method_5_code 6 = .ok (.aload_n 0, 1) := by decide +kernel
theorem d_Links_isProperSuper_7 : decode prog_5_method_5_code 7 = .ok (.getfield 26, 3) := by decide +kernel
theorem d_Links_isProperSuper_10 : decode prog_5_method_5_code 10 = .ok (.iload_n 1, 1) := by decide +kernel
theorem d_Links_isProperSuper_11 : decode prog_5_method_5_code 11 = .ok (.iaload, 1) := by decide +kernel
theorem d_Links_isProperSuper_12 : decode prog_5_method_5_code 12 = .ok (.ior, 1) := by decide +kernel
theorem d_Links_isProperSuper_13 : decode prog_5_method_5_code 13 = .ok (.i2l, 1) := by decide +kernel
theorem d_Links_isProperSuper_14 : decode prog_5_method_5_code 14 = .ok (.iload_n 2, 1) := by decide +kernel
theorem d_Links_isProperSuper_15 : decode prog_5_method_5_code 15 = .ok (.invokestatic 59, 3) := by decide +kernel
theorem d_Links_isProperSuper_18 : decode prog_5_method_5_code 18 = .ok (.ireturn, 1) := by decide +kernel
theorem d_Selector_isSelectable_0 : decode prog_10_method_8_code 0 = .ok (.aload_n 0, 1) := by decide +kernel
theorem d_Selector_isSelectable_1 : decode prog_10_method_8_code 1 = .ok (.getfield 33, 3) := by decide +kernel
theorem d_Selector_isSelectable_4 : decode prog_10_method_8_code 4 = .ok (.getfield 51, 3) := by decide +kernel
theorem d_Selector_isSelectable_7 : decode prog_10_method_8_code 7 = .ok (.iload_n 2, 1) := by decide +kernel
theorem d_Selector_isSelectable_8 : decode prog_10_method_8_code 8 = .ok (.iaload, 1) := by decide +kernel
theorem d_Selector_isSelectable_9 : decode prog_10_method_8_code 9 = .ok (.istore_n 3, 1) := by decide +kernel
theorem d_Selector_isSelectable_10 : decode prog_10_method_8_code 10 = .ok (.aload_n 0, 1) := by decide +kernel
theorem d_Selector_isSelectable_11 : decode prog_10_method_8_code 11 = .ok (.getfield 21, 3) := by decide +kernel
theorem d_Selector_isSelectable_14 : decode prog_10_method_8_code 14 = .ok (.iload_n 1, 1) := by decide +kernel
theorem d_Selector_isSelectable_15 : decode prog_10_method_8_code 15 = .ok (.invokevirtual 103, 3) := by decide +kernel
theorem d_Selector_isSelectable_18 : decode prog_10_method_8_code 18 = .ok (.ifCond .eq 46, 3) := by decide +kernel
theorem d_Selector_isSelectable_21 : decode prog_10_method_8_code 21 = .ok (.aload_n 0, 1) := by decide +kernel
theorem d_Selector_isSelectable_22 : decode prog_10_method_8_code 22 = .ok (.getfield 28, 3) := by decide +kernel
theorem d_Selector_isSelectable_25 : decode prog_10_method_8_code 25 = .ok (.iload_n 1, 1) := by decide +kernel
theorem d_Selector_isSelectable_26 : decode prog_10_method_8_code 26 = .ok (.invokevirtual 113, 3) := by decide +kernel
theorem d_Selector_isSelectable_29 : decode prog_10_method_8_code 29 = .ok (.ifCond .ne 35, 3) := by decide +kernel
theorem d_Selector_isSelectable_32 : decode prog_10_method_8_code 32 = .ok (.aload_n 0, 1) := by decide +kernel
theorem d_Selector_isSelectable_33 : decode prog_10_method_8_code 33 = .ok (.getfield 33, 3) := by decide +kernel
theorem d_Selector_isSelectable_36 : decode prog_10_method_8_code 36 = .ok (.iload_n 2, 1) := by decide +kernel
theorem d_Selector_isSelectable_37 : decode prog_10_method_8_code 37 = .ok (.invokevirtual 116, 3) := by decide +kernel
theorem d_Selector_isSelectable_40 : decode prog_10_method_8_code 40 = .ok (.ifCond .ne 24, 3) := by decide +kernel
theorem d_Selector_isSelectable_43 : decode prog_10_method_8_code 43 = .ok (.iload_n 1, 1) := by decide +kernel
theorem d_Selector_isSelectable_44 : decode prog_10_method_8_code 44 = .ok (.iload_n 3, 1) := by decide +kernel
theorem d_Selector_isSelectable_45 : decode prog_10_method_8_code 45 = .ok (.if_icmp .eq 15, 3) := by decide +kernel
theorem d_Selector_isSelectable_48 : decode prog_10_method_8_code 48 = .ok (.aload_n 0, 1) := by decide +kernel
theorem d_Selector_isSelectable_49 : decode prog_10_method_8_code 49 = .ok (.getfield 21, 3) := by decide +kernel
theorem d_Selector_isSelectable_52 : decode prog_10_method_8_code 52 = .ok (.iload_n 1, 1) := by decide +kernel
theorem d_Selector_isSelectable_53 : decode prog_10_method_8_code 53 = .ok (.iload_n 3, 1) := by decide +kernel
theorem d_Selector_isSelectable_54 : decode prog_10_method_8_code 54 = .ok (.invokevirtual 107, 3) := by decide +kernel
theorem d_Selector_isSelectable_57 : decode prog_10_method_8_code 57 = .ok (.ifCond .eq 7, 3) := by decide +kernel
theorem d_Selector_isSelectable_60 : decode prog_10_method_8_code 60 = .ok (.iconst 1, 1) := by decide +kernel
theorem d_Selector_isSelectable_61 : decode prog_10_method_8_code 61 = .ok (.goto 4, 3) := by decide +kernel
theorem d_Selector_isSelectable_64 : decode prog_10_method_8_code 64 = .ok (.iconst 0, 1) := by decide +kernel
theorem d_Selector_isSelectable_65 : decode prog_10_method_8_code 65 = .ok (.ireturn, 1) := by decide +kernel
theorem d_Selector_isCovering_0 : decode prog_10_method_6_code 0 = .ok (.iload_n 1, 1) := by decide +kernel
theorem d_Selector_isCovering_1 : decode prog_10_method_6_code 1 = .ok (.iload_n 2, 1) := by decide +kernel
theorem d_Selector_isCovering_2 : decode prog_10_method_6_code 2 = .ok (.if_icmp .eq 24, 3) := by decide +kernel
theorem d_Selector_isCovering_5 : decode prog_10_method_6_code 5 = .ok (.aload_n 0, 1) := by decide +kernel
theorem d_Selector_isCovering_6 : decode prog_10_method_6_code 6 = .ok (.getfield 33, 3) := by decide +kernel
theorem d_Selector_isCovering_9 : decode prog_10_method_6_code 9 = .ok (.getfield 88, 3) := by decide +kernel
theorem d_Selector_isCovering_12 : decode prog_10_method_6_code 12 = .ok (.iload_n 1, 1) := by decide +kernel
theorem d_Selector_isCovering_13 : decode prog_10_method_6_code 13 = .ok (.iaload, 1) := by decide +kernel
theorem d_Selector_isCovering_14 : decode prog_10_method_6_code 14 = .ok (.aload_n 0, 1) := by decide +kernel
theorem d_Selector_isCovering_15 : decode prog_10_method_6_code 15 = .ok (.getfield 33, 3) := by decide +kernel
theorem d_Selector_isCovering_18 : decode prog_10_method_6_code 18 = .ok (.getfield 88, 3) := by decide +kernel
theorem d_Selector_isCovering_21 : decode prog_10_method_6_code 21 = .ok (.iload_n 2, 1) := by decide +kernel
theorem d_Selector_isCovering_22 : decode prog_10_method_6_code 22 = .ok (.iaload, 1) := by decide +kernel
theorem d_Selector_isCovering_23 : decode prog_10_method_6_code 23 = .ok (.if_icmp .eq 5, 3) := by decide +kernel
theorem d_Selector_isCovering_26 : decode prog_10_method_6_code 26 = .ok (.iconst 0, 1) := by decide +kernel
theorem d_Selector_isCovering_27 : decode prog_10_method_6_code 27 = .ok (.ireturn, 1) := by decide +kernel
theorem d_Selector_isCovering_28 : decode prog_10_method_6_code 28 = .ok (.aload_n 0, 1) := by decide +kernel
theorem d_Selector_isCovering_29 : decode prog_10_method_6_code 29 = .ok (.getfield 33, 3) := by decide +kernel
theorem d_Selector_isCovering_32 : decode prog_10_method_6_code 32 = .ok (.getfield 54, 3) := by decide +kernel
theorem d_Selector_isCovering_35 : decode prog_10_method_6_code 35 = .ok (.iload_n 1, 1) := by decide +kernel
theorem d_Selector_isCovering_36 : decode prog_10_method_6_code 36 = .ok (.invokestatic 58, 3) := by decide +kernel
theorem d_Selector_isCovering_39 : decode prog_10_method_6_code 39 = .ok (.ifCond .eq 17, 3) := by decide +kernel
theorem d_Selector_isCovering_42 : decode prog_10_method_6_code 42 = .ok (.aload_n 0, 1) := by decide +kernel
theorem d_Selector_isCovering_43 : decode prog_10_method_6_code 43 = .ok (.getfield 33, 3) := by decide +kernel
theorem d_Selector_isCovering_46 : decode prog_10_method_6_code 46 = .ok (.getfield 54, 3) := by decide +kernel
theorem d_Selector_isCovering_49 : decode prog_10_method_6_code 49 = .ok (.iload_n 2, 1) := by decide +kernel
theorem d_Selector_isCovering_50 : decode prog_10_method_6_code 50 = .ok (.invokestatic 58, 3) := by decide +kernel
theorem d_Selector_isCovering_53 : decode prog_10_method_6_code 53 = .ok (.ifCond .ne 5, 3) := by decide +kernel
theorem d_Selector_isCovering_56 : decode prog_10_method_6_code 56 = .ok (.iconst 0, 1) := by decide +kernel
theorem d_Selector_isCovering_57 : decode prog_10_method_6_code 57 = .ok (.ireturn, 1) := by decide +kernel
theorem d_Selector_isCovering_58 : decode prog_10_method_6_code 58 = .ok (.aload_n 0, 1) := by decide +kernel
theorem d_Selector_isCovering_59 : decode prog_10_method_6_code 59 = .ok (.iload_n 1, 1) := by decide +kernel
theorem d_Selector_isCovering_60 : decode prog_10_method_6_code 60 = .ok (.iload_n 2, 1) := by decide +kernel
theorem d_Selector_isCovering_61 : decode prog_10_method_6_code 61 = .ok (.invokevirtual 84, 3) := by decide +kernel
theorem d_Selector_isCovering_64 : decode prog_10_method_6_code 64 = .ok (.ifCond .ne 16, 3) := by decide +kernel
theorem d_Selector_isCovering_67 : decode prog_10_method_6_code 67 = .ok (.aload_n 0, 1) := by decide +kernel
theorem d_Selector_isCovering_68 : decode prog_10_method_6_code 68 = .ok (.getfield 9, 3) := by decide +kernel
theorem d_Selector_isCovering_71 : decode prog_10_method_6_code 71 = .ok (.iload_n 1, 1) := by decide +kernel
theorem d_Selector_isCovering_72 : decode prog_10_method_6_code 72 = .ok (.laload, 1) := by decide +kernel
theorem d_Selector_isCovering_73 : decode prog_10_method_6_code 73 = .ok (.iload_n 2, 1) := by decide +kernel
theorem d_Selector_isCovering_74 : decode prog_10_method_6_code 74 = .ok (.invokestatic 58, 3) := by decide +kernel
theorem d_Selector_isCovering_77 : decode prog_10_method_6_code 77 = .ok (.ifCond .eq 7, 3) := by decide +kernel
theorem d_Selector_isCovering_80 : decode prog_10_method_6_code 80 = .ok (.iconst 1, 1) := by decide +kernel
theorem d_Selector_isCovering_81 : decode prog_10_method_6_code 81 = .ok (.goto 4, 3) := by decide +kernel
theorem d_Selector_isCovering_84 : decode prog_10_method_6_code 84 = .ok (.iconst 0, 1) := by decide +kernel
theorem d_Selector_isCovering_85 : decode prog_10_method_6_code 85 = .ok (.ireturn, 1) := by decide +kernel
theorem d_Selector_candidate_0 : decode prog_10_method_10_code 0 = .ok (.aload_n 0, 1) := by decide +kernel
theorem d_Selector_candidate_1 : decode prog_10_method_10_code 1 = .ok (.iload_n 2, 1) := by decide +kernel
theorem d_Selector_candidate_2 : decode prog_10_method_10_code 2 = .ok (.invokevirtual 66, 3) := by decide +kernel
theorem d_Selector_candidate_5 : decode prog_10_method_10_code 5 = .ok (.lstore_n 3, 1) := by decide +kernel
theorem d_Selector_candidate_6 : decode prog_10_method_10_code 6 = .ok (.iconst 0, 1) := by decide +kernel
theorem d_Selector_candidate_7 : decode prog_10_method_10_code 7 = .ok (.istore 5, 2) := by decide +kernel
theorem d_Selector_candidate_9 : decode prog_10_method_10_code 9 = .ok (.iload 5, 2) := by decide +kernel
theorem d_Selector_candidate_11 : decode prog_10_method_10_code 11 = .ok (.aload_n 0, 1) := by decide +kernel
theorem d_Selector_candidate_12 : decode prog_10_method_10_code 12 = .ok (.getfield 21, 3) := by decide +kernel
theorem d_Selector_candidate_15 : decode prog_10_method_10_code 15 = .ok (.getfield 70, 3) := by decide +kernel
theorem d_Selector_candidate_18 : decode prog_10_method_10_code 18 = .ok (.iload_n 1, 1) := by decide +kernel
theorem d_Selector_candidate_19 : decode prog_10_method_10_code 19 = .ok (.iaload, 1) := by decide +kernel
theorem d_Selector_candidate_20 : decode prog_10_method_10_code 20 = .ok (.if_icmp .ge 66, 3) := by decide +kernel
theorem d_Selector_candidate_23 : decode prog_10_method_10_code 23 = .ok (.aload_n 0, 1) := by decide +kernel
theorem d_Selector_candidate_24 : decode prog_10_method_10_code 24 = .ok (.getfield 33, 3) := by decide +kernel
theorem d_Selector_candidate_27 : decode prog_10_method_10_code 27 = .ok (.getfield 73, 3) := by decide +kernel
theorem d_Selector_candidate_30 : decode prog_10_method_10_code 30 = .ok (.aload_n 0, 1) := by decide +kernel
theorem d_Selector_candidate_31 : decode prog_10_method_10_code 31 = .ok (.getfield 21, 3) := by decide +kernel
theorem d_Selector_candidate_34 : decode prog_10_method_10_code 34 = .ok (.getfield 76, 3) := by decide +kernel
theorem d_Selector_candidate_37 : decode prog_10_method_10_code 37 = .ok (.iload_n 1, 1) := by decide +kernel
theorem d_Selector_candidate_38 : decode prog_10_method_10_code 38 = .ok (.aaload, 1) := by decide +kernel
theorem d_Selector_candidate_39 : decode prog_10_method_10_code 39 = .ok (.iload 5, 2) := by decide +kernel
theorem d_Selector_candidate_41 : decode prog_10_method_10_code 41 = .ok (.iaload, 1) := by decide +kernel
theorem d_Selector_candidate_42 : decode prog_10_method_10_code 42 = .ok (.laload, 1) := by decide +kernel
theorem d_Selector_candidate_43 : decode prog_10_method_10_code 43 = .ok (.lload_n 3, 1) := by decide +kernel
theorem d_Selector_candidate_44 : decode prog_10_method_10_code 44 = .ok (.land, 1) := by decide +kernel
theorem d_Selector_candidate_45 : decode prog_10_method_10_code 45 = .ok (.lstore 6, 2) := by decide +kernel
theorem d_Selector_candidate_47 : decode prog_10_method_10_code 47 = .ok (.lload 6, 2) := by decide +kernel
theorem d_Selector_candidate_49 : decode prog_10_method_10_code 49 = .ok (.lconst 0, 1) := by decide +kernel
theorem d_Selector_candidate_50 : decode prog_10_method_10_code 50 = .ok (.lcmp, 1) := by decide +kernel
theorem d_Selector_candidate_51 : decode prog_10_method_10_code 51 = .ok (.ifCond .eq 29, 3) := by decide +kernel
theorem d_Selector_candidate_54 : decode prog_10_method_10_code 54 = .ok (.lload 6, 2) := by decide +kernel
theorem d_Selector_candidate_56 : decode prog_10_method_10_code 56 = .ok (.invokestatic 80, 3) := by decide +kernel
theorem d_Selector_candidate_59 : decode prog_10_method_10_code 59 = .ok (.istore 8, 2) := by decide +kernel
theorem d_Selector_candidate_61 : decode prog_10_method_10_code 61 = .ok (.iload 8, 2) := by decide +kernel
theorem d_Selector_candidate_63 : decode prog_10_method_10_code 63 = .ok (.iload_n 2, 1) := by decide +kernel
theorem d_Selector_candidate_64 : decode prog_10_method_10_code 64 = .ok (.if_icmp .eq 13, 3) := by decide +kernel
theorem d_Selector_candidate_67 : decode prog_10_method_10_code 67 = .ok (.aload_n 0, 1) := by decide +kernel
theorem d_Selector_candidate_68 : decode prog_10_method_10_code 68 = .ok (.iload 8, 2) := by decide +kernel
theorem d_Selector_candidate_70 : decode prog_10_method_10_code 70 = .ok (.iload_n 2, 1) := by decide +kernel
theorem d_Selector_candidate_71 : decode prog_10_method_10_code 71 = .ok (.invokevirtual 110, 3) := by decide +kernel
theorem d_Selector_candidate_74 : decode prog_10_method_10_code 74 = .ok (.ifCond .eq 6, 3) := by decide +kernel
theorem d_Selector_candidate_77 : decode prog_10_method_10_code 77 = .ok (.iload 8, 2) := by decide +kernel
theorem d_Selector_candidate_79 : decode prog_10_method_10_code 79 = .ok (.ireturn, 1) := by decide +kernel
theorem d_Selector_candidate_80 : decode prog_10_method_10_code 80 = .ok (.iinc 5 1, 3) := by decide +kernel
theorem d_Selector_candidate_83 : decode prog_10_method_10_code 83 = .ok (.goto (-74), 3) := by decide +kernel
theorem d_Selector_candidate_86 : decode prog_10_method_10_code 86 = .ok (.aload_n 0, 1) := by decide +kernel
theorem d_Selector_candidate_87 : decode prog_10_method_10_code 87 = .ok (.getfield 34, 3) := by decide +kernel
theorem d_Selector_candidate_90 : decode prog_10_method_10_code 90 = .ok (.aload_n 0, 1) := by decide +kernel
theorem d_Selector_candidate_91 : decode prog_10_method_10_code 91 = .ok (.getfield 34, 3) := by decide +kernel
theorem d_Selector_candidate_94 : decode prog_10_method_10_code 94 = .ok (.iload_n 1, 1) := by decide +kernel
theorem d_Selector_candidate_95 : decode prog_10_method_10_code 95 = .ok (.lload_n 3, 1) := by decide +kernel
theorem d_Selector_candidate_96 : decode prog_10_method_10_code 96 = .ok (.invokevirtual 126, 3) := by decide +kernel
theorem d_Selector_candidate_99 : decode prog_10_method_10_code 99 = .ok (.invokevirtual 130, 3) := by decide +kernel
theorem d_Selector_candidate_102 : decode prog_10_method_10_code 102 = .ok (.lstore 5, 2) := by decide +kernel
theorem d_Selector_candidate_104 : decode prog_10_method_10_code 104 = .ok (.lload 5, 2) := by decide +kernel
theorem d_Selector_candidate_106 : decode prog_10_method_10_code 106 = .ok (.lconst 0, 1) := by decide +kernel
theorem d_Selector_candidate_107 : decode prog_10_method_10_code 107 = .ok (.lcmp, 1) := by decide +kernel
theorem d_Selector_candidate_108 : decode prog_10_method_10_code 108 = .ok (.ifCond .ne 6, 3) := by decide +kernel
theorem d_Selector_candidate_111 : decode prog_10_method_10_code 111 = .ok (.bipush (-9), 2) := by decide +kernel
theorem d_Selector_candidate_113 : decode prog_10_method_10_code 113 = .ok (.ireturn, 1) := by decide +kernel
theorem d_Selector_candidate_114 : decode prog_10_method_10_code 114 = .ok (.lload 5, 2) := by decide +kernel
theorem d_Selector_candidate_116 : decode prog_10_method_10_code 116 = .ok (.invokestatic 134, 3) := by decide +kernel
theorem d_Selector_candidate_119 : decode prog_10_method_10_code 119 = .ok (.iconst 1, 1) := by decide +kernel
theorem d_Selector_candidate_120 : decode prog_10_method_10_code 120 = .ok (.if_icmp .ne 11, 3) := by decide +kernel
theorem d_Selector_candidate_123 : decode prog_10_method_10_code 123 = .ok (.lload 5, 2) := by decide +kernel
theorem d_Selector_candidate_125 : decode prog_10_method_10_code 125 = .ok (.invokestatic 80, 3) := by decide +kernel
theorem d_Selector_candidate_128 : decode prog_10_method_10_code 128 = .ok (.goto 5, 3) := by decide +kernel
theorem d_Selector_candidate_131 : decode prog_10_method_10_code 131 = .ok (.bipush (-5), 2) := by decide +kernel
theorem d_Selector_candidate_133 : decode prog_10_method_10_code 133 = .ok (.ireturn, 1) := by decide +kernel
theorem d_Selector_selected_0 : decode prog_10_method_9_code 0 = .ok (.aload_n 0, 1) := by decide +kernel
theorem d_Selector_selected_1 : decode prog_10_method_9_code 1 = .ok (.getfield 33, 3) := by decide +kernel
theorem d_Selector_selected_4 : decode prog_10_method_9_code 4 = .ok (.iload_n 2, 1) := by decide +kernel
theorem d_Selector_selected_5 : decode prog_10_method_9_code 5 = .ok (.invokevirtual 94, 3) := by decide +kernel
theorem d_Selector_selected_8 : decode prog_10_method_9_code 8 = .ok (.iconst 3, 1) := by decide +kernel
theorem d_Selector_selected_9 : decode prog_10_method_9_code 9 = .ok (.if_icmp .ne 5, 3) := by decide +kernel
theorem d_Selector_selected_12 : decode prog_10_method_9_code 12 = .ok (.iload_n 2, 1) := by decide +kernel
theorem d_Selector_selected_13 : decode prog_10_method_9_code 13 = .ok (.ireturn, 1) := by decide +kernel
theorem d_Selector_selected_14 : decode prog_10_method_9_code 14 = .ok (.aload_n 0, 1) := by decide +kernel
theorem d_Selector_selected_15 : decode prog_10_method_9_code 15 = .ok (.iload_n 1, 1) := by decide +kernel
theorem d_Selector_selected_16 : decode prog_10_method_9_code 16 = .ok (.iload_n 2, 1) := by decide +kernel
theorem d_Selector_selected_17 : decode prog_10_method_9_code 17 = .ok (.invokevirtual 119, 3) := by decide +kernel
theorem d_Selector_selected_20 : decode prog_10_method_9_code 20 = .ok (.istore_n 3, 1) := by decide +kernel
theorem d_Selector_selected_21 : decode prog_10_method_9_code 21 = .ok (.iload_n 3, 1) := by decide +kernel
theorem d_Selector_selected_22 : decode prog_10_method_9_code 22 = .ok (.ifCond .ge 5, 3) := by decide +kernel
theorem d_Selector_selected_25 : decode prog_10_method_9_code 25 = .ok (.iload_n 3, 1) := by decide +kernel
theorem d_Selector_selected_26 : decode prog_10_method_9_code 26 = .ok (.ireturn, 1) := by decide +kernel
theorem d_Selector_selected_27 : decode prog_10_method_9_code 27 = .ok (.aload_n 0, 1) := by decide +kernel
theorem d_Selector_selected_28 : decode prog_10_method_9_code 28 = .ok (.getfield 33, 3) := by decide +kernel
theorem d_Selector_selected_31 : decode prog_10_method_9_code 31 = .ok (.getfield 123, 3) := by decide +kernel
theorem d_Selector_selected_34 : decode prog_10_method_9_code 34 = .ok (.iload_n 3, 1) := by decide +kernel
theorem d_Selector_selected_35 : decode prog_10_method_9_code 35 = .ok (.invokestatic 58, 3) := by decide +kernel
theorem d_Selector_selected_38 : decode prog_10_method_9_code 38 = .ok (.ifCond .eq 6, 3) := by decide +kernel
theorem d_Selector_selected_41 : decode prog_10_method_9_code 41 = .ok (.bipush (-9), 2) := by decide +kernel
theorem d_Selector_selected_43 : decode prog_10_method_9_code 43 = .ok (.ireturn, 1) := by decide +kernel
theorem d_Selector_selected_44 : decode prog_10_method_9_code 44 = .ok (.aload_n 0, 1) := by decide +kernel
theorem d_Selector_selected_45 : decode prog_10_method_9_code 45 = .ok (.getfield 28, 3) := by decide +kernel
theorem d_Selector_selected_48 : decode prog_10_method_9_code 48 = .ok (.aload_n 0, 1) := by decide +kernel
theorem d_Selector_selected_49 : decode prog_10_method_9_code 49 = .ok (.getfield 33, 3) := by decide +kernel
theorem d_Selector_selected_52 : decode prog_10_method_9_code 52 = .ok (.getfield 51, 3) := by decide +kernel
theorem d_Selector_selected_55 : decode prog_10_method_9_code 55 = .ok (.iload_n 2, 1) := by decide +kernel
theorem d_Selector_selected_56 : decode prog_10_method_9_code 56 = .ok (.iaload, 1) := by decide +kernel
theorem d_Selector_selected_57 : decode prog_10_method_9_code 57 = .ok (.invokevirtual 113, 3) := by decide +kernel
theorem d_Selector_selected_60 : decode prog_10_method_9_code 60 = .ok (.istore 4, 2) := by decide +kernel
theorem d_Selector_selected_62 : decode prog_10_method_9_code 62 = .ok (.iload 4, 2) := by decide +kernel
theorem d_Selector_selected_64 : decode prog_10_method_9_code 64 = .ok (.ifCond .eq 19, 3) := by decide +kernel
theorem d_Selector_selected_67 : decode prog_10_method_9_code 67 = .ok (.aload_n 0, 1) := by decide +kernel
theorem d_Selector_selected_68 : decode prog_10_method_9_code 68 = .ok (.getfield 33, 3) := by decide +kernel
theorem d_Selector_selected_71 : decode prog_10_method_9_code 71 = .ok (.iload_n 3, 1) := by decide +kernel
theorem d_Selector_selected_72 : decode prog_10_method_9_code 72 = .ok (.invokevirtual 94, 3) := by decide +kernel
theorem d_Selector_selected_75 : decode prog_10_method_9_code 75 = .ok (.ifCond .eq 8, 3) := by decide +kernel
theorem d_Selector_selected_78 : decode prog_10_method_9_code 78 = .ok (.bipush (-6), 2) := by decide +kernel
theorem d_Selector_selected_80 : decode prog_10_method_9_code 80 = .ok (.goto 4, 3) := by decide +kernel
theorem d_Selector_selected_83 : decode prog_10_method_9_code 83 = .ok (.iload_n 3, 1) := by decide +kernel
theorem d_Selector_selected_84 : decode prog_10_method_9_code 84 = .ok (.ireturn, 1) := by decide +kernel
theorem d_LinkAudit_select_0 : decode prog_1_method_11_code 0 = .ok (.aload_n 0, 1) := by decide +kernel
theorem d_LinkAudit_select_1 : decode prog_1_method_11_code 1 = .ok (.iload_n 1, 1) := by decide +kernel
theorem d_LinkAudit_select_2 : decode prog_1_method_11_code 2 = .ok (.invokevirtual 123, 3) := by decide +kernel
theorem d_LinkAudit_select_5 : decode prog_1_method_11_code 5 = .ok (.ifCond .eq 11, 3) := by decide +kernel
theorem d_LinkAudit_select_8 : decode prog_1_method_11_code 8 = .ok (.aload_n 0, 1) := by decide +kernel
theorem d_LinkAudit_select_9 : decode prog_1_method_11_code 9 = .ok (.iload_n 2, 1) := by decide +kernel
theorem d_LinkAudit_select_10 : decode prog_1_method_11_code 10 = .ok (.invokevirtual 154, 3) := by decide +kernel
theorem d_LinkAudit_select_13 : decode prog_1_method_11_code 13 = .ok (.ifCond .ne 5, 3) := by decide +kernel
theorem d_LinkAudit_select_16 : decode prog_1_method_11_code 16 = .ok (.iconst (-1), 1) := by decide +kernel
theorem d_LinkAudit_select_17 : decode prog_1_method_11_code 17 = .ok (.ireturn, 1) := by decide +kernel
theorem d_LinkAudit_select_18 : decode prog_1_method_11_code 18 = .ok (.aload_n 0, 1) := by decide +kernel
theorem d_LinkAudit_select_19 : decode prog_1_method_11_code 19 = .ok (.invokevirtual 144, 3) := by decide +kernel
theorem d_LinkAudit_select_22 : decode prog_1_method_11_code 22 = .ok (.aload_n 0, 1) := by decide +kernel
theorem d_LinkAudit_select_23 : decode prog_1_method_11_code 23 = .ok (.getfield 65, 3) := by decide +kernel
theorem d_LinkAudit_select_26 : decode prog_1_method_11_code 26 = .ok (.iload_n 1, 1) := by decide +kernel
theorem d_LinkAudit_select_27 : decode prog_1_method_11_code 27 = .ok (.iload_n 2, 1) := by decide +kernel
theorem d_LinkAudit_select_28 : decode prog_1_method_11_code 28 = .ok (.invokevirtual 157, 3) := by decide +kernel
theorem d_LinkAudit_select_31 : decode prog_1_method_11_code 31 = .ok (.ifCond .eq 15, 3) := by decide +kernel
theorem d_LinkAudit_select_34 : decode prog_1_method_11_code 34 = .ok (.aload_n 0, 1) := by decide +kernel
theorem d_LinkAudit_select_35 : decode prog_1_method_11_code 35 = .ok (.getfield 65, 3) := by decide +kernel
theorem d_LinkAudit_select_38 : decode prog_1_method_11_code 38 = .ok (.iload_n 1, 1) := by decide +kernel
theorem d_LinkAudit_select_39 : decode prog_1_method_11_code 39 = .ok (.iload_n 2, 1) := by decide +kernel
theorem d_LinkAudit_select_40 : decode prog_1_method_11_code 40 = .ok (.invokevirtual 160, 3) := by decide +kernel
theorem d_LinkAudit_select_43 : decode prog_1_method_11_code 43 = .ok (.goto 4, 3) := by decide +kernel
theorem d_LinkAudit_select_46 : decode prog_1_method_11_code 46 = .ok (.iconst (-1), 1) := by decide +kernel
theorem d_LinkAudit_select_47 : decode prog_1_method_11_code 47 = .ok (.ireturn, 1) := by decide +kernel
theorem d_Selector_isOverriding_0 : decode prog_10_method_7_code 0 = .ok (.aload_n 0, 1) := by decide +kernel
theorem d_Selector_isOverriding_1 : decode prog_10_method_7_code 1 = .ok (.getfield 33, 3) := by decide +kernel
theorem d_Selector_isOverriding_4 : decode prog_10_method_7_code 4 = .ok (.getfield 51, 3) := by decide +kernel
theorem d_Selector_isOverriding_7 : decode prog_10_method_7_code 7 = .ok (.iload_n 1, 1) := by decide +kernel
theorem d_Selector_isOverriding_8 : decode prog_10_method_7_code 8 = .ok (.iaload, 1) := by decide +kernel
theorem d_Selector_isOverriding_9 : decode prog_10_method_7_code 9 = .ok (.istore_n 3, 1) := by decide +kernel
theorem d_Selector_isOverriding_10 : decode prog_10_method_7_code 10 = .ok (.aload_n 0, 1) := by decide +kernel
theorem d_Selector_isOverriding_11 : decode prog_10_method_7_code 11 = .ok (.getfield 21, 3) := by decide +kernel
theorem d_Selector_isOverriding_14 : decode prog_10_method_7_code 14 = .ok (.iload_n 3, 1) := by decide +kernel
theorem d_Selector_isOverriding_15 : decode prog_10_method_7_code 15 = .ok (.invokevirtual 103, 3) := by decide +kernel
theorem d_Selector_isOverriding_18 : decode prog_10_method_7_code 18 = .ok (.ifCond .eq 36, 3) := by decide +kernel
theorem d_Selector_isOverriding_21 : decode prog_10_method_7_code 21 = .ok (.aload_n 0, 1) := by decide +kernel
theorem d_Selector_isOverriding_22 : decode prog_10_method_7_code 22 = .ok (.getfield 21, 3) := by decide +kernel
theorem d_Selector_isOverriding_25 : decode prog_10_method_7_code 25 = .ok (.iload_n 3, 1) := by decide +kernel
theorem d_Selector_isOverriding_26 : decode prog_10_method_7_code 26 = .ok (.aload_n 0, 1) := by decide +kernel
theorem d_Selector_isOverriding_27 : decode prog_10_method_7_code 27 = .ok (.getfield 33, 3) := by decide +kernel
theorem d_Selector_isOverriding_30 : decode prog_10_method_7_code 30 = .ok (.getfield 51, 3) := by decide +kernel
theorem d_Selector_isOverriding_33 : decode prog_10_method_7_code 33 = .ok (.iload_n 2, 1) := by decide +kernel
theorem d_Selector_isOverriding_34 : decode prog_10_method_7_code 34 = .ok (.iaload, 1) := by decide +kernel
theorem d_Selector_isOverriding_35 : decode prog_10_method_7_code 35 = .ok (.invokevirtual 107, 3) := by decide +kernel
theorem d_Selector_isOverriding_38 : decode prog_10_method_7_code 38 = .ok (.ifCond .eq 16, 3) := by decide +kernel
theorem d_Selector_isOverriding_41 : decode prog_10_method_7_code 41 = .ok (.aload_n 0, 1) := by decide +kernel
theorem d_Selector_isOverriding_42 : decode prog_10_method_7_code 42 = .ok (.iload_n 1, 1) := by decide +kernel
theorem d_Selector_isOverriding_43 : decode prog_10_method_7_code 43 = .ok (.iload_n 2, 1) := by decide +kernel
theorem d_Selector_isOverriding_44 : decode prog_10_method_7_code 44 = .ok (.invokevirtual 110, 3) := by decide +kernel
theorem d_Selector_isOverriding_47 : decode prog_10_method_7_code 47 = .ok (.ifCond .eq 7, 3) := by decide +kernel
theorem d_Selector_isOverriding_50 : decode prog_10_method_7_code 50 = .ok (.iconst 1, 1) := by decide +kernel
theorem d_Selector_isOverriding_51 : decode prog_10_method_7_code 51 = .ok (.goto 4, 3) := by decide +kernel
theorem d_Selector_isOverriding_54 : decode prog_10_method_7_code 54 = .ok (.iconst 0, 1) := by decide +kernel
theorem d_Selector_isOverriding_55 : decode prog_10_method_7_code 55 = .ok (.ireturn, 1) := by decide +kernel
theorem d_LinkAudit_overrides_0 : decode prog_1_method_12_code 0 = .ok (.aload_n 0, 1) := by decide +kernel
theorem d_LinkAudit_overrides_1 : decode prog_1_method_12_code 1 = .ok (.iload_n 1, 1) := by decide +kernel
theorem d_LinkAudit_overrides_2 : decode prog_1_method_12_code 2 = .ok (.invokevirtual 154, 3) := by decide +kernel
theorem d_LinkAudit_overrides_5 : decode prog_1_method_12_code 5 = .ok (.ifCond .eq 11, 3) := by decide +kernel
theorem d_LinkAudit_overrides_8 : decode prog_1_method_12_code 8 = .ok (.aload_n 0, 1) := by decide +kernel
theorem d_LinkAudit_overrides_9 : decode prog_1_method_12_code 9 = .ok (.iload_n 2, 1) := by decide +kernel
theorem d_LinkAudit_overrides_10 : decode prog_1_method_12_code 10 = .ok (.invokevirtual 154, 3) := by decide +kernel
theorem d_LinkAudit_overrides_13 : decode prog_1_method_12_code 13 = .ok (.ifCond .ne 5, 3) := by decide +kernel
theorem d_LinkAudit_overrides_16 : decode prog_1_method_12_code 16 = .ok (.iconst 0, 1) := by decide +kernel
theorem d_LinkAudit_overrides_17 : decode prog_1_method_12_code 17 = .ok (.ireturn, 1) := by decide +kernel
theorem d_LinkAudit_overrides_18 : decode prog_1_method_12_code 18 = .ok (.aload_n 0, 1) := by decide +kernel
theorem d_LinkAudit_overrides_19 : decode prog_1_method_12_code 19 = .ok (.invokevirtual 144, 3) := by decide +kernel
theorem d_LinkAudit_overrides_22 : decode prog_1_method_12_code 22 = .ok (.aload_n 0, 1) := by decide +kernel
theorem d_LinkAudit_overrides_23 : decode prog_1_method_12_code 23 = .ok (.getfield 65, 3) := by decide +kernel
theorem d_LinkAudit_overrides_26 : decode prog_1_method_12_code 26 = .ok (.iload_n 1, 1) := by decide +kernel
theorem d_LinkAudit_overrides_27 : decode prog_1_method_12_code 27 = .ok (.iload_n 2, 1) := by decide +kernel
theorem d_LinkAudit_overrides_28 : decode prog_1_method_12_code 28 = .ok (.invokevirtual 163, 3) := by decide +kernel
theorem d_LinkAudit_overrides_31 : decode prog_1_method_12_code 31 = .ok (.ireturn, 1) := by decide +kernel
theorem d_Selector_needsCode_0 : decode prog_10_method_12_code 0 = .ok (.aload_n 0, 1) := by decide +kernel
theorem d_Selector_needsCode_1 : decode prog_10_method_12_code 1 = .ok (.getfield 21, 3) := by decide +kernel
theorem d_Selector_needsCode_4 : decode prog_10_method_12_code 4 = .ok (.iload_n 1, 1) := by decide +kernel
theorem d_Selector_needsCode_5 : decode prog_10_method_12_code 5 = .ok (.invokevirtual 103, 3) := by decide +kernel
theorem d_Selector_needsCode_8 : decode prog_10_method_12_code 8 = .ok (.ifCond .eq 52, 3) := by decide +kernel
theorem d_Selector_needsCode_11 : decode prog_10_method_12_code 11 = .ok (.aload_n 0, 1) := by decide +kernel
theorem d_Selector_needsCode_12 : decode prog_10_method_12_code 12 = .ok (.getfield 28, 3) := by decide +kernel
theorem d_Selector_needsCode_15 : decode prog_10_method_12_code 15 = .ok (.iload_n 1, 1) := by decide +kernel
theorem d_Selector_needsCode_16 : decode prog_10_method_12_code 16 = .ok (.invokevirtual 146, 3) := by decide +kernel
theorem d_Selector_needsCode_19 : decode prog_10_method_12_code 19 = .ok (.ifCond .ne 41, 3) := by decide +kernel
theorem d_Selector_needsCode_22 : decode prog_10_method_12_code 22 = .ok (.aload_n 0, 1) := by decide +kernel
theorem d_Selector_needsCode_23 : decode prog_10_method_12_code 23 = .ok (.getfield 33, 3) := by decide +kernel
theorem d_Selector_needsCode_26 : decode prog_10_method_12_code 26 = .ok (.getfield 54, 3) := by decide +kernel
theorem d_Selector_needsCode_29 : decode prog_10_method_12_code 29 = .ok (.iload_n 2, 1) := by decide +kernel
theorem d_Selector_needsCode_30 : decode prog_10_method_12_code 30 = .ok (.invokestatic 58, 3) := by decide +kernel
theorem d_Selector_needsCode_33 : decode prog_10_method_12_code 33 = .ok (.ifCond .eq 27, 3) := by decide +kernel
theorem d_Selector_needsCode_36 : decode prog_10_method_12_code 36 = .ok (.aload_n 0, 1) := by decide +kernel
theorem d_Selector_needsCode_37 : decode prog_10_method_12_code 37 = .ok (.getfield 21, 3) := by decide +kernel
theorem d_Selector_needsCode_40 : decode prog_10_method_12_code 40 = .ok (.iload_n 1, 1) := by decide +kernel
theorem d_Selector_needsCode_41 : decode prog_10_method_12_code 41 = .ok (.aload_n 0, 1) := by decide +kernel
theorem d_Selector_needsCode_42 : decode prog_10_method_12_code 42 = .ok (.getfield 33, 3) := by decide +kernel
theorem d_Selector_needsCode_45 : decode prog_10_method_12_code 45 = .ok (.getfield 51, 3) := by decide +kernel
theorem d_Selector_needsCode_48 : decode prog_10_method_12_code 48 = .ok (.iload_n 2, 1) := by decide +kernel
theorem d_Selector_needsCode_49 : decode prog_10_method_12_code 49 = .ok (.iaload, 1) := by decide +kernel
theorem d_Selector_needsCode_50 : decode prog_10_method_12_code 50 = .ok (.invokevirtual 107, 3) := by decide +kernel
theorem d_Selector_needsCode_53 : decode prog_10_method_12_code 53 = .ok (.ifCond .eq 7, 3) := by decide +kernel
theorem d_Selector_needsCode_56 : decode prog_10_method_12_code 56 = .ok (.iconst 1, 1) := by decide +kernel
theorem d_Selector_needsCode_57 : decode prog_10_method_12_code 57 = .ok (.goto 4, 3) := by decide +kernel
theorem d_Selector_needsCode_60 : decode prog_10_method_12_code 60 = .ok (.iconst 0, 1) := by decide +kernel
theorem d_Selector_needsCode_61 : decode prog_10_method_12_code 61 = .ok (.ireturn, 1) := by decide +kernel
theorem d_Selector_gapCount_0 : decode prog_10_method_11_code 0 = .ok (.iconst 0, 1) := by decide +kernel
theorem d_Selector_gapCount_1 : decode prog_10_method_11_code 1 = .ok (.istore_n 1, 1) := by decide +kernel
theorem d_Selector_gapCount_2 : decode prog_10_method_11_code 2 = .ok (.iconst 1, 1) := by decide +kernel
theorem d_Selector_gapCount_3 : decode prog_10_method_11_code 3 = .ok (.istore_n 2, 1) := by decide +kernel
theorem d_Selector_gapCount_4 : decode prog_10_method_11_code 4 = .ok (.iload_n 2, 1) := by decide +kernel
theorem d_Selector_gapCount_5 : decode prog_10_method_11_code 5 = .ok (.aload_n 0, 1) := by decide +kernel
theorem d_Selector_gapCount_6 : decode prog_10_method_11_code 6 = .ok (.getfield 28, 3) := by decide +kernel
theorem d_Selector_gapCount_9 : decode prog_10_method_11_code 9 = .ok (.getfield 139, 3) := by decide +kernel
theorem d_Selector_gapCount_12 : decode prog_10_method_11_code 12 = .ok (.if_icmp .gt 49, 3) := by decide +kernel
theorem d_Selector_gapCount_15 : decode prog_10_method_11_code 15 = .ok (.iconst 1, 1) := by decide +kernel
theorem d_Selector_gapCount_16 : decode prog_10_method_11_code 16 = .ok (.istore_n 3, 1) := by decide +kernel
theorem d_Selector_gapCount_17 : decode prog_10_method_11_code 17 = .ok (.iload_n 3, 1) := by decide +kernel
theorem d_Selector_gapCount_18 : decode prog_10_method_11_code 18 = .ok (.aload_n 0, 1) := by decide +kernel
theorem d_Selector_gapCount_19 : decode prog_10_method_11_code 19 = .ok (.getfield 33, 3) := by decide +kernel
theorem d_Selector_gapCount_22 : decode prog_10_method_11_code 22 = .ok (.getfield 46, 3) := by decide +kernel
theorem d_Selector_gapCount_25 : decode prog_10_method_11_code 25 = .ok (.if_icmp .gt 30, 3) := by decide +kernel
theorem d_Selector_gapCount_28 : decode prog_10_method_11_code 28 = .ok (.aload_n 0, 1) := by decide +kernel
theorem d_Selector_gapCount_29 : decode prog_10_method_11_code 29 = .ok (.iload_n 2, 1) := by decide +kernel
theorem d_Selector_gapCount_30 : decode prog_10_method_11_code 30 = .ok (.iload_n 3, 1) := by decide +kernel
theorem d_Selector_gapCount_31 : decode prog_10_method_11_code 31 = .ok (.invokevirtual 140, 3) := by decide +kernel
theorem d_Selector_gapCount_34 : decode prog_10_method_11_code 34 = .ok (.ifCond .eq 15, 3) := by decide +kernel
theorem d_Selector_gapCount_37 : decode prog_10_method_11_code 37 = .ok (.aload_n 0, 1) := by decide +kernel
theorem d_Selector_gapCount_38 : decode prog_10_method_11_code 38 = .ok (.iload_n 2, 1) := by decide +kernel
theorem d_Selector_gapCount_39 : decode prog_10_method_11_code 39 = .ok (.iload_n 3, 1) := by decide +kernel
theorem d_Selector_gapCount_40 : decode prog_10_method_11_code 40 = .ok (.invokevirtual 143, 3) := by decide +kernel
theorem d_Selector_gapCount_43 : decode prog_10_method_11_code 43 = .ok (.ifCond .ge 6, 3) := by decide +kernel
theorem d_Selector_gapCount_46 : decode prog_10_method_11_code 46 = .ok (.iinc 1 1, 3) := by decide +kernel
theorem d_Selector_gapCount_49 : decode prog_10_method_11_code 49 = .ok (.iinc 3 1, 3) := by decide +kernel
theorem d_Selector_gapCount_52 : decode prog_10_method_11_code 52 = .ok (.goto (-35), 3) := by decide +kernel
theorem d_Selector_gapCount_55 : decode prog_10_method_11_code 55 = .ok (.iinc 2 1, 3) := by decide +kernel
theorem d_Selector_gapCount_58 : decode prog_10_method_11_code 58 = .ok (.goto (-54), 3) := by decide +kernel
theorem d_Selector_gapCount_61 : decode prog_10_method_11_code 61 = .ok (.iload_n 1, 1) := by decide +kernel
theorem d_Selector_gapCount_62 : decode prog_10_method_11_code 62 = .ok (.ireturn, 1) := by decide +kernel
theorem d_LinkAudit_gaps_0 : decode prog_1_method_13_code 0 = .ok (.aload_n 0, 1) := by decide +kernel
theorem d_LinkAudit_gaps_1 : decode prog_1_method_13_code 1 = .ok (.invokevirtual 144, 3) := by decide +kernel
theorem d_LinkAudit_gaps_4 : decode prog_1_method_13_code 4 = .ok (.aload_n 0, 1) := by decide +kernel
theorem d_LinkAudit_gaps_5 : decode prog_1_method_13_code 5 = .ok (.getfield 65, 3) := by decide +kernel
theorem d_LinkAudit_gaps_8 : decode prog_1_method_13_code 8 = .ok (.invokevirtual 166, 3) := by decide +kernel
theorem d_LinkAudit_gaps_11 : decode prog_1_method_13_code 11 = .ok (.ireturn, 1) := by decide +kernel
theorem d_Agreements_clear_0 : decode prog_2_method_2_code 0 = .ok (.aload_n 0, 1) := by decide +kernel
theorem d_Agreements_clear_1 : decode prog_2_method_2_code 1 = .ok (.iconst 0, 1) := by decide +kernel
theorem d_Agreements_clear_2 : decode prog_2_method_2_code 2 = .ok (.putfield 26, 3) := by decide +kernel
theorem d_Agreements_clear_5 : decode prog_2_method_2_code 5 = .ok (.iconst 0, 1) := by decide +kernel
theorem d_Agreements_clear_6 : decode prog_2_method_2_code 6 = .ok (.istore_n 1, 1) := by decide +kernel
theorem d_Agreements_clear_7 : decode prog_2_method_2_code 7 = .ok (.iload_n 1, 1) := by decide +kernel
theorem d_Agreements_clear_8 : decode prog_2_method_2_code 8 = .ok (.bipush 12, 2) := by decide +kernel
theorem d_Agreements_clear_10 : decode prog_2_method_2_code 10 = .ok (.if_icmp .ge 31, 3) := by decide +kernel
theorem d_Agreements_clear_13 : decode prog_2_method_2_code 13 = .ok (.iconst 0, 1) := by decide +kernel
theorem d_Agreements_clear_14 : decode prog_2_method_2_code 14 = .ok (.istore_n 2, 1) := by decide +kernel
theorem d_Agreements_clear_15 : decode prog_2_method_2_code 15 = .ok (.iload_n 2, 1) := by decide +kernel
theorem d_Agreements_clear_16 : decode prog_2_method_2_code 16 = .ok (.iconst 5, 1) := by decide +kernel
theorem d_Agreements_clear_17 : decode prog_2_method_2_code 17 = .ok (.if_icmp .ge 18, 3) := by decide +kernel
theorem d_Agreements_clear_20 : decode prog_2_method_2_code 20 = .ok (.aload_n 0, 1) := by decide +kernel
theorem d_Agreements_clear_21 : decode prog_2_method_2_code 21 = .ok (.getfield 11, 3) := by decide +kernel
theorem d_Agreements_clear_24 : decode prog_2_method_2_code 24 = .ok (.iload_n 1, 1) := by decide +kernel
theorem d_Agreements_clear_25 : decode prog_2_method_2_code 25 = .ok (.aaload, 1) := by decide +kernel
theorem d_Agreements_clear_26 : decode prog_2_method_2_code 26 = .ok (.iload_n 2, 1) := by decide +kernel
theorem d_Agreements_clear_27 : decode prog_2_method_2_code 27 = .ok (.iload_n 2, 1) := by decide +kernel
theorem d_Agreements_clear_28 : decode prog_2_method_2_code 28 = .ok (.iastore, 1) := by decide +kernel
theorem d_Agreements_clear_29 : decode prog_2_method_2_code 29 = .ok (.iinc 2 1, 3) := by decide +kernel
theorem d_Agreements_clear_32 : decode prog_2_method_2_code 32 = .ok (.goto (-17), 3) := by decide +kernel
theorem d_Agreements_clear_35 : decode prog_2_method_2_code 35 = .ok (.iinc 1 1, 3) := by decide +kernel
theorem d_Agreements_clear_38 : decode prog_2_method_2_code 38 = .ok (.goto (-31), 3) := by decide +kernel
theorem d_Agreements_clear_41 : decode prog_2_method_2_code 41 = .ok (.return_, 1) := by decide +kernel
theorem d_Members_firstType_0 : decode prog_7_method_6_code 0 = .ok (.aload_n 0, 1) := by decide +kernel
theorem d_Members_firstType_1 : decode prog_7_method_6_code 1 = .ok (.getfield 15, 3) := by decide +kernel
theorem d_Members_firstType_4 : decode prog_7_method_6_code 4 = .ok (.iload_n 1, 1) := by decide +kernel
theorem d_Members_firstType_5 : decode prog_7_method_6_code 5 = .ok (.iaload, 1) := by decide +kernel
theorem d_Members_firstType_6 : decode prog_7_method_6_code 6 = .ok (.bipush 13, 2) := by decide +kernel
theorem d_Members_firstType_8 : decode prog_7_method_6_code 8 = .ok (.idiv, 1) := by decide +kernel
theorem d_Members_firstType_9 : decode prog_7_method_6_code 9 = .ok (.bipush 13, 2) := by decide +kernel
theorem d_Members_firstType_11 : decode prog_7_method_6_code 11 = .ok (.irem, 1) := by decide +kernel
theorem d_Members_firstType_12 : decode prog_7_method_6_code 12 = .ok (.ireturn, 1) := by decide +kernel
theorem d_Agreements_join_0 : decode prog_2_method_3_code 0 = .ok (.iload_n 1, 1) := by decide +kernel
theorem d_Agreements_join_1 : decode prog_2_method_3_code 1 = .ok (.bipush 12, 2) := by decide +kernel
theorem d_Agreements_join_3 : decode prog_2_method_3_code 3 = .ok (.if_icmp .ne 4, 3) := by decide +kernel
theorem d_Agreements_join_6 : decode prog_2_method_3_code 6 = .ok (.return_, 1) := by decide +kernel
theorem d_Agreements_join_7 : decode prog_2_method_3_code 7 = .ok (.aload_n 0, 1) := by decide +kernel
theorem d_Agreements_join_8 : decode prog_2_method_3_code 8 = .ok (.getfield 11, 3) := by decide +kernel
theorem d_Agreements_join_11 : decode prog_2_method_3_code 11 = .ok (.iload_n 1, 1) := by decide +kernel
theorem d_Agreements_join_12 : decode prog_2_method_3_code 12 = .ok (.aaload, 1) := by decide +kernel
theorem d_Agreements_join_13 : decode prog_2_method_3_code 13 = .ok (.iload_n 2, 1) := by decide +kernel
theorem d_Agreements_join_14 : decode prog_2_method_3_code 14 = .ok (.iaload, 1) := by decide +kernel
theorem d_Agreements_join_15 : decode prog_2_method_3_code 15 = .ok (.istore 4, 2) := by decide +kernel
theorem d_Agreements_join_17 : decode prog_2_method_3_code 17 = .ok (.aload_n 0, 1) := by decide +kernel
theorem d_Agreements_join_18 : decode prog_2_method_3_code 18 = .ok (.getfield 11, 3) := by decide +kernel
theorem d_Agreements_join_21 : decode prog_2_method_3_code 21 = .ok (.iload_n 1, 1) := by decide +kernel
theorem d_Agreements_join_22 : decode prog_2_method_3_code 22 = .ok (.aaload, 1) := by decide +kernel
theorem d_Agreements_join_23 : decode prog_2_method_3_code 23 = .ok (.iload_n 3, 1) := by decide +kernel
theorem d_Agreements_join_24 : decode prog_2_method_3_code 24 = .ok (.iaload, 1) := by decide +kernel
theorem d_Agreements_join_25 : decode prog_2_method_3_code 25 = .ok (.istore 5, 2) := by decide +kernel
theorem d_Agreements_join_27 : decode prog_2_method_3_code 27 = .ok (.iconst 0, 1) := by decide +kernel
theorem d_Agreements_join_28 : decode prog_2_method_3_code 28 = .ok (.istore 6, 2) := by decide +kernel
theorem d_Agreements_join_30 : decode prog_2_method_3_code 30 = .ok (.iload 6, 2) := by decide +kernel
theorem d_Agreements_join_32 : decode prog_2_method_3_code 32 = .ok (.iconst 5, 1) := by decide +kernel
theorem d_Agreements_join_33 : decode prog_2_method_3_code 33 = .ok (.if_icmp .ge 34, 3) := by decide +kernel
theorem d_Agreements_join_36 : decode prog_2_method_3_code 36 = .ok (.aload_n 0, 1) := by decide +kernel
theorem d_Agreements_join_37 : decode prog_2_method_3_code 37 = .ok (.getfield 11, 3) := by decide +kernel
theorem d_Agreements_join_40 : decode prog_2_method_3_code 40 = .ok (.iload_n 1, 1) := by decide +kernel
theorem d_Agreements_join_41 : decode prog_2_method_3_code 41 = .ok (.aaload, 1) := by decide +kernel
theorem d_Agreements_join_42 : decode prog_2_method_3_code 42 = .ok (.iload 6, 2) := by decide +kernel
theorem d_Agreements_join_44 : decode prog_2_method_3_code 44 = .ok (.iaload, 1) := by decide +kernel
theorem d_Agreements_join_45 : decode prog_2_method_3_code 45 = .ok (.iload 5, 2) := by decide +kernel
theorem d_Agreements_join_47 : decode prog_2_method_3_code 47 = .ok (.if_icmp .ne 14, 3) := by decide +kernel
theorem d_Agreements_join_50 : decode prog_2_method_3_code 50 = .ok (.aload_n 0, 1) := by decide +kernel
theorem d_Agreements_join_51 : decode prog_2_method_3_code 51 = .ok (.getfield 11, 3) := by decide +kernel
theorem d_Agreements_join_54 : decode prog_2_method_3_code 54 = .ok (.iload_n 1, 1) := by decide +kernel
theorem d_Agreements_join_55 : decode prog_2_method_3_code 55 = .ok (.aaload, 1) := by decide +kernel
theorem d_Agreements_join_56 : decode prog_2_method_3_code 56 = .ok (.iload 6, 2) := by decide +kernel
theorem d_Agreements_join_58 : decode prog_2_method_3_code 58 = .ok (.iload 4, 2) := by decide +kernel
theorem d_Agreements_join_60 : decode prog_2_method_3_code 60 = .ok (.iastore, 1) := by decide +kernel
theorem d_Agreements_join_61 : decode prog_2_method_3_code 61 = .ok (.iinc 6 1, 3) := by decide +kernel
theorem d_Agreements_join_64 : decode prog_2_method_3_code 64 = .ok (.goto (-34), 3) := by decide +kernel
theorem d_Agreements_join_67 : decode prog_2_method_3_code 67 = .ok (.return_, 1) := by decide +kernel
theorem d_Members_secondType_0 : decode prog_7_method_7_code 0 = .ok (.aload_n 0, 1) := by decide +kernel
theorem d_Members_secondType_1 : decode prog_7_method_7_code 1 = .ok (.getfield 15, 3) := by decide +kernel
theorem d_Members_secondType_4 : decode prog_7_method_7_code 4 = .ok (.iload_n 1, 1) := by decide +kernel
theorem d_Members_secondType_5 : decode prog_7_method_7_code 5 = .ok (.iaload, 1) := by decide +kernel
theorem d_Members_secondType_6 : decode prog_7_method_7_code 6 = .ok (.bipush 13, 2) := by decide +kernel
theorem d_Members_secondType_8 : decode prog_7_method_7_code 8 = .ok (.irem, 1) := by decide +kernel
theorem d_Members_secondType_9 : decode prog_7_method_7_code 9 = .ok (.ireturn, 1) := by decide +kernel
theorem d_LinkAudit_agreeOnTypes_0 : decode prog_1_method_28_code 0 = .ok (.aload_n 0, 1) := by decide +kernel
theorem d_LinkAudit_agreeOnTypes_1 : decode prog_1_method_28_code 1 = .ok (.getfield 19, 3) := by decide +kernel
theorem d_LinkAudit_agreeOnTypes_4 : decode prog_1_method_28_code 4 = .ok (.getfield 227, 3) := by decide +kernel
theorem d_LinkAudit_agreeOnTypes_7 : decode prog_1_method_28_code 7 = .ok (.aload_n 0, 1) := by decide +kernel
theorem d_LinkAudit_agreeOnTypes_8 : decode prog_1_method_28_code 8 = .ok (.getfield 26, 3) := by decide +kernel
theorem d_LinkAudit_agreeOnTypes_11 : decode prog_1_method_28_code 11 = .ok (.getfield 221, 3) := by decide +kernel
theorem d_LinkAudit_agreeOnTypes_14 : decode prog_1_method_28_code 14 = .ok (.iload_n 1, 1) := by decide +kernel
theorem d_LinkAudit_agreeOnTypes_15 : decode prog_1_method_28_code 15 = .ok (.iaload, 1) := by decide +kernel
theorem d_LinkAudit_agreeOnTypes_16 : decode prog_1_method_28_code 16 = .ok (.iaload, 1) := by decide +kernel
theorem d_LinkAudit_agreeOnTypes_17 : decode prog_1_method_28_code 17 = .ok (.istore_n 3, 1) := by decide +kernel
theorem d_LinkAudit_agreeOnTypes_18 : decode prog_1_method_28_code 18 = .ok (.aload_n 0, 1) := by decide +kernel
theorem d_LinkAudit_agreeOnTypes_19 : decode prog_1_method_28_code 19 = .ok (.getfield 19, 3) := by decide +kernel
theorem d_LinkAudit_agreeOnTypes_22 : decode prog_1_method_28_code 22 = .ok (.getfield 227, 3) := by decide +kernel
theorem d_LinkAudit_agreeOnTypes_25 : decode prog_1_method_28_code 25 = .ok (.iload_n 2, 1) := by decide +kernel
theorem d_LinkAudit_agreeOnTypes_26 : decode prog_1_method_28_code 26 = .ok (.iaload, 1) := by decide +kernel
theorem d_LinkAudit_agreeOnTypes_27 : decode prog_1_method_28_code 27 = .ok (.istore 4, 2) := by decide +kernel
theorem d_LinkAudit_agreeOnTypes_29 : decode prog_1_method_28_code 29 = .ok (.aload_n 0, 1) := by decide +kernel
theorem d_LinkAudit_agreeOnTypes_30 : decode prog_1_method_28_code 30 = .ok (.getfield 74, 3) := by decide +kernel
theorem d_LinkAudit_agreeOnTypes_33 : decode prog_1_method_28_code 33 = .ok (.aload_n 0, 1) := by decide +kernel
theorem d_LinkAudit_agreeOnTypes_34 : decode prog_1_method_28_code 34 = .ok (.getfield 26, 3) := by decide +kernel
theorem d_LinkAudit_agreeOnTypes_37 : decode prog_1_method_28_code 37 = .ok (.iload_n 1, 1) := by decide +kernel
theorem d_LinkAudit_agreeOnTypes_38 : decode prog_1_method_28_code 38 = .ok (.invokevirtual 229, 3) := by decide +kernel
theorem d_LinkAudit_agreeOnTypes_41 : decode prog_1_method_28_code 41 = .ok (.iload_n 3, 1) := by decide +kernel
theorem d_LinkAudit_agreeOnTypes_42 : decode prog_1_method_28_code 42 = .ok (.iload 4, 2) := by decide +kernel
theorem d_LinkAudit_agreeOnTypes_44 : decode prog_1_method_28_code 44 = .ok (.invokevirtual 232, 3) := by decide +kernel
theorem d_LinkAudit_agreeOnTypes_47 : decode prog_1_method_28_code 47 = .ok (.aload_n 0, 1) := by decide +kernel
theorem d_LinkAudit_agreeOnTypes_48 : decode prog_1_method_28_code 48 = .ok (.getfield 74, 3) := by decide +kernel
theorem d_LinkAudit_agreeOnTypes_51 : decode prog_1_method_28_code 51 = .ok (.aload_n 0, 1) := by decide +kernel
theorem d_LinkAudit_agreeOnTypes_52 : decode prog_1_method_28_code 52 = .ok (.getfield 26, 3) := by decide +kernel
theorem d_LinkAudit_agreeOnTypes_55 : decode prog_1_method_28_code 55 = .ok (.iload_n 1, 1) := by decide +kernel
theorem d_LinkAudit_agreeOnTypes_56 : decode prog_1_method_28_code 56 = .ok (.invokevirtual 236, 3) := by decide +kernel
theorem d_LinkAudit_agreeOnTypes_59 : decode prog_1_method_28_code 59 = .ok (.iload_n 3, 1) := by decide +kernel
theorem d_LinkAudit_agreeOnTypes_60 : decode prog_1_method_28_code 60 = .ok (.iload 4, 2) := by decide +kernel
theorem d_LinkAudit_agreeOnTypes_62 : decode prog_1_method_28_code 62 = .ok (.invokevirtual 232, 3) := by decide +kernel
theorem d_LinkAudit_agreeOnTypes_65 : decode prog_1_method_28_code 65 = .ok (.return_, 1) := by decide +kernel
theorem d_Agreements_areInConflict_0 : decode prog_2_method_5_code 0 = .ok (.aload_n 0, 1) := by decide +kernel
theorem d_Agreements_areInConflict_1 : decode prog_2_method_5_code 1 = .ok (.getfield 30, 3) := by decide +kernel
theorem d_Agreements_areInConflict_4 : decode prog_2_method_5_code 4 = .ok (.iload_n 2, 1) := by decide +kernel
theorem d_Agreements_areInConflict_5 : decode prog_2_method_5_code 5 = .ok (.iload_n 1, 1) := by decide +kernel
theorem d_Agreements_areInConflict_6 : decode prog_2_method_5_code 6 = .ok (.invokevirtual 38, 3) := by decide +kernel
theorem d_Agreements_areInConflict_9 : decode prog_2_method_5_code 9 = .ok (.istore 4, 2) := by decide +kernel
theorem d_Agreements_areInConflict_11 : decode prog_2_method_5_code 11 = .ok (.aload_n 0, 1) := by decide +kernel
theorem d_Agreements_areInConflict_12 : decode prog_2_method_5_code 12 = .ok (.getfield 30, 3) := by decide +kernel
theorem d_Agreements_areInConflict_15 : decode prog_2_method_5_code 15 = .ok (.iload_n 3, 1) := by decide +kernel
theorem d_Agreements_areInConflict_16 : decode prog_2_method_5_code 16 = .ok (.iload_n 1, 1) := by decide +kernel
theorem d_Agreements_areInConflict_17 : decode prog_2_method_5_code 17 = .ok (.invokevirtual 38, 3) := by decide +kernel
theorem d_Agreements_areInConflict_20 : decode prog_2_method_5_code 20 = .ok (.istore 5, 2) := by decide +kernel
theorem d_Agreements_areInConflict_22 : decode prog_2_method_5_code 22 = .ok (.aload_n 0, 1) := by decide +kernel
theorem d_Agreements_areInConflict_23 : decode prog_2_method_5_code 23 = .ok (.getfield 11, 3) := by decide +kernel
theorem d_Agreements_areInConflict_26 : decode prog_2_method_5_code 26 = .ok (.iload_n 1, 1) := by decide +kernel
theorem d_Agreements_areInConflict_27 : decode prog_2_method_5_code 27 = .ok (.aaload, 1) := by decide +kernel
theorem d_Agreements_areInConflict_28 : decode prog_2_method_5_code 28 = .ok (.iload_n 2, 1) := by decide +kernel
theorem d_Agreements_areInConflict_29 : decode prog_2_method_5_code 29 = .ok (.iaload, 1) := by decide +kernel
theorem d_Agreements_areInConflict_30 : decode prog_2_method_5_code 30 = .ok (.aload_n 0, 1) := by decide +kernel
theorem d_Agreements_areInConflict_31 : decode prog_2_method_5_code 31 = .ok (.getfield 11, 3) := by decide +kernel
theorem d_Agreements_areInConflict_34 : decode prog_2_method_5_code 34 = .ok (.iload_n 1, 1) := by decide +kernel
theorem d_Agreements_areInConflict_35 : decode prog_2_method_5_code 35 = .ok (.aaload, 1) := by decide +kernel
theorem d_Agreements_areInConflict_36 : decode prog_2_method_5_code 36 = .ok (.iload_n 3, 1) := by decide +kernel
theorem d_Agreements_areInConflict_37 : decode prog_2_method_5_code 37 = .ok (.iaload, 1) := by decide +kernel
theorem d_Agreements_areInConflict_38 : decode prog_2_method_5_code 38 = .ok (.if_icmp .ne 24, 3) := by decide +kernel
theorem d_Agreements_areInConflict_41 : decode prog_2_method_5_code 41 = .ok (.iload 4, 2) := by decide +kernel
theorem d_Agreements_areInConflict_43 : decode prog_2_method_5_code 43 = .ok (.ifCond .eq 19, 3) := by decide +kernel
theorem d_Agreements_areInConflict_46 : decode prog_2_method_5_code 46 = .ok (.iload 5, 2) := by decide +kernel
theorem d_Agreements_areInConflict_48 : decode prog_2_method_5_code 48 = .ok (.ifCond .eq 14, 3) := by decide +kernel
theorem d_Agreements_areInConflict_51 : decode prog_2_method_5_code 51 = .ok (.iload 4, 2) := by decide +kernel
theorem d_Agreements_areInConflict_53 : decode prog_2_method_5_code 53 = .ok (.iload 5, 2) := by decide +kernel
theorem d_Agreements_areInConflict_55 : decode prog_2_method_5_code 55 = .ok (.if_icmp .eq 7, 3) := by decide +kernel
theorem d_Agreements_areInConflict_58 : decode prog_2_method_5_code 58 = .ok (.iconst 1, 1) := by decide +kernel
theorem d_Agreements_areInConflict_59 : decode prog_2_method_5_code 59 = .ok (.goto 4, 3) := by decide +kernel
theorem d_Agreements_areInConflict_62 : decode prog_2_method_5_code 62 = .ok (.iconst 0, 1) := by decide +kernel
theorem d_Agreements_areInConflict_63 : decode prog_2_method_5_code 63 = .ok (.ireturn, 1) := by decide +kernel
