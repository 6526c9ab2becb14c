theorem d_LinkAuditModel_find_20 : decode prog_12_method_42_code 20 = .ok (.ireturn, 1) := by decide +kernel
theorem d_LinkAuditModel_find_21 : decode prog_12_method_42_code 21 = .ok (.aload_n 0, 1) := by decide +kernel
theorem d_LinkAuditModel_find_22 : decode prog_12_method_42_code 22 = .ok (.iload_n 1, 1) := by decide +kernel
theorem d_LinkAuditModel_find_23 : decode prog_12_method_42_code 23 = .ok (.iload_n 2, 1) := by decide +kernel
theorem d_LinkAuditModel_find_24 : decode prog_12_method_42_code 24 = .ok (.invokevirtual 132, 3) := by decide +kernel
theorem d_LinkAuditModel_find_27 : decode prog_12_method_42_code 27 = .ok (.istore_n 3, 1) := by decide +kernel
theorem d_LinkAuditModel_find_28 : decode prog_12_method_42_code 28 = .ok (.iload_n 3, 1) := by decide +kernel
theorem d_LinkAuditModel_find_29 : decode prog_12_method_42_code 29 = .ok (.ifCond .ne 8, 3) := by decide +kernel
theorem d_LinkAuditModel_find_32 : decode prog_12_method_42_code 32 = .ok (.bipush (-3), 2) := by decide +kernel
theorem d_LinkAuditModel_find_34 : decode prog_12_method_42_code 34 = .ok (.goto 4, 3) := by decide +kernel
theorem d_LinkAuditModel_find_37 : decode prog_12_method_42_code 37 = .ok (.iload_n 3, 1) := by decide +kernel
theorem d_LinkAuditModel_find_38 : decode prog_12_method_42_code 38 = .ok (.ireturn, 1) := by decide +kernel
theorem d_LinkAuditModel_neighbours_0 : decode prog_12_method_13_code 0 = .ok (.aload_n 0, 1) := by decide +kernel
theorem d_LinkAuditModel_neighbours_1 : decode prog_12_method_13_code 1 = .ok (.getfield 19, 3) := by decide +kernel
theorem d_LinkAuditModel_neighbours_4 : decode prog_12_method_13_code 4 = .ok (.iload_n 1, 1) := by decide +kernel
theorem d_LinkAuditModel_neighbours_5 : decode prog_12_method_13_code 5 = .ok (.iaload, 1) := by decide +kernel
theorem d_LinkAuditModel_neighbours_6 : decode prog_12_method_13_code 6 = .ok (.aload_n 0, 1) := by decide +kernel
theorem d_LinkAuditModel_neighbours_7 : decode prog_12_method_13_code 7 = .ok (.getfield 19, 3) := by decide +kernel
theorem d_LinkAuditModel_neighbours_10 : decode prog_12_method_13_code 10 = .ok (.iload_n 2, 1) := by decide +kernel
theorem d_LinkAuditModel_neighbours_11 : decode prog_12_method_13_code 11 = .ok (.iaload, 1) := by decide +kernel
theorem d_LinkAuditModel_neighbours_12 : decode prog_12_method_13_code 12 = .ok (.if_icmp .ne 26, 3) := by decide +kernel
theorem d_LinkAuditModel_neighbours_15 : decode prog_12_method_13_code 15 = .ok (.aload_n 0, 1) := by decide +kernel
theorem d_LinkAuditModel_neighbours_16 : decode prog_12_method_13_code 16 = .ok (.getfield 22, 3) := by decide +kernel
theorem d_LinkAuditModel_neighbours_19 : decode prog_12_method_13_code 19 = .ok (.iload_n 1, 1) := by decide +kernel
theorem d_LinkAuditModel_neighbours_20 : decode prog_12_method_13_code 20 = .ok (.iaload, 1) := by decide +kernel
theorem d_LinkAuditModel_neighbours_21 : decode prog_12_method_13_code 21 = .ok (.iconst 4, 1) := by decide +kernel
theorem d_LinkAuditModel_neighbours_22 : decode prog_12_method_13_code 22 = .ok (.idiv, 1) := by decide +kernel
theorem d_LinkAuditModel_neighbours_23 : decode prog_12_method_13_code 23 = .ok (.aload_n 0, 1) := by decide +kernel
theorem d_LinkAuditModel_neighbours_24 : decode prog_12_method_13_code 24 = .ok (.getfield 22, 3) := by decide +kernel
theorem d_LinkAuditModel_neighbours_27 : decode prog_12_method_13_code 27 = .ok (.iload_n 2, 1) := by decide +kernel
theorem d_LinkAuditModel_neighbours_28 : decode prog_12_method_13_code 28 = .ok (.iaload, 1) := by decide +kernel
theorem d_LinkAuditModel_neighbours_29 : decode prog_12_method_13_code 29 = .ok (.iconst 4, 1) := by decide +kernel
theorem d_LinkAuditModel_neighbours_30 : decode prog_12_method_13_code 30 = .ok (.idiv, 1) := by decide +kernel
theorem d_LinkAuditModel_neighbours_31 : decode prog_12_method_13_code 31 = .ok (.if_icmp .ne 7, 3) := by decide +kernel
theorem d_LinkAuditModel_neighbours_34 : decode prog_12_method_13_code 34 = .ok (.iconst 1, 1) := by decide +kernel
theorem d_LinkAuditModel_neighbours_35 : decode prog_12_method_13_code 35 = .ok (.goto 4, 3) := by decide +kernel
theorem d_LinkAuditModel_neighbours_38 : decode prog_12_method_13_code 38 = .ok (.iconst 0, 1) := by decide +kernel
theorem d_LinkAuditModel_neighbours_39 : decode prog_12_method_13_code 39 = .ok (.ireturn, 1) := by decide +kernel
theorem d_LinkAuditModel_mayUse_0 : decode prog_12_method_14_code 0 = .ok (.aload_n 0, 1) := by decide +kernel
theorem d_LinkAuditModel_mayUse_1 : decode prog_12_method_14_code 1 = .ok (.getfield 25, 3) := by decide +kernel
theorem d_LinkAuditModel_mayUse_4 : decode prog_12_method_14_code 4 = .ok (.iload_n 2, 1) := by decide +kernel
theorem d_LinkAuditModel_mayUse_5 : decode prog_12_method_14_code 5 = .ok (.iaload, 1) := by decide +kernel
theorem d_LinkAuditModel_mayUse_6 : decode prog_12_method_14_code 6 = .ok (.iconst 1, 1) := by decide +kernel
theorem d_LinkAuditModel_mayUse_7 : decode prog_12_method_14_code 7 = .ok (.iand, 1) := by decide +kernel
theorem d_LinkAuditModel_mayUse_8 : decode prog_12_method_14_code 8 = .ok (.ifCond .ne 12, 3) := by decide +kernel
theorem d_LinkAuditModel_mayUse_11 : decode prog_12_method_14_code 11 = .ok (.aload_n 0, 1) := by decide +kernel
theorem d_LinkAuditModel_mayUse_12 : decode prog_12_method_14_code 12 = .ok (.iload_n 2, 1) := by decide +kernel
theorem d_LinkAuditModel_mayUse_13 : decode prog_12_method_14_code 13 = .ok (.iload_n 1, 1) := by decide +kernel
theorem d_LinkAuditModel_mayUse_14 : decode prog_12_method_14_code 14 = .ok (.invokevirtual 118, 3) := by decide +kernel
theorem d_LinkAuditModel_mayUse_17 : decode prog_12_method_14_code 17 = .ok (.ifCond .eq 7, 3) := by decide +kernel
theorem d_LinkAuditModel_mayUse_20 : decode prog_12_method_14_code 20 = .ok (.iconst 1, 1) := by decide +kernel
theorem d_LinkAuditModel_mayUse_21 : decode prog_12_method_14_code 21 = .ok (.goto 4, 3) := by decide +kernel
theorem d_LinkAuditModel_mayUse_24 : decode prog_12_method_14_code 24 = .ok (.iconst 0, 1) := by decide +kernel
theorem d_LinkAuditModel_mayUse_25 : decode prog_12_method_14_code 25 = .ok (.ireturn, 1) := by decide +kernel
theorem d_LinkAuditModel_fits_0 : decode prog_12_method_16_code 0 = .ok (.iload_n 2, 1) := by decide +kernel
theorem d_LinkAuditModel_fits_1 : decode prog_12_method_16_code 1 = .ok (.ifCond .ne 23, 3) := by decide +kernel
theorem d_LinkAuditModel_fits_4 : decode prog_12_method_16_code 4 = .ok (.aload_n 0, 1) := by decide +kernel
theorem d_LinkAuditModel_fits_5 : decode prog_12_method_16_code 5 = .ok (.getfield 25, 3) := by decide +kernel
theorem d_LinkAuditModel_fits_8 : decode prog_12_method_16_code 8 = .ok (.iload_n 3, 1) := by decide +kernel
theorem d_LinkAuditModel_fits_9 : decode prog_12_method_16_code 9 = .ok (.iaload, 1) := by decide +kernel
theorem d_LinkAuditModel_fits_10 : decode prog_12_method_16_code 10 = .ok (.bipush 10, 2) := by decide +kernel
theorem d_LinkAuditModel_fits_12 : decode prog_12_method_16_code 12 = .ok (.iand, 1) := by decide +kernel
theorem d_LinkAuditModel_fits_13 : decode prog_12_method_16_code 13 = .ok (.ifCond .eq 7, 3) := by decide +kernel
theorem d_LinkAuditModel_fits_16 : decode prog_12_method_16_code 16 = .ok (.iconst 1, 1) := by decide +kernel
theorem d_LinkAuditModel_fits_17 : decode prog_12_method_16_code 17 = .ok (.goto 20, 3) := by decide +kernel
theorem d_LinkAuditModel_fits_20 : decode prog_12_method_16_code 20 = .ok (.iconst 0, 1) := by decide +kernel
theorem d_LinkAuditModel_fits_21 : decode prog_12_method_16_code 21 = .ok (.goto 16, 3) := by decide +kernel
theorem d_LinkAuditModel_fits_24 : decode prog_12_method_16_code 24 = .ok (.aload_n 0, 1) := by decide +kernel
theorem d_LinkAuditModel_fits_25 : decode prog_12_method_16_code 25 = .ok (.iload_n 3, 1) := by decide +kernel
theorem d_LinkAuditModel_fits_26 : decode prog_12_method_16_code 26 = .ok (.invokevirtual 111, 3) := by decide +kernel
theorem d_LinkAuditModel_fits_29 : decode prog_12_method_16_code 29 = .ok (.ifCond .ne 7, 3) := by decide +kernel
theorem d_LinkAuditModel_fits_32 : decode prog_12_method_16_code 32 = .ok (.iconst 1, 1) := by decide +kernel
theorem d_LinkAuditModel_fits_33 : decode prog_12_method_16_code 33 = .ok (.goto 4, 3) := by decide +kernel
theorem d_LinkAuditModel_fits_36 : decode prog_12_method_16_code 36 = .ok (.iconst 0, 1) := by decide +kernel
theorem d_LinkAuditModel_fits_37 : decode prog_12_method_16_code 37 = .ok (.istore 4, 2) := by decide +kernel
theorem d_LinkAuditModel_fits_39 : decode prog_12_method_16_code 39 = .ok (.iload 4, 2) := by decide +kernel
theorem d_LinkAuditModel_fits_41 : decode prog_12_method_16_code 41 = .ok (.ifCond .eq 8, 3) := by decide +kernel
theorem d_LinkAuditModel_fits_44 : decode prog_12_method_16_code 44 = .ok (.bipush (-5), 2) := by decide +kernel
theorem d_LinkAuditModel_fits_46 : decode prog_12_method_16_code 46 = .ok (.goto 18, 3) := by decide +kernel
theorem d_LinkAuditModel_fits_49 : decode prog_12_method_16_code 49 = .ok (.aload_n 0, 1) := by decide +kernel
theorem d_LinkAuditModel_fits_50 : decode prog_12_method_16_code 50 = .ok (.iload_n 1, 1) := by decide +kernel
theorem d_LinkAuditModel_fits_51 : decode prog_12_method_16_code 51 = .ok (.iload_n 3, 1) := by decide +kernel
theorem d_LinkAuditModel_fits_52 : decode prog_12_method_16_code 52 = .ok (.invokevirtual 122, 3) := by decide +kernel
theorem d_LinkAuditModel_fits_55 : decode prog_12_method_16_code 55 = .ok (.ifCond .eq 7, 3) := by decide +kernel
theorem d_LinkAuditModel_fits_58 : decode prog_12_method_16_code 58 = .ok (.iconst 0, 1) := by decide +kernel
theorem d_LinkAuditModel_fits_59 : decode prog_12_method_16_code 59 = .ok (.goto 5, 3) := by decide +kernel
theorem d_LinkAuditModel_fits_62 : decode prog_12_method_16_code 62 = .ok (.bipush (-6), 2) := by decide +kernel
theorem d_LinkAuditModel_fits_64 : decode prog_12_method_16_code 64 = .ok (.ireturn, 1) := by decide +kernel
theorem d_LinkAuditModel_wanted_0 : decode prog_12_method_15_code 0 = .ok (.iload_n 2, 1) := by decide +kernel
theorem d_LinkAuditModel_wanted_1 : decode prog_12_method_15_code 1 = .ok (.ifCond .ne 25, 3) := by decide +kernel
theorem d_LinkAuditModel_wanted_4 : decode prog_12_method_15_code 4 = .ok (.aload_n 0, 1) := by decide +kernel
theorem d_LinkAuditModel_wanted_5 : decode prog_12_method_15_code 5 = .ok (.getfield 28, 3) := by decide +kernel
theorem d_LinkAuditModel_wanted_8 : decode prog_12_method_15_code 8 = .ok (.iload_n 1, 1) := by decide +kernel
theorem d_LinkAuditModel_wanted_9 : decode prog_12_method_15_code 9 = .ok (.iaload, 1) := by decide +kernel
theorem d_LinkAuditModel_wanted_10 : decode prog_12_method_15_code 10 = .ok (.bipush 12, 2) := by decide +kernel
theorem d_LinkAuditModel_wanted_12 : decode prog_12_method_15_code 12 = .ok (.if_icmp .ne 7, 3) := by decide +kernel
theorem d_LinkAuditModel_wanted_15 : decode prog_12_method_15_code 15 = .ok (.iconst (-1), 1) := by decide +kernel
theorem d_LinkAuditModel_wanted_16 : decode prog_12_method_15_code 16 = .ok (.goto 9, 3) := by decide +kernel
theorem d_LinkAuditModel_wanted_19 : decode prog_12_method_15_code 19 = .ok (.aload_n 0, 1) := by decide +kernel
theorem d_LinkAuditModel_wanted_20 : decode prog_12_method_15_code 20 = .ok (.getfield 28, 3) := by decide +kernel
theorem d_LinkAuditModel_wanted_23 : decode prog_12_method_15_code 23 = .ok (.iload_n 1, 1) := by decide +kernel
theorem d_LinkAuditModel_wanted_24 : decode prog_12_method_15_code 24 = .ok (.iaload, 1) := by decide +kernel
theorem d_LinkAuditModel_wanted_25 : decode prog_12_method_15_code 25 = .ok (.ireturn, 1) := by decide +kernel
theorem d_LinkAuditModel_wanted_26 : decode prog_12_method_15_code 26 = .ok (.aload_n 0, 1) := by decide +kernel
theorem d_LinkAuditModel_wanted_27 : decode prog_12_method_15_code 27 = .ok (.getfield 31, 3) := by decide +kernel
theorem d_LinkAuditModel_wanted_30 : decode prog_12_method_15_code 30 = .ok (.iload_n 1, 1) := by decide +kernel
theorem d_LinkAuditModel_wanted_31 : decode prog_12_method_15_code 31 = .ok (.iaload, 1) := by decide +kernel
theorem d_LinkAuditModel_wanted_32 : decode prog_12_method_15_code 32 = .ok (.iload_n 2, 1) := by decide +kernel
theorem d_LinkAuditModel_wanted_33 : decode prog_12_method_15_code 33 = .ok (.iconst 1, 1) := by decide +kernel
theorem d_LinkAuditModel_wanted_34 : decode prog_12_method_15_code 34 = .ok (.isub, 1) := by decide +kernel
theorem d_LinkAuditModel_wanted_35 : decode prog_12_method_15_code 35 = .ok (.ishr, 1) := by decide +kernel
theorem d_LinkAuditModel_wanted_36 : decode prog_12_method_15_code 36 = .ok (.iconst 1, 1) := by decide +kernel
theorem d_LinkAuditModel_wanted_37 : decode prog_12_method_15_code 37 = .ok (.iand, 1) := by decide +kernel
theorem d_LinkAuditModel_wanted_38 : decode prog_12_method_15_code 38 = .ok (.ifCond .eq 9, 3) := by decide +kernel
theorem d_LinkAuditModel_wanted_41 : decode prog_12_method_15_code 41 = .ok (.iload_n 2, 1) := by decide +kernel
theorem d_LinkAuditModel_wanted_42 : decode prog_12_method_15_code 42 = .ok (.iconst 1, 1) := by decide +kernel
theorem d_LinkAuditModel_wanted_43 : decode prog_12_method_15_code 43 = .ok (.isub, 1) := by decide +kernel
theorem d_LinkAuditModel_wanted_44 : decode prog_12_method_15_code 44 = .ok (.goto 4, 3) := by decide +kernel
theorem d_LinkAuditModel_wanted_47 : decode prog_12_method_15_code 47 = .ok (.iconst (-1), 1) := by decide +kernel
theorem d_LinkAuditModel_wanted_48 : decode prog_12_method_15_code 48 = .ok (.ireturn, 1) := by decide +kernel
theorem d_LinkAuditModel_loadCode_0 : decode prog_12_method_17_code 0 = .ok (.iconst 1, 1) := by decide +kernel
theorem d_LinkAuditModel_loadCode_1 : decode prog_12_method_17_code 1 = .ok (.istore_n 2, 1) := by decide +kernel
theorem d_LinkAuditModel_loadCode_2 : decode prog_12_method_17_code 2 = .ok (.iconst 0, 1) := by decide +kernel
theorem d_LinkAuditModel_loadCode_3 : decode prog_12_method_17_code 3 = .ok (.istore_n 3, 1) := by decide +kernel
theorem d_LinkAuditModel_loadCode_4 : decode prog_12_method_17_code 4 = .ok (.aload_n 0, 1) := by decide +kernel
theorem d_LinkAuditModel_loadCode_5 : decode prog_12_method_17_code 5 = .ok (.getfield 71, 3) := by decide +kernel
theorem d_LinkAuditModel_loadCode_8 : decode prog_12_method_17_code 8 = .ok (.iconst 0, 1) := by decide +kernel
theorem d_LinkAuditModel_loadCode_9 : decode prog_12_method_17_code 9 = .ok (.iload_n 1, 1) := by decide +kernel
theorem d_LinkAuditModel_loadCode_10 : decode prog_12_method_17_code 10 = .ok (.iastore, 1) := by decide +kernel
theorem d_LinkAuditModel_loadCode_11 : decode prog_12_method_17_code 11 = .ok (.aload_n 0, 1) := by decide +kernel
theorem d_LinkAuditModel_loadCode_12 : decode prog_12_method_17_code 12 = .ok (.getfield 74, 3) := by decide +kernel
theorem d_LinkAuditModel_loadCode_15 : decode prog_12_method_17_code 15 = .ok (.iconst 0, 1) := by decide +kernel
theorem d_LinkAuditModel_loadCode_16 : decode prog_12_method_17_code 16 = .ok (.iconst 0, 1) := by decide +kernel
theorem d_LinkAuditModel_loadCode_17 : decode prog_12_method_17_code 17 = .ok (.iastore, 1) := by decide +kernel
theorem d_LinkAuditModel_loadCode_18 : decode prog_12_method_17_code 18 = .ok (.iload_n 2, 1) := by decide +kernel
theorem d_LinkAuditModel_loadCode_19 : decode prog_12_method_17_code 19 = .ok (.ifCond .le 183, 3) := by decide +kernel
theorem d_LinkAuditModel_loadCode_22 : decode prog_12_method_17_code 22 = .ok (.iload_n 3, 1) := by decide +kernel
theorem d_LinkAuditModel_loadCode_23 : decode prog_12_method_17_code 23 = .ok (.ifCond .ne 179, 3) := by decide +kernel
theorem d_LinkAuditModel_loadCode_26 : decode prog_12_method_17_code 26 = .ok (.aload_n 0, 1) := by decide +kernel
theorem d_LinkAuditModel_loadCode_27 : decode prog_12_method_17_code 27 = .ok (.getfield 71, 3) := by decide +kernel
theorem d_LinkAuditModel_loadCode_30 : decode prog_12_method_17_code 30 = .ok (.iload_n 2, 1) := by decide +kernel
theorem d_LinkAuditModel_loadCode_31 : decode prog_12_method_17_code 31 = .ok (.iconst 1, 1) := by decide +kernel
theorem d_LinkAuditModel_loadCode_32 : decode prog_12_method_17_code 32 = .ok (.isub, 1) := by decide +kernel
theorem d_LinkAuditModel_loadCode_33 : decode prog_12_method_17_code 33 = .ok (.iaload, 1) := by decide +kernel
theorem d_LinkAuditModel_loadCode_34 : decode prog_12_method_17_code 34 = .ok (.istore 4, 2) := by decide +kernel
theorem d_LinkAuditModel_loadCode_36 : decode prog_12_method_17_code 36 = .ok (.aload_n 0, 1) := by decide +kernel
theorem d_LinkAuditModel_loadCode_37 : decode prog_12_method_17_code 37 = .ok (.getfield 74, 3) := by decide +kernel
theorem d_LinkAuditModel_loadCode_40 : decode prog_12_method_17_code 40 = .ok (.iload_n 2, 1) := by decide +kernel
theorem d_LinkAuditModel_loadCode_41 : decode prog_12_method_17_code 41 = .ok (.iconst 1, 1) := by decide +kernel
theorem d_LinkAuditModel_loadCode_42 : decode prog_12_method_17_code 42 = .ok (.isub, 1) := by decide +kernel
theorem d_LinkAuditModel_loadCode_43 : decode prog_12_method_17_code 43 = .ok (.iaload, 1) := by decide +kernel
theorem d_LinkAuditModel_loadCode_44 : decode prog_12_method_17_code 44 = .ok (.istore 5, 2) := by decide +kernel
theorem d_LinkAuditModel_loadCode_46 : decode prog_12_method_17_code 46 = .ok (.iload 5, 2) := by decide +kernel
theorem d_LinkAuditModel_loadCode_48 : decode prog_12_method_17_code 48 = .ok (.bipush 13, 2) := by decide +kernel
theorem d_LinkAuditModel_loadCode_50 : decode prog_12_method_17_code 50 = .ok (.if_icmp .ne 48, 3) := by decide +kernel
theorem d_LinkAuditModel_loadCode_53 : decode prog_12_method_17_code 53 = .ok (.iinc 2 (-1), 3) := by decide +kernel
theorem d_LinkAuditModel_loadCode_56 : decode prog_12_method_17_code 56 = .ok (.iload_n 2, 1) := by decide +kernel
theorem d_LinkAuditModel_loadCode_57 : decode prog_12_method_17_code 57 = .ok (.ifCond .le (-39), 3) := by decide +kernel
theorem d_LinkAuditModel_loadCode_60 : decode prog_12_method_17_code 60 = .ok (.aload_n 0, 1) := by decide +kernel
theorem d_LinkAuditModel_loadCode_61 : decode prog_12_method_17_code 61 = .ok (.aload_n 0, 1) := by decide +kernel
theorem d_LinkAuditModel_loadCode_62 : decode prog_12_method_17_code 62 = .ok (.getfield 71, 3) := by decide +kernel
theorem d_LinkAuditModel_loadCode_65 : decode prog_12_method_17_code 65 = .ok (.iload_n 2, 1) := by decide +kernel
theorem d_LinkAuditModel_loadCode_66 : decode prog_12_method_17_code 66 = .ok (.iconst 1, 1) := by decide +kernel
theorem d_LinkAuditModel_loadCode_67 : decode prog_12_method_17_code 67 = .ok (.isub, 1) := by decide +kernel
theorem d_LinkAuditModel_loadCode_68 : decode prog_12_method_17_code 68 = .ok (.iaload, 1) := by decide +kernel
theorem d_LinkAuditModel_loadCode_69 : decode prog_12_method_17_code 69 = .ok (.aload_n 0, 1) := by decide +kernel
theorem d_LinkAuditModel_loadCode_70 : decode prog_12_method_17_code 70 = .ok (.getfield 74, 3) := by decide +kernel
theorem d_LinkAuditModel_loadCode_73 : decode prog_12_method_17_code 73 = .ok (.iload_n 2, 1) := by decide +kernel
theorem d_LinkAuditModel_loadCode_74 : decode prog_12_method_17_code 74 = .ok (.iconst 1, 1) := by decide +kernel
theorem d_LinkAuditModel_loadCode_75 : decode prog_12_method_17_code 75 = .ok (.isub, 1) := by decide +kernel
theorem d_LinkAuditModel_loadCode_76 : decode prog_12_method_17_code 76 = .ok (.iaload, 1) := by decide +kernel
theorem d_LinkAuditModel_loadCode_77 : decode prog_12_method_17_code 77 = .ok (.iload 4, 2) := by decide +kernel
theorem d_LinkAuditModel_loadCode_79 : decode prog_12_method_17_code 79 = .ok (.invokevirtual 125, 3) := by decide +kernel
theorem d_LinkAuditModel_loadCode_82 : decode prog_12_method_17_code 82 = .ok (.istore_n 3, 1) := by decide +kernel
theorem d_LinkAuditModel_loadCode_83 : decode prog_12_method_17_code 83 = .ok (.aload_n 0, 1) := by decide +kernel
theorem d_LinkAuditModel_loadCode_84 : decode prog_12_method_17_code 84 = .ok (.getfield 74, 3) := by decide +kernel
theorem d_LinkAuditModel_loadCode_87 : decode prog_12_method_17_code 87 = .ok (.iload_n 2, 1) := by decide +kernel
theorem d_LinkAuditModel_loadCode_88 : decode prog_12_method_17_code 88 = .ok (.iconst 1, 1) := by decide +kernel
theorem d_LinkAuditModel_loadCode_89 : decode prog_12_method_17_code 89 = .ok (.isub, 1) := by decide +kernel
theorem d_LinkAuditModel_loadCode_90 : decode prog_12_method_17_code 90 = .ok (.dup2, 1) := by decide +kernel
theorem d_LinkAuditModel_loadCode_91 : decode prog_12_method_17_code 91 = .ok (.iaload, 1) := by decide +kernel
theorem d_LinkAuditModel_loadCode_92 : decode prog_12_method_17_code 92 = .ok (.iconst 1, 1) := by decide +kernel
theorem d_LinkAuditModel_loadCode_93 : decode prog_12_method_17_code 93 = .ok (.iadd, 1) := by decide +kernel
theorem d_LinkAuditModel_loadCode_94 : decode prog_12_method_17_code 94 = .ok (.iastore, 1) := by decide +kernel
theorem d_LinkAuditModel_loadCode_95 : decode prog_12_method_17_code 95 = .ok (.goto (-77), 3) := by decide +kernel
theorem d_LinkAuditModel_loadCode_98 : decode prog_12_method_17_code 98 = .ok (.aload_n 0, 1) := by decide +kernel
theorem d_LinkAuditModel_loadCode_99 : decode prog_12_method_17_code 99 = .ok (.iload 4, 2) := by decide +kernel
theorem d_LinkAuditModel_loadCode_101 : decode prog_12_method_17_code 101 = .ok (.iload 5, 2) := by decide +kernel
theorem d_LinkAuditModel_loadCode_103 : decode prog_12_method_17_code 103 = .ok (.invokevirtual 129, 3) := by decide +kernel
theorem d_LinkAuditModel_loadCode_106 : decode prog_12_method_17_code 106 = .ok (.istore 6, 2) := by decide +kernel
theorem d_LinkAuditModel_loadCode_108 : decode prog_12_method_17_code 108 = .ok (.iload 6, 2) := by decide +kernel
theorem d_LinkAuditModel_loadCode_110 : decode prog_12_method_17_code 110 = .ok (.ifCond .ge 18, 3) := by decide +kernel
theorem d_LinkAuditModel_loadCode_113 : decode prog_12_method_17_code 113 = .ok (.aload_n 0, 1) := by decide +kernel
theorem d_LinkAuditModel_loadCode_114 : decode prog_12_method_17_code 114 = .ok (.getfield 74, 3) := by decide +kernel
theorem d_LinkAuditModel_loadCode_117 : decode prog_12_method_17_code 117 = .ok (.iload_n 2, 1) := by decide +kernel
theorem d_LinkAuditModel_loadCode_118 : decode prog_12_method_17_code 118 = .ok (.iconst 1, 1) := by decide +kernel
theorem d_LinkAuditModel_loadCode_119 : decode prog_12_method_17_code 119 = .ok (.isub, 1) := by decide +kernel
theorem d_LinkAuditModel_loadCode_120 : decode prog_12_method_17_code 120 = .ok (.dup2, 1) := by decide +kernel
theorem d_LinkAuditModel_loadCode_121 : decode prog_12_method_17_code 121 = .ok (.iaload, 1) := by decide +kernel
theorem d_LinkAuditModel_loadCode_122 : decode prog_12_method_17_code 122 = .ok (.iconst 1, 1) := by decide +kernel
theorem d_LinkAuditModel_loadCode_123 : decode prog_12_method_17_code 123 = .ok (.iadd, 1) := by decide +kernel
theorem d_LinkAuditModel_loadCode_124 : decode prog_12_method_17_code 124 = .ok (.iastore, 1) := by decide +kernel
theorem d_LinkAuditModel_loadCode_125 : decode prog_12_method_17_code 125 = .ok (.goto (-107), 3) := by decide +kernel
theorem d_LinkAuditModel_loadCode_128 : decode prog_12_method_17_code 128 = .ok (.aload_n 0, 1) := by decide +kernel
theorem d_LinkAuditModel_loadCode_129 : decode prog_12_method_17_code 129 = .ok (.aload_n 0, 1) := by decide +kernel
theorem d_LinkAuditModel_loadCode_130 : decode prog_12_method_17_code 130 = .ok (.getfield 19, 3) := by decide +kernel
theorem d_LinkAuditModel_loadCode_133 : decode prog_12_method_17_code 133 = .ok (.iload 4, 2) := by decide +kernel
theorem d_LinkAuditModel_loadCode_135 : decode prog_12_method_17_code 135 = .ok (.iaload, 1) := by decide +kernel
theorem d_LinkAuditModel_loadCode_136 : decode prog_12_method_17_code 136 = .ok (.iload 6, 2) := by decide +kernel
theorem d_LinkAuditModel_loadCode_138 : decode prog_12_method_17_code 138 = .ok (.invokevirtual 132, 3) := by decide +kernel
theorem d_LinkAuditModel_loadCode_141 : decode prog_12_method_17_code 141 = .ok (.istore 7, 2) := by decide +kernel
theorem d_LinkAuditModel_loadCode_143 : decode prog_12_method_17_code 143 = .ok (.iload 7, 2) := by decide +kernel
theorem d_LinkAuditModel_loadCode_145 : decode prog_12_method_17_code 145 = .ok (.ifCond .ne 6, 3) := by decide +kernel
theorem d_LinkAuditModel_loadCode_148 : decode prog_12_method_17_code 148 = .ok (.bipush (-3), 2) := by decide +kernel
theorem d_LinkAuditModel_loadCode_150 : decode prog_12_method_17_code 150 = .ok (.istore_n 3, 1) := by decide +kernel
theorem d_LinkAuditModel_loadCode_151 : decode prog_12_method_17_code 151 = .ok (.iconst 0, 1) := by decide +kernel
theorem d_LinkAuditModel_loadCode_152 : decode prog_12_method_17_code 152 = .ok (.istore 8, 2) := by decide +kernel
theorem d_LinkAuditModel_loadCode_154 : decode prog_12_method_17_code 154 = .ok (.iload 8, 2) := by decide +kernel
theorem d_LinkAuditModel_loadCode_156 : decode prog_12_method_17_code 156 = .ok (.iload_n 2, 1) := by decide +kernel
theorem d_LinkAuditModel_loadCode_157 : decode prog_12_method_17_code 157 = .ok (.if_icmp .ge 24, 3) := by decide +kernel
theorem d_LinkAuditModel_loadCode_160 : decode prog_12_method_17_code 160 = .ok (.aload_n 0, 1) := by decide +kernel
theorem d_LinkAuditModel_loadCode_161 : decode prog_12_method_17_code 161 = .ok (.getfield 71, 3) := by decide +kernel
theorem d_LinkAuditModel_loadCode_164 : decode prog_12_method_17_code 164 = .ok (.iload 8, 2) := by decide +kernel
theorem d_LinkAuditModel_loadCode_166 : decode prog_12_method_17_code 166 = .ok (.iaload, 1) := by decide +kernel
theorem d_LinkAuditModel_loadCode_167 : decode prog_12_method_17_code 167 = .ok (.iload 7, 2) := by decide +kernel
theorem d_LinkAuditModel_loadCode_169 : decode prog_12_method_17_code 169 = .ok (.if_icmp .ne 6, 3) := by decide +kernel
theorem d_LinkAuditModel_loadCode_172 : decode prog_12_method_17_code 172 = .ok (.bipush (-4), 2) := by decide +kernel
theorem d_LinkAuditModel_loadCode_174 : decode prog_12_method_17_code 174 = .ok (.istore_n 3, 1) := by decide +kernel
theorem d_LinkAuditModel_loadCode_175 : decode prog_12_method_17_code 175 = .ok (.iinc 8 1, 3) := by decide +kernel
theorem d_LinkAuditModel_loadCode_178 : decode prog_12_method_17_code 178 = .ok (.goto (-24), 3) := by decide +kernel
theorem d_LinkAuditModel_loadCode_181 : decode prog_12_method_17_code 181 = .ok (.aload_n 0, 1) := by decide +kernel
theorem d_LinkAuditModel_loadCode_182 : decode prog_12_method_17_code 182 = .ok (.getfield 71, 3) := by decide +kernel
theorem d_LinkAuditModel_loadCode_185 : decode prog_12_method_17_code 185 = .ok (.iload_n 2, 1) := by decide +kernel
theorem d_LinkAuditModel_loadCode_186 : decode prog_12_method_17_code 186 = .ok (.iload 7, 2) := by decide +kernel
theorem d_LinkAuditModel_loadCode_188 : decode prog_12_method_17_code 188 = .ok (.iastore, 1) := by decide +kernel
theorem d_LinkAuditModel_loadCode_189 : decode prog_12_method_17_code 189 = .ok (.aload_n 0, 1) := by decide +kernel
theorem d_LinkAuditModel_loadCode_190 : decode prog_12_method_17_code 190 = .ok (.getfield 74, 3) := by decide +kernel
theorem d_LinkAuditModel_loadCode_193 : decode prog_12_method_17_code 193 = .ok (.iload_n 2, 1) := by decide +kernel
theorem d_LinkAuditModel_loadCode_194 : decode prog_12_method_17_code 194 = .ok (.iconst 0, 1) := by decide +kernel
theorem d_LinkAuditModel_loadCode_195 : decode prog_12_method_17_code 195 = .ok (.iastore, 1) := by decide +kernel
theorem d_LinkAuditModel_loadCode_196 : decode prog_12_method_17_code 196 = .ok (.iinc 2 1, 3) := by decide +kernel
theorem d_LinkAuditModel_loadCode_199 : decode prog_12_method_17_code 199 = .ok (.goto (-181), 3) := by decide +kernel
theorem d_LinkAuditModel_loadCode_202 : decode prog_12_method_17_code 202 = .ok (.iload_n 3, 1) := by decide +kernel
theorem d_LinkAuditModel_loadCode_203 : decode prog_12_method_17_code 203 = .ok (.ireturn, 1) := by decide +kernel
theorem d_LinkAuditModel_load_0 : decode prog_12_method_43_code 0 = .ok (.iload_n 1, 1) := by decide +kernel
theorem d_LinkAuditModel_load_1 : decode prog_12_method_43_code 1 = .ok (.iconst 1, 1) := by decide +kernel
theorem d_LinkAuditModel_load_2 : decode prog_12_method_43_code 2 = .ok (.aload_n 0, 1) := by decide +kernel
theorem d_LinkAuditModel_load_3 : decode prog_12_method_43_code 3 = .ok (.getfield 96, 3) := by decide +kernel
theorem d_LinkAuditModel_load_6 : decode prog_12_method_43_code 6 = .ok (.invokestatic 92, 3) := by decide +kernel
theorem d_LinkAuditModel_load_9 : decode prog_12_method_43_code 9 = .ok (.ifCond .ne 5, 3) := by decide +kernel
theorem d_LinkAuditModel_load_12 : decode prog_12_method_43_code 12 = .ok (.iconst (-1), 1) := by decide +kernel
theorem d_LinkAuditModel_load_13 : decode prog_12_method_43_code 13 = .ok (.ireturn, 1) := by decide +kernel
theorem d_LinkAuditModel_load_14 : decode prog_12_method_43_code 14 = .ok (.aload_n 0, 1) := by decide +kernel
theorem d_LinkAuditModel_load_15 : decode prog_12_method_43_code 15 = .ok (.iload_n 1, 1) := by decide +kernel
theorem d_LinkAuditModel_load_16 : decode prog_12_method_43_code 16 = .ok (.invokevirtual 135, 3) := by decide +kernel
theorem d_LinkAuditModel_load_19 : decode prog_12_method_43_code 19 = .ok (.istore_n 2, 1) := by decide +kernel
theorem d_LinkAuditModel_load_20 : decode prog_12_method_43_code 20 = .ok (.iload_n 2, 1) := by decide +kernel
theorem d_LinkAuditModel_load_21 : decode prog_12_method_43_code 21 = .ok (.ifCond .ne 7, 3) := by decide +kernel
theorem d_LinkAuditModel_load_24 : decode prog_12_method_43_code 24 = .ok (.iload_n 1, 1) := by decide +kernel
theorem d_LinkAuditModel_load_25 : decode prog_12_method_43_code 25 = .ok (.goto 4, 3) := by decide +kernel
theorem d_LinkAuditModel_load_28 : decode prog_12_method_43_code 28 = .ok (.iload_n 2, 1) := by decide +kernel
theorem d_LinkAuditModel_load_29 : decode prog_12_method_43_code 29 = .ok (.ireturn, 1) := by decide +kernel
theorem d_LinkAuditModel_prepare_0 : decode prog_12_method_18_code 0 = .ok (.iconst 1, 1) := by decide +kernel
theorem d_LinkAuditModel_prepare_1 : decode prog_12_method_18_code 1 = .ok (.istore_n 1, 1) := by decide +kernel
theorem d_LinkAuditModel_prepare_2 : decode prog_12_method_18_code 2 = .ok (.iload_n 1, 1) := by decide +kernel
theorem d_LinkAuditModel_prepare_3 : decode prog_12_method_18_code 3 = .ok (.aload_n 0, 1) := by decide +kernel
theorem d_LinkAuditModel_prepare_4 : decode prog_12_method_18_code 4 = .ok (.getfield 96, 3) := by decide +kernel
theorem d_LinkAuditModel_prepare_7 : decode prog_12_method_18_code 7 = .ok (.if_icmp .gt 144, 3) := by decide +kernel
theorem d_LinkAuditModel_prepare_10 : decode prog_12_method_18_code 10 = .ok (.aload_n 0, 1) := by decide +kernel
theorem d_LinkAuditModel_prepare_11 : decode prog_12_method_18_code 11 = .ok (.getfield 56, 3) := by decide +kernel
theorem d_LinkAuditModel_prepare_14 : decode prog_12_method_18_code 14 = .ok (.iload_n 1, 1) := by decide +kernel
theorem d_LinkAuditModel_prepare_15 : decode prog_12_method_18_code 15 = .ok (.aload_n 0, 1) := by decide +kernel
theorem d_LinkAuditModel_prepare_16 : decode prog_12_method_18_code 16 = .ok (.iload_n 1, 1) := by decide +kernel
theorem d_LinkAuditModel_prepare_17 : decode prog_12_method_18_code 17 = .ok (.invokevirtual 135, 3) := by decide +kernel
theorem d_LinkAuditModel_prepare_20 : decode prog_12_method_18_code 20 = .ok (.iastore, 1) := by decide +kernel
theorem d_LinkAuditModel_prepare_21 : decode prog_12_method_18_code 21 = .ok (.aload_n 0, 1) := by decide +kernel
theorem d_LinkAuditModel_prepare_22 : decode prog_12_method_18_code 22 = .ok (.getfield 59, 3) := by decide +kernel
theorem d_LinkAuditModel_prepare_25 : decode prog_12_method_18_code 25 = .ok (.iload_n 1, 1) := by decide +kernel
theorem d_LinkAuditModel_prepare_26 : decode prog_12_method_18_code 26 = .ok (.iconst 0, 1) := by decide +kernel
theorem d_LinkAuditModel_prepare_27 : decode prog_12_method_18_code 27 = .ok (.iastore, 1) := by decide +kernel
theorem d_LinkAuditModel_prepare_28 : decode prog_12_method_18_code 28 = .ok (.aload_n 0, 1) := by decide +kernel
theorem d_LinkAuditModel_prepare_29 : decode prog_12_method_18_code 29 = .ok (.getfield 62, 3) := by decide +kernel
theorem d_LinkAuditModel_prepare_32 : decode prog_12_method_18_code 32 = .ok (.iload_n 1, 1) := by decide +kernel
theorem d_LinkAuditModel_prepare_33 : decode prog_12_method_18_code 33 = .ok (.iconst 0, 1) := by decide +kernel
theorem d_LinkAuditModel_prepare_34 : decode prog_12_method_18_code 34 = .ok (.iastore, 1) := by decide +kernel
theorem d_LinkAuditModel_prepare_35 : decode prog_12_method_18_code 35 = .ok (.aload_n 0, 1) := by decide +kernel
theorem d_LinkAuditModel_prepare_36 : decode prog_12_method_18_code 36 = .ok (.getfield 65, 3) := by decide +kernel
theorem d_LinkAuditModel_prepare_39 : decode prog_12_method_18_code 39 = .ok (.iload_n 1, 1) := by decide +kernel
theorem d_LinkAuditModel_prepare_40 : decode prog_12_method_18_code 40 = .ok (.iconst 1, 1) := by decide +kernel
theorem d_LinkAuditModel_prepare_41 : decode prog_12_method_18_code 41 = .ok (.iload_n 1, 1) := by decide +kernel
theorem d_LinkAuditModel_prepare_42 : decode prog_12_method_18_code 42 = .ok (.ishl, 1) := by decide +kernel
theorem d_LinkAuditModel_prepare_43 : decode prog_12_method_18_code 43 = .ok (.iastore, 1) := by decide +kernel
theorem d_LinkAuditModel_prepare_44 : decode prog_12_method_18_code 44 = .ok (.aload_n 0, 1) := by decide +kernel
theorem d_LinkAuditModel_prepare_45 : decode prog_12_method_18_code 45 = .ok (.getfield 68, 3) := by decide +kernel
theorem d_LinkAuditModel_prepare_48 : decode prog_12_method_18_code 48 = .ok (.iload_n 1, 1) := by decide +kernel
theorem d_LinkAuditModel_prepare_49 : decode prog_12_method_18_code 49 = .ok (.iconst 0, 1) := by decide +kernel
theorem d_LinkAuditModel_prepare_50 : decode prog_12_method_18_code 50 = .ok (.iastore, 1) := by decide +kernel
theorem d_LinkAuditModel_prepare_51 : decode prog_12_method_18_code 51 = .ok (.aload_n 0, 1) := by decide +kernel
theorem d_LinkAuditModel_prepare_52 : decode prog_12_method_18_code 52 = .ok (.getfield 56, 3) := by decide +kernel
theorem d_LinkAuditModel_prepare_55 : decode prog_12_method_18_code 55 = .ok (.iload_n 1, 1) := by decide +kernel
theorem d_LinkAuditModel_prepare_56 : decode prog_12_method_18_code 56 = .ok (.iaload, 1) := by decide +kernel
theorem d_LinkAuditModel_prepare_57 : decode prog_12_method_18_code 57 = .ok (.ifCond .eq 6, 3) := by decide +kernel
theorem d_LinkAuditModel_prepare_60 : decode prog_12_method_18_code 60 = .ok (.goto 85, 3) := by decide +kernel
theorem d_LinkAuditModel_prepare_63 : decode prog_12_method_18_code 63 = .ok (.aload_n 0, 1) := by decide +kernel
theorem d_LinkAuditModel_prepare_64 : decode prog_12_method_18_code 64 = .ok (.getfield 28, 3) := by decide +kernel
theorem d_LinkAuditModel_prepare_67 : decode prog_12_method_18_code 67 = .ok (.iload_n 1, 1) := by decide +kernel
theorem d_LinkAuditModel_prepare_68 : decode prog_12_method_18_code 68 = .ok (.iaload, 1) := by decide +kernel
theorem d_LinkAuditModel_prepare_69 : decode prog_12_method_18_code 69 = .ok (.bipush 12, 2) := by decide +kernel
theorem d_LinkAuditModel_prepare_71 : decode prog_12_method_18_code 71 = .ok (.if_icmp .ge 25, 3) := by decide +kernel
theorem d_LinkAuditModel_prepare_74 : decode prog_12_method_18_code 74 = .ok (.aload_n 0, 1) := by decide +kernel
theorem d_LinkAuditModel_prepare_75 : decode prog_12_method_18_code 75 = .ok (.getfield 59, 3) := by decide +kernel
theorem d_LinkAuditModel_prepare_78 : decode prog_12_method_18_code 78 = .ok (.iload_n 1, 1) := by decide +kernel
theorem d_LinkAuditModel_prepare_79 : decode prog_12_method_18_code 79 = .ok (.aload_n 0, 1) := by decide +kernel
theorem d_LinkAuditModel_prepare_80 : decode prog_12_method_18_code 80 = .ok (.aload_n 0, 1) := by decide +kernel
theorem d_LinkAuditModel_prepare_81 : decode prog_12_method_18_code 81 = .ok (.getfield 19, 3) := by decide +kernel
theorem d_LinkAuditModel_prepare_84 : decode prog_12_method_18_code 84 = .ok (.iload_n 1, 1) := by decide +kernel
theorem d_LinkAuditModel_prepare_85 : decode prog_12_method_18_code 85 = .ok (.iaload, 1) := by decide +kernel
theorem d_LinkAuditModel_prepare_86 : decode prog_12_method_18_code 86 = .ok (.aload_n 0, 1) := by decide +kernel
theorem d_LinkAuditModel_prepare_87 : decode prog_12_method_18_code 87 = .ok (.getfield 28, 3) := by decide +kernel
theorem d_LinkAuditModel_prepare_90 : decode prog_12_method_18_code 90 = .ok (.iload_n 1, 1) := by decide +kernel
theorem d_LinkAuditModel_prepare_91 : decode prog_12_method_18_code 91 = .ok (.iaload, 1) := by decide +kernel
theorem d_LinkAuditModel_prepare_92 : decode prog_12_method_18_code 92 = .ok (.invokevirtual 132, 3) := by decide +kernel
theorem d_LinkAuditModel_prepare_95 : decode prog_12_method_18_code 95 = .ok (.iastore, 1) := by decide +kernel
theorem d_LinkAuditModel_prepare_96 : decode prog_12_method_18_code 96 = .ok (.iconst 0, 1) := by decide +kernel
theorem d_LinkAuditModel_prepare_97 : decode prog_12_method_18_code 97 = .ok (.istore_n 2, 1) := by decide +kernel
theorem d_LinkAuditModel_prepare_98 : decode prog_12_method_18_code 98 = .ok (.iload_n 2, 1) := by decide +kernel
theorem d_LinkAuditModel_prepare_99 : decode prog_12_method_18_code 99 = .ok (.bipush 12, 2) := by decide +kernel
theorem d_LinkAuditModel_prepare_101 : decode prog_12_method_18_code 101 = .ok (.if_icmp .ge 44, 3) := by decide +kernel
theorem d_LinkAuditModel_prepare_104 : decode prog_12_method_18_code 104 = .ok (.aload_n 0, 1) := by decide +kernel
theorem d_LinkAuditModel_prepare_105 : decode prog_12_method_18_code 105 = .ok (.getfield 31, 3) := by decide +kernel
theorem d_LinkAuditModel_prepare_108 : decode prog_12_method_18_code 108 = .ok (.iload_n 1, 1) := by decide +kernel
theorem d_LinkAuditModel_prepare_109 : decode prog_12_method_18_code 109 = .ok (.iaload, 1) := by decide +kernel
theorem d_LinkAuditModel_prepare_110 : decode prog_12_method_18_code 110 = .ok (.iload_n 2, 1) := by decide +kernel
theorem d_LinkAuditModel_prepare_111 : decode prog_12_method_18_code 111 = .ok (.ishr, 1) := by decide +kernel
theorem d_LinkAuditModel_prepare_112 : decode prog_12_method_18_code 112 = .ok (.iconst 1, 1) := by decide +kernel
theorem d_LinkAuditModel_prepare_113 : decode prog_12_method_18_code 113 = .ok (.iand, 1) := by decide +kernel
theorem d_LinkAuditModel_prepare_114 : decode prog_12_method_18_code 114 = .ok (.ifCond .eq 25, 3) := by decide +kernel
theorem d_LinkAuditModel_prepare_117 : decode prog_12_method_18_code 117 = .ok (.aload_n 0, 1) := by decide +kernel
theorem d_LinkAuditModel_prepare_118 : decode prog_12_method_18_code 118 = .ok (.getfield 62, 3) := by decide +kernel
theorem d_LinkAuditModel_prepare_121 : decode prog_12_method_18_code 121 = .ok (.iload_n 1, 1) := by decide +kernel
theorem d_LinkAuditModel_prepare_122 : decode prog_12_method_18_code 122 = .ok (.dup2, 1) := by decide +kernel
theorem d_LinkAuditModel_prepare_123 : decode prog_12_method_18_code 123 = .ok (.iaload, 1) := by decide +kernel
theorem d_LinkAuditModel_prepare_124 : decode prog_12_method_18_code 124 = .ok (.iconst 1, 1) := by decide +kernel
theorem d_LinkAuditModel_prepare_125 : decode prog_12_method_18_code 125 = .ok (.aload_n 0, 1) := by decide +kernel
theorem d_LinkAuditModel_prepare_126 : decode prog_12_method_18_code 126 = .ok (.aload_n 0, 1) := by decide +kernel
theorem d_LinkAuditModel_prepare_127 : decode prog_12_method_18_code 127 = .ok (.getfield 19, 3) := by decide +kernel
theorem d_LinkAuditModel_prepare_130 : decode prog_12_method_18_code 130 = .ok (.iload_n 1, 1) := by decide +kernel
theorem d_LinkAuditModel_prepare_131 : decode prog_12_method_18_code 131 = .ok (.iaload, 1) := by decide +kernel
theorem d_LinkAuditModel_prepare_132 : decode prog_12_method_18_code 132 = .ok (.iload_n 2, 1) := by decide +kernel
theorem d_LinkAuditModel_prepare_133 : decode prog_12_method_18_code 133 = .ok (.invokevirtual 132, 3) := by decide +kernel
theorem d_LinkAuditModel_prepare_136 : decode prog_12_method_18_code 136 = .ok (.ishl, 1) := by decide +kernel
theorem d_LinkAuditModel_prepare_137 : decode prog_12_method_18_code 137 = .ok (.ior, 1) := by decide +kernel
theorem d_LinkAuditModel_prepare_138 : decode prog_12_method_18_code 138 = .ok (.iastore, 1) := by decide +kernel
theorem d_LinkAuditModel_prepare_139 : decode prog_12_method_18_code 139 = .ok (.iinc 2 1, 3) := by decide +kernel
theorem d_LinkAuditModel_prepare_142 : decode prog_12_method_18_code 142 = .ok (.goto (-44), 3) := by decide +kernel
theorem d_LinkAuditModel_prepare_145 : decode prog_12_method_18_code 145 = .ok (.iinc 1 1, 3) := by decide +kernel
theorem d_LinkAuditModel_prepare_148 : decode prog_12_method_18_code 148 = .ok (.goto (-146), 3) := by decide +kernel
theorem d_LinkAuditModel_prepare_151 : decode prog_12_method_18_code 151 = .ok (.iconst 0, 1) := by decide +kernel
theorem d_LinkAuditModel_prepare_152 : decode prog_12_method_18_code 152 = .ok (.istore_n 1, 1) := by decide +kernel
theorem d_LinkAuditModel_prepare_153 : decode prog_12_method_18_code 153 = .ok (.iload_n 1, 1) := by decide +kernel
theorem d_LinkAuditModel_prepare_154 : decode prog_12_method_18_code 154 = .ok (.bipush 16, 2) := by decide +kernel
theorem d_LinkAuditModel_prepare_156 : decode prog_12_method_18_code 156 = .ok (.aload_n 0, 1) := by decide +kernel
theorem d_LinkAuditModel_prepare_157 : decode prog_12_method_18_code 157 = .ok (.getfield 96, 3) := by decide +kernel
theorem d_LinkAuditModel_prepare_160 : decode prog_12_method_18_code 160 = .ok (.imul, 1) := by decide +kernel
theorem d_LinkAuditModel_prepare_161 : decode prog_12_method_18_code 161 = .ok (.if_icmp .ge 126, 3) := by decide +kernel
theorem d_LinkAuditModel_prepare_164 : decode prog_12_method_18_code 164 = .ok (.iconst 1, 1) := by decide +kernel
theorem d_LinkAuditModel_prepare_165 : decode prog_12_method_18_code 165 = .ok (.iload_n 1, 1) := by decide +kernel
theorem d_LinkAuditModel_prepare_166 : decode prog_12_method_18_code 166 = .ok (.aload_n 0, 1) := by decide +kernel
theorem d_LinkAuditModel_prepare_167 : decode prog_12_method_18_code 167 = .ok (.getfield 96, 3) := by decide +kernel
theorem d_LinkAuditModel_prepare_170 : decode prog_12_method_18_code 170 = .ok (.irem, 1) := by decide +kernel
theorem d_LinkAuditModel_prepare_171 : decode prog_12_method_18_code 171 = .ok (.iadd, 1) := by decide +kernel
theorem d_LinkAuditModel_prepare_172 : decode prog_12_method_18_code 172 = .ok (.istore_n 2, 1) := by decide +kernel
theorem d_LinkAuditModel_prepare_173 : decode prog_12_method_18_code 173 = .ok (.aload_n 0, 1) := by decide +kernel
theorem d_LinkAuditModel_prepare_174 : decode prog_12_method_18_code 174 = .ok (.getfield 59, 3) := by decide +kernel
theorem d_LinkAuditModel_prepare_177 : decode prog_12_method_18_code 177 = .ok (.iload_n 2, 1) := by decide +kernel
theorem d_LinkAuditModel_prepare_178 : decode prog_12_method_18_code 178 = .ok (.iaload, 1) := by decide +kernel
theorem d_LinkAuditModel_prepare_179 : decode prog_12_method_18_code 179 = .ok (.istore_n 3, 1) := by decide +kernel
theorem d_LinkAuditModel_prepare_180 : decode prog_12_method_18_code 180 = .ok (.iload_n 3, 1) := by decide +kernel
theorem d_LinkAuditModel_prepare_181 : decode prog_12_method_18_code 181 = .ok (.ifCond .le 18, 3) := by decide +kernel
theorem d_LinkAuditModel_prepare_184 : decode prog_12_method_18_code 184 = .ok (.aload_n 0, 1) := by decide +kernel
theorem d_LinkAuditModel_prepare_185 : decode prog_12_method_18_code 185 = .ok (.getfield 65, 3) := by decide +kernel
theorem d_LinkAuditModel_prepare_188 : decode prog_12_method_18_code 188 = .ok (.iload_n 2, 1) := by decide +kernel
theorem d_LinkAuditModel_prepare_189 : decode prog_12_method_18_code 189 = .ok (.dup2, 1) := by decide +kernel
theorem d_LinkAuditModel_prepare_190 : decode prog_12_method_18_code 190 = .ok (.iaload, 1) := by decide +kernel
theorem d_LinkAuditModel_prepare_191 : decode prog_12_method_18_code 191 = .ok (.aload_n 0, 1) := by decide +kernel
theorem d_LinkAuditModel_prepare_192 : decode prog_12_method_18_code 192 = .ok (.getfield 65, 3) := by decide +kernel
theorem d_LinkAuditModel_prepare_195 : decode prog_12_method_18_code 195 = .ok (.iload_n 3, 1) := by decide +kernel
theorem d_LinkAuditModel_prepare_196 : decode prog_12_method_18_code 196 = .ok (.iaload, 1) := by decide +kernel
theorem d_LinkAuditModel_prepare_197 : decode prog_12_method_18_code 197 = .ok (.ior, 1) := by decide +kernel
theorem d_LinkAuditModel_prepare_198 : decode prog_12_method_18_code 198 = .ok (.iastore, 1) := by decide +kernel
theorem d_LinkAuditModel_prepare_199 : decode prog_12_method_18_code 199 = .ok (.iload_n 3, 1) := by decide +kernel
theorem d_LinkAuditModel_prepare_200 : decode prog_12_method_18_code 200 = .ok (.ifCond .le 18, 3) := by decide +kernel
theorem d_LinkAuditModel_prepare_203 : decode prog_12_method_18_code 203 = .ok (.aload_n 0, 1) := by decide +kernel
theorem d_LinkAuditModel_prepare_204 : decode prog_12_method_18_code 204 = .ok (.getfield 68, 3) := by decide +kernel
theorem d_LinkAuditModel_prepare_207 : decode prog_12_method_18_code 207 = .ok (.iload_n 2, 1) := by decide +kernel
theorem d_LinkAuditModel_prepare_208 : decode prog_12_method_18_code 208 = .ok (.dup2, 1) := by decide +kernel
theorem d_LinkAuditModel_prepare_209 : decode prog_12_method_18_code 209 = .ok (.iaload, 1) := by decide +kernel
theorem d_LinkAuditModel_prepare_210 : decode prog_12_method_18_code 210 = .ok (.aload_n 0, 1) := by decide +kernel
theorem d_LinkAuditModel_prepare_211 : decode prog_12_method_18_code 211 = .ok (.getfield 68, 3) := by decide +kernel
theorem d_LinkAuditModel_prepare_214 : decode prog_12_method_18_code 214 = .ok (.iload_n 3, 1) := by decide +kernel
theorem d_LinkAuditModel_prepare_215 : decode prog_12_method_18_code 215 = .ok (.iaload, 1) := by decide +kernel
theorem d_LinkAuditModel_prepare_216 : decode prog_12_method_18_code 216 = .ok (.ior, 1) := by decide +kernel
theorem d_LinkAuditModel_prepare_217 : decode prog_12_method_18_code 217 = .ok (.iastore, 1) := by decide +kernel
theorem d_LinkAuditModel_prepare_218 : decode prog_12_method_18_code 218 = .ok (.aload_n 0, 1) := by decide +kernel
theorem d_LinkAuditModel_prepare_219 : decode prog_12_method_18_code 219 = .ok (.getfield 68, 3) := by decide +kernel
theorem d_LinkAuditModel_prepare_222 : decode prog_12_method_18_code 222 = .ok (.iload_n 2, 1) := by decide +kernel
theorem d_LinkAuditModel_prepare_223 : decode prog_12_method_18_code 223 = .ok (.dup2, 1) := by decide +kernel
theorem d_LinkAuditModel_prepare_224 : decode prog_12_method_18_code 224 = .ok (.iaload, 1) := by decide +kernel
theorem d_LinkAuditModel_prepare_225 : decode prog_12_method_18_code 225 = .ok (.aload_n 0, 1) := by decide +kernel
theorem d_LinkAuditModel_prepare_226 : decode prog_12_method_18_code 226 = .ok (.getfield 62, 3) := by decide +kernel
theorem d_LinkAuditModel_prepare_229 : decode prog_12_method_18_code 229 = .ok (.iload_n 2, 1) := by decide +kernel
theorem d_LinkAuditModel_prepare_230 : decode prog_12_method_18_code 230 = .ok (.iaload, 1) := by decide +kernel
theorem d_LinkAuditModel_prepare_231 : decode prog_12_method_18_code 231 = .ok (.ior, 1) := by decide +kernel
theorem d_LinkAuditModel_prepare_232 : decode prog_12_method_18_code 232 = .ok (.iastore, 1) := by decide +kernel
theorem d_LinkAuditModel_prepare_233 : decode prog_12_method_18_code 233 = .ok (.iconst 1, 1) := by decide +kernel
theorem d_LinkAuditModel_prepare_234 : decode prog_12_method_18_code 234 = .ok (.istore 4, 2) := by decide +kernel
theorem d_LinkAuditModel_prepare_236 : decode prog_12_method_18_code 236 = .ok (.iload 4, 2) := by decide +kernel
theorem d_LinkAuditModel_prepare_238 : decode prog_12_method_18_code 238 = .ok (.aload_n 0, 1) := by decide +kernel
theorem d_LinkAuditModel_prepare_239 : decode prog_12_method_18_code 239 = .ok (.getfield 96, 3) := by decide +kernel
theorem d_LinkAuditModel_prepare_242 : decode prog_12_method_18_code 242 = .ok (.if_icmp .gt 39, 3) := by decide +kernel
theorem d_LinkAuditModel_prepare_245 : decode prog_12_method_18_code 245 = .ok (.aload_n 0, 1) := by decide +kernel
theorem d_LinkAuditModel_prepare_246 : decode prog_12_method_18_code 246 = .ok (.getfield 62, 3) := by decide +kernel
theorem d_LinkAuditModel_prepare_249 : decode prog_12_method_18_code 249 = .ok (.iload_n 2, 1) := by decide +kernel
theorem d_LinkAuditModel_prepare_250 : decode prog_12_method_18_code 250 = .ok (.iaload, 1) := by decide +kernel
theorem d_LinkAuditModel_prepare_251 : decode prog_12_method_18_code 251 = .ok (.iload 4, 2) := by decide +kernel
theorem d_LinkAuditModel_prepare_253 : decode prog_12_method_18_code 253 = .ok (.ishr, 1) := by decide +kernel
theorem d_LinkAuditModel_prepare_254 : decode prog_12_method_18_code 254 = .ok (.iconst 1, 1) := by decide +kernel
theorem d_LinkAuditModel_prepare_255 : decode prog_12_method_18_code 255 = .ok (.iand, 1) := by decide +kernel
theorem d_LinkAuditModel_prepare_256 : decode prog_12_method_18_code 256 = .ok (.ifCond .eq 19, 3) := by decide +kernel
theorem d_LinkAuditModel_prepare_259 : decode prog_12_method_18_code 259 = .ok (.aload_n 0, 1) := by decide +kernel
theorem d_LinkAuditModel_prepare_260 : decode prog_12_method_18_code 260 = .ok (.getfield 68, 3) := by decide +kernel
theorem d_LinkAuditModel_prepare_263 : decode prog_12_method_18_code 263 = .ok (.iload_n 2, 1) := by decide +kernel
theorem d_LinkAuditModel_prepare_264 : decode prog_12_method_18_code 264 = .ok (.dup2, 1) := by decide +kernel
theorem d_LinkAuditModel_prepare_265 : decode prog_12_method_18_code 265 = .ok (.iaload, 1) := by decide +kernel
theorem d_LinkAuditModel_prepare_266 : decode prog_12_method_18_code 266 = .ok (.aload_n 0, 1) := by decide +kernel
theorem d_LinkAuditModel_prepare_267 : decode prog_12_method_18_code 267 = .ok (.getfield 68, 3) := by decide +kernel
theorem d_LinkAuditModel_prepare_270 : decode prog_12_method_18_code 270 = .ok (.iload 4, 2) := by decide +kernel
theorem d_LinkAuditModel_prepare_272 : decode prog_12_method_18_code 272 = .ok (.iaload, 1) := by decide +kernel
theorem d_LinkAuditModel_prepare_273 : decode prog_12_method_18_code 273 = .ok (.ior, 1) := by decide +kernel
theorem d_LinkAuditModel_prepare_274 : decode prog_12_method_18_code 274 = .ok (.iastore, 1) := by decide +kernel
theorem d_LinkAuditModel_prepare_275 : decode prog_12_method_18_code 275 = .ok (.iinc 4 1, 3) := by decide +kernel
theorem d_LinkAuditModel_prepare_278 : decode prog_12_method_18_code 278 = .ok (.goto (-42), 3) := by decide +kernel
theorem d_LinkAuditModel_prepare_281 : decode prog_12_method_18_code 281 = .ok (.iinc 1 1, 3) := by decide +kernel
theorem d_LinkAuditModel_prepare_284 : decode prog_12_method_18_code 284 = .ok (.goto (-131), 3) := by decide +kernel
theorem d_LinkAuditModel_prepare_287 : decode prog_12_method_18_code 287 = .ok (.return_, 1) := by decide +kernel
theorem d_LinkAuditModel_ownMember_0 : decode prog_12_method_22_code 0 = .ok (.iconst 1, 1) := by decide +kernel
theorem d_LinkAuditModel_ownMember_1 : decode prog_12_method_22_code 1 = .ok (.istore 6, 2) := by decide +kernel
theorem d_LinkAuditModel_ownMember_3 : decode prog_12_method_22_code 3 = .ok (.iload 6, 2) := by decide +kernel
theorem d_LinkAuditModel_ownMember_5 : decode prog_12_method_22_code 5 = .ok (.aload_n 0, 1) := by decide +kernel
theorem d_LinkAuditModel_ownMember_6 : decode prog_12_method_22_code 6 = .ok (.getfield 104, 3) := by decide +kernel
theorem d_LinkAuditModel_ownMember_9 : decode prog_12_method_22_code 9 = .ok (.if_icmp .gt 69, 3) := by decide +kernel
theorem d_LinkAuditModel_ownMember_12 : decode prog_12_method_22_code 12 = .ok (.aload_n 0, 1) := by decide +kernel
theorem d_LinkAuditModel_ownMember_13 : decode prog_12_method_22_code 13 = .ok (.getfield 34, 3) := by decide +kernel
theorem d_LinkAuditModel_ownMember_16 : decode prog_12_method_22_code 16 = .ok (.iload 6, 2) := by decide +kernel
theorem d_LinkAuditModel_ownMember_18 : decode prog_12_method_22_code 18 = .ok (.iaload, 1) := by decide +kernel
theorem d_LinkAuditModel_ownMember_19 : decode prog_12_method_22_code 19 = .ok (.iload_n 1, 1) := by decide +kernel
theorem d_LinkAuditModel_ownMember_20 : decode prog_12_method_22_code 20 = .ok (.if_icmp .ne 52, 3) := by decide +kernel
theorem d_LinkAuditModel_ownMember_23 : decode prog_12_method_22_code 23 = .ok (.aload_n 0, 1) := by decide +kernel
theorem d_LinkAuditModel_ownMember_24 : decode prog_12_method_22_code 24 = .ok (.getfield 37, 3) := by decide +kernel
theorem d_LinkAuditModel_ownMember_27 : decode prog_12_method_22_code 27 = .ok (.iload 6, 2) := by decide +kernel
theorem d_LinkAuditModel_ownMember_29 : decode prog_12_method_22_code 29 = .ok (.baload, 1) := by decide +kernel
theorem d_LinkAuditModel_ownMember_30 : decode prog_12_method_22_code 30 = .ok (.iload_n 2, 1) := by decide +kernel
theorem d_LinkAuditModel_ownMember_31 : decode prog_12_method_22_code 31 = .ok (.if_icmp .ne 41, 3) := by decide +kernel
theorem d_LinkAuditModel_ownMember_34 : decode prog_12_method_22_code 34 = .ok (.aload_n 0, 1) := by decide +kernel
theorem d_LinkAuditModel_ownMember_35 : decode prog_12_method_22_code 35 = .ok (.getfield 41, 3) := by decide +kernel
theorem d_LinkAuditModel_ownMember_38 : decode prog_12_method_22_code 38 = .ok (.iload 6, 2) := by decide +kernel
theorem d_LinkAuditModel_ownMember_40 : decode prog_12_method_22_code 40 = .ok (.iaload, 1) := by decide +kernel
theorem d_LinkAuditModel_ownMember_41 : decode prog_12_method_22_code 41 = .ok (.iload_n 3, 1) := by decide +kernel
theorem d_LinkAuditModel_ownMember_42 : decode prog_12_method_22_code 42 = .ok (.if_icmp .ne 30, 3) := by decide +kernel
theorem d_LinkAuditModel_ownMember_45 : decode prog_12_method_22_code 45 = .ok (.aload_n 0, 1) := by decide +kernel
theorem d_LinkAuditModel_ownMember_46 : decode prog_12_method_22_code 46 = .ok (.getfield 44, 3) := by decide +kernel
theorem d_LinkAuditModel_ownMember_49 : decode prog_12_method_22_code 49 = .ok (.iload 6, 2) := by decide +kernel
theorem d_LinkAuditModel_ownMember_51 : decode prog_12_method_22_code 51 = .ok (.iaload, 1) := by decide +kernel
theorem d_LinkAuditModel_ownMember_52 : decode prog_12_method_22_code 52 = .ok (.iload 4, 2) := by decide +kernel
theorem d_LinkAuditModel_ownMember_54 : decode prog_12_method_22_code 54 = .ok (.if_icmp .ne 18, 3) := by decide +kernel
theorem d_LinkAuditModel_ownMember_57 : decode prog_12_method_22_code 57 = .ok (.aload_n 0, 1) := by decide +kernel
theorem d_LinkAuditModel_ownMember_58 : decode prog_12_method_22_code 58 = .ok (.getfield 47, 3) := by decide +kernel
theorem d_LinkAuditModel_ownMember_61 : decode prog_12_method_22_code 61 = .ok (.iload 6, 2) := by decide +kernel
theorem d_LinkAuditModel_ownMember_63 : decode prog_12_method_22_code 63 = .ok (.iaload, 1) := by decide +kernel
theorem d_LinkAuditModel_ownMember_64 : decode prog_12_method_22_code 64 = .ok (.iload 5, 2) := by decide +kernel
theorem d_LinkAuditModel_ownMember_66 : decode prog_12_method_22_code 66 = .ok (.if_icmp .ne 6, 3) := by decide +kernel
theorem d_LinkAuditModel_ownMember_69 : decode prog_12_method_22_code 69 = .ok (.iload 6, 2) := by decide +kernel
theorem d_LinkAuditModel_ownMember_71 : decode prog_12_method_22_code 71 = .ok (.ireturn, 1) := by decide +kernel
theorem d_LinkAuditModel_ownMember_72 : decode prog_12_method_22_code 72 = .ok (.iinc 6 1, 3) := by decide +kernel
theorem d_LinkAuditModel_ownMember_75 : decode prog_12_method_22_code 75 = .ok (.goto (-72), 3) := by decide +kernel
theorem d_LinkAuditModel_ownMember_78 : decode prog_12_method_22_code 78 = .ok (.iconst 0, 1) := by decide +kernel
theorem d_LinkAuditModel_ownMember_79 : decode prog_12_method_22_code 79 = .ok (.ireturn, 1) := by decide +kernel
theorem d_LinkAuditModel_findField_0 : decode prog_12_method_23_code 0 = .ok (.iconst 0, 1) := by decide +kernel
theorem d_LinkAuditModel_findField_1 : decode prog_12_method_23_code 1 = .ok (.istore 4, 2) := by decide +kernel
theorem d_LinkAuditModel_findField_3 : decode prog_12_method_23_code 3 = .ok (.iconst 1, 1) := by decide +kernel
theorem d_LinkAuditModel_findField_4 : decode prog_12_method_23_code 4 = .ok (.istore 5, 2) := by decide +kernel
theorem d_LinkAuditModel_findField_6 : decode prog_12_method_23_code 6 = .ok (.aload_n 0, 1) := by decide +kernel
theorem d_LinkAuditModel_findField_7 : decode prog_12_method_23_code 7 = .ok (.getfield 77, 3) := by decide +kernel
theorem d_LinkAuditModel_findField_10 : decode prog_12_method_23_code 10 = .ok (.iconst 0, 1) := by decide +kernel
theorem d_LinkAuditModel_findField_11 : decode prog_12_method_23_code 11 = .ok (.iload_n 1, 1) := by decide +kernel
theorem d_LinkAuditModel_findField_12 : decode prog_12_method_23_code 12 = .ok (.iastore, 1) := by decide +kernel
theorem d_LinkAuditModel_findField_13 : decode prog_12_method_23_code 13 = .ok (.iload 5, 2) := by decide +kernel
theorem d_LinkAuditModel_findField_15 : decode prog_12_method_23_code 15 = .ok (.ifCond .le 144, 3) := by decide +kernel
theorem d_LinkAuditModel_findField_18 : decode prog_12_method_23_code 18 = .ok (.iinc 5 (-1), 3) := by decide +kernel
theorem d_LinkAuditModel_findField_21 : decode prog_12_method_23_code 21 = .ok (.aload_n 0, 1) := by decide +kernel
theorem d_LinkAuditModel_findField_22 : decode prog_12_method_23_code 22 = .ok (.getfield 77, 3) := by decide +kernel
theorem d_LinkAuditModel_findField_25 : decode prog_12_method_23_code 25 = .ok (.iload 5, 2) := by decide +kernel
theorem d_LinkAuditModel_findField_27 : decode prog_12_method_23_code 27 = .ok (.iaload, 1) := by decide +kernel
theorem d_LinkAuditModel_findField_28 : decode prog_12_method_23_code 28 = .ok (.istore 6, 2) := by decide +kernel
theorem d_LinkAuditModel_findField_30 : decode prog_12_method_23_code 30 = .ok (.iload 4, 2) := by decide +kernel
theorem d_LinkAuditModel_findField_32 : decode prog_12_method_23_code 32 = .ok (.iload 6, 2) := by decide +kernel
theorem d_LinkAuditModel_findField_34 : decode prog_12_method_23_code 34 = .ok (.ishr, 1) := by decide +kernel
theorem d_LinkAuditModel_findField_35 : decode prog_12_method_23_code 35 = .ok (.iconst 1, 1) := by decide +kernel
theorem d_LinkAuditModel_findField_36 : decode prog_12_method_23_code 36 = .ok (.iand, 1) := by decide +kernel
theorem d_LinkAuditModel_findField_37 : decode prog_12_method_23_code 37 = .ok (.ifCond .eq 6, 3) := by decide +kernel
theorem d_LinkAuditModel_findField_40 : decode prog_12_method_23_code 40 = .ok (.goto (-27), 3) := by decide +kernel
theorem d_LinkAuditModel_findField_43 : decode prog_12_method_23_code 43 = .ok (.iload 4, 2) := by decide +kernel
theorem d_LinkAuditModel_findField_45 : decode prog_12_method_23_code 45 = .ok (.iconst 1, 1) := by decide +kernel
theorem d_LinkAuditModel_findField_46 : decode prog_12_method_23_code 46 = .ok (.iload 6, 2) := by decide +kernel
theorem d_LinkAuditModel_findField_48 : decode prog_12_method_23_code 48 = .ok (.ishl, 1) := by decide +kernel
theorem d_LinkAuditModel_findField_49 : decode prog_12_method_23_code 49 = .ok (.ior, 1) := by decide +kernel
theorem d_LinkAuditModel_findField_50 : decode prog_12_method_23_code 50 = .ok (.istore 4, 2) := by decide +kernel
theorem d_LinkAuditModel_findField_52 : decode prog_12_method_23_code 52 = .ok (.aload_n 0, 1) := by decide +kernel
theorem d_LinkAuditModel_findField_53 : decode prog_12_method_23_code 53 = .ok (.iload 6, 2) := by decide +kernel
theorem d_LinkAuditModel_findField_55 : decode prog_12_method_23_code 55 = .ok (.iconst 0, 1) := by decide +kernel
theorem d_LinkAuditModel_findField_56 : decode prog_12_method_23_code 56 = .ok (.iload_n 2, 1) := by decide +kernel
theorem d_LinkAuditModel_findField_57 : decode prog_12_method_23_code 57 = .ok (.iload_n 3, 1) := by decide +kernel
theorem d_LinkAuditModel_findField_58 : decode prog_12_method_23_code 58 = .ok (.bipush 12, 2) := by decide +kernel
theorem d_LinkAuditModel_findField_60 : decode prog_12_method_23_code 60 = .ok (.invokevirtual 142, 3) := by decide +kernel
theorem d_LinkAuditModel_findField_63 : decode prog_12_method_23_code 63 = .ok (.istore 7, 2) := by decide +kernel
theorem d_LinkAuditModel_findField_65 : decode prog_12_method_23_code 65 = .ok (.iload 7, 2) := by decide +kernel
theorem d_LinkAuditModel_findField_67 : decode prog_12_method_23_code 67 = .ok (.ifCond .le 6, 3) := by decide +kernel
theorem d_LinkAuditModel_findField_70 : decode prog_12_method_23_code 70 = .ok (.iload 7, 2) := by decide +kernel
theorem d_LinkAuditModel_findField_72 : decode prog_12_method_23_code 72 = .ok (.ireturn, 1) := by decide +kernel
theorem d_LinkAuditModel_findField_73 : decode prog_12_method_23_code 73 = .ok (.aload_n 0, 1) := by decide +kernel
theorem d_LinkAuditModel_findField_74 : decode prog_12_method_23_code 74 = .ok (.getfield 59, 3) := by decide +kernel
theorem d_LinkAuditModel_findField_77 : decode prog_12_method_23_code 77 = .ok (.iload 6, 2) := by decide +kernel
theorem d_LinkAuditModel_findField_79 : decode prog_12_method_23_code 79 = .ok (.iaload, 1) := by decide +kernel
theorem d_LinkAuditModel_findField_80 : decode prog_12_method_23_code 80 = .ok (.ifCond .le 20, 3) := by decide +kernel
theorem d_LinkAuditModel_findField_83 : decode prog_12_method_23_code 83 = .ok (.aload_n 0, 1) := by decide +kernel
theorem d_LinkAuditModel_findField_84 : decode prog_12_method_23_code 84 = .ok (.getfield 77, 3) := by decide +kernel
theorem d_LinkAuditModel_findField_87 : decode prog_12_method_23_code 87 = .ok (.iload 5, 2) := by decide +kernel
theorem d_LinkAuditModel_findField_89 : decode prog_12_method_23_code 89 = .ok (.aload_n 0, 1) := by decide +kernel
theorem d_LinkAuditModel_findField_90 : decode prog_12_method_23_code 90 = .ok (.getfield 59, 3) := by decide +kernel
theorem d_LinkAuditModel_findField_93 : decode prog_12_method_23_code 93 = .ok (.iload 6, 2) := by decide +kernel
theorem d_LinkAuditModel_findField_95 : decode prog_12_method_23_code 95 = .ok (.iaload, 1) := by decide +kernel
theorem d_LinkAuditModel_findField_96 : decode prog_12_method_23_code 96 = .ok (.iastore, 1) := by decide +kernel
theorem d_LinkAuditModel_findField_97 : decode prog_12_method_23_code 97 = .ok (.iinc 5 1, 3) := by decide +kernel
theorem d_LinkAuditModel_findField_100 : decode prog_12_method_23_code 100 = .ok (.bipush 11, 2) := by decide +kernel
theorem d_LinkAuditModel_findField_102 : decode prog_12_method_23_code 102 = .ok (.istore 8, 2) := by decide +kernel
theorem d_LinkAuditModel_findField_104 : decode prog_12_method_23_code 104 = .ok (.iload 8, 2) := by decide +kernel
theorem d_LinkAuditModel_findField_106 : decode prog_12_method_23_code 106 = .ok (.ifCond .lt 50, 3) := by decide +kernel
theorem d_LinkAuditModel_findField_109 : decode prog_12_method_23_code 109 = .ok (.aload_n 0, 1) := by decide +kernel
theorem d_LinkAuditModel_findField_110 : decode prog_12_method_23_code 110 = .ok (.getfield 31, 3) := by decide +kernel
theorem d_LinkAuditModel_findField_113 : decode prog_12_method_23_code 113 = .ok (.iload 6, 2) := by decide +kernel
theorem d_LinkAuditModel_findField_115 : decode prog_12_method_23_code 115 = .ok (.iaload, 1) := by decide +kernel
theorem d_LinkAuditModel_findField_116 : decode prog_12_method_23_code 116 = .ok (.iload 8, 2) := by decide +kernel
theorem d_LinkAuditModel_findField_118 : decode prog_12_method_23_code 118 = .ok (.ishr, 1) := by decide +kernel
theorem d_LinkAuditModel_findField_119 : decode prog_12_method_23_code 119 = .ok (.iconst 1, 1) := by decide +kernel
theorem d_LinkAuditModel_findField_120 : decode prog_12_method_23_code 120 = .ok (.iand, 1) := by decide +kernel
theorem d_LinkAuditModel_findField_121 : decode prog_12_method_23_code 121 = .ok (.ifCond .ne 6, 3) := by decide +kernel
theorem d_LinkAuditModel_findField_124 : decode prog_12_method_23_code 124 = .ok (.goto 26, 3) := by decide +kernel
theorem d_LinkAuditModel_findField_127 : decode prog_12_method_23_code 127 = .ok (.aload_n 0, 1) := by decide +kernel
theorem d_LinkAuditModel_findField_128 : decode prog_12_method_23_code 128 = .ok (.getfield 77, 3) := by decide +kernel
theorem d_LinkAuditModel_findField_131 : decode prog_12_method_23_code 131 = .ok (.iload 5, 2) := by decide +kernel
theorem d_LinkAuditModel_findField_133 : decode prog_12_method_23_code 133 = .ok (.aload_n 0, 1) := by decide +kernel
theorem d_LinkAuditModel_findField_134 : decode prog_12_method_23_code 134 = .ok (.aload_n 0, 1) := by decide +kernel
theorem d_LinkAuditModel_findField_135 : decode prog_12_method_23_code 135 = .ok (.getfield 19, 3) := by decide +kernel
theorem d_LinkAuditModel_findField_138 : decode prog_12_method_23_code 138 = .ok (.iload 6, 2) := by decide +kernel
theorem d_LinkAuditModel_findField_140 : decode prog_12_method_23_code 140 = .ok (.iaload, 1) := by decide +kernel
theorem d_LinkAuditModel_findField_141 : decode prog_12_method_23_code 141 = .ok (.iload 8, 2) := by decide +kernel
theorem d_LinkAuditModel_findField_143 : decode prog_12_method_23_code 143 = .ok (.invokevirtual 132, 3) := by decide +kernel
theorem d_LinkAuditModel_findField_146 : decode prog_12_method_23_code 146 = .ok (.iastore, 1) := by decide +kernel
theorem d_LinkAuditModel_findField_147 : decode prog_12_method_23_code 147 = .ok (.iinc 5 1, 3) := by decide +kernel
theorem d_LinkAuditModel_findField_150 : decode prog_12_method_23_code 150 = .ok (.iinc 8 (-1), 3) := by decide +kernel
theorem d_LinkAuditModel_findField_153 : decode prog_12_method_23_code 153 = .ok (.goto (-49), 3) := by decide +kernel
theorem d_LinkAuditModel_findField_156 : decode prog_12_method_23_code 156 = .ok (.goto (-143), 3) := by decide +kernel
theorem d_LinkAuditModel_findField_159 : decode prog_12_method_23_code 159 = .ok (.iconst 0, 1) := by decide +kernel
theorem d_LinkAuditModel_findField_160 : decode prog_12_method_23_code 160 = .ok (.ireturn, 1) := by decide +kernel
theorem d_LinkAuditModel_hasFace_0 : decode prog_12_method_20_code 0 = .ok (.aload_n 0, 1) := by decide +kernel
theorem d_LinkAuditModel_hasFace_1 : decode prog_12_method_20_code 1 = .ok (.getfield 68, 3) := by decide +kernel
theorem d_LinkAuditModel_hasFace_4 : decode prog_12_method_20_code 4 = .ok (.iload_n 1, 1) := by decide +kernel
theorem d_LinkAuditModel_hasFace_5 : decode prog_12_method_20_code 5 = .ok (.iaload, 1) := by decide +kernel
theorem d_LinkAuditModel_hasFace_6 : decode prog_12_method_20_code 6 = .ok (.iload_n 2, 1) := by decide +kernel
theorem d_LinkAuditModel_hasFace_7 : decode prog_12_method_20_code 7 = .ok (.ishr, 1) := by decide +kernel
theorem d_LinkAuditModel_hasFace_8 : decode prog_12_method_20_code 8 = .ok (.iconst 1, 1) := by decide +kernel
theorem d_LinkAuditModel_hasFace_9 : decode prog_12_method_20_code 9 = .ok (.iand, 1) := by decide +kernel
theorem d_LinkAuditModel_hasFace_10 : decode prog_12_method_20_code 10 = .ok (.ifCond .eq 7, 3) := by decide +kernel
theorem d_LinkAuditModel_hasFace_13 : decode prog_12_method_20_code 13 = .ok (.iconst 1, 1) := by decide +kernel
theorem d_LinkAuditModel_hasFace_14 : decode prog_12_method_20_code 14 = .ok (.goto 4, 3) := by decide +kernel
theorem d_LinkAuditModel_hasFace_17 : decode prog_12_method_20_code 17 = .ok (.iconst 0, 1) := by decide +kernel
theorem d_LinkAuditModel_hasFace_18 : decode prog_12_method_20_code 18 = .ok (.ireturn, 1) := by decide +kernel
theorem d_LinkAuditModel_counts_0 : decode prog_12_method_24_code 0 = .ok (.aload_n 0, 1) := by decide +kernel
theorem d_LinkAuditModel_counts_1 : decode prog_12_method_24_code 1 = .ok (.getfield 37, 3) := by decide +kernel
theorem d_LinkAuditModel_counts_4 : decode prog_12_method_24_code 4 = .ok (.iload_n 2, 1) := by decide +kernel
theorem d_LinkAuditModel_counts_5 : decode prog_12_method_24_code 5 = .ok (.baload, 1) := by decide +kernel
theorem d_LinkAuditModel_counts_6 : decode prog_12_method_24_code 6 = .ok (.ifCond .eq 39, 3) := by decide +kernel
theorem d_LinkAuditModel_counts_9 : decode prog_12_method_24_code 9 = .ok (.aload_n 0, 1) := by decide +kernel
theorem d_LinkAuditModel_counts_10 : decode prog_12_method_24_code 10 = .ok (.getfield 41, 3) := by decide +kernel
theorem d_LinkAuditModel_counts_13 : decode prog_12_method_24_code 13 = .ok (.iload_n 2, 1) := by decide +kernel
theorem d_LinkAuditModel_counts_14 : decode prog_12_method_24_code 14 = .ok (.iaload, 1) := by decide +kernel
theorem d_LinkAuditModel_counts_15 : decode prog_12_method_24_code 15 = .ok (.iload_n 3, 1) := by decide +kernel
theorem d_LinkAuditModel_counts_16 : decode prog_12_method_24_code 16 = .ok (.if_icmp .ne 29, 3) := by decide +kernel
theorem d_LinkAuditModel_counts_19 : decode prog_12_method_24_code 19 = .ok (.aload_n 0, 1) := by decide +kernel
theorem d_LinkAuditModel_counts_20 : decode prog_12_method_24_code 20 = .ok (.getfield 44, 3) := by decide +kernel
theorem d_LinkAuditModel_counts_23 : decode prog_12_method_24_code 23 = .ok (.iload_n 2, 1) := by decide +kernel
theorem d_LinkAuditModel_counts_24 : decode prog_12_method_24_code 24 = .ok (.iaload, 1) := by decide +kernel
theorem d_LinkAuditModel_counts_25 : decode prog_12_method_24_code 25 = .ok (.iload 4, 2) := by decide +kernel
theorem d_LinkAuditModel_counts_27 : decode prog_12_method_24_code 27 = .ok (.if_icmp .ne 18, 3) := by decide +kernel
theorem d_LinkAuditModel_counts_30 : decode prog_12_method_24_code 30 = .ok (.aload_n 0, 1) := by decide +kernel
theorem d_LinkAuditModel_counts_31 : decode prog_12_method_24_code 31 = .ok (.getfield 47, 3) := by decide +kernel
theorem d_LinkAuditModel_counts_34 : decode prog_12_method_24_code 34 = .ok (.iload_n 2, 1) := by decide +kernel
theorem d_LinkAuditModel_counts_35 : decode prog_12_method_24_code 35 = .ok (.iaload, 1) := by decide +kernel
theorem d_LinkAuditModel_counts_36 : decode prog_12_method_24_code 36 = .ok (.iload 5, 2) := by decide +kernel
theorem d_LinkAuditModel_counts_38 : decode prog_12_method_24_code 38 = .ok (.if_icmp .ne 7, 3) := by decide +kernel
theorem d_LinkAuditModel_counts_41 : decode prog_12_method_24_code 41 = .ok (.iconst 1, 1) := by decide +kernel
theorem d_LinkAuditModel_counts_42 : decode prog_12_method_24_code 42 = .ok (.goto 4, 3) := by decide +kernel
theorem d_LinkAuditModel_counts_45 : decode prog_12_method_24_code 45 = .ok (.iconst 0, 1) := by decide +kernel
theorem d_LinkAuditModel_counts_46 : decode prog_12_method_24_code 46 = .ok (.istore 6, 2) := by decide +kernel
theorem d_LinkAuditModel_counts_48 : decode prog_12_method_24_code 48 = .ok (.iload 6, 2) := by decide +kernel
theorem d_LinkAuditModel_counts_50 : decode prog_12_method_24_code 50 = .ok (.ifCond .eq 44, 3) := by decide +kernel
theorem d_LinkAuditModel_counts_53 : decode prog_12_method_24_code 53 = .ok (.aload_n 0, 1) := by decide +kernel
theorem d_LinkAuditModel_counts_54 : decode prog_12_method_24_code 54 = .ok (.iload_n 1, 1) := by decide +kernel
theorem d_LinkAuditModel_counts_55 : decode prog_12_method_24_code 55 = .ok (.aload_n 0, 1) := by decide +kernel
theorem d_LinkAuditModel_counts_56 : decode prog_12_method_24_code 56 = .ok (.getfield 34, 3) := by decide +kernel
theorem d_LinkAuditModel_counts_59 : decode prog_12_method_24_code 59 = .ok (.iload_n 2, 1) := by decide +kernel
theorem d_LinkAuditModel_counts_60 : decode prog_12_method_24_code 60 = .ok (.iaload, 1) := by decide +kernel
theorem d_LinkAuditModel_counts_61 : decode prog_12_method_24_code 61 = .ok (.invokevirtual 146, 3) := by decide +kernel
theorem d_LinkAuditModel_counts_64 : decode prog_12_method_24_code 64 = .ok (.ifCond .eq 30, 3) := by decide +kernel
theorem d_LinkAuditModel_counts_67 : decode prog_12_method_24_code 67 = .ok (.aload_n 0, 1) := by decide +kernel
theorem d_LinkAuditModel_counts_68 : decode prog_12_method_24_code 68 = .ok (.getfield 50, 3) := by decide +kernel
theorem d_LinkAuditModel_counts_71 : decode prog_12_method_24_code 71 = .ok (.iload_n 2, 1) := by decide +kernel
theorem d_LinkAuditModel_counts_72 : decode prog_12_method_24_code 72 = .ok (.iaload, 1) := by decide +kernel
theorem d_LinkAuditModel_counts_73 : decode prog_12_method_24_code 73 = .ok (.iconst 3, 1) := by decide +kernel
theorem d_LinkAuditModel_counts_74 : decode prog_12_method_24_code 74 = .ok (.iand, 1) := by decide +kernel
theorem d_LinkAuditModel_counts_75 : decode prog_12_method_24_code 75 = .ok (.iconst 3, 1) := by decide +kernel
theorem d_LinkAuditModel_counts_76 : decode prog_12_method_24_code 76 = .ok (.if_icmp .eq 18, 3) := by decide +kernel
theorem d_LinkAuditModel_counts_79 : decode prog_12_method_24_code 79 = .ok (.aload_n 0, 1) := by decide +kernel
theorem d_LinkAuditModel_counts_80 : decode prog_12_method_24_code 80 = .ok (.getfield 50, 3) := by decide +kernel
theorem d_LinkAuditModel_counts_83 : decode prog_12_method_24_code 83 = .ok (.iload_n 2, 1) := by decide +kernel
theorem d_LinkAuditModel_counts_84 : decode prog_12_method_24_code 84 = .ok (.iaload, 1) := by decide +kernel
theorem d_LinkAuditModel_counts_85 : decode prog_12_method_24_code 85 = .ok (.iconst 4, 1) := by decide +kernel
theorem d_LinkAuditModel_counts_86 : decode prog_12_method_24_code 86 = .ok (.iand, 1) := by decide +kernel
theorem d_LinkAuditModel_counts_87 : decode prog_12_method_24_code 87 = .ok (.ifCond .ne 7, 3) := by decide +kernel
theorem d_LinkAuditModel_counts_90 : decode prog_12_method_24_code 90 = .ok (.iconst 1, 1) := by decide +kernel
theorem d_LinkAuditModel_counts_91 : decode prog_12_method_24_code 91 = .ok (.goto 4, 3) := by decide +kernel
theorem d_LinkAuditModel_counts_94 : decode prog_12_method_24_code 94 = .ok (.iconst 0, 1) := by decide +kernel
theorem d_LinkAuditModel_counts_95 : decode prog_12_method_24_code 95 = .ok (.ireturn, 1) := by decide +kernel
theorem d_LinkAuditModel_mostSpecific_0 : decode prog_12_method_25_code 0 = .ok (.iconst 1, 1) := by decide +kernel
theorem d_LinkAuditModel_mostSpecific_1 : decode prog_12_method_25_code 1 = .ok (.istore 6, 2) := by decide +kernel
theorem d_LinkAuditModel_mostSpecific_3 : decode prog_12_method_25_code 3 = .ok (.iload 6, 2) := by decide +kernel
theorem d_LinkAuditModel_mostSpecific_5 : decode prog_12_method_25_code 5 = .ok (.aload_n 0, 1) := by decide +kernel
theorem d_LinkAuditModel_mostSpecific_6 : decode prog_12_method_25_code 6 = .ok (.getfield 104, 3) := by decide +kernel
theorem d_LinkAuditModel_mostSpecific_9 : decode prog_12_method_25_code 9 = .ok (.if_icmp .gt 52, 3) := by decide +kernel
theorem d_LinkAuditModel_mostSpecific_12 : decode prog_12_method_25_code 12 = .ok (.iload 6, 2) := by decide +kernel
theorem d_LinkAuditModel_mostSpecific_14 : decode prog_12_method_25_code 14 = .ok (.iload_n 2, 1) := by decide +kernel
theorem d_LinkAuditModel_mostSpecific_15 : decode prog_12_method_25_code 15 = .ok (.if_icmp .eq 40, 3) := by decide +kernel
theorem d_LinkAuditModel_mostSpecific_18 : decode prog_12_method_25_code 18 = .ok (.aload_n 0, 1) := by decide +kernel
theorem d_LinkAuditModel_mostSpecific_19 : decode prog_12_method_25_code 19 = .ok (.iload_n 1, 1) := by decide +kernel
theorem d_LinkAuditModel_mostSpecific_20 : decode prog_12_method_25_code 20 = .ok (.iload 6, 2) := by decide +kernel
theorem d_LinkAuditModel_mostSpecific_22 : decode prog_12_method_25_code 22 = .ok (.iload_n 3, 1) := by decide +kernel
theorem d_LinkAuditModel_mostSpecific_23 : decode prog_12_method_25_code 23 = .ok (.iload 4, 2) := by decide +kernel
theorem d_LinkAuditModel_mostSpecific_25 : decode prog_12_method_25_code 25 = .ok (.iload 5, 2) := by decide +kernel
theorem d_LinkAuditModel_mostSpecific_27 : decode prog_12_method_25_code 27 = .ok (.invokevirtual 149, 3) := by decide +kernel
theorem d_LinkAuditModel_mostSpecific_30 : decode prog_12_method_25_code 30 = .ok (.ifCond .eq 25, 3) := by decide +kernel
theorem d_LinkAuditModel_mostSpecific_33 : decode prog_12_method_25_code 33 = .ok (.aload_n 0, 1) := by decide +kernel
theorem d_LinkAuditModel_mostSpecific_34 : decode prog_12_method_25_code 34 = .ok (.aload_n 0, 1) := by decide +kernel
theorem d_LinkAuditModel_mostSpecific_35 : decode prog_12_method_25_code 35 = .ok (.getfield 34, 3) := by decide +kernel
theorem d_LinkAuditModel_mostSpecific_38 : decode prog_12_method_25_code 38 = .ok (.iload 6, 2) := by decide +kernel
theorem d_LinkAuditModel_mostSpecific_40 : decode prog_12_method_25_code 40 = .ok (.iaload, 1) := by decide +kernel
theorem d_LinkAuditModel_mostSpecific_41 : decode prog_12_method_25_code 41 = .ok (.aload_n 0, 1) := by decide +kernel
theorem d_LinkAuditModel_mostSpecific_42 : decode prog_12_method_25_code 42 = .ok (.getfield 34, 3) := by decide +kernel
theorem d_LinkAuditModel_mostSpecific_45 : decode prog_12_method_25_code 45 = .ok (.iload_n 2, 1) := by decide +kernel
theorem d_LinkAuditModel_mostSpecific_46 : decode prog_12_method_25_code 46 = .ok (.iaload, 1) := by decide +kernel
theorem d_LinkAuditModel_mostSpecific_47 : decode prog_12_method_25_code 47 = .ok (.invokevirtual 146, 3) := by decide +kernel
theorem d_LinkAuditModel_mostSpecific_50 : decode prog_12_method_25_code 50 = .ok (.ifCond .eq 5, 3) := by decide +kernel
theorem d_LinkAuditModel_mostSpecific_53 : decode prog_12_method_25_code 53 = .ok (.iconst 0, 1) := by decide +kernel
theorem d_LinkAuditModel_mostSpecific_54 : decode prog_12_method_25_code 54 = .ok (.ireturn, 1) := by decide +kernel
theorem d_LinkAuditModel_mostSpecific_55 : decode prog_12_method_25_code 55 = .ok (.iinc 6 1, 3) := by decide +kernel
theorem d_LinkAuditModel_mostSpecific_58 : decode prog_12_method_25_code 58 = .ok (.goto (-55), 3) := by decide +kernel
theorem d_LinkAuditModel_mostSpecific_61 : decode prog_12_method_25_code 61 = .ok (.iconst 1, 1) := by decide +kernel
theorem d_LinkAuditModel_mostSpecific_62 : decode prog_12_method_25_code 62 = .ok (.ireturn, 1) := by decide +kernel
theorem d_LinkAuditModel_specificBody_0 : decode prog_12_method_26_code 0 = .ok (.iconst 0, 1) := by decide +kernel
theorem d_LinkAuditModel_specificBody_1 : decode prog_12_method_26_code 1 = .ok (.istore 5, 2) := by decide +kernel
theorem d_LinkAuditModel_specificBody_3 : decode prog_12_method_26_code 3 = .ok (.iconst 1, 1) := by decide +kernel
theorem d_LinkAuditModel_specificBody_4 : decode prog_12_method_26_code 4 = .ok (.istore 6, 2) := by decide +kernel
theorem d_LinkAuditModel_specificBody_6 : decode prog_12_method_26_code 6 = .ok (.iload 6, 2) := by decide +kernel
theorem d_LinkAuditModel_specificBody_8 : decode prog_12_method_26_code 8 = .ok (.aload_n 0, 1) := by decide +kernel
theorem d_LinkAuditModel_specificBody_9 : decode prog_12_method_26_code 9 = .ok (.getfield 104, 3) := by decide +kernel
theorem d_LinkAuditModel_specificBody_12 : decode prog_12_method_26_code 12 = .ok (.if_icmp .gt 66, 3) := by decide +kernel
theorem d_LinkAuditModel_specificBody_15 : decode prog_12_method_26_code 15 = .ok (.aload_n 0, 1) := by decide +kernel
theorem d_LinkAuditModel_specificBody_16 : decode prog_12_method_26_code 16 = .ok (.iload_n 1, 1) := by decide +kernel
theorem d_LinkAuditModel_specificBody_17 : decode prog_12_method_26_code 17 = .ok (.iload 6, 2) := by decide +kernel
theorem d_LinkAuditModel_specificBody_19 : decode prog_12_method_26_code 19 = .ok (.iload_n 2, 1) := by decide +kernel
theorem d_LinkAuditModel_specificBody_20 : decode prog_12_method_26_code 20 = .ok (.iload_n 3, 1) := by decide +kernel
theorem d_LinkAuditModel_specificBody_21 : decode prog_12_method_26_code 21 = .ok (.iload 4, 2) := by decide +kernel
theorem d_LinkAuditModel_specificBody_23 : decode prog_12_method_26_code 23 = .ok (.invokevirtual 149, 3) := by decide +kernel
theorem d_LinkAuditModel_specificBody_26 : decode prog_12_method_26_code 26 = .ok (.ifCond .eq 46, 3) := by decide +kernel
theorem d_LinkAuditModel_specificBody_29 : decode prog_12_method_26_code 29 = .ok (.aload_n 0, 1) := by decide +kernel
theorem d_LinkAuditModel_specificBody_30 : decode prog_12_method_26_code 30 = .ok (.iload_n 1, 1) := by decide +kernel
theorem d_LinkAuditModel_specificBody_31 : decode prog_12_method_26_code 31 = .ok (.iload 6, 2) := by decide +kernel
theorem d_LinkAuditModel_specificBody_33 : decode prog_12_method_26_code 33 = .ok (.iload_n 2, 1) := by decide +kernel
theorem d_LinkAuditModel_specificBody_34 : decode prog_12_method_26_code 34 = .ok (.iload_n 3, 1) := by decide +kernel
theorem d_LinkAuditModel_specificBody_35 : decode prog_12_method_26_code 35 = .ok (.iload 4, 2) := by decide +kernel
theorem d_LinkAuditModel_specificBody_37 : decode prog_12_method_26_code 37 = .ok (.invokevirtual 153, 3) := by decide +kernel
theorem d_LinkAuditModel_specificBody_40 : decode prog_12_method_26_code 40 = .ok (.ifCond .eq 32, 3) := by decide +kernel
theorem d_LinkAuditModel_specificBody_43 : decode prog_12_method_26_code 43 = .ok (.aload_n 0, 1) := by decide +kernel
theorem d_LinkAuditModel_specificBody_44 : decode prog_12_method_26_code 44 = .ok (.getfield 50, 3) := by decide +kernel
theorem d_LinkAuditModel_specificBody_47 : decode prog_12_method_26_code 47 = .ok (.iload 6, 2) := by decide +kernel
theorem d_LinkAuditModel_specificBody_49 : decode prog_12_method_26_code 49 = .ok (.iaload, 1) := by decide +kernel
theorem d_LinkAuditModel_specificBody_50 : decode prog_12_method_26_code 50 = .ok (.bipush 8, 2) := by decide +kernel
theorem d_LinkAuditModel_specificBody_52 : decode prog_12_method_26_code 52 = .ok (.iand, 1) := by decide +kernel
theorem d_LinkAuditModel_specificBody_53 : decode prog_12_method_26_code 53 = .ok (.ifCond .eq 6, 3) := by decide +kernel
theorem d_LinkAuditModel_specificBody_56 : decode prog_12_method_26_code 56 = .ok (.goto 16, 3) := by decide +kernel
theorem d_LinkAuditModel_specificBody_59 : decode prog_12_method_26_code 59 = .ok (.iload 5, 2) := by decide +kernel
theorem d_LinkAuditModel_specificBody_61 : decode prog_12_method_26_code 61 = .ok (.ifCond .ne 8, 3) := by decide +kernel
theorem d_LinkAuditModel_specificBody_64 : decode prog_12_method_26_code 64 = .ok (.iload 6, 2) := by decide +kernel
theorem d_LinkAuditModel_specificBody_66 : decode prog_12_method_26_code 66 = .ok (.goto 4, 3) := by decide +kernel
theorem d_LinkAuditModel_specificBody_69 : decode prog_12_method_26_code 69 = .ok (.iconst (-1), 1) := by decide +kernel
theorem d_LinkAuditModel_specificBody_70 : decode prog_12_method_26_code 70 = .ok (.istore 5, 2) := by decide +kernel
theorem d_LinkAuditModel_specificBody_72 : decode prog_12_method_26_code 72 = .ok (.iinc 6 1, 3) := by decide +kernel
theorem d_LinkAuditModel_specificBody_75 : decode prog_12_method_26_code 75 = .ok (.goto (-69), 3) := by decide +kernel
theorem d_LinkAuditModel_specificBody_78 : decode prog_12_method_26_code 78 = .ok (.iload 5, 2) := by decide +kernel
theorem d_LinkAuditModel_specificBody_80 : decode prog_12_method_26_code 80 = .ok (.ireturn, 1) := by decide +kernel
theorem d_LinkAuditModel_findMethod_0 : decode prog_12_method_27_code 0 = .ok (.iload_n 1, 1) := by decide +kernel
theorem d_LinkAuditModel_findMethod_1 : decode prog_12_method_27_code 1 = .ok (.istore 5, 2) := by decide +kernel
theorem d_LinkAuditModel_findMethod_3 : decode prog_12_method_27_code 3 = .ok (.iload 5, 2) := by decide +kernel
theorem d_LinkAuditModel_findMethod_5 : decode prog_12_method_27_code 5 = .ok (.ifCond .le 36, 3) := by decide +kernel
theorem d_LinkAuditModel_findMethod_8 : decode prog_12_method_27_code 8 = .ok (.aload_n 0, 1) := by decide +kernel
theorem d_LinkAuditModel_findMethod_9 : decode prog_12_method_27_code 9 = .ok (.iload 5, 2) := by decide +kernel
theorem d_LinkAuditModel_findMethod_11 : decode prog_12_method_27_code 11 = .ok (.iconst 1, 1) := by decide +kernel
theorem d_LinkAuditModel_findMethod_12 : decode prog_12_method_27_code 12 = .ok (.iload_n 2, 1) := by decide +kernel
theorem d_LinkAuditModel_findMethod_13 : decode prog_12_method_27_code 13 = .ok (.iload_n 3, 1) := by decide +kernel
theorem d_LinkAuditModel_findMethod_14 : decode prog_12_method_27_code 14 = .ok (.iload 4, 2) := by decide +kernel
theorem d_LinkAuditModel_findMethod_16 : decode prog_12_method_27_code 16 = .ok (.invokevirtual 142, 3) := by decide +kernel
theorem d_LinkAuditModel_findMethod_19 : decode prog_12_method_27_code 19 = .ok (.istore 6, 2) := by decide +kernel
theorem d_LinkAuditModel_findMethod_21 : decode prog_12_method_27_code 21 = .ok (.iload 6, 2) := by decide +kernel
theorem d_LinkAuditModel_findMethod_23 : decode prog_12_method_27_code 23 = .ok (.ifCond .le 6, 3) := by decide +kernel
theorem d_LinkAuditModel_findMethod_26 : decode prog_12_method_27_code 26 = .ok (.iload 6, 2) := by decide +kernel
theorem d_LinkAuditModel_findMethod_28 : decode prog_12_method_27_code 28 = .ok (.ireturn, 1) := by decide +kernel
theorem d_LinkAuditModel_findMethod_29 : decode prog_12_method_27_code 29 = .ok (.aload_n 0, 1) := by decide +kernel
theorem d_LinkAuditModel_findMethod_30 : decode prog_12_method_27_code 30 = .ok (.getfield 59, 3) := by decide +kernel
theorem d_LinkAuditModel_findMethod_33 : decode prog_12_method_27_code 33 = .ok (.iload 5, 2) := by decide +kernel
theorem d_LinkAuditModel_findMethod_35 : decode prog_12_method_27_code 35 = .ok (.iaload, 1) := by decide +kernel
theorem d_LinkAuditModel_findMethod_36 : decode prog_12_method_27_code 36 = .ok (.istore 5, 2) := by decide +kernel
theorem d_LinkAuditModel_findMethod_38 : decode prog_12_method_27_code 38 = .ok (.goto (-35), 3) := by decide +kernel
theorem d_LinkAuditModel_findMethod_41 : decode prog_12_method_27_code 41 = .ok (.aload_n 0, 1) := by decide +kernel
theorem d_LinkAuditModel_findMethod_42 : decode prog_12_method_27_code 42 = .ok (.iload_n 1, 1) := by decide +kernel
theorem d_LinkAuditModel_findMethod_43 : decode prog_12_method_27_code 43 = .ok (.iload_n 2, 1) := by decide +kernel
theorem d_LinkAuditModel_findMethod_44 : decode prog_12_method_27_code 44 = .ok (.iload_n 3, 1) := by decide +kernel
theorem d_LinkAuditModel_findMethod_45 : decode prog_12_method_27_code 45 = .ok (.iload 4, 2) := by decide +kernel
theorem d_LinkAuditModel_findMethod_47 : decode prog_12_method_27_code 47 = .ok (.invokevirtual 156, 3) := by decide +kernel
theorem d_LinkAuditModel_findMethod_50 : decode prog_12_method_27_code 50 = .ok (.istore 6, 2) := by decide +kernel
theorem d_LinkAuditModel_findMethod_52 : decode prog_12_method_27_code 52 = .ok (.iload 6, 2) := by decide +kernel
theorem d_LinkAuditModel_findMethod_54 : decode prog_12_method_27_code 54 = .ok (.ifCond .le 6, 3) := by decide +kernel
theorem d_LinkAuditModel_findMethod_57 : decode prog_12_method_27_code 57 = .ok (.iload 6, 2) := by decide +kernel
theorem d_LinkAuditModel_findMethod_59 : decode prog_12_method_27_code 59 = .ok (.ireturn, 1) := by decide +kernel
theorem d_LinkAuditModel_findMethod_60 : decode prog_12_method_27_code 60 = .ok (.iconst 1, 1) := by decide +kernel
theorem d_LinkAuditModel_findMethod_61 : decode prog_12_method_27_code 61 = .ok (.istore 7, 2) := by decide +kernel
theorem d_LinkAuditModel_findMethod_63 : decode prog_12_method_27_code 63 = .ok (.iload 7, 2) := by decide +kernel
theorem d_LinkAuditModel_findMethod_65 : decode prog_12_method_27_code 65 = .ok (.aload_n 0, 1) := by decide +kernel
theorem d_LinkAuditModel_findMethod_66 : decode prog_12_method_27_code 66 = .ok (.getfield 104, 3) := by decide +kernel
theorem d_LinkAuditModel_findMethod_69 : decode prog_12_method_27_code 69 = .ok (.if_icmp .gt 26, 3) := by decide +kernel
theorem d_LinkAuditModel_findMethod_72 : decode prog_12_method_27_code 72 = .ok (.aload_n 0, 1) := by decide +kernel
theorem d_LinkAuditModel_findMethod_73 : decode prog_12_method_27_code 73 = .ok (.iload_n 1, 1) := by decide +kernel
theorem d_LinkAuditModel_findMethod_74 : decode prog_12_method_27_code 74 = .ok (.iload 7, 2) := by decide +kernel
theorem d_LinkAuditModel_findMethod_76 : decode prog_12_method_27_code 76 = .ok (.iload_n 2, 1) := by decide +kernel
theorem d_LinkAuditModel_findMethod_77 : decode prog_12_method_27_code 77 = .ok (.iload_n 3, 1) := by decide +kernel
theorem d_LinkAuditModel_findMethod_78 : decode prog_12_method_27_code 78 = .ok (.iload 4, 2) := by decide +kernel
theorem d_LinkAuditModel_findMethod_80 : decode prog_12_method_27_code 80 = .ok (.invokevirtual 149, 3) := by decide +kernel
theorem d_LinkAuditModel_findMethod_83 : decode prog_12_method_27_code 83 = .ok (.ifCond .eq 6, 3) := by decide +kernel
theorem d_LinkAuditModel_findMethod_86 : decode prog_12_method_27_code 86 = .ok (.iload 7, 2) := by decide +kernel
theorem d_LinkAuditModel_findMethod_88 : decode prog_12_method_27_code 88 = .ok (.ireturn, 1) := by decide +kernel
theorem d_LinkAuditModel_findMethod_89 : decode prog_12_method_27_code 89 = .ok (.iinc 7 1, 3) := by decide +kernel
theorem d_LinkAuditModel_findMethod_92 : decode prog_12_method_27_code 92 = .ok (.goto (-29), 3) := by decide +kernel
theorem d_LinkAuditModel_findMethod_95 : decode prog_12_method_27_code 95 = .ok (.iconst 0, 1) := by decide +kernel
theorem d_LinkAuditModel_findMethod_96 : decode prog_12_method_27_code 96 = .ok (.ireturn, 1) := by decide +kernel
theorem d_LinkAuditModel_isSub_0 : decode prog_12_method_19_code 0 = .ok (.aload_n 0, 1) := by decide +kernel
theorem d_LinkAuditModel_isSub_1 : decode prog_12_method_19_code 1 = .ok (.getfield 65, 3) := by decide +kernel
theorem d_LinkAuditModel_isSub_4 : decode prog_12_method_19_code 4 = .ok (.iload_n 1, 1) := by decide +kernel
theorem d_LinkAuditModel_isSub_5 : decode prog_12_method_19_code 5 = .ok (.iaload, 1) := by decide +kernel
theorem d_LinkAuditModel_isSub_6 : decode prog_12_method_19_code 6 = .ok (.iload_n 2, 1) := by decide +kernel
theorem d_LinkAuditModel_isSub_7 : decode prog_12_method_19_code 7 = .ok (.ishr, 1) := by decide +kernel
theorem d_LinkAuditModel_isSub_8 : decode prog_12_method_19_code 8 = .ok (.iconst 1, 1) := by decide +kernel
theorem d_LinkAuditModel_isSub_9 : decode prog_12_method_19_code 9 = .ok (.iand, 1) := by decide +kernel
theorem d_LinkAuditModel_isSub_10 : decode prog_12_method_19_code 10 = .ok (.ifCond .eq 7, 3) := by decide +kernel
theorem d_LinkAuditModel_isSub_13 : decode prog_12_method_19_code 13 = .ok (.iconst 1, 1) := by decide +kernel
theorem d_LinkAuditModel_isSub_14 : decode prog_12_method_19_code 14 = .ok (.goto 4, 3) := by decide +kernel
theorem d_LinkAuditModel_isSub_17 : decode prog_12_method_19_code 17 = .ok (.iconst 0, 1) := by decide +kernel
theorem d_LinkAuditModel_isSub_18 : decode prog_12_method_19_code 18 = .ok (.ireturn, 1) := by decide +kernel
theorem d_LinkAuditModel_reaches_0 : decode prog_12_method_21_code 0 = .ok (.aload_n 0, 1) := by decide +kernel
theorem d_LinkAuditModel_reaches_1 : decode prog_12_method_21_code 1 = .ok (.getfield 34, 3) := by decide +kernel
theorem d_LinkAuditModel_reaches_4 : decode prog_12_method_21_code 4 = .ok (.iload_n 2, 1) := by decide +kernel
theorem d_LinkAuditModel_reaches_5 : decode prog_12_method_21_code 5 = .ok (.iaload, 1) := by decide +kernel
theorem d_LinkAuditModel_reaches_6 : decode prog_12_method_21_code 6 = .ok (.istore_n 3, 1) := by decide +kernel
theorem d_LinkAuditModel_reaches_7 : decode prog_12_method_21_code 7 = .ok (.aload_n 0, 1) := by decide +kernel
theorem d_LinkAuditModel_reaches_8 : decode prog_12_method_21_code 8 = .ok (.getfield 50, 3) := by decide +kernel
theorem d_LinkAuditModel_reaches_11 : decode prog_12_method_21_code 11 = .ok (.iload_n 2, 1) := by decide +kernel
theorem d_LinkAuditModel_reaches_12 : decode prog_12_method_21_code 12 = .ok (.iaload, 1) := by decide +kernel
theorem d_LinkAuditModel_reaches_13 : decode prog_12_method_21_code 13 = .ok (.iconst 3, 1) := by decide +kernel
theorem d_LinkAuditModel_reaches_14 : decode prog_12_method_21_code 14 = .ok (.iand, 1) := by decide +kernel
theorem d_LinkAuditModel_reaches_15 : decode prog_12_method_21_code 15 = .ok (.tableswitch 58 0 2 #[25, 27, 51], 25) := by decide +kernel
theorem d_LinkAuditModel_reaches_40 : decode prog_12_method_21_code 40 = .ok (.iconst 1, 1) := by decide +kernel
theorem d_LinkAuditModel_reaches_41 : decode prog_12_method_21_code 41 = .ok (.ireturn, 1) := by decide +kernel
theorem d_LinkAuditModel_reaches_42 : decode prog_12_method_21_code 42 = .ok (.aload_n 0, 1) := by decide +kernel
