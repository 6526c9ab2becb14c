theorem d_LinkAudit_isBelow_0 : decode prog_1_method_18_code 0 = .ok (.iload_n 0, 1) := by decide +kernel
theorem d_LinkAudit_isBelow_1 : decode prog_1_method_18_code 1 = .ok (.ifCond .lt 12, 3) := by decide +kernel
theorem d_LinkAudit_isBelow_4 : decode prog_1_method_18_code 4 = .ok (.iload_n 0, 1) := by decide +kernel
theorem d_LinkAudit_isBelow_5 : decode prog_1_method_18_code 5 = .ok (.iload_n 1, 1) := by decide +kernel
theorem d_LinkAudit_isBelow_6 : decode prog_1_method_18_code 6 = .ok (.if_icmp .ge 7, 3) := by decide +kernel
theorem d_LinkAudit_isBelow_9 : decode prog_1_method_18_code 9 = .ok (.iconst 1, 1) := by decide +kernel
theorem d_LinkAudit_isBelow_10 : decode prog_1_method_18_code 10 = .ok (.goto 4, 3) := by decide +kernel
theorem d_LinkAudit_isBelow_13 : decode prog_1_method_18_code 13 = .ok (.iconst 0, 1) := by decide +kernel
theorem d_LinkAudit_isBelow_14 : decode prog_1_method_18_code 14 = .ok (.ireturn, 1) := by decide +kernel
theorem d_LinkAudit_isPlugin_0 : decode prog_1_method_19_code 0 = .ok (.iload_n 0, 1) := by decide +kernel
theorem d_LinkAudit_isPlugin_1 : decode prog_1_method_19_code 1 = .ok (.ifCond .eq 15, 3) := by decide +kernel
theorem d_LinkAudit_isPlugin_4 : decode prog_1_method_19_code 4 = .ok (.iload_n 0, 1) := by decide +kernel
theorem d_LinkAudit_isPlugin_5 : decode prog_1_method_19_code 5 = .ok (.iconst 5, 1) := by decide +kernel
theorem d_LinkAudit_isPlugin_6 : decode prog_1_method_19_code 6 = .ok (.invokestatic 89, 3) := by decide +kernel
theorem d_LinkAudit_isPlugin_9 : decode prog_1_method_19_code 9 = .ok (.ifCond .eq 7, 3) := by decide +kernel
theorem d_LinkAudit_isPlugin_12 : decode prog_1_method_19_code 12 = .ok (.iconst 1, 1) := by decide +kernel
theorem d_LinkAudit_isPlugin_13 : decode prog_1_method_19_code 13 = .ok (.goto 4, 3) := by decide +kernel
theorem d_LinkAudit_isPlugin_16 : decode prog_1_method_19_code 16 = .ok (.iconst 0, 1) := by decide +kernel
theorem d_LinkAudit_isPlugin_17 : decode prog_1_method_19_code 17 = .ok (.ireturn, 1) := by decide +kernel
theorem d_Loaders_hasProvider_0 : decode prog_6_method_2_code 0 = .ok (.iconst 0, 1) := by decide +kernel
theorem d_Loaders_hasProvider_1 : decode prog_6_method_2_code 1 = .ok (.istore_n 3, 1) := by decide +kernel
theorem d_Loaders_hasProvider_2 : decode prog_6_method_2_code 2 = .ok (.iload_n 3, 1) := by decide +kernel
theorem d_Loaders_hasProvider_3 : decode prog_6_method_2_code 3 = .ok (.aload_n 0, 1) := by decide +kernel
theorem d_Loaders_hasProvider_4 : decode prog_6_method_2_code 4 = .ok (.getfield 16, 3) := by decide +kernel
theorem d_Loaders_hasProvider_7 : decode prog_6_method_2_code 7 = .ok (.iload_n 1, 1) := by decide +kernel
theorem d_Loaders_hasProvider_8 : decode prog_6_method_2_code 8 = .ok (.iaload, 1) := by decide +kernel
theorem d_Loaders_hasProvider_9 : decode prog_6_method_2_code 9 = .ok (.if_icmp .ge 23, 3) := by decide +kernel
theorem d_Loaders_hasProvider_12 : decode prog_6_method_2_code 12 = .ok (.aload_n 0, 1) := by decide +kernel
theorem d_Loaders_hasProvider_13 : decode prog_6_method_2_code 13 = .ok (.getfield 11, 3) := by decide +kernel
theorem d_Loaders_hasProvider_16 : decode prog_6_method_2_code 16 = .ok (.iload_n 1, 1) := by decide +kernel
theorem d_Loaders_hasProvider_17 : decode prog_6_method_2_code 17 = .ok (.aaload, 1) := by decide +kernel
theorem d_Loaders_hasProvider_18 : decode prog_6_method_2_code 18 = .ok (.iload_n 3, 1) := by decide +kernel
theorem d_Loaders_hasProvider_19 : decode prog_6_method_2_code 19 = .ok (.iaload, 1) := by decide +kernel
theorem d_Loaders_hasProvider_20 : decode prog_6_method_2_code 20 = .ok (.iload_n 2, 1) := by decide +kernel
theorem d_Loaders_hasProvider_21 : decode prog_6_method_2_code 21 = .ok (.if_icmp .ne 5, 3) := by decide +kernel
theorem d_Loaders_hasProvider_24 : decode prog_6_method_2_code 24 = .ok (.iconst 1, 1) := by decide +kernel
theorem d_Loaders_hasProvider_25 : decode prog_6_method_2_code 25 = .ok (.ireturn, 1) := by decide +kernel
theorem d_Loaders_hasProvider_26 : decode prog_6_method_2_code 26 = .ok (.iinc 3 1, 3) := by decide +kernel
theorem d_Loaders_hasProvider_29 : decode prog_6_method_2_code 29 = .ok (.goto (-27), 3) := by decide +kernel
theorem d_Loaders_hasProvider_32 : decode prog_6_method_2_code 32 = .ok (.iconst 0, 1) := by decide +kernel
theorem d_Loaders_hasProvider_33 : decode prog_6_method_2_code 33 = .ok (.ireturn, 1) := by decide +kernel
theorem d_LinkAudit_forgetLinks_0 : decode prog_1_method_25_code 0 = .ok (.aload_n 0, 1) := by decide +kernel
theorem d_LinkAudit_forgetLinks_1 : decode prog_1_method_25_code 1 = .ok (.iconst 0, 1) := by decide +kernel
theorem d_LinkAudit_forgetLinks_2 : decode prog_1_method_25_code 2 = .ok (.putfield 78, 3) := by decide +kernel
theorem d_LinkAudit_forgetLinks_5 : decode prog_1_method_25_code 5 = .ok (.aload_n 0, 1) := by decide +kernel
theorem d_LinkAudit_forgetLinks_6 : decode prog_1_method_25_code 6 = .ok (.iconst 0, 1) := by decide +kernel
theorem d_LinkAudit_forgetLinks_7 : decode prog_1_method_25_code 7 = .ok (.putfield 82, 3) := by decide +kernel
theorem d_LinkAudit_forgetLinks_10 : decode prog_1_method_25_code 10 = .ok (.return_, 1) := by decide +kernel
theorem d_Loaders_addProvider_0 : decode prog_6_method_3_code 0 = .ok (.aload_n 0, 1) := by decide +kernel
theorem d_Loaders_addProvider_1 : decode prog_6_method_3_code 1 = .ok (.getfield 11, 3) := by decide +kernel
theorem d_Loaders_addProvider_4 : decode prog_6_method_3_code 4 = .ok (.iload_n 1, 1) := by decide +kernel
theorem d_Loaders_addProvider_5 : decode prog_6_method_3_code 5 = .ok (.aaload, 1) := by decide +kernel
theorem d_Loaders_addProvider_6 : decode prog_6_method_3_code 6 = .ok (.aload_n 0, 1) := by decide +kernel
theorem d_Loaders_addProvider_7 : decode prog_6_method_3_code 7 = .ok (.getfield 16, 3) := by decide +kernel
theorem d_Loaders_addProvider_10 : decode prog_6_method_3_code 10 = .ok (.iload_n 1, 1) := by decide +kernel
theorem d_Loaders_addProvider_11 : decode prog_6_method_3_code 11 = .ok (.iaload, 1) := by decide +kernel
theorem d_Loaders_addProvider_12 : decode prog_6_method_3_code 12 = .ok (.iload_n 2, 1) := by decide +kernel
theorem d_Loaders_addProvider_13 : decode prog_6_method_3_code 13 = .ok (.iastore, 1) := by decide +kernel
theorem d_Loaders_addProvider_14 : decode prog_6_method_3_code 14 = .ok (.aload_n 0, 1) := by decide +kernel
theorem d_Loaders_addProvider_15 : decode prog_6_method_3_code 15 = .ok (.getfield 16, 3) := by decide +kernel
theorem d_Loaders_addProvider_18 : decode prog_6_method_3_code 18 = .ok (.iload_n 1, 1) := by decide +kernel
theorem d_Loaders_addProvider_19 : decode prog_6_method_3_code 19 = .ok (.dup2, 1) := by decide +kernel
theorem d_Loaders_addProvider_20 : decode prog_6_method_3_code 20 = .ok (.iaload, 1) := by decide +kernel
theorem d_Loaders_addProvider_21 : decode prog_6_method_3_code 21 = .ok (.iconst 1, 1) := by decide +kernel
theorem d_Loaders_addProvider_22 : decode prog_6_method_3_code 22 = .ok (.iadd, 1) := by decide +kernel
theorem d_Loaders_addProvider_23 : decode prog_6_method_3_code 23 = .ok (.iastore, 1) := by decide +kernel
theorem d_Loaders_addProvider_24 : decode prog_6_method_3_code 24 = .ok (.aload_n 0, 1) := by decide +kernel
theorem d_Loaders_addProvider_25 : decode prog_6_method_3_code 25 = .ok (.getfield 16, 3) := by decide +kernel
theorem d_Loaders_addProvider_28 : decode prog_6_method_3_code 28 = .ok (.iload_n 1, 1) := by decide +kernel
theorem d_Loaders_addProvider_29 : decode prog_6_method_3_code 29 = .ok (.iaload, 1) := by decide +kernel
theorem d_Loaders_addProvider_30 : decode prog_6_method_3_code 30 = .ok (.ireturn, 1) := by decide +kernel
theorem d_LinkAudit_provide_0 : decode prog_1_method_2_code 0 = .ok (.iload_n 1, 1) := by decide +kernel
theorem d_LinkAudit_provide_1 : decode prog_1_method_2_code 1 = .ok (.invokestatic 85, 3) := by decide +kernel
theorem d_LinkAudit_provide_4 : decode prog_1_method_2_code 4 = .ok (.ifCond .eq 11, 3) := by decide +kernel
theorem d_LinkAudit_provide_7 : decode prog_1_method_2_code 7 = .ok (.iload_n 2, 1) := by decide +kernel
theorem d_LinkAudit_provide_8 : decode prog_1_method_2_code 8 = .ok (.iconst 5, 1) := by decide +kernel
theorem d_LinkAudit_provide_9 : decode prog_1_method_2_code 9 = .ok (.invokestatic 89, 3) := by decide +kernel
theorem d_LinkAudit_provide_12 : decode prog_1_method_2_code 12 = .ok (.ifCond .ne 5, 3) := by decide +kernel
theorem d_LinkAudit_provide_15 : decode prog_1_method_2_code 15 = .ok (.iconst (-1), 1) := by decide +kernel
theorem d_LinkAudit_provide_16 : decode prog_1_method_2_code 16 = .ok (.ireturn, 1) := by decide +kernel
theorem d_LinkAudit_provide_17 : decode prog_1_method_2_code 17 = .ok (.iload_n 1, 1) := by decide +kernel
theorem d_LinkAudit_provide_18 : decode prog_1_method_2_code 18 = .ok (.iload_n 2, 1) := by decide +kernel
theorem d_LinkAudit_provide_19 : decode prog_1_method_2_code 19 = .ok (.if_icmp .eq 15, 3) := by decide +kernel
theorem d_LinkAudit_provide_22 : decode prog_1_method_2_code 22 = .ok (.aload_n 0, 1) := by decide +kernel
theorem d_LinkAudit_provide_23 : decode prog_1_method_2_code 23 = .ok (.getfield 12, 3) := by decide +kernel
theorem d_LinkAudit_provide_26 : decode prog_1_method_2_code 26 = .ok (.iload_n 1, 1) := by decide +kernel
theorem d_LinkAudit_provide_27 : decode prog_1_method_2_code 27 = .ok (.iload_n 2, 1) := by decide +kernel
theorem d_LinkAudit_provide_28 : decode prog_1_method_2_code 28 = .ok (.invokevirtual 93, 3) := by decide +kernel
theorem d_LinkAudit_provide_31 : decode prog_1_method_2_code 31 = .ok (.ifCond .eq 5, 3) := by decide +kernel
theorem d_LinkAudit_provide_34 : decode prog_1_method_2_code 34 = .ok (.iconst (-1), 1) := by decide +kernel
theorem d_LinkAudit_provide_35 : decode prog_1_method_2_code 35 = .ok (.ireturn, 1) := by decide +kernel
theorem d_LinkAudit_provide_36 : decode prog_1_method_2_code 36 = .ok (.aload_n 0, 1) := by decide +kernel
theorem d_LinkAudit_provide_37 : decode prog_1_method_2_code 37 = .ok (.getfield 12, 3) := by decide +kernel
theorem d_LinkAudit_provide_40 : decode prog_1_method_2_code 40 = .ok (.getfield 96, 3) := by decide +kernel
theorem d_LinkAudit_provide_43 : decode prog_1_method_2_code 43 = .ok (.iload_n 1, 1) := by decide +kernel
theorem d_LinkAudit_provide_44 : decode prog_1_method_2_code 44 = .ok (.iaload, 1) := by decide +kernel
theorem d_LinkAudit_provide_45 : decode prog_1_method_2_code 45 = .ok (.iconst 3, 1) := by decide +kernel
theorem d_LinkAudit_provide_46 : decode prog_1_method_2_code 46 = .ok (.if_icmp .lt 6, 3) := by decide +kernel
theorem d_LinkAudit_provide_49 : decode prog_1_method_2_code 49 = .ok (.bipush (-2), 2) := by decide +kernel
theorem d_LinkAudit_provide_51 : decode prog_1_method_2_code 51 = .ok (.ireturn, 1) := by decide +kernel
theorem d_LinkAudit_provide_52 : decode prog_1_method_2_code 52 = .ok (.aload_n 0, 1) := by decide +kernel
theorem d_LinkAudit_provide_53 : decode prog_1_method_2_code 53 = .ok (.invokevirtual 100, 3) := by decide +kernel
theorem d_LinkAudit_provide_56 : decode prog_1_method_2_code 56 = .ok (.aload_n 0, 1) := by decide +kernel
theorem d_LinkAudit_provide_57 : decode prog_1_method_2_code 57 = .ok (.getfield 12, 3) := by decide +kernel
theorem d_LinkAudit_provide_60 : decode prog_1_method_2_code 60 = .ok (.iload_n 1, 1) := by decide +kernel
theorem d_LinkAudit_provide_61 : decode prog_1_method_2_code 61 = .ok (.iload_n 2, 1) := by decide +kernel
theorem d_LinkAudit_provide_62 : decode prog_1_method_2_code 62 = .ok (.invokevirtual 103, 3) := by decide +kernel
theorem d_LinkAudit_provide_65 : decode prog_1_method_2_code 65 = .ok (.ireturn, 1) := by decide +kernel
theorem d_Loaders_setMasked_0 : decode prog_6_method_4_code 0 = .ok (.iload_n 3, 1) := by decide +kernel
theorem d_Loaders_setMasked_1 : decode prog_6_method_4_code 1 = .ok (.ifCond .eq 18, 3) := by decide +kernel
theorem d_Loaders_setMasked_4 : decode prog_6_method_4_code 4 = .ok (.aload_n 0, 1) := by decide +kernel
theorem d_Loaders_setMasked_5 : decode prog_6_method_4_code 5 = .ok (.getfield 20, 3) := by decide +kernel
theorem d_Loaders_setMasked_8 : decode prog_6_method_4_code 8 = .ok (.iload_n 1, 1) := by decide +kernel
theorem d_Loaders_setMasked_9 : decode prog_6_method_4_code 9 = .ok (.dup2, 1) := by decide +kernel
theorem d_Loaders_setMasked_10 : decode prog_6_method_4_code 10 = .ok (.iaload, 1) := by decide +kernel
theorem d_Loaders_setMasked_11 : decode prog_6_method_4_code 11 = .ok (.iconst 1, 1) := by decide +kernel
theorem d_Loaders_setMasked_12 : decode prog_6_method_4_code 12 = .ok (.iload_n 2, 1) := by decide +kernel
theorem d_Loaders_setMasked_13 : decode prog_6_method_4_code 13 = .ok (.ishl, 1) := by decide +kernel
theorem d_Loaders_setMasked_14 : decode prog_6_method_4_code 14 = .ok (.ior, 1) := by decide +kernel
theorem d_Loaders_setMasked_15 : decode prog_6_method_4_code 15 = .ok (.iastore, 1) := by decide +kernel
theorem d_Loaders_setMasked_16 : decode prog_6_method_4_code 16 = .ok (.goto 17, 3) := by decide +kernel
theorem d_Loaders_setMasked_19 : decode prog_6_method_4_code 19 = .ok (.aload_n 0, 1) := by decide +kernel
theorem d_Loaders_setMasked_20 : decode prog_6_method_4_code 20 = .ok (.getfield 20, 3) := by decide +kernel
theorem d_Loaders_setMasked_23 : decode prog_6_method_4_code 23 = .ok (.iload_n 1, 1) := by decide +kernel
theorem d_Loaders_setMasked_24 : decode prog_6_method_4_code 24 = .ok (.dup2, 1) := by decide +kernel
theorem d_Loaders_setMasked_25 : decode prog_6_method_4_code 25 = .ok (.iaload, 1) := by decide +kernel
theorem d_Loaders_setMasked_26 : decode prog_6_method_4_code 26 = .ok (.iconst 1, 1) := by decide +kernel
theorem d_Loaders_setMasked_27 : decode prog_6_method_4_code 27 = .ok (.iload_n 2, 1) := by decide +kernel
theorem d_Loaders_setMasked_28 : decode prog_6_method_4_code 28 = .ok (.ishl, 1) := by decide +kernel
theorem d_Loaders_setMasked_29 : decode prog_6_method_4_code 29 = .ok (.iconst (-1), 1) := by decide +kernel
theorem d_Loaders_setMasked_30 : decode prog_6_method_4_code 30 = .ok (.ixor, 1) := by decide +kernel
theorem d_Loaders_setMasked_31 : decode prog_6_method_4_code 31 = .ok (.iand, 1) := by decide +kernel
theorem d_Loaders_setMasked_32 : decode prog_6_method_4_code 32 = .ok (.iastore, 1) := by decide +kernel
theorem d_Loaders_setMasked_33 : decode prog_6_method_4_code 33 = .ok (.return_, 1) := by decide +kernel
theorem d_LinkAudit_mask_0 : decode prog_1_method_3_code 0 = .ok (.iload_n 1, 1) := by decide +kernel
theorem d_LinkAudit_mask_1 : decode prog_1_method_3_code 1 = .ok (.invokestatic 85, 3) := by decide +kernel
theorem d_LinkAudit_mask_4 : decode prog_1_method_3_code 4 = .ok (.ifCond .eq 12, 3) := by decide +kernel
theorem d_LinkAudit_mask_7 : decode prog_1_method_3_code 7 = .ok (.iload_n 2, 1) := by decide +kernel
theorem d_LinkAudit_mask_8 : decode prog_1_method_3_code 8 = .ok (.bipush 12, 2) := by decide +kernel
theorem d_LinkAudit_mask_10 : decode prog_1_method_3_code 10 = .ok (.invokestatic 89, 3) := by decide +kernel
theorem d_LinkAudit_mask_13 : decode prog_1_method_3_code 13 = .ok (.ifCond .ne 5, 3) := by decide +kernel
theorem d_LinkAudit_mask_16 : decode prog_1_method_3_code 16 = .ok (.iconst (-1), 1) := by decide +kernel
theorem d_LinkAudit_mask_17 : decode prog_1_method_3_code 17 = .ok (.ireturn, 1) := by decide +kernel
theorem d_LinkAudit_mask_18 : decode prog_1_method_3_code 18 = .ok (.aload_n 0, 1) := by decide +kernel
theorem d_LinkAudit_mask_19 : decode prog_1_method_3_code 19 = .ok (.invokevirtual 100, 3) := by decide +kernel
theorem d_LinkAudit_mask_22 : decode prog_1_method_3_code 22 = .ok (.aload_n 0, 1) := by decide +kernel
theorem d_LinkAudit_mask_23 : decode prog_1_method_3_code 23 = .ok (.getfield 12, 3) := by decide +kernel
theorem d_LinkAudit_mask_26 : decode prog_1_method_3_code 26 = .ok (.iload_n 1, 1) := by decide +kernel
theorem d_LinkAudit_mask_27 : decode prog_1_method_3_code 27 = .ok (.iload_n 2, 1) := by decide +kernel
theorem d_LinkAudit_mask_28 : decode prog_1_method_3_code 28 = .ok (.iload_n 3, 1) := by decide +kernel
theorem d_LinkAudit_mask_29 : decode prog_1_method_3_code 29 = .ok (.invokevirtual 107, 3) := by decide +kernel
theorem d_LinkAudit_mask_32 : decode prog_1_method_3_code 32 = .ok (.iconst 0, 1) := by decide +kernel
theorem d_LinkAudit_mask_33 : decode prog_1_method_3_code 33 = .ok (.ireturn, 1) := by decide +kernel
theorem d_Classes_add_0 : decode prog_3_method_2_code 0 = .ok (.aload_n 0, 1) := by decide +kernel
theorem d_Classes_add_1 : decode prog_3_method_2_code 1 = .ok (.dup, 1) := by decide +kernel
theorem d_Classes_add_2 : decode prog_3_method_2_code 2 = .ok (.getfield 27, 3) := by decide +kernel
theorem d_Classes_add_5 : decode prog_3_method_2_code 5 = .ok (.iconst 1, 1) := by decide +kernel
theorem d_Classes_add_6 : decode prog_3_method_2_code 6 = .ok (.iadd, 1) := by decide +kernel
theorem d_Classes_add_7 : decode prog_3_method_2_code 7 = .ok (.putfield 27, 3) := by decide +kernel
theorem d_Classes_add_10 : decode prog_3_method_2_code 10 = .ok (.aload_n 0, 1) := by decide +kernel
theorem d_Classes_add_11 : decode prog_3_method_2_code 11 = .ok (.getfield 9, 3) := by decide +kernel
theorem d_Classes_add_14 : decode prog_3_method_2_code 14 = .ok (.aload_n 0, 1) := by decide +kernel
theorem d_Classes_add_15 : decode prog_3_method_2_code 15 = .ok (.getfield 27, 3) := by decide +kernel
theorem d_Classes_add_18 : decode prog_3_method_2_code 18 = .ok (.iload_n 1, 1) := by decide +kernel
theorem d_Classes_add_19 : decode prog_3_method_2_code 19 = .ok (.iastore, 1) := by decide +kernel
theorem d_Classes_add_20 : decode prog_3_method_2_code 20 = .ok (.aload_n 0, 1) := by decide +kernel
theorem d_Classes_add_21 : decode prog_3_method_2_code 21 = .ok (.getfield 15, 3) := by decide +kernel
theorem d_Classes_add_24 : decode prog_3_method_2_code 24 = .ok (.aload_n 0, 1) := by decide +kernel
theorem d_Classes_add_25 : decode prog_3_method_2_code 25 = .ok (.getfield 27, 3) := by decide +kernel
theorem d_Classes_add_28 : decode prog_3_method_2_code 28 = .ok (.iload_n 2, 1) := by decide +kernel
theorem d_Classes_add_29 : decode prog_3_method_2_code 29 = .ok (.iastore, 1) := by decide +kernel
theorem d_Classes_add_30 : decode prog_3_method_2_code 30 = .ok (.aload_n 0, 1) := by decide +kernel
theorem d_Classes_add_31 : decode prog_3_method_2_code 31 = .ok (.getfield 18, 3) := by decide +kernel
theorem d_Classes_add_34 : decode prog_3_method_2_code 34 = .ok (.aload_n 0, 1) := by decide +kernel
theorem d_Classes_add_35 : decode prog_3_method_2_code 35 = .ok (.getfield 27, 3) := by decide +kernel
theorem d_Classes_add_38 : decode prog_3_method_2_code 38 = .ok (.iload_n 3, 1) := by decide +kernel
theorem d_Classes_add_39 : decode prog_3_method_2_code 39 = .ok (.iastore, 1) := by decide +kernel
theorem d_Classes_add_40 : decode prog_3_method_2_code 40 = .ok (.aload_n 0, 1) := by decide +kernel
theorem d_Classes_add_41 : decode prog_3_method_2_code 41 = .ok (.getfield 21, 3) := by decide +kernel
theorem d_Classes_add_44 : decode prog_3_method_2_code 44 = .ok (.aload_n 0, 1) := by decide +kernel
theorem d_Classes_add_45 : decode prog_3_method_2_code 45 = .ok (.getfield 27, 3) := by decide +kernel
theorem d_Classes_add_48 : decode prog_3_method_2_code 48 = .ok (.iload 4, 2) := by decide +kernel
theorem d_Classes_add_50 : decode prog_3_method_2_code 50 = .ok (.iastore, 1) := by decide +kernel
theorem d_Classes_add_51 : decode prog_3_method_2_code 51 = .ok (.aload_n 0, 1) := by decide +kernel
theorem d_Classes_add_52 : decode prog_3_method_2_code 52 = .ok (.getfield 24, 3) := by decide +kernel
theorem d_Classes_add_55 : decode prog_3_method_2_code 55 = .ok (.aload_n 0, 1) := by decide +kernel
theorem d_Classes_add_56 : decode prog_3_method_2_code 56 = .ok (.getfield 27, 3) := by decide +kernel
theorem d_Classes_add_59 : decode prog_3_method_2_code 59 = .ok (.iload 5, 2) := by decide +kernel
theorem d_Classes_add_61 : decode prog_3_method_2_code 61 = .ok (.iastore, 1) := by decide +kernel
theorem d_Classes_add_62 : decode prog_3_method_2_code 62 = .ok (.aload_n 0, 1) := by decide +kernel
theorem d_Classes_add_63 : decode prog_3_method_2_code 63 = .ok (.getfield 27, 3) := by decide +kernel
theorem d_Classes_add_66 : decode prog_3_method_2_code 66 = .ok (.ireturn, 1) := by decide +kernel
theorem d_LinkAudit_define_0 : decode prog_1_method_4_code 0 = .ok (.iload_n 1, 1) := by decide +kernel
theorem d_LinkAudit_define_1 : decode prog_1_method_4_code 1 = .ok (.iconst 5, 1) := by decide +kernel
theorem d_LinkAudit_define_2 : decode prog_1_method_4_code 2 = .ok (.invokestatic 89, 3) := by decide +kernel
theorem d_LinkAudit_define_5 : decode prog_1_method_4_code 5 = .ok (.ifCond .eq 21, 3) := by decide +kernel
theorem d_LinkAudit_define_8 : decode prog_1_method_4_code 8 = .ok (.iload_n 2, 1) := by decide +kernel
theorem d_LinkAudit_define_9 : decode prog_1_method_4_code 9 = .ok (.bipush 12, 2) := by decide +kernel
theorem d_LinkAudit_define_11 : decode prog_1_method_4_code 11 = .ok (.invokestatic 89, 3) := by decide +kernel
theorem d_LinkAudit_define_14 : decode prog_1_method_4_code 14 = .ok (.ifCond .eq 12, 3) := by decide +kernel
theorem d_LinkAudit_define_17 : decode prog_1_method_4_code 17 = .ok (.iload_n 3, 1) := by decide +kernel
theorem d_LinkAudit_define_18 : decode prog_1_method_4_code 18 = .ok (.bipush 16, 2) := by decide +kernel
theorem d_LinkAudit_define_20 : decode prog_1_method_4_code 20 = .ok (.invokestatic 89, 3) := by decide +kernel
theorem d_LinkAudit_define_23 : decode prog_1_method_4_code 23 = .ok (.ifCond .ne 5, 3) := by decide +kernel
theorem d_LinkAudit_define_26 : decode prog_1_method_4_code 26 = .ok (.iconst (-1), 1) := by decide +kernel
theorem d_LinkAudit_define_27 : decode prog_1_method_4_code 27 = .ok (.ireturn, 1) := by decide +kernel
theorem d_LinkAudit_define_28 : decode prog_1_method_4_code 28 = .ok (.iload 4, 2) := by decide +kernel
theorem d_LinkAudit_define_30 : decode prog_1_method_4_code 30 = .ok (.bipush 13, 2) := by decide +kernel
theorem d_LinkAudit_define_32 : decode prog_1_method_4_code 32 = .ok (.invokestatic 89, 3) := by decide +kernel
theorem d_LinkAudit_define_35 : decode prog_1_method_4_code 35 = .ok (.ifCond .eq 14, 3) := by decide +kernel
theorem d_LinkAudit_define_38 : decode prog_1_method_4_code 38 = .ok (.iload 5, 2) := by decide +kernel
theorem d_LinkAudit_define_40 : decode prog_1_method_4_code 40 = .ok (.sipush 4096, 3) := by decide +kernel
theorem d_LinkAudit_define_43 : decode prog_1_method_4_code 43 = .ok (.invokestatic 89, 3) := by decide +kernel
theorem d_LinkAudit_define_46 : decode prog_1_method_4_code 46 = .ok (.ifCond .ne 5, 3) := by decide +kernel
theorem d_LinkAudit_define_49 : decode prog_1_method_4_code 49 = .ok (.iconst (-1), 1) := by decide +kernel
theorem d_LinkAudit_define_50 : decode prog_1_method_4_code 50 = .ok (.ireturn, 1) := by decide +kernel
theorem d_LinkAudit_define_51 : decode prog_1_method_4_code 51 = .ok (.iload_n 3, 1) := by decide +kernel
theorem d_LinkAudit_define_52 : decode prog_1_method_4_code 52 = .ok (.bipush 8, 2) := by decide +kernel
theorem d_LinkAudit_define_54 : decode prog_1_method_4_code 54 = .ok (.iand, 1) := by decide +kernel
theorem d_LinkAudit_define_55 : decode prog_1_method_4_code 55 = .ok (.ifCond .eq 7, 3) := by decide +kernel
theorem d_LinkAudit_define_58 : decode prog_1_method_4_code 58 = .ok (.iconst 1, 1) := by decide +kernel
theorem d_LinkAudit_define_59 : decode prog_1_method_4_code 59 = .ok (.goto 4, 3) := by decide +kernel
theorem d_LinkAudit_define_62 : decode prog_1_method_4_code 62 = .ok (.iconst 0, 1) := by decide +kernel
theorem d_LinkAudit_define_63 : decode prog_1_method_4_code 63 = .ok (.istore 6, 2) := by decide +kernel
theorem d_LinkAudit_define_65 : decode prog_1_method_4_code 65 = .ok (.iload 6, 2) := by decide +kernel
theorem d_LinkAudit_define_67 : decode prog_1_method_4_code 67 = .ok (.ifCond .eq 18, 3) := by decide +kernel
theorem d_LinkAudit_define_70 : decode prog_1_method_4_code 70 = .ok (.iload 4, 2) := by decide +kernel
theorem d_LinkAudit_define_72 : decode prog_1_method_4_code 72 = .ok (.bipush 12, 2) := by decide +kernel
theorem d_LinkAudit_define_74 : decode prog_1_method_4_code 74 = .ok (.if_icmp .ne 9, 3) := by decide +kernel
theorem d_LinkAudit_define_77 : decode prog_1_method_4_code 77 = .ok (.iload_n 3, 1) := by decide +kernel
theorem d_LinkAudit_define_78 : decode prog_1_method_4_code 78 = .ok (.iconst 2, 1) := by decide +kernel
theorem d_LinkAudit_define_79 : decode prog_1_method_4_code 79 = .ok (.iand, 1) := by decide +kernel
theorem d_LinkAudit_define_80 : decode prog_1_method_4_code 80 = .ok (.ifCond .eq 5, 3) := by decide +kernel
theorem d_LinkAudit_define_83 : decode prog_1_method_4_code 83 = .ok (.iconst (-1), 1) := by decide +kernel
theorem d_LinkAudit_define_84 : decode prog_1_method_4_code 84 = .ok (.ireturn, 1) := by decide +kernel
theorem d_LinkAudit_define_85 : decode prog_1_method_4_code 85 = .ok (.aload_n 0, 1) := by decide +kernel
theorem d_LinkAudit_define_86 : decode prog_1_method_4_code 86 = .ok (.getfield 12, 3) := by decide +kernel
theorem d_LinkAudit_define_89 : decode prog_1_method_4_code 89 = .ok (.getfield 111, 3) := by decide +kernel
theorem d_LinkAudit_define_92 : decode prog_1_method_4_code 92 = .ok (.iload_n 1, 1) := by decide +kernel
theorem d_LinkAudit_define_93 : decode prog_1_method_4_code 93 = .ok (.aaload, 1) := by decide +kernel
theorem d_LinkAudit_define_94 : decode prog_1_method_4_code 94 = .ok (.iload_n 2, 1) := by decide +kernel
theorem d_LinkAudit_define_95 : decode prog_1_method_4_code 95 = .ok (.iaload, 1) := by decide +kernel
theorem d_LinkAudit_define_96 : decode prog_1_method_4_code 96 = .ok (.ifCond .eq 5, 3) := by decide +kernel
theorem d_LinkAudit_define_99 : decode prog_1_method_4_code 99 = .ok (.iconst (-1), 1) := by decide +kernel
theorem d_LinkAudit_define_100 : decode prog_1_method_4_code 100 = .ok (.ireturn, 1) := by decide +kernel
theorem d_LinkAudit_define_101 : decode prog_1_method_4_code 101 = .ok (.aload_n 0, 1) := by decide +kernel
theorem d_LinkAudit_define_102 : decode prog_1_method_4_code 102 = .ok (.getfield 19, 3) := by decide +kernel
theorem d_LinkAudit_define_105 : decode prog_1_method_4_code 105 = .ok (.getfield 115, 3) := by decide +kernel
theorem d_LinkAudit_define_108 : decode prog_1_method_4_code 108 = .ok (.bipush 16, 2) := by decide +kernel
theorem d_LinkAudit_define_110 : decode prog_1_method_4_code 110 = .ok (.if_icmp .lt 6, 3) := by decide +kernel
theorem d_LinkAudit_define_113 : decode prog_1_method_4_code 113 = .ok (.bipush (-2), 2) := by decide +kernel
theorem d_LinkAudit_define_115 : decode prog_1_method_4_code 115 = .ok (.ireturn, 1) := by decide +kernel
theorem d_LinkAudit_define_116 : decode prog_1_method_4_code 116 = .ok (.aload_n 0, 1) := by decide +kernel
theorem d_LinkAudit_define_117 : decode prog_1_method_4_code 117 = .ok (.invokevirtual 100, 3) := by decide +kernel
theorem d_LinkAudit_define_120 : decode prog_1_method_4_code 120 = .ok (.aload_n 0, 1) := by decide +kernel
theorem d_LinkAudit_define_121 : decode prog_1_method_4_code 121 = .ok (.getfield 19, 3) := by decide +kernel
theorem d_LinkAudit_define_124 : decode prog_1_method_4_code 124 = .ok (.iload_n 1, 1) := by decide +kernel
theorem d_LinkAudit_define_125 : decode prog_1_method_4_code 125 = .ok (.iload_n 2, 1) := by decide +kernel
theorem d_LinkAudit_define_126 : decode prog_1_method_4_code 126 = .ok (.iload_n 3, 1) := by decide +kernel
theorem d_LinkAudit_define_127 : decode prog_1_method_4_code 127 = .ok (.iload 4, 2) := by decide +kernel
theorem d_LinkAudit_define_129 : decode prog_1_method_4_code 129 = .ok (.iload 5, 2) := by decide +kernel
theorem d_LinkAudit_define_131 : decode prog_1_method_4_code 131 = .ok (.invokevirtual 119, 3) := by decide +kernel
theorem d_LinkAudit_define_134 : decode prog_1_method_4_code 134 = .ok (.istore 7, 2) := by decide +kernel
theorem d_LinkAudit_define_136 : decode prog_1_method_4_code 136 = .ok (.aload_n 0, 1) := by decide +kernel
theorem d_LinkAudit_define_137 : decode prog_1_method_4_code 137 = .ok (.getfield 12, 3) := by decide +kernel
theorem d_LinkAudit_define_140 : decode prog_1_method_4_code 140 = .ok (.getfield 111, 3) := by decide +kernel
theorem d_LinkAudit_define_143 : decode prog_1_method_4_code 143 = .ok (.iload_n 1, 1) := by decide +kernel
theorem d_LinkAudit_define_144 : decode prog_1_method_4_code 144 = .ok (.aaload, 1) := by decide +kernel
theorem d_LinkAudit_define_145 : decode prog_1_method_4_code 145 = .ok (.iload_n 2, 1) := by decide +kernel
theorem d_LinkAudit_define_146 : decode prog_1_method_4_code 146 = .ok (.iload 7, 2) := by decide +kernel
theorem d_LinkAudit_define_148 : decode prog_1_method_4_code 148 = .ok (.iastore, 1) := by decide +kernel
theorem d_LinkAudit_define_149 : decode prog_1_method_4_code 149 = .ok (.iload 7, 2) := by decide +kernel
theorem d_LinkAudit_define_151 : decode prog_1_method_4_code 151 = .ok (.ireturn, 1) := by decide +kernel
theorem d_LinkAudit_isClass_0 : decode prog_1_method_20_code 0 = .ok (.iload_n 1, 1) := by decide +kernel
theorem d_LinkAudit_isClass_1 : decode prog_1_method_20_code 1 = .ok (.iconst 1, 1) := by decide +kernel
theorem d_LinkAudit_isClass_2 : decode prog_1_method_20_code 2 = .ok (.if_icmp .lt 18, 3) := by decide +kernel
theorem d_LinkAudit_isClass_5 : decode prog_1_method_20_code 5 = .ok (.iload_n 1, 1) := by decide +kernel
theorem d_LinkAudit_isClass_6 : decode prog_1_method_20_code 6 = .ok (.aload_n 0, 1) := by decide +kernel
theorem d_LinkAudit_isClass_7 : decode prog_1_method_20_code 7 = .ok (.getfield 19, 3) := by decide +kernel
theorem d_LinkAudit_isClass_10 : decode prog_1_method_20_code 10 = .ok (.getfield 115, 3) := by decide +kernel
theorem d_LinkAudit_isClass_13 : decode prog_1_method_20_code 13 = .ok (.if_icmp .gt 7, 3) := by decide +kernel
theorem d_LinkAudit_isClass_16 : decode prog_1_method_20_code 16 = .ok (.iconst 1, 1) := by decide +kernel
theorem d_LinkAudit_isClass_17 : decode prog_1_method_20_code 17 = .ok (.goto 4, 3) := by decide +kernel
theorem d_LinkAudit_isClass_20 : decode prog_1_method_20_code 20 = .ok (.iconst 0, 1) := by decide +kernel
theorem d_LinkAudit_isClass_21 : decode prog_1_method_20_code 21 = .ok (.ireturn, 1) := by decide +kernel
theorem d_Members_fieldSignature_0 : decode prog_7_method_3_code 0 = .ok (.iload_n 0, 1) := by decide +kernel
theorem d_Members_fieldSignature_1 : decode prog_7_method_3_code 1 = .ok (.bipush 13, 2) := by decide +kernel
theorem d_Members_fieldSignature_3 : decode prog_7_method_3_code 3 = .ok (.imul, 1) := by decide +kernel
theorem d_Members_fieldSignature_4 : decode prog_7_method_3_code 4 = .ok (.iload_n 1, 1) := by decide +kernel
theorem d_Members_fieldSignature_5 : decode prog_7_method_3_code 5 = .ok (.iadd, 1) := by decide +kernel
theorem d_Members_fieldSignature_6 : decode prog_7_method_3_code 6 = .ok (.bipush 13, 2) := by decide +kernel
theorem d_Members_fieldSignature_8 : decode prog_7_method_3_code 8 = .ok (.imul, 1) := by decide +kernel
theorem d_Members_fieldSignature_9 : decode prog_7_method_3_code 9 = .ok (.bipush 12, 2) := by decide +kernel
theorem d_Members_fieldSignature_11 : decode prog_7_method_3_code 11 = .ok (.iadd, 1) := by decide +kernel
theorem d_Members_fieldSignature_12 : decode prog_7_method_3_code 12 = .ok (.ireturn, 1) := by decide +kernel
theorem d_Members_withSignature_0 : decode prog_7_method_10_code 0 = .ok (.lconst 0, 1) := by decide +kernel
theorem d_Members_withSignature_1 : decode prog_7_method_10_code 1 = .ok (.lstore_n 2, 1) := by decide +kernel
theorem d_Members_withSignature_2 : decode prog_7_method_10_code 2 = .ok (.iconst 1, 1) := by decide +kernel
theorem d_Members_withSignature_3 : decode prog_7_method_10_code 3 = .ok (.istore 4, 2) := by decide +kernel
theorem d_Members_withSignature_5 : decode prog_7_method_10_code 5 = .ok (.iload 4, 2) := by decide +kernel
theorem d_Members_withSignature_7 : decode prog_7_method_10_code 7 = .ok (.aload_n 0, 1) := by decide +kernel
theorem d_Members_withSignature_8 : decode prog_7_method_10_code 8 = .ok (.getfield 32, 3) := by decide +kernel
theorem d_Members_withSignature_11 : decode prog_7_method_10_code 11 = .ok (.if_icmp .gt 27, 3) := by decide +kernel
theorem d_Members_withSignature_14 : decode prog_7_method_10_code 14 = .ok (.aload_n 0, 1) := by decide +kernel
theorem d_Members_withSignature_15 : decode prog_7_method_10_code 15 = .ok (.getfield 15, 3) := by decide +kernel
theorem d_Members_withSignature_18 : decode prog_7_method_10_code 18 = .ok (.iload 4, 2) := by decide +kernel
theorem d_Members_withSignature_20 : decode prog_7_method_10_code 20 = .ok (.iaload, 1) := by decide +kernel
theorem d_Members_withSignature_21 : decode prog_7_method_10_code 21 = .ok (.iload_n 1, 1) := by decide +kernel
theorem d_Members_withSignature_22 : decode prog_7_method_10_code 22 = .ok (.if_icmp .ne 10, 3) := by decide +kernel
theorem d_Members_withSignature_25 : decode prog_7_method_10_code 25 = .ok (.lload_n 2, 1) := by decide +kernel
theorem d_Members_withSignature_26 : decode prog_7_method_10_code 26 = .ok (.lconst 1, 1) := by decide +kernel
theorem d_Members_withSignature_27 : decode prog_7_method_10_code 27 = .ok (.iload 4, 2) := by decide +kernel
theorem d_Members_withSignature_29 : decode prog_7_method_10_code 29 = .ok (.lshl, 1) := by decide +kernel
theorem d_Members_withSignature_30 : decode prog_7_method_10_code 30 = .ok (.lor, 1) := by decide +kernel
theorem d_Members_withSignature_31 : decode prog_7_method_10_code 31 = .ok (.lstore_n 2, 1) := by decide +kernel
theorem d_Members_withSignature_32 : decode prog_7_method_10_code 32 = .ok (.iinc 4 1, 3) := by decide +kernel
theorem d_Members_withSignature_35 : decode prog_7_method_10_code 35 = .ok (.goto (-30), 3) := by decide +kernel
theorem d_Members_withSignature_38 : decode prog_7_method_10_code 38 = .ok (.lload_n 2, 1) := by decide +kernel
theorem d_Members_withSignature_39 : decode prog_7_method_10_code 39 = .ok (.lreturn, 1) := by decide +kernel
theorem d_Members_isMethod_0 : decode prog_7_method_5_code 0 = .ok (.aload_n 0, 1) := by decide +kernel
theorem d_Members_isMethod_1 : decode prog_7_method_5_code 1 = .ok (.getfield 15, 3) := by decide +kernel
theorem d_Members_isMethod_4 : decode prog_7_method_5_code 4 = .ok (.iload_n 1, 1) := by decide +kernel
theorem d_Members_isMethod_5 : decode prog_7_method_5_code 5 = .ok (.iaload, 1) := by decide +kernel
theorem d_Members_isMethod_6 : decode prog_7_method_5_code 6 = .ok (.sipush 169, 3) := by decide +kernel
theorem d_Members_isMethod_9 : decode prog_7_method_5_code 9 = .ok (.idiv, 1) := by decide +kernel
theorem d_Members_isMethod_10 : decode prog_7_method_5_code 10 = .ok (.iconst 4, 1) := by decide +kernel
theorem d_Members_isMethod_11 : decode prog_7_method_5_code 11 = .ok (.if_icmp .lt 7, 3) := by decide +kernel
theorem d_Members_isMethod_14 : decode prog_7_method_5_code 14 = .ok (.iconst 1, 1) := by decide +kernel
theorem d_Members_isMethod_15 : decode prog_7_method_5_code 15 = .ok (.goto 4, 3) := by decide +kernel
theorem d_Members_isMethod_18 : decode prog_7_method_5_code 18 = .ok (.iconst 0, 1) := by decide +kernel
theorem d_Members_isMethod_19 : decode prog_7_method_5_code 19 = .ok (.ireturn, 1) := by decide +kernel
theorem d_Members_isStatic_0 : decode prog_7_method_9_code 0 = .ok (.aload_n 0, 1) := by decide +kernel
theorem d_Members_isStatic_1 : decode prog_7_method_9_code 1 = .ok (.getfield 18, 3) := by decide +kernel
theorem d_Members_isStatic_4 : decode prog_7_method_9_code 4 = .ok (.iload_n 1, 1) := by decide +kernel
theorem d_Members_isStatic_5 : decode prog_7_method_9_code 5 = .ok (.iaload, 1) := by decide +kernel
theorem d_Members_isStatic_6 : decode prog_7_method_9_code 6 = .ok (.iconst 4, 1) := by decide +kernel
theorem d_Members_isStatic_7 : decode prog_7_method_9_code 7 = .ok (.iand, 1) := by decide +kernel
theorem d_Members_isStatic_8 : decode prog_7_method_9_code 8 = .ok (.ifCond .eq 7, 3) := by decide +kernel
theorem d_Members_isStatic_11 : decode prog_7_method_9_code 11 = .ok (.iconst 1, 1) := by decide +kernel
theorem d_Members_isStatic_12 : decode prog_7_method_9_code 12 = .ok (.goto 4, 3) := by decide +kernel
theorem d_Members_isStatic_15 : decode prog_7_method_9_code 15 = .ok (.iconst 0, 1) := by decide +kernel
theorem d_Members_isStatic_16 : decode prog_7_method_9_code 16 = .ok (.ireturn, 1) := by decide +kernel
theorem d_Members_access_0 : decode prog_7_method_8_code 0 = .ok (.aload_n 0, 1) := by decide +kernel
theorem d_Members_access_1 : decode prog_7_method_8_code 1 = .ok (.getfield 18, 3) := by decide +kernel
theorem d_Members_access_4 : decode prog_7_method_8_code 4 = .ok (.iload_n 1, 1) := by decide +kernel
theorem d_Members_access_5 : decode prog_7_method_8_code 5 = .ok (.iaload, 1) := by decide +kernel
theorem d_Members_access_6 : decode prog_7_method_8_code 6 = .ok (.iconst 3, 1) := by decide +kernel
theorem d_Members_access_7 : decode prog_7_method_8_code 7 = .ok (.iand, 1) := by decide +kernel
theorem d_Members_access_8 : decode prog_7_method_8_code 8 = .ok (.ireturn, 1) := by decide +kernel
theorem d_Members_add_0 : decode prog_7_method_4_code 0 = .ok (.aload_n 0, 1) := by decide +kernel
theorem d_Members_add_1 : decode prog_7_method_4_code 1 = .ok (.dup, 1) := by decide +kernel
theorem d_Members_add_2 : decode prog_7_method_4_code 2 = .ok (.getfield 32, 3) := by decide +kernel
theorem d_Members_add_5 : decode prog_7_method_4_code 5 = .ok (.iconst 1, 1) := by decide +kernel
theorem d_Members_add_6 : decode prog_7_method_4_code 6 = .ok (.iadd, 1) := by decide +kernel
theorem d_Members_add_7 : decode prog_7_method_4_code 7 = .ok (.putfield 32, 3) := by decide +kernel
theorem d_Members_add_10 : decode prog_7_method_4_code 10 = .ok (.aload_n 0, 1) := by decide +kernel
theorem d_Members_add_11 : decode prog_7_method_4_code 11 = .ok (.getfield 9, 3) := by decide +kernel
theorem d_Members_add_14 : decode prog_7_method_4_code 14 = .ok (.aload_n 0, 1) := by decide +kernel
theorem d_Members_add_15 : decode prog_7_method_4_code 15 = .ok (.getfield 32, 3) := by decide +kernel
theorem d_Members_add_18 : decode prog_7_method_4_code 18 = .ok (.iload_n 1, 1) := by decide +kernel
theorem d_Members_add_19 : decode prog_7_method_4_code 19 = .ok (.iastore, 1) := by decide +kernel
theorem d_Members_add_20 : decode prog_7_method_4_code 20 = .ok (.aload_n 0, 1) := by decide +kernel
theorem d_Members_add_21 : decode prog_7_method_4_code 21 = .ok (.getfield 15, 3) := by decide +kernel
theorem d_Members_add_24 : decode prog_7_method_4_code 24 = .ok (.aload_n 0, 1) := by decide +kernel
theorem d_Members_add_25 : decode prog_7_method_4_code 25 = .ok (.getfield 32, 3) := by decide +kernel
theorem d_Members_add_28 : decode prog_7_method_4_code 28 = .ok (.iload_n 2, 1) := by decide +kernel
theorem d_Members_add_29 : decode prog_7_method_4_code 29 = .ok (.iastore, 1) := by decide +kernel
theorem d_Members_add_30 : decode prog_7_method_4_code 30 = .ok (.aload_n 0, 1) := by decide +kernel
theorem d_Members_add_31 : decode prog_7_method_4_code 31 = .ok (.getfield 18, 3) := by decide +kernel
theorem d_Members_add_34 : decode prog_7_method_4_code 34 = .ok (.aload_n 0, 1) := by decide +kernel
theorem d_Members_add_35 : decode prog_7_method_4_code 35 = .ok (.getfield 32, 3) := by decide +kernel
theorem d_Members_add_38 : decode prog_7_method_4_code 38 = .ok (.iload_n 3, 1) := by decide +kernel
theorem d_Members_add_39 : decode prog_7_method_4_code 39 = .ok (.iastore, 1) := by decide +kernel
theorem d_Members_add_40 : decode prog_7_method_4_code 40 = .ok (.lconst 1, 1) := by decide +kernel
theorem d_Members_add_41 : decode prog_7_method_4_code 41 = .ok (.aload_n 0, 1) := by decide +kernel
theorem d_Members_add_42 : decode prog_7_method_4_code 42 = .ok (.getfield 32, 3) := by decide +kernel
theorem d_Members_add_45 : decode prog_7_method_4_code 45 = .ok (.lshl, 1) := by decide +kernel
theorem d_Members_add_46 : decode prog_7_method_4_code 46 = .ok (.lstore 4, 2) := by decide +kernel
theorem d_Members_add_48 : decode prog_7_method_4_code 48 = .ok (.aload_n 0, 1) := by decide +kernel
theorem d_Members_add_49 : decode prog_7_method_4_code 49 = .ok (.getfield 21, 3) := by decide +kernel
theorem d_Members_add_52 : decode prog_7_method_4_code 52 = .ok (.iload_n 1, 1) := by decide +kernel
theorem d_Members_add_53 : decode prog_7_method_4_code 53 = .ok (.dup2, 1) := by decide +kernel
theorem d_Members_add_54 : decode prog_7_method_4_code 54 = .ok (.laload, 1) := by decide +kernel
theorem d_Members_add_55 : decode prog_7_method_4_code 55 = .ok (.lload 4, 2) := by decide +kernel
theorem d_Members_add_57 : decode prog_7_method_4_code 57 = .ok (.lor, 1) := by decide +kernel
theorem d_Members_add_58 : decode prog_7_method_4_code 58 = .ok (.lastore, 1) := by decide +kernel
theorem d_Members_add_59 : decode prog_7_method_4_code 59 = .ok (.aload_n 0, 1) := by decide +kernel
theorem d_Members_add_60 : decode prog_7_method_4_code 60 = .ok (.aload_n 0, 1) := by decide +kernel
theorem d_Members_add_61 : decode prog_7_method_4_code 61 = .ok (.getfield 32, 3) := by decide +kernel
theorem d_Members_add_64 : decode prog_7_method_4_code 64 = .ok (.invokevirtual 36, 3) := by decide +kernel
theorem d_Members_add_67 : decode prog_7_method_4_code 67 = .ok (.ifCond .eq 37, 3) := by decide +kernel
theorem d_Members_add_70 : decode prog_7_method_4_code 70 = .ok (.aload_n 0, 1) := by decide +kernel
theorem d_Members_add_71 : decode prog_7_method_4_code 71 = .ok (.aload_n 0, 1) := by decide +kernel
theorem d_Members_add_72 : decode prog_7_method_4_code 72 = .ok (.getfield 32, 3) := by decide +kernel
theorem d_Members_add_75 : decode prog_7_method_4_code 75 = .ok (.invokevirtual 40, 3) := by decide +kernel
theorem d_Members_add_78 : decode prog_7_method_4_code 78 = .ok (.ifCond .ne 26, 3) := by decide +kernel
theorem d_Members_add_81 : decode prog_7_method_4_code 81 = .ok (.aload_n 0, 1) := by decide +kernel
theorem d_Members_add_82 : decode prog_7_method_4_code 82 = .ok (.aload_n 0, 1) := by decide +kernel
theorem d_Members_add_83 : decode prog_7_method_4_code 83 = .ok (.getfield 32, 3) := by decide +kernel
theorem d_Members_add_86 : decode prog_7_method_4_code 86 = .ok (.invokevirtual 43, 3) := by decide +kernel
theorem d_Members_add_89 : decode prog_7_method_4_code 89 = .ok (.iconst 3, 1) := by decide +kernel
theorem d_Members_add_90 : decode prog_7_method_4_code 90 = .ok (.if_icmp .eq 14, 3) := by decide +kernel
theorem d_Members_add_93 : decode prog_7_method_4_code 93 = .ok (.aload_n 0, 1) := by decide +kernel
theorem d_Members_add_94 : decode prog_7_method_4_code 94 = .ok (.dup, 1) := by decide +kernel
theorem d_Members_add_95 : decode prog_7_method_4_code 95 = .ok (.getfield 25, 3) := by decide +kernel
theorem d_Members_add_98 : decode prog_7_method_4_code 98 = .ok (.lload 4, 2) := by decide +kernel
theorem d_Members_add_100 : decode prog_7_method_4_code 100 = .ok (.lor, 1) := by decide +kernel
theorem d_Members_add_101 : decode prog_7_method_4_code 101 = .ok (.putfield 25, 3) := by decide +kernel
theorem d_Members_add_104 : decode prog_7_method_4_code 104 = .ok (.iload_n 3, 1) := by decide +kernel
theorem d_Members_add_105 : decode prog_7_method_4_code 105 = .ok (.bipush 8, 2) := by decide +kernel
theorem d_Members_add_107 : decode prog_7_method_4_code 107 = .ok (.iand, 1) := by decide +kernel
theorem d_Members_add_108 : decode prog_7_method_4_code 108 = .ok (.ifCond .eq 14, 3) := by decide +kernel
theorem d_Members_add_111 : decode prog_7_method_4_code 111 = .ok (.aload_n 0, 1) := by decide +kernel
theorem d_Members_add_112 : decode prog_7_method_4_code 112 = .ok (.dup, 1) := by decide +kernel
theorem d_Members_add_113 : decode prog_7_method_4_code 113 = .ok (.getfield 29, 3) := by decide +kernel
theorem d_Members_add_116 : decode prog_7_method_4_code 116 = .ok (.lload 4, 2) := by decide +kernel
theorem d_Members_add_118 : decode prog_7_method_4_code 118 = .ok (.lor, 1) := by decide +kernel
theorem d_Members_add_119 : decode prog_7_method_4_code 119 = .ok (.putfield 29, 3) := by decide +kernel
theorem d_Members_add_122 : decode prog_7_method_4_code 122 = .ok (.aload_n 0, 1) := by decide +kernel
theorem d_Members_add_123 : decode prog_7_method_4_code 123 = .ok (.getfield 32, 3) := by decide +kernel
theorem d_Members_add_126 : decode prog_7_method_4_code 126 = .ok (.ireturn, 1) := by decide +kernel
theorem d_LinkAudit_addMember_0 : decode prog_1_method_24_code 0 = .ok (.aload_n 0, 1) := by decide +kernel
theorem d_LinkAudit_addMember_1 : decode prog_1_method_24_code 1 = .ok (.getfield 26, 3) := by decide +kernel
theorem d_LinkAudit_addMember_4 : decode prog_1_method_24_code 4 = .ok (.iload_n 2, 1) := by decide +kernel
theorem d_LinkAudit_addMember_5 : decode prog_1_method_24_code 5 = .ok (.invokevirtual 194, 3) := by decide +kernel
theorem d_LinkAudit_addMember_8 : decode prog_1_method_24_code 8 = .ok (.aload_n 0, 1) := by decide +kernel
theorem d_LinkAudit_addMember_9 : decode prog_1_method_24_code 9 = .ok (.getfield 26, 3) := by decide +kernel
theorem d_LinkAudit_addMember_12 : decode prog_1_method_24_code 12 = .ok (.getfield 198, 3) := by decide +kernel
theorem d_LinkAudit_addMember_15 : decode prog_1_method_24_code 15 = .ok (.iload_n 1, 1) := by decide +kernel
theorem d_LinkAudit_addMember_16 : decode prog_1_method_24_code 16 = .ok (.laload, 1) := by decide +kernel
theorem d_LinkAudit_addMember_17 : decode prog_1_method_24_code 17 = .ok (.land, 1) := by decide +kernel
theorem d_LinkAudit_addMember_18 : decode prog_1_method_24_code 18 = .ok (.lconst 0, 1) := by decide +kernel
theorem d_LinkAudit_addMember_19 : decode prog_1_method_24_code 19 = .ok (.lcmp, 1) := by decide +kernel
theorem d_LinkAudit_addMember_20 : decode prog_1_method_24_code 20 = .ok (.ifCond .eq 5, 3) := by decide +kernel
theorem d_LinkAudit_addMember_23 : decode prog_1_method_24_code 23 = .ok (.iconst (-1), 1) := by decide +kernel
theorem d_LinkAudit_addMember_24 : decode prog_1_method_24_code 24 = .ok (.ireturn, 1) := by decide +kernel
theorem d_LinkAudit_addMember_25 : decode prog_1_method_24_code 25 = .ok (.aload_n 0, 1) := by decide +kernel
theorem d_LinkAudit_addMember_26 : decode prog_1_method_24_code 26 = .ok (.getfield 26, 3) := by decide +kernel
theorem d_LinkAudit_addMember_29 : decode prog_1_method_24_code 29 = .ok (.getfield 186, 3) := by decide +kernel
theorem d_LinkAudit_addMember_32 : decode prog_1_method_24_code 32 = .ok (.bipush 40, 2) := by decide +kernel
theorem d_LinkAudit_addMember_34 : decode prog_1_method_24_code 34 = .ok (.if_icmp .lt 6, 3) := by decide +kernel
theorem d_LinkAudit_addMember_37 : decode prog_1_method_24_code 37 = .ok (.bipush (-2), 2) := by decide +kernel
theorem d_LinkAudit_addMember_39 : decode prog_1_method_24_code 39 = .ok (.ireturn, 1) := by decide +kernel
theorem d_LinkAudit_addMember_40 : decode prog_1_method_24_code 40 = .ok (.aload_n 0, 1) := by decide +kernel
theorem d_LinkAudit_addMember_41 : decode prog_1_method_24_code 41 = .ok (.invokevirtual 100, 3) := by decide +kernel
theorem d_LinkAudit_addMember_44 : decode prog_1_method_24_code 44 = .ok (.aload_n 0, 1) := by decide +kernel
theorem d_LinkAudit_addMember_45 : decode prog_1_method_24_code 45 = .ok (.getfield 26, 3) := by decide +kernel
theorem d_LinkAudit_addMember_48 : decode prog_1_method_24_code 48 = .ok (.iload_n 1, 1) := by decide +kernel
theorem d_LinkAudit_addMember_49 : decode prog_1_method_24_code 49 = .ok (.iload_n 2, 1) := by decide +kernel
theorem d_LinkAudit_addMember_50 : decode prog_1_method_24_code 50 = .ok (.iload_n 3, 1) := by decide +kernel
theorem d_LinkAudit_addMember_51 : decode prog_1_method_24_code 51 = .ok (.invokevirtual 202, 3) := by decide +kernel
theorem d_LinkAudit_addMember_54 : decode prog_1_method_24_code 54 = .ok (.ireturn, 1) := by decide +kernel
theorem d_LinkAudit_field_0 : decode prog_1_method_5_code 0 = .ok (.aload_n 0, 1) := by decide +kernel
theorem d_LinkAudit_field_1 : decode prog_1_method_5_code 1 = .ok (.iload_n 1, 1) := by decide +kernel
theorem d_LinkAudit_field_2 : decode prog_1_method_5_code 2 = .ok (.invokevirtual 123, 3) := by decide +kernel
theorem d_LinkAudit_field_5 : decode prog_1_method_5_code 5 = .ok (.ifCond .eq 11, 3) := by decide +kernel
theorem d_LinkAudit_field_8 : decode prog_1_method_5_code 8 = .ok (.iload_n 2, 1) := by decide +kernel
theorem d_LinkAudit_field_9 : decode prog_1_method_5_code 9 = .ok (.iconst 4, 1) := by decide +kernel
theorem d_LinkAudit_field_10 : decode prog_1_method_5_code 10 = .ok (.invokestatic 89, 3) := by decide +kernel
theorem d_LinkAudit_field_13 : decode prog_1_method_5_code 13 = .ok (.ifCond .ne 5, 3) := by decide +kernel
theorem d_LinkAudit_field_16 : decode prog_1_method_5_code 16 = .ok (.iconst (-1), 1) := by decide +kernel
theorem d_LinkAudit_field_17 : decode prog_1_method_5_code 17 = .ok (.ireturn, 1) := by decide +kernel
theorem d_LinkAudit_field_18 : decode prog_1_method_5_code 18 = .ok (.iload_n 3, 1) := by decide +kernel
theorem d_LinkAudit_field_19 : decode prog_1_method_5_code 19 = .ok (.bipush 13, 2) := by decide +kernel
theorem d_LinkAudit_field_21 : decode prog_1_method_5_code 21 = .ok (.invokestatic 89, 3) := by decide +kernel
theorem d_LinkAudit_field_24 : decode prog_1_method_5_code 24 = .ok (.ifCond .eq 13, 3) := by decide +kernel
theorem d_LinkAudit_field_27 : decode prog_1_method_5_code 27 = .ok (.iload 4, 2) := by decide +kernel
theorem d_LinkAudit_field_29 : decode prog_1_method_5_code 29 = .ok (.bipush 8, 2) := by decide +kernel
theorem d_LinkAudit_field_31 : decode prog_1_method_5_code 31 = .ok (.invokestatic 89, 3) := by decide +kernel
theorem d_LinkAudit_field_34 : decode prog_1_method_5_code 34 = .ok (.ifCond .ne 5, 3) := by decide +kernel
theorem d_LinkAudit_field_37 : decode prog_1_method_5_code 37 = .ok (.iconst (-1), 1) := by decide +kernel
theorem d_LinkAudit_field_38 : decode prog_1_method_5_code 38 = .ok (.ireturn, 1) := by decide +kernel
theorem d_LinkAudit_field_39 : decode prog_1_method_5_code 39 = .ok (.aload_n 0, 1) := by decide +kernel
theorem d_LinkAudit_field_40 : decode prog_1_method_5_code 40 = .ok (.iload_n 1, 1) := by decide +kernel
theorem d_LinkAudit_field_41 : decode prog_1_method_5_code 41 = .ok (.iload_n 2, 1) := by decide +kernel
theorem d_LinkAudit_field_42 : decode prog_1_method_5_code 42 = .ok (.iload_n 3, 1) := by decide +kernel
theorem d_LinkAudit_field_43 : decode prog_1_method_5_code 43 = .ok (.invokestatic 126, 3) := by decide +kernel
theorem d_LinkAudit_field_46 : decode prog_1_method_5_code 46 = .ok (.iload 4, 2) := by decide +kernel
theorem d_LinkAudit_field_48 : decode prog_1_method_5_code 48 = .ok (.invokevirtual 129, 3) := by decide +kernel
theorem d_LinkAudit_field_51 : decode prog_1_method_5_code 51 = .ok (.ireturn, 1) := by decide +kernel
theorem d_Classes_isInterface_0 : decode prog_3_method_3_code 0 = .ok (.aload_n 0, 1) := by decide +kernel
theorem d_Classes_isInterface_1 : decode prog_3_method_3_code 1 = .ok (.getfield 18, 3) := by decide +kernel
theorem d_Classes_isInterface_4 : decode prog_3_method_3_code 4 = .ok (.iload_n 1, 1) := by decide +kernel
theorem d_Classes_isInterface_5 : decode prog_3_method_3_code 5 = .ok (.iaload, 1) := by decide +kernel
theorem d_Classes_isInterface_6 : decode prog_3_method_3_code 6 = .ok (.bipush 8, 2) := by decide +kernel
theorem d_Classes_isInterface_8 : decode prog_3_method_3_code 8 = .ok (.iand, 1) := by decide +kernel
theorem d_Classes_isInterface_9 : decode prog_3_method_3_code 9 = .ok (.ifCond .eq 7, 3) := by decide +kernel
theorem d_Classes_isInterface_12 : decode prog_3_method_3_code 12 = .ok (.iconst 1, 1) := by decide +kernel
theorem d_Classes_isInterface_13 : decode prog_3_method_3_code 13 = .ok (.goto 4, 3) := by decide +kernel
theorem d_Classes_isInterface_16 : decode prog_3_method_3_code 16 = .ok (.iconst 0, 1) := by decide +kernel
theorem d_Classes_isInterface_17 : decode prog_3_method_3_code 17 = .ok (.ireturn, 1) := by decide +kernel
theorem d_Members_methodSignature_0 : decode prog_7_method_2_code 0 = .ok (.iconst 4, 1) := by decide +kernel
theorem d_Members_methodSignature_1 : decode prog_7_method_2_code 1 = .ok (.iload_n 0, 1) := by decide +kernel
theorem d_Members_methodSignature_2 : decode prog_7_method_2_code 2 = .ok (.iadd, 1) := by decide +kernel
theorem d_Members_methodSignature_3 : decode prog_7_method_2_code 3 = .ok (.bipush 13, 2) := by decide +kernel
theorem d_Members_methodSignature_5 : decode prog_7_method_2_code 5 = .ok (.imul, 1) := by decide +kernel
theorem d_Members_methodSignature_6 : decode prog_7_method_2_code 6 = .ok (.iload_n 1, 1) := by decide +kernel
theorem d_Members_methodSignature_7 : decode prog_7_method_2_code 7 = .ok (.iadd, 1) := by decide +kernel
theorem d_Members_methodSignature_8 : decode prog_7_method_2_code 8 = .ok (.bipush 13, 2) := by decide +kernel
theorem d_Members_methodSignature_10 : decode prog_7_method_2_code 10 = .ok (.imul, 1) := by decide +kernel
theorem d_Members_methodSignature_11 : decode prog_7_method_2_code 11 = .ok (.iload_n 2, 1) := by decide +kernel
theorem d_Members_methodSignature_12 : decode prog_7_method_2_code 12 = .ok (.iadd, 1) := by decide +kernel
theorem d_Members_methodSignature_13 : decode prog_7_method_2_code 13 = .ok (.ireturn, 1) := by decide +kernel
theorem d_LinkAudit_method_0 : decode prog_1_method_6_code 0 = .ok (.aload_n 0, 1) := by decide +kernel
theorem d_LinkAudit_method_1 : decode prog_1_method_6_code 1 = .ok (.iload_n 1, 1) := by decide +kernel
theorem d_LinkAudit_method_2 : decode prog_1_method_6_code 2 = .ok (.invokevirtual 123, 3) := by decide +kernel
theorem d_LinkAudit_method_5 : decode prog_1_method_6_code 5 = .ok (.ifCond .eq 21, 3) := by decide +kernel
theorem d_LinkAudit_method_8 : decode prog_1_method_6_code 8 = .ok (.iload_n 2, 1) := by decide +kernel
theorem d_LinkAudit_method_9 : decode prog_1_method_6_code 9 = .ok (.iconst 4, 1) := by decide +kernel
theorem d_LinkAudit_method_10 : decode prog_1_method_6_code 10 = .ok (.invokestatic 89, 3) := by decide +kernel
theorem d_LinkAudit_method_13 : decode prog_1_method_6_code 13 = .ok (.ifCond .eq 13, 3) := by decide +kernel
theorem d_LinkAudit_method_16 : decode prog_1_method_6_code 16 = .ok (.iload 5, 2) := by decide +kernel
theorem d_LinkAudit_method_18 : decode prog_1_method_6_code 18 = .ok (.bipush 16, 2) := by decide +kernel
theorem d_LinkAudit_method_20 : decode prog_1_method_6_code 20 = .ok (.invokestatic 89, 3) := by decide +kernel
theorem d_LinkAudit_method_23 : decode prog_1_method_6_code 23 = .ok (.ifCond .ne 5, 3) := by decide +kernel
theorem d_LinkAudit_method_26 : decode prog_1_method_6_code 26 = .ok (.iconst (-1), 1) := by decide +kernel
theorem d_LinkAudit_method_27 : decode prog_1_method_6_code 27 = .ok (.ireturn, 1) := by decide +kernel
theorem d_LinkAudit_method_28 : decode prog_1_method_6_code 28 = .ok (.iload_n 3, 1) := by decide +kernel
theorem d_LinkAudit_method_29 : decode prog_1_method_6_code 29 = .ok (.bipush 13, 2) := by decide +kernel
theorem d_LinkAudit_method_31 : decode prog_1_method_6_code 31 = .ok (.invokestatic 89, 3) := by decide +kernel
theorem d_LinkAudit_method_34 : decode prog_1_method_6_code 34 = .ok (.ifCond .eq 13, 3) := by decide +kernel
theorem d_LinkAudit_method_37 : decode prog_1_method_6_code 37 = .ok (.iload 4, 2) := by decide +kernel
theorem d_LinkAudit_method_39 : decode prog_1_method_6_code 39 = .ok (.bipush 13, 2) := by decide +kernel
theorem d_LinkAudit_method_41 : decode prog_1_method_6_code 41 = .ok (.invokestatic 89, 3) := by decide +kernel
theorem d_LinkAudit_method_44 : decode prog_1_method_6_code 44 = .ok (.ifCond .ne 5, 3) := by decide +kernel
theorem d_LinkAudit_method_47 : decode prog_1_method_6_code 47 = .ok (.iconst (-1), 1) := by decide +kernel
theorem d_LinkAudit_method_48 : decode prog_1_method_6_code 48 = .ok (.ireturn, 1) := by decide +kernel
theorem d_LinkAudit_method_49 : decode prog_1_method_6_code 49 = .ok (.iload 5, 2) := by decide +kernel
theorem d_LinkAudit_method_51 : decode prog_1_method_6_code 51 = .ok (.iconst 3, 1) := by decide +kernel
theorem d_LinkAudit_method_52 : decode prog_1_method_6_code 52 = .ok (.iand, 1) := by decide +kernel
theorem d_LinkAudit_method_53 : decode prog_1_method_6_code 53 = .ok (.istore 6, 2) := by decide +kernel
theorem d_LinkAudit_method_55 : decode prog_1_method_6_code 55 = .ok (.aload_n 0, 1) := by decide +kernel
theorem d_LinkAudit_method_56 : decode prog_1_method_6_code 56 = .ok (.getfield 19, 3) := by decide +kernel
theorem d_LinkAudit_method_59 : decode prog_1_method_6_code 59 = .ok (.iload_n 1, 1) := by decide +kernel
theorem d_LinkAudit_method_60 : decode prog_1_method_6_code 60 = .ok (.invokevirtual 133, 3) := by decide +kernel
theorem d_LinkAudit_method_63 : decode prog_1_method_6_code 63 = .ok (.ifCond .eq 16, 3) := by decide +kernel
theorem d_LinkAudit_method_66 : decode prog_1_method_6_code 66 = .ok (.iload 6, 2) := by decide +kernel
theorem d_LinkAudit_method_68 : decode prog_1_method_6_code 68 = .ok (.ifCond .eq 11, 3) := by decide +kernel
theorem d_LinkAudit_method_71 : decode prog_1_method_6_code 71 = .ok (.iload 6, 2) := by decide +kernel
theorem d_LinkAudit_method_73 : decode prog_1_method_6_code 73 = .ok (.iconst 3, 1) := by decide +kernel
theorem d_LinkAudit_method_74 : decode prog_1_method_6_code 74 = .ok (.if_icmp .eq 5, 3) := by decide +kernel
theorem d_LinkAudit_method_77 : decode prog_1_method_6_code 77 = .ok (.iconst (-1), 1) := by decide +kernel
theorem d_LinkAudit_method_78 : decode prog_1_method_6_code 78 = .ok (.ireturn, 1) := by decide +kernel
theorem d_LinkAudit_method_79 : decode prog_1_method_6_code 79 = .ok (.iload 5, 2) := by decide +kernel
theorem d_LinkAudit_method_81 : decode prog_1_method_6_code 81 = .ok (.bipush 8, 2) := by decide +kernel
theorem d_LinkAudit_method_83 : decode prog_1_method_6_code 83 = .ok (.iand, 1) := by decide +kernel
theorem d_LinkAudit_method_84 : decode prog_1_method_6_code 84 = .ok (.ifCond .eq 18, 3) := by decide +kernel
theorem d_LinkAudit_method_87 : decode prog_1_method_6_code 87 = .ok (.iload 6, 2) := by decide +kernel
theorem d_LinkAudit_method_89 : decode prog_1_method_6_code 89 = .ok (.iconst 3, 1) := by decide +kernel
theorem d_LinkAudit_method_90 : decode prog_1_method_6_code 90 = .ok (.if_icmp .eq 10, 3) := by decide +kernel
theorem d_LinkAudit_method_93 : decode prog_1_method_6_code 93 = .ok (.iload 5, 2) := by decide +kernel
theorem d_LinkAudit_method_95 : decode prog_1_method_6_code 95 = .ok (.iconst 4, 1) := by decide +kernel
theorem d_LinkAudit_method_96 : decode prog_1_method_6_code 96 = .ok (.iand, 1) := by decide +kernel
theorem d_LinkAudit_method_97 : decode prog_1_method_6_code 97 = .ok (.ifCond .eq 5, 3) := by decide +kernel
theorem d_LinkAudit_method_100 : decode prog_1_method_6_code 100 = .ok (.iconst (-1), 1) := by decide +kernel
theorem d_LinkAudit_method_101 : decode prog_1_method_6_code 101 = .ok (.ireturn, 1) := by decide +kernel
theorem d_LinkAudit_method_102 : decode prog_1_method_6_code 102 = .ok (.aload_n 0, 1) := by decide +kernel
theorem d_LinkAudit_method_103 : decode prog_1_method_6_code 103 = .ok (.iload_n 1, 1) := by decide +kernel
theorem d_LinkAudit_method_104 : decode prog_1_method_6_code 104 = .ok (.iload_n 2, 1) := by decide +kernel
theorem d_LinkAudit_method_105 : decode prog_1_method_6_code 105 = .ok (.iload_n 3, 1) := by decide +kernel
theorem d_LinkAudit_method_106 : decode prog_1_method_6_code 106 = .ok (.iload 4, 2) := by decide +kernel
theorem d_LinkAudit_method_108 : decode prog_1_method_6_code 108 = .ok (.invokestatic 136, 3) := by decide +kernel
theorem d_LinkAudit_method_111 : decode prog_1_method_6_code 111 = .ok (.iload 5, 2) := by decide +kernel
theorem d_LinkAudit_method_113 : decode prog_1_method_6_code 113 = .ok (.invokevirtual 129, 3) := by decide +kernel
theorem d_LinkAudit_method_116 : decode prog_1_method_6_code 116 = .ok (.ireturn, 1) := by decide +kernel
theorem d_References_add_0 : decode prog_8_method_2_code 0 = .ok (.iload_n 2, 1) := by decide +kernel
theorem d_References_add_1 : decode prog_8_method_2_code 1 = .ok (.iconst 4, 1) := by decide +kernel
theorem d_References_add_2 : decode prog_8_method_2_code 2 = .ok (.idiv, 1) := by decide +kernel
theorem d_References_add_3 : decode prog_8_method_2_code 3 = .ok (.istore 6, 2) := by decide +kernel
theorem d_References_add_5 : decode prog_8_method_2_code 5 = .ok (.iload_n 2, 1) := by decide +kernel
theorem d_References_add_6 : decode prog_8_method_2_code 6 = .ok (.iconst 4, 1) := by decide +kernel
theorem d_References_add_7 : decode prog_8_method_2_code 7 = .ok (.irem, 1) := by decide +kernel
theorem d_References_add_8 : decode prog_8_method_2_code 8 = .ok (.istore 7, 2) := by decide +kernel
theorem d_References_add_10 : decode prog_8_method_2_code 10 = .ok (.aload_n 0, 1) := by decide +kernel
theorem d_References_add_11 : decode prog_8_method_2_code 11 = .ok (.getfield 9, 3) := by decide +kernel
theorem d_References_add_14 : decode prog_8_method_2_code 14 = .ok (.aload_n 0, 1) := by decide +kernel
theorem d_References_add_15 : decode prog_8_method_2_code 15 = .ok (.getfield 24, 3) := by decide +kernel
theorem d_References_add_18 : decode prog_8_method_2_code 18 = .ok (.iload_n 1, 1) := by decide +kernel
theorem d_References_add_19 : decode prog_8_method_2_code 19 = .ok (.iastore, 1) := by decide +kernel
theorem d_References_add_20 : decode prog_8_method_2_code 20 = .ok (.aload_n 0, 1) := by decide +kernel
theorem d_References_add_21 : decode prog_8_method_2_code 21 = .ok (.getfield 15, 3) := by decide +kernel
theorem d_References_add_24 : decode prog_8_method_2_code 24 = .ok (.aload_n 0, 1) := by decide +kernel
theorem d_References_add_25 : decode prog_8_method_2_code 25 = .ok (.getfield 24, 3) := by decide +kernel
theorem d_References_add_28 : decode prog_8_method_2_code 28 = .ok (.iload 6, 2) := by decide +kernel
theorem d_References_add_30 : decode prog_8_method_2_code 30 = .ok (.iastore, 1) := by decide +kernel
theorem d_References_add_31 : decode prog_8_method_2_code 31 = .ok (.aload_n 0, 1) := by decide +kernel
theorem d_References_add_32 : decode prog_8_method_2_code 32 = .ok (.getfield 18, 3) := by decide +kernel
theorem d_References_add_35 : decode prog_8_method_2_code 35 = .ok (.aload_n 0, 1) := by decide +kernel
theorem d_References_add_36 : decode prog_8_method_2_code 36 = .ok (.getfield 24, 3) := by decide +kernel
theorem d_References_add_39 : decode prog_8_method_2_code 39 = .ok (.iload_n 3, 1) := by decide +kernel
theorem d_References_add_40 : decode prog_8_method_2_code 40 = .ok (.iastore, 1) := by decide +kernel
theorem d_References_add_41 : decode prog_8_method_2_code 41 = .ok (.aload_n 0, 1) := by decide +kernel
theorem d_References_add_42 : decode prog_8_method_2_code 42 = .ok (.getfield 21, 3) := by decide +kernel
theorem d_References_add_45 : decode prog_8_method_2_code 45 = .ok (.aload_n 0, 1) := by decide +kernel
theorem d_References_add_46 : decode prog_8_method_2_code 46 = .ok (.getfield 24, 3) := by decide +kernel
theorem d_References_add_49 : decode prog_8_method_2_code 49 = .ok (.iload 6, 2) := by decide +kernel
theorem d_References_add_51 : decode prog_8_method_2_code 51 = .ok (.iconst 1, 1) := by decide +kernel
theorem d_References_add_52 : decode prog_8_method_2_code 52 = .ok (.if_icmp .eq 9, 3) := by decide +kernel
theorem d_References_add_55 : decode prog_8_method_2_code 55 = .ok (.iload 6, 2) := by decide +kernel
theorem d_References_add_57 : decode prog_8_method_2_code 57 = .ok (.iconst 2, 1) := by decide +kernel
theorem d_References_add_58 : decode prog_8_method_2_code 58 = .ok (.if_icmp .ne 13, 3) := by decide +kernel
theorem d_References_add_61 : decode prog_8_method_2_code 61 = .ok (.iload 7, 2) := by decide +kernel
theorem d_References_add_63 : decode prog_8_method_2_code 63 = .ok (.iload 4, 2) := by decide +kernel
theorem d_References_add_65 : decode prog_8_method_2_code 65 = .ok (.invokestatic 28, 3) := by decide +kernel
theorem d_References_add_68 : decode prog_8_method_2_code 68 = .ok (.goto 12, 3) := by decide +kernel
theorem d_References_add_71 : decode prog_8_method_2_code 71 = .ok (.iload 7, 2) := by decide +kernel
theorem d_References_add_73 : decode prog_8_method_2_code 73 = .ok (.iload 4, 2) := by decide +kernel
theorem d_References_add_75 : decode prog_8_method_2_code 75 = .ok (.iload 5, 2) := by decide +kernel
theorem d_References_add_77 : decode prog_8_method_2_code 77 = .ok (.invokestatic 34, 3) := by decide +kernel
theorem d_References_add_80 : decode prog_8_method_2_code 80 = .ok (.iastore, 1) := by decide +kernel
theorem d_References_add_81 : decode prog_8_method_2_code 81 = .ok (.aload_n 0, 1) := by decide +kernel
theorem d_References_add_82 : decode prog_8_method_2_code 82 = .ok (.dup, 1) := by decide +kernel
theorem d_References_add_83 : decode prog_8_method_2_code 83 = .ok (.getfield 24, 3) := by decide +kernel
theorem d_References_add_86 : decode prog_8_method_2_code 86 = .ok (.iconst 1, 1) := by decide +kernel
theorem d_References_add_87 : decode prog_8_method_2_code 87 = .ok (.iadd, 1) := by decide +kernel
theorem d_References_add_88 : decode prog_8_method_2_code 88 = .ok (.putfield 24, 3) := by decide +kernel
theorem d_References_add_91 : decode prog_8_method_2_code 91 = .ok (.aload_n 0, 1) := by decide +kernel
theorem d_References_add_92 : decode prog_8_method_2_code 92 = .ok (.getfield 24, 3) := by decide +kernel
theorem d_References_add_95 : decode prog_8_method_2_code 95 = .ok (.iconst 1, 1) := by decide +kernel
theorem d_References_add_96 : decode prog_8_method_2_code 96 = .ok (.isub, 1) := by decide +kernel
theorem d_References_add_97 : decode prog_8_method_2_code 97 = .ok (.ireturn, 1) := by decide +kernel
theorem d_LinkAudit_reference_0 : decode prog_1_method_7_code 0 = .ok (.aload_n 0, 1) := by decide +kernel
theorem d_LinkAudit_reference_1 : decode prog_1_method_7_code 1 = .ok (.iload_n 1, 1) := by decide +kernel
theorem d_LinkAudit_reference_2 : decode prog_1_method_7_code 2 = .ok (.invokevirtual 123, 3) := by decide +kernel
theorem d_LinkAudit_reference_5 : decode prog_1_method_7_code 5 = .ok (.ifCond .eq 21, 3) := by decide +kernel
theorem d_LinkAudit_reference_8 : decode prog_1_method_7_code 8 = .ok (.iload_n 2, 1) := by decide +kernel
theorem d_LinkAudit_reference_9 : decode prog_1_method_7_code 9 = .ok (.bipush 24, 2) := by decide +kernel
theorem d_LinkAudit_reference_11 : decode prog_1_method_7_code 11 = .ok (.invokestatic 89, 3) := by decide +kernel
theorem d_LinkAudit_reference_14 : decode prog_1_method_7_code 14 = .ok (.ifCond .eq 12, 3) := by decide +kernel
theorem d_LinkAudit_reference_17 : decode prog_1_method_7_code 17 = .ok (.iload_n 3, 1) := by decide +kernel
theorem d_LinkAudit_reference_18 : decode prog_1_method_7_code 18 = .ok (.bipush 12, 2) := by decide +kernel
theorem d_LinkAudit_reference_20 : decode prog_1_method_7_code 20 = .ok (.invokestatic 89, 3) := by decide +kernel
theorem d_LinkAudit_reference_23 : decode prog_1_method_7_code 23 = .ok (.ifCond .ne 5, 3) := by decide +kernel
theorem d_LinkAudit_reference_26 : decode prog_1_method_7_code 26 = .ok (.iconst (-1), 1) := by decide +kernel
theorem d_LinkAudit_reference_27 : decode prog_1_method_7_code 27 = .ok (.ireturn, 1) := by decide +kernel
theorem d_LinkAudit_reference_28 : decode prog_1_method_7_code 28 = .ok (.iload 4, 2) := by decide +kernel
theorem d_LinkAudit_reference_30 : decode prog_1_method_7_code 30 = .ok (.bipush 13, 2) := by decide +kernel
theorem d_LinkAudit_reference_32 : decode prog_1_method_7_code 32 = .ok (.invokestatic 89, 3) := by decide +kernel
theorem d_LinkAudit_reference_35 : decode prog_1_method_7_code 35 = .ok (.ifCond .eq 13, 3) := by decide +kernel
theorem d_LinkAudit_reference_38 : decode prog_1_method_7_code 38 = .ok (.iload 5, 2) := by decide +kernel
theorem d_LinkAudit_reference_40 : decode prog_1_method_7_code 40 = .ok (.bipush 13, 2) := by decide +kernel
theorem d_LinkAudit_reference_42 : decode prog_1_method_7_code 42 = .ok (.invokestatic 89, 3) := by decide +kernel
theorem d_LinkAudit_reference_45 : decode prog_1_method_7_code 45 = .ok (.ifCond .ne 5, 3) := by decide +kernel
theorem d_LinkAudit_reference_48 : decode prog_1_method_7_code 48 = .ok (.iconst (-1), 1) := by decide +kernel
theorem d_LinkAudit_reference_49 : decode prog_1_method_7_code 49 = .ok (.ireturn, 1) := by decide +kernel
theorem d_LinkAudit_reference_50 : decode prog_1_method_7_code 50 = .ok (.aload_n 0, 1) := by decide +kernel
theorem d_LinkAudit_reference_51 : decode prog_1_method_7_code 51 = .ok (.getfield 33, 3) := by decide +kernel
theorem d_LinkAudit_reference_54 : decode prog_1_method_7_code 54 = .ok (.getfield 139, 3) := by decide +kernel
theorem d_LinkAudit_reference_57 : decode prog_1_method_7_code 57 = .ok (.bipush 12, 2) := by decide +kernel
theorem d_LinkAudit_reference_59 : decode prog_1_method_7_code 59 = .ok (.if_icmp .lt 6, 3) := by decide +kernel
theorem d_LinkAudit_reference_62 : decode prog_1_method_7_code 62 = .ok (.bipush (-2), 2) := by decide +kernel
theorem d_LinkAudit_reference_64 : decode prog_1_method_7_code 64 = .ok (.ireturn, 1) := by decide +kernel
theorem d_LinkAudit_reference_65 : decode prog_1_method_7_code 65 = .ok (.aload_n 0, 1) := by decide +kernel
theorem d_LinkAudit_reference_66 : decode prog_1_method_7_code 66 = .ok (.invokevirtual 100, 3) := by decide +kernel
theorem d_LinkAudit_reference_69 : decode prog_1_method_7_code 69 = .ok (.aload_n 0, 1) := by decide +kernel
theorem d_LinkAudit_reference_70 : decode prog_1_method_7_code 70 = .ok (.getfield 33, 3) := by decide +kernel
theorem d_LinkAudit_reference_73 : decode prog_1_method_7_code 73 = .ok (.iload_n 1, 1) := by decide +kernel
theorem d_LinkAudit_reference_74 : decode prog_1_method_7_code 74 = .ok (.iload_n 2, 1) := by decide +kernel
theorem d_LinkAudit_reference_75 : decode prog_1_method_7_code 75 = .ok (.iload_n 3, 1) := by decide +kernel
theorem d_LinkAudit_reference_76 : decode prog_1_method_7_code 76 = .ok (.iload 4, 2) := by decide +kernel
theorem d_LinkAudit_reference_78 : decode prog_1_method_7_code 78 = .ok (.iload 5, 2) := by decide +kernel
theorem d_LinkAudit_reference_80 : decode prog_1_method_7_code 80 = .ok (.invokevirtual 140, 3) := by decide +kernel
theorem d_LinkAudit_reference_83 : decode prog_1_method_7_code 83 = .ok (.ireturn, 1) := by decide +kernel
theorem d_LinkAudit_hasBit_0 : decode prog_1_method_22_code 0 = .ok (.lload_n 0, 1) := by decide +kernel
theorem d_LinkAudit_hasBit_1 : decode prog_1_method_22_code 1 = .ok (.iload_n 2, 1) := by decide +kernel
theorem d_LinkAudit_hasBit_2 : decode prog_1_method_22_code 2 = .ok (.lshr, 1) := by decide +kernel
theorem d_LinkAudit_hasBit_3 : decode prog_1_method_22_code 3 = .ok (.lconst 1, 1) := by decide +kernel
theorem d_LinkAudit_hasBit_4 : decode prog_1_method_22_code 4 = .ok (.land, 1) := by decide +kernel
theorem d_LinkAudit_hasBit_5 : decode prog_1_method_22_code 5 = .ok (.lconst 0, 1) := by decide +kernel
theorem d_LinkAudit_hasBit_6 : decode prog_1_method_22_code 6 = .ok (.lcmp, 1) := by decide +kernel
theorem d_LinkAudit_hasBit_7 : decode prog_1_method_22_code 7 = .ok (.ifCond .eq 7, 3) := by decide +kernel
theorem d_LinkAudit_hasBit_10 : decode prog_1_method_22_code 10 = .ok (.iconst 1, 1) := by decide +kernel
theorem d_LinkAudit_hasBit_11 : decode prog_1_method_22_code 11 = .ok (.goto 4, 3) := by decide +kernel
theorem d_LinkAudit_hasBit_14 : decode prog_1_method_22_code 14 = .ok (.iconst 0, 1) := by decide +kernel
theorem d_LinkAudit_hasBit_15 : decode prog_1_method_22_code 15 = .ok (.ireturn, 1) := by decide +kernel
theorem d_Loaders_found_0 : decode prog_6_method_5_code 0 = .ok (.iconst 0, 1) := by decide +kernel
theorem d_Loaders_found_1 : decode prog_6_method_5_code 1 = .ok (.istore_n 3, 1) := by decide +kernel
theorem d_Loaders_found_2 : decode prog_6_method_5_code 2 = .ok (.aload_n 0, 1) := by decide +kernel
theorem d_Loaders_found_3 : decode prog_6_method_5_code 3 = .ok (.getfield 20, 3) := by decide +kernel
theorem d_Loaders_found_6 : decode prog_6_method_5_code 6 = .ok (.iload_n 1, 1) := by decide +kernel
theorem d_Loaders_found_7 : decode prog_6_method_5_code 7 = .ok (.iaload, 1) := by decide +kernel
theorem d_Loaders_found_8 : decode prog_6_method_5_code 8 = .ok (.i2l, 1) := by decide +kernel
theorem d_Loaders_found_9 : decode prog_6_method_5_code 9 = .ok (.iload_n 2, 1) := by decide +kernel
theorem d_Loaders_found_10 : decode prog_6_method_5_code 10 = .ok (.invokestatic 26, 3) := by decide +kernel
theorem d_Loaders_found_13 : decode prog_6_method_5_code 13 = .ok (.ifCond .ne 53, 3) := by decide +kernel
theorem d_Loaders_found_16 : decode prog_6_method_5_code 16 = .ok (.aload_n 0, 1) := by decide +kernel
theorem d_Loaders_found_17 : decode prog_6_method_5_code 17 = .ok (.getfield 23, 3) := by decide +kernel
theorem d_Loaders_found_20 : decode prog_6_method_5_code 20 = .ok (.iconst 0, 1) := by decide +kernel
theorem d_Loaders_found_21 : decode prog_6_method_5_code 21 = .ok (.aaload, 1) := by decide +kernel
theorem d_Loaders_found_22 : decode prog_6_method_5_code 22 = .ok (.iload_n 2, 1) := by decide +kernel
theorem d_Loaders_found_23 : decode prog_6_method_5_code 23 = .ok (.iaload, 1) := by decide +kernel
theorem d_Loaders_found_24 : decode prog_6_method_5_code 24 = .ok (.istore_n 3, 1) := by decide +kernel
theorem d_Loaders_found_25 : decode prog_6_method_5_code 25 = .ok (.iconst 0, 1) := by decide +kernel
theorem d_Loaders_found_26 : decode prog_6_method_5_code 26 = .ok (.istore 4, 2) := by decide +kernel
theorem d_Loaders_found_28 : decode prog_6_method_5_code 28 = .ok (.iload 4, 2) := by decide +kernel
theorem d_Loaders_found_30 : decode prog_6_method_5_code 30 = .ok (.aload_n 0, 1) := by decide +kernel
theorem d_Loaders_found_31 : decode prog_6_method_5_code 31 = .ok (.getfield 16, 3) := by decide +kernel
theorem d_Loaders_found_34 : decode prog_6_method_5_code 34 = .ok (.iload_n 1, 1) := by decide +kernel
theorem d_Loaders_found_35 : decode prog_6_method_5_code 35 = .ok (.iaload, 1) := by decide +kernel
theorem d_Loaders_found_36 : decode prog_6_method_5_code 36 = .ok (.if_icmp .ge 30, 3) := by decide +kernel
theorem d_Loaders_found_39 : decode prog_6_method_5_code 39 = .ok (.iload_n 3, 1) := by decide +kernel
theorem d_Loaders_found_40 : decode prog_6_method_5_code 40 = .ok (.ifCond .ne 26, 3) := by decide +kernel
theorem d_Loaders_found_43 : decode prog_6_method_5_code 43 = .ok (.aload_n 0, 1) := by decide +kernel
theorem d_Loaders_found_44 : decode prog_6_method_5_code 44 = .ok (.getfield 23, 3) := by decide +kernel
theorem d_Loaders_found_47 : decode prog_6_method_5_code 47 = .ok (.aload_n 0, 1) := by decide +kernel
theorem d_Loaders_found_48 : decode prog_6_method_5_code 48 = .ok (.getfield 11, 3) := by decide +kernel
theorem d_Loaders_found_51 : decode prog_6_method_5_code 51 = .ok (.iload_n 1, 1) := by decide +kernel
theorem d_Loaders_found_52 : decode prog_6_method_5_code 52 = .ok (.aaload, 1) := by decide +kernel
theorem d_Loaders_found_53 : decode prog_6_method_5_code 53 = .ok (.iload 4, 2) := by decide +kernel
theorem d_Loaders_found_55 : decode prog_6_method_5_code 55 = .ok (.iaload, 1) := by decide +kernel
theorem d_Loaders_found_56 : decode prog_6_method_5_code 56 = .ok (.aaload, 1) := by decide +kernel
theorem d_Loaders_found_57 : decode prog_6_method_5_code 57 = .ok (.iload_n 2, 1) := by decide +kernel
theorem d_Loaders_found_58 : decode prog_6_method_5_code 58 = .ok (.iaload, 1) := by decide +kernel
theorem d_Loaders_found_59 : decode prog_6_method_5_code 59 = .ok (.istore_n 3, 1) := by decide +kernel
theorem d_Loaders_found_60 : decode prog_6_method_5_code 60 = .ok (.iinc 4 1, 3) := by decide +kernel
theorem d_Loaders_found_63 : decode prog_6_method_5_code 63 = .ok (.goto (-35), 3) := by decide +kernel
theorem d_Loaders_found_66 : decode prog_6_method_5_code 66 = .ok (.iload_n 3, 1) := by decide +kernel
theorem d_Loaders_found_67 : decode prog_6_method_5_code 67 = .ok (.ifCond .ne 14, 3) := by decide +kernel
theorem d_Loaders_found_70 : decode prog_6_method_5_code 70 = .ok (.aload_n 0, 1) := by decide +kernel
theorem d_Loaders_found_71 : decode prog_6_method_5_code 71 = .ok (.getfield 23, 3) := by decide +kernel
theorem d_Loaders_found_74 : decode prog_6_method_5_code 74 = .ok (.iload_n 1, 1) := by decide +kernel
theorem d_Loaders_found_75 : decode prog_6_method_5_code 75 = .ok (.aaload, 1) := by decide +kernel
theorem d_Loaders_found_76 : decode prog_6_method_5_code 76 = .ok (.iload_n 2, 1) := by decide +kernel
theorem d_Loaders_found_77 : decode prog_6_method_5_code 77 = .ok (.iaload, 1) := by decide +kernel
theorem d_Loaders_found_78 : decode prog_6_method_5_code 78 = .ok (.goto 4, 3) := by decide +kernel
theorem d_Loaders_found_81 : decode prog_6_method_5_code 81 = .ok (.iload_n 3, 1) := by decide +kernel
theorem d_Loaders_found_82 : decode prog_6_method_5_code 82 = .ok (.ireturn, 1) := by decide +kernel
theorem d_LinkAudit_find_0 : decode prog_1_method_8_code 0 = .ok (.iload_n 1, 1) := by decide +kernel
theorem d_LinkAudit_find_1 : decode prog_1_method_8_code 1 = .ok (.iconst 5, 1) := by decide +kernel
theorem d_LinkAudit_find_2 : decode prog_1_method_8_code 2 = .ok (.invokestatic 89, 3) := by decide +kernel
theorem d_LinkAudit_find_5 : decode prog_1_method_8_code 5 = .ok (.ifCond .eq 12, 3) := by decide +kernel
theorem d_LinkAudit_find_8 : decode prog_1_method_8_code 8 = .ok (.iload_n 2, 1) := by decide +kernel
theorem d_LinkAudit_find_9 : decode prog_1_method_8_code 9 = .ok (.bipush 12, 2) := by decide +kernel
theorem d_LinkAudit_find_11 : decode prog_1_method_8_code 11 = .ok (.invokestatic 89, 3) := by decide +kernel
theorem d_LinkAudit_find_14 : decode prog_1_method_8_code 14 = .ok (.ifCond .ne 5, 3) := by decide +kernel
theorem d_LinkAudit_find_17 : decode prog_1_method_8_code 17 = .ok (.iconst (-1), 1) := by decide +kernel
theorem d_LinkAudit_find_18 : decode prog_1_method_8_code 18 = .ok (.ireturn, 1) := by decide +kernel
theorem d_LinkAudit_find_19 : decode prog_1_method_8_code 19 = .ok (.aload_n 0, 1) := by decide +kernel
theorem d_LinkAudit_find_20 : decode prog_1_method_8_code 20 = .ok (.getfield 12, 3) := by decide +kernel
theorem d_LinkAudit_find_23 : decode prog_1_method_8_code 23 = .ok (.iload_n 1, 1) := by decide +kernel
theorem d_LinkAudit_find_24 : decode prog_1_method_8_code 24 = .ok (.iload_n 2, 1) := by decide +kernel
theorem d_LinkAudit_find_25 : decode prog_1_method_8_code 25 = .ok (.invokevirtual 141, 3) := by decide +kernel
theorem d_LinkAudit_find_28 : decode prog_1_method_8_code 28 = .ok (.istore_n 3, 1) := by decide +kernel
theorem d_LinkAudit_find_29 : decode prog_1_method_8_code 29 = .ok (.iload_n 3, 1) := by decide +kernel
theorem d_LinkAudit_find_30 : decode prog_1_method_8_code 30 = .ok (.ifCond .ne 8, 3) := by decide +kernel
theorem d_LinkAudit_find_33 : decode prog_1_method_8_code 33 = .ok (.bipush (-3), 2) := by decide +kernel
theorem d_LinkAudit_find_35 : decode prog_1_method_8_code 35 = .ok (.goto 4, 3) := by decide +kernel
theorem d_LinkAudit_find_38 : decode prog_1_method_8_code 38 = .ok (.iload_n 3, 1) := by decide +kernel
theorem d_LinkAudit_find_39 : decode prog_1_method_8_code 39 = .ok (.ireturn, 1) := by decide +kernel
theorem d_Arrays_fill_0 : decode prog_15_method_103_code 0 = .ok (.iconst 0, 1) := by decide +kernel
theorem d_Arrays_fill_1 : decode prog_15_method_103_code 1 = .ok (.istore_n 2, 1) := by decide +kernel
theorem d_Arrays_fill_2 : decode prog_15_method_103_code 2 = .ok (.aload_n 0, 1) := by decide +kernel
theorem d_Arrays_fill_3 : decode prog_15_method_103_code 3 = .ok (.arraylength, 1) := by decide +kernel
theorem d_Arrays_fill_4 : decode prog_15_method_103_code 4 = .ok (.istore_n 3, 1) := by decide +kernel
theorem d_Arrays_fill_5 : decode prog_15_method_103_code 5 = .ok (.iload_n 2, 1) := by decide +kernel
theorem d_Arrays_fill_6 : decode prog_15_method_103_code 6 = .ok (.iload_n 3, 1) := by decide +kernel
theorem d_Arrays_fill_7 : decode prog_15_method_103_code 7 = .ok (.if_icmp .ge 13, 3) := by decide +kernel
theorem d_Arrays_fill_10 : decode prog_15_method_103_code 10 = .ok (.aload_n 0, 1) := by decide +kernel
theorem d_Arrays_fill_11 : decode prog_15_method_103_code 11 = .ok (.iload_n 2, 1) := by decide +kernel
theorem d_Arrays_fill_12 : decode prog_15_method_103_code 12 = .ok (.iload_n 1, 1) := by decide +kernel
theorem d_Arrays_fill_13 : decode prog_15_method_103_code 13 = .ok (.iastore, 1) := by decide +kernel
theorem d_Arrays_fill_14 : decode prog_15_method_103_code 14 = .ok (.iinc 2 1, 3) := by decide +kernel
theorem d_Arrays_fill_17 : decode prog_15_method_103_code 17 = .ok (.goto (-12), 3) := by decide +kernel
theorem d_Arrays_fill_20 : decode prog_15_method_103_code 20 = .ok (.return_, 1) := by decide +kernel
theorem d_Links_isLoadable_0 : decode prog_5_method_3_code 0 = .ok (.aload_n 0, 1) := by decide +kernel
theorem d_Links_isLoadable_1 : decode prog_5_method_3_code 1 = .ok (.getfield 9, 3) := by decide +kernel
theorem d_Links_isLoadable_4 : decode prog_5_method_3_code 4 = .ok (.iload_n 1, 1) := by decide +kernel
theorem d_Links_isLoadable_5 : decode prog_5_method_3_code 5 = .ok (.iaload, 1) := by decide +kernel
theorem d_Links_isLoadable_6 : decode prog_5_method_3_code 6 = .ok (.iload_n 1, 1) := by decide +kernel
theorem d_Links_isLoadable_7 : decode prog_5_method_3_code 7 = .ok (.if_icmp .ne 7, 3) := by decide +kernel
theorem d_Links_isLoadable_10 : decode prog_5_method_3_code 10 = .ok (.iconst 1, 1) := by decide +kernel
theorem d_Links_isLoadable_11 : decode prog_5_method_3_code 11 = .ok (.goto 4, 3) := by decide +kernel
theorem d_Links_isLoadable_14 : decode prog_5_method_3_code 14 = .ok (.iconst 0, 1) := by decide +kernel
theorem d_Links_isLoadable_15 : decode prog_5_method_3_code 15 = .ok (.ireturn, 1) := by decide +kernel
theorem d_Classes_canBeSuper_0 : decode prog_3_method_5_code 0 = .ok (.aload_n 0, 1) := by decide +kernel
theorem d_Classes_canBeSuper_1 : decode prog_3_method_5_code 1 = .ok (.getfield 18, 3) := by decide +kernel
theorem d_Classes_canBeSuper_4 : decode prog_3_method_5_code 4 = .ok (.iload_n 1, 1) := by decide +kernel
theorem d_Classes_canBeSuper_5 : decode prog_3_method_5_code 5 = .ok (.iaload, 1) := by decide +kernel
theorem d_Classes_canBeSuper_6 : decode prog_3_method_5_code 6 = .ok (.bipush 10, 2) := by decide +kernel
theorem d_Classes_canBeSuper_8 : decode prog_3_method_5_code 8 = .ok (.iand, 1) := by decide +kernel
theorem d_Classes_canBeSuper_9 : decode prog_3_method_5_code 9 = .ok (.ifCond .ne 7, 3) := by decide +kernel
theorem d_Classes_canBeSuper_12 : decode prog_3_method_5_code 12 = .ok (.iconst 1, 1) := by decide +kernel
theorem d_Classes_canBeSuper_13 : decode prog_3_method_5_code 13 = .ok (.goto 4, 3) := by decide +kernel
theorem d_Classes_canBeSuper_16 : decode prog_3_method_5_code 16 = .ok (.iconst 0, 1) := by decide +kernel
theorem d_Classes_canBeSuper_17 : decode prog_3_method_5_code 17 = .ok (.ireturn, 1) := by decide +kernel
theorem d_Classes_areNeighbours_0 : decode prog_3_method_6_code 0 = .ok (.aload_n 0, 1) := by decide +kernel
theorem d_Classes_areNeighbours_1 : decode prog_3_method_6_code 1 = .ok (.getfield 9, 3) := by decide +kernel
theorem d_Classes_areNeighbours_4 : decode prog_3_method_6_code 4 = .ok (.iload_n 1, 1) := by decide +kernel
theorem d_Classes_areNeighbours_5 : decode prog_3_method_6_code 5 = .ok (.iaload, 1) := by decide +kernel
theorem d_Classes_areNeighbours_6 : decode prog_3_method_6_code 6 = .ok (.aload_n 0, 1) := by decide +kernel
theorem d_Classes_areNeighbours_7 : decode prog_3_method_6_code 7 = .ok (.getfield 9, 3) := by decide +kernel
theorem d_Classes_areNeighbours_10 : decode prog_3_method_6_code 10 = .ok (.iload_n 2, 1) := by decide +kernel
theorem d_Classes_areNeighbours_11 : decode prog_3_method_6_code 11 = .ok (.iaload, 1) := by decide +kernel
theorem d_Classes_areNeighbours_12 : decode prog_3_method_6_code 12 = .ok (.if_icmp .ne 26, 3) := by decide +kernel
theorem d_Classes_areNeighbours_15 : decode prog_3_method_6_code 15 = .ok (.aload_n 0, 1) := by decide +kernel
theorem d_Classes_areNeighbours_16 : decode prog_3_method_6_code 16 = .ok (.getfield 15, 3) := by decide +kernel
theorem d_Classes_areNeighbours_19 : decode prog_3_method_6_code 19 = .ok (.iload_n 1, 1) := by decide +kernel
theorem d_Classes_areNeighbours_20 : decode prog_3_method_6_code 20 = .ok (.iaload, 1) := by decide +kernel
theorem d_Classes_areNeighbours_21 : decode prog_3_method_6_code 21 = .ok (.iconst 4, 1) := by decide +kernel
theorem d_Classes_areNeighbours_22 : decode prog_3_method_6_code 22 = .ok (.idiv, 1) := by decide +kernel
