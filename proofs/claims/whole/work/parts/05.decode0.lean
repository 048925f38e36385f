theorem d_D_emptyTable_0 : decode prog_1_method_35_code 0 = .ok (.bipush 16, 2) := by decide +kernel
theorem d_D_emptyTable_2 : decode prog_1_method_35_code 2 = .ok (.bipush 16, 2) := by decide +kernel
theorem d_D_emptyTable_4 : decode prog_1_method_35_code 4 = .ok (.multianewarray 187 2, 4) := by decide +kernel
theorem d_D_emptyTable_8 : decode prog_1_method_35_code 8 = .ok (.astore_n 0, 1) := by decide +kernel
theorem d_D_emptyTable_9 : decode prog_1_method_35_code 9 = .ok (.iconst 0, 1) := by decide +kernel
theorem d_D_emptyTable_10 : decode prog_1_method_35_code 10 = .ok (.istore_n 1, 1) := by decide +kernel
theorem d_D_emptyTable_11 : decode prog_1_method_35_code 11 = .ok (.iload_n 1, 1) := by decide +kernel
theorem d_D_emptyTable_12 : decode prog_1_method_35_code 12 = .ok (.bipush 16, 2) := by decide +kernel
theorem d_D_emptyTable_14 : decode prog_1_method_35_code 14 = .ok (.if_icmp .ge 29, 3) := by decide +kernel
theorem d_D_emptyTable_17 : decode prog_1_method_35_code 17 = .ok (.iconst 0, 1) := by decide +kernel
theorem d_D_emptyTable_18 : decode prog_1_method_35_code 18 = .ok (.istore_n 2, 1) := by decide +kernel
theorem d_D_emptyTable_19 : decode prog_1_method_35_code 19 = .ok (.iload_n 2, 1) := by decide +kernel
theorem d_D_emptyTable_20 : decode prog_1_method_35_code 20 = .ok (.bipush 16, 2) := by decide +kernel
theorem d_D_emptyTable_22 : decode prog_1_method_35_code 22 = .ok (.if_icmp .ge 15, 3) := by decide +kernel
theorem d_D_emptyTable_25 : decode prog_1_method_35_code 25 = .ok (.aload_n 0, 1) := by decide +kernel
theorem d_D_emptyTable_26 : decode prog_1_method_35_code 26 = .ok (.iload_n 1, 1) := by decide +kernel
theorem d_D_emptyTable_27 : decode prog_1_method_35_code 27 = .ok (.aaload, 1) := by decide +kernel
theorem d_D_emptyTable_28 : decode prog_1_method_35_code 28 = .ok (.iload_n 2, 1) := by decide +kernel
theorem d_D_emptyTable_29 : decode prog_1_method_35_code 29 = .ok (.iconst (-1), 1) := by decide +kernel
theorem d_D_emptyTable_30 : decode prog_1_method_35_code 30 = .ok (.iastore, 1) := by decide +kernel
theorem d_D_emptyTable_31 : decode prog_1_method_35_code 31 = .ok (.iinc 2 1, 3) := by decide +kernel
theorem d_D_emptyTable_34 : decode prog_1_method_35_code 34 = .ok (.goto (-15), 3) := by decide +kernel
theorem d_D_emptyTable_37 : decode prog_1_method_35_code 37 = .ok (.iinc 1 1, 3) := by decide +kernel
theorem d_D_emptyTable_40 : decode prog_1_method_35_code 40 = .ok (.goto (-29), 3) := by decide +kernel
theorem d_D_emptyTable_43 : decode prog_1_method_35_code 43 = .ok (.aload_n 0, 1) := by decide +kernel
theorem d_D_emptyTable_44 : decode prog_1_method_35_code 44 = .ok (.areturn, 1) := by decide +kernel
theorem d_N_init_0 : decode prog_4_method_1_code 0 = .ok (.aload_n 0, 1) := by decide +kernel
theorem d_N_init_1 : decode prog_4_method_1_code 1 = .ok (.invokespecial 3, 3) := by decide +kernel
theorem d_N_init_4 : decode prog_4_method_1_code 4 = .ok (.aload_n 0, 1) := by decide +kernel
theorem d_N_init_5 : decode prog_4_method_1_code 5 = .ok (.iconst 0, 1) := by decide +kernel
theorem d_N_init_6 : decode prog_4_method_1_code 6 = .ok (.putfield 9, 3) := by decide +kernel
theorem d_N_init_9 : decode prog_4_method_1_code 9 = .ok (.aload_n 0, 1) := by decide +kernel
theorem d_N_init_10 : decode prog_4_method_1_code 10 = .ok (.iconst 0, 1) := by decide +kernel
theorem d_N_init_11 : decode prog_4_method_1_code 11 = .ok (.putfield 15, 3) := by decide +kernel
theorem d_N_init_14 : decode prog_4_method_1_code 14 = .ok (.aload_n 0, 1) := by decide +kernel
theorem d_N_init_15 : decode prog_4_method_1_code 15 = .ok (.invokestatic 18, 3) := by decide +kernel
theorem d_N_init_18 : decode prog_4_method_1_code 18 = .ok (.putfield 22, 3) := by decide +kernel
theorem d_N_init_21 : decode prog_4_method_1_code 21 = .ok (.aload_n 0, 1) := by decide +kernel
theorem d_N_init_22 : decode prog_4_method_1_code 22 = .ok (.bipush 16, 2) := by decide +kernel
theorem d_N_init_24 : decode prog_4_method_1_code 24 = .ok (.newarray .int, 2) := by decide +kernel
theorem d_N_init_26 : decode prog_4_method_1_code 26 = .ok (.putfield 26, 3) := by decide +kernel
theorem d_N_init_29 : decode prog_4_method_1_code 29 = .ok (.aload_n 0, 1) := by decide +kernel
theorem d_N_init_30 : decode prog_4_method_1_code 30 = .ok (.bipush 16, 2) := by decide +kernel
theorem d_N_init_32 : decode prog_4_method_1_code 32 = .ok (.newarray .int, 2) := by decide +kernel
theorem d_N_init_34 : decode prog_4_method_1_code 34 = .ok (.putfield 30, 3) := by decide +kernel
theorem d_N_init_37 : decode prog_4_method_1_code 37 = .ok (.return_, 1) := by decide +kernel
theorem d_L_init_0 : decode prog_3_method_1_code 0 = .ok (.aload_n 0, 1) := by decide +kernel
theorem d_L_init_1 : decode prog_3_method_1_code 1 = .ok (.invokespecial 3, 3) := by decide +kernel
theorem d_L_init_4 : decode prog_3_method_1_code 4 = .ok (.aload_n 0, 1) := by decide +kernel
theorem d_L_init_5 : decode prog_3_method_1_code 5 = .ok (.invokestatic 9, 3) := by decide +kernel
theorem d_L_init_8 : decode prog_3_method_1_code 8 = .ok (.putfield 13, 3) := by decide +kernel
theorem d_L_init_11 : decode prog_3_method_1_code 11 = .ok (.aload_n 0, 1) := by decide +kernel
theorem d_L_init_12 : decode prog_3_method_1_code 12 = .ok (.invokestatic 9, 3) := by decide +kernel
theorem d_L_init_15 : decode prog_3_method_1_code 15 = .ok (.putfield 19, 3) := by decide +kernel
theorem d_L_init_18 : decode prog_3_method_1_code 18 = .ok (.return_, 1) := by decide +kernel
theorem d_K_init_0 : decode prog_2_method_1_code 0 = .ok (.aload_n 0, 1) := by decide +kernel
theorem d_K_init_1 : decode prog_2_method_1_code 1 = .ok (.invokespecial 3, 3) := by decide +kernel
theorem d_K_init_4 : decode prog_2_method_1_code 4 = .ok (.aload_n 0, 1) := by decide +kernel
theorem d_K_init_5 : decode prog_2_method_1_code 5 = .ok (.invokestatic 9, 3) := by decide +kernel
theorem d_K_init_8 : decode prog_2_method_1_code 8 = .ok (.putfield 13, 3) := by decide +kernel
theorem d_K_init_11 : decode prog_2_method_1_code 11 = .ok (.aload_n 0, 1) := by decide +kernel
theorem d_K_init_12 : decode prog_2_method_1_code 12 = .ok (.invokestatic 9, 3) := by decide +kernel
theorem d_K_init_15 : decode prog_2_method_1_code 15 = .ok (.putfield 19, 3) := by decide +kernel
theorem d_K_init_18 : decode prog_2_method_1_code 18 = .ok (.aload_n 0, 1) := by decide +kernel
theorem d_K_init_19 : decode prog_2_method_1_code 19 = .ok (.sipush 1120, 3) := by decide +kernel
theorem d_K_init_22 : decode prog_2_method_1_code 22 = .ok (.newarray .int, 2) := by decide +kernel
theorem d_K_init_24 : decode prog_2_method_1_code 24 = .ok (.putfield 22, 3) := by decide +kernel
theorem d_K_init_27 : decode prog_2_method_1_code 27 = .ok (.aload_n 0, 1) := by decide +kernel
theorem d_K_init_28 : decode prog_2_method_1_code 28 = .ok (.sipush 1120, 3) := by decide +kernel
theorem d_K_init_31 : decode prog_2_method_1_code 31 = .ok (.newarray .int, 2) := by decide +kernel
theorem d_K_init_33 : decode prog_2_method_1_code 33 = .ok (.putfield 26, 3) := by decide +kernel
theorem d_K_init_36 : decode prog_2_method_1_code 36 = .ok (.aload_n 0, 1) := by decide +kernel
theorem d_K_init_37 : decode prog_2_method_1_code 37 = .ok (.iconst 0, 1) := by decide +kernel
theorem d_K_init_38 : decode prog_2_method_1_code 38 = .ok (.putfield 29, 3) := by decide +kernel
theorem d_K_init_41 : decode prog_2_method_1_code 41 = .ok (.aload_n 0, 1) := by decide +kernel
theorem d_K_init_42 : decode prog_2_method_1_code 42 = .ok (.bipush 16, 2) := by decide +kernel
theorem d_K_init_44 : decode prog_2_method_1_code 44 = .ok (.newarray .int, 2) := by decide +kernel
theorem d_K_init_46 : decode prog_2_method_1_code 46 = .ok (.putfield 33, 3) := by decide +kernel
theorem d_K_init_49 : decode prog_2_method_1_code 49 = .ok (.aload_n 0, 1) := by decide +kernel
theorem d_K_init_50 : decode prog_2_method_1_code 50 = .ok (.bipush 16, 2) := by decide +kernel
theorem d_K_init_52 : decode prog_2_method_1_code 52 = .ok (.newarray .int, 2) := by decide +kernel
theorem d_K_init_54 : decode prog_2_method_1_code 54 = .ok (.putfield 36, 3) := by decide +kernel
theorem d_K_init_57 : decode prog_2_method_1_code 57 = .ok (.return_, 1) := by decide +kernel
theorem d_D_init_0 : decode prog_1_method_1_code 0 = .ok (.aload_n 0, 1) := by decide +kernel
theorem d_D_init_1 : decode prog_1_method_1_code 1 = .ok (.invokespecial 1, 3) := by decide +kernel
theorem d_D_init_4 : decode prog_1_method_1_code 4 = .ok (.aload_n 0, 1) := by decide +kernel
theorem d_D_init_5 : decode prog_1_method_1_code 5 = .ok (.new 7, 3) := by decide +kernel
theorem d_D_init_8 : decode prog_1_method_1_code 8 = .ok (.dup, 1) := by decide +kernel
theorem d_D_init_9 : decode prog_1_method_1_code 9 = .ok (.invokespecial 9, 3) := by decide +kernel
theorem d_D_init_12 : decode prog_1_method_1_code 12 = .ok (.putfield 10, 3) := by decide +kernel
theorem d_D_init_15 : decode prog_1_method_1_code 15 = .ok (.aload_n 0, 1) := by decide +kernel
theorem d_D_init_16 : decode prog_1_method_1_code 16 = .ok (.invokestatic 16, 3) := by decide +kernel
theorem d_D_init_19 : decode prog_1_method_1_code 19 = .ok (.putfield 20, 3) := by decide +kernel
theorem d_D_init_22 : decode prog_1_method_1_code 22 = .ok (.aload_n 0, 1) := by decide +kernel
theorem d_D_init_23 : decode prog_1_method_1_code 23 = .ok (.new 24, 3) := by decide +kernel
theorem d_D_init_26 : decode prog_1_method_1_code 26 = .ok (.dup, 1) := by decide +kernel
theorem d_D_init_27 : decode prog_1_method_1_code 27 = .ok (.invokespecial 26, 3) := by decide +kernel
theorem d_D_init_30 : decode prog_1_method_1_code 30 = .ok (.putfield 27, 3) := by decide +kernel
theorem d_D_init_33 : decode prog_1_method_1_code 33 = .ok (.aload_n 0, 1) := by decide +kernel
theorem d_D_init_34 : decode prog_1_method_1_code 34 = .ok (.new 24, 3) := by decide +kernel
theorem d_D_init_37 : decode prog_1_method_1_code 37 = .ok (.dup, 1) := by decide +kernel
theorem d_D_init_38 : decode prog_1_method_1_code 38 = .ok (.invokespecial 26, 3) := by decide +kernel
theorem d_D_init_41 : decode prog_1_method_1_code 41 = .ok (.putfield 31, 3) := by decide +kernel
theorem d_D_init_44 : decode prog_1_method_1_code 44 = .ok (.aload_n 0, 1) := by decide +kernel
theorem d_D_init_45 : decode prog_1_method_1_code 45 = .ok (.new 34, 3) := by decide +kernel
theorem d_D_init_48 : decode prog_1_method_1_code 48 = .ok (.dup, 1) := by decide +kernel
theorem d_D_init_49 : decode prog_1_method_1_code 49 = .ok (.invokespecial 36, 3) := by decide +kernel
theorem d_D_init_52 : decode prog_1_method_1_code 52 = .ok (.putfield 37, 3) := by decide +kernel
theorem d_D_init_55 : decode prog_1_method_1_code 55 = .ok (.aload_n 0, 1) := by decide +kernel
theorem d_D_init_56 : decode prog_1_method_1_code 56 = .ok (.bipush 16, 2) := by decide +kernel
theorem d_D_init_58 : decode prog_1_method_1_code 58 = .ok (.newarray .boolean, 2) := by decide +kernel
theorem d_D_init_60 : decode prog_1_method_1_code 60 = .ok (.putfield 41, 3) := by decide +kernel
theorem d_D_init_63 : decode prog_1_method_1_code 63 = .ok (.aload_n 0, 1) := by decide +kernel
theorem d_D_init_64 : decode prog_1_method_1_code 64 = .ok (.iconst 0, 1) := by decide +kernel
theorem d_D_init_65 : decode prog_1_method_1_code 65 = .ok (.putfield 45, 3) := by decide +kernel
theorem d_D_init_68 : decode prog_1_method_1_code 68 = .ok (.aload_n 0, 1) := by decide +kernel
theorem d_D_init_69 : decode prog_1_method_1_code 69 = .ok (.iconst 0, 1) := by decide +kernel
theorem d_D_init_70 : decode prog_1_method_1_code 70 = .ok (.putfield 49, 3) := by decide +kernel
theorem d_D_init_73 : decode prog_1_method_1_code 73 = .ok (.aload_n 0, 1) := by decide +kernel
theorem d_D_init_74 : decode prog_1_method_1_code 74 = .ok (.iconst 0, 1) := by decide +kernel
theorem d_D_init_75 : decode prog_1_method_1_code 75 = .ok (.putfield 53, 3) := by decide +kernel
theorem d_D_init_78 : decode prog_1_method_1_code 78 = .ok (.return_, 1) := by decide +kernel
theorem d_N_place_0 : decode prog_4_method_8_code 0 = .ok (.aload_n 0, 1) := by decide +kernel
theorem d_N_place_1 : decode prog_4_method_8_code 1 = .ok (.getfield 26, 3) := by decide +kernel
theorem d_N_place_4 : decode prog_4_method_8_code 4 = .ok (.iload_n 2, 1) := by decide +kernel
theorem d_N_place_5 : decode prog_4_method_8_code 5 = .ok (.iload_n 1, 1) := by decide +kernel
theorem d_N_place_6 : decode prog_4_method_8_code 6 = .ok (.iastore, 1) := by decide +kernel
theorem d_N_place_7 : decode prog_4_method_8_code 7 = .ok (.aload_n 0, 1) := by decide +kernel
theorem d_N_place_8 : decode prog_4_method_8_code 8 = .ok (.getfield 30, 3) := by decide +kernel
theorem d_N_place_11 : decode prog_4_method_8_code 11 = .ok (.iload_n 1, 1) := by decide +kernel
theorem d_N_place_12 : decode prog_4_method_8_code 12 = .ok (.iload_n 2, 1) := by decide +kernel
theorem d_N_place_13 : decode prog_4_method_8_code 13 = .ok (.iastore, 1) := by decide +kernel
theorem d_N_place_14 : decode prog_4_method_8_code 14 = .ok (.return_, 1) := by decide +kernel
theorem d_N_addNode_0 : decode prog_4_method_4_code 0 = .ok (.aload_n 0, 1) := by decide +kernel
theorem d_N_addNode_1 : decode prog_4_method_4_code 1 = .ok (.getfield 9, 3) := by decide +kernel
theorem d_N_addNode_4 : decode prog_4_method_4_code 4 = .ok (.istore_n 1, 1) := by decide +kernel
theorem d_N_addNode_5 : decode prog_4_method_4_code 5 = .ok (.aload_n 0, 1) := by decide +kernel
theorem d_N_addNode_6 : decode prog_4_method_4_code 6 = .ok (.dup, 1) := by decide +kernel
theorem d_N_addNode_7 : decode prog_4_method_4_code 7 = .ok (.getfield 9, 3) := by decide +kernel
theorem d_N_addNode_10 : decode prog_4_method_4_code 10 = .ok (.iconst 1, 1) := by decide +kernel
theorem d_N_addNode_11 : decode prog_4_method_4_code 11 = .ok (.iadd, 1) := by decide +kernel
theorem d_N_addNode_12 : decode prog_4_method_4_code 12 = .ok (.putfield 9, 3) := by decide +kernel
theorem d_N_addNode_15 : decode prog_4_method_4_code 15 = .ok (.aload_n 0, 1) := by decide +kernel
theorem d_N_addNode_16 : decode prog_4_method_4_code 16 = .ok (.iload_n 1, 1) := by decide +kernel
theorem d_N_addNode_17 : decode prog_4_method_4_code 17 = .ok (.iload_n 1, 1) := by decide +kernel
theorem d_N_addNode_18 : decode prog_4_method_4_code 18 = .ok (.invokevirtual 37, 3) := by decide +kernel
theorem d_N_addNode_21 : decode prog_4_method_4_code 21 = .ok (.iload_n 1, 1) := by decide +kernel
theorem d_N_addNode_22 : decode prog_4_method_4_code 22 = .ok (.ireturn, 1) := by decide +kernel
theorem d_D_node_0 : decode prog_1_method_2_code 0 = .ok (.aload_n 0, 1) := by decide +kernel
theorem d_D_node_1 : decode prog_1_method_2_code 1 = .ok (.getfield 10, 3) := by decide +kernel
theorem d_D_node_4 : decode prog_1_method_2_code 4 = .ok (.getfield 56, 3) := by decide +kernel
theorem d_D_node_7 : decode prog_1_method_2_code 7 = .ok (.bipush 16, 2) := by decide +kernel
theorem d_D_node_9 : decode prog_1_method_2_code 9 = .ok (.if_icmp .lt 6, 3) := by decide +kernel
theorem d_D_node_12 : decode prog_1_method_2_code 12 = .ok (.bipush (-3), 2) := by decide +kernel
theorem d_D_node_14 : decode prog_1_method_2_code 14 = .ok (.ireturn, 1) := by decide +kernel
theorem d_D_node_15 : decode prog_1_method_2_code 15 = .ok (.aload_n 0, 1) := by decide +kernel
theorem d_D_node_16 : decode prog_1_method_2_code 16 = .ok (.iconst 0, 1) := by decide +kernel
theorem d_D_node_17 : decode prog_1_method_2_code 17 = .ok (.putfield 49, 3) := by decide +kernel
theorem d_D_node_20 : decode prog_1_method_2_code 20 = .ok (.aload_n 0, 1) := by decide +kernel
theorem d_D_node_21 : decode prog_1_method_2_code 21 = .ok (.getfield 10, 3) := by decide +kernel
theorem d_D_node_24 : decode prog_1_method_2_code 24 = .ok (.invokevirtual 59, 3) := by decide +kernel
theorem d_D_node_27 : decode prog_1_method_2_code 27 = .ok (.ireturn, 1) := by decide +kernel
theorem d_N_has_0 : decode prog_4_method_2_code 0 = .ok (.iload_n 1, 1) := by decide +kernel
theorem d_N_has_1 : decode prog_4_method_2_code 1 = .ok (.ifCond .lt 15, 3) := by decide +kernel
theorem d_N_has_4 : decode prog_4_method_2_code 4 = .ok (.iload_n 1, 1) := by decide +kernel
theorem d_N_has_5 : decode prog_4_method_2_code 5 = .ok (.aload_n 0, 1) := by decide +kernel
theorem d_N_has_6 : decode prog_4_method_2_code 6 = .ok (.getfield 9, 3) := by decide +kernel
theorem d_N_has_9 : decode prog_4_method_2_code 9 = .ok (.if_icmp .ge 7, 3) := by decide +kernel
theorem d_N_has_12 : decode prog_4_method_2_code 12 = .ok (.iconst 1, 1) := by decide +kernel
theorem d_N_has_13 : decode prog_4_method_2_code 13 = .ok (.goto 4, 3) := by decide +kernel
theorem d_N_has_16 : decode prog_4_method_2_code 16 = .ok (.iconst 0, 1) := by decide +kernel
theorem d_N_has_17 : decode prog_4_method_2_code 17 = .ok (.ireturn, 1) := by decide +kernel
theorem d_N_hasTwo_0 : decode prog_4_method_3_code 0 = .ok (.aload_n 0, 1) := by decide +kernel
theorem d_N_hasTwo_1 : decode prog_4_method_3_code 1 = .ok (.iload_n 1, 1) := by decide +kernel
theorem d_N_hasTwo_2 : decode prog_4_method_3_code 2 = .ok (.invokevirtual 33, 3) := by decide +kernel
theorem d_N_hasTwo_5 : decode prog_4_method_3_code 5 = .ok (.ifCond .eq 20, 3) := by decide +kernel
theorem d_N_hasTwo_8 : decode prog_4_method_3_code 8 = .ok (.aload_n 0, 1) := by decide +kernel
theorem d_N_hasTwo_9 : decode prog_4_method_3_code 9 = .ok (.iload_n 2, 1) := by decide +kernel
theorem d_N_hasTwo_10 : decode prog_4_method_3_code 10 = .ok (.invokevirtual 33, 3) := by decide +kernel
theorem d_N_hasTwo_13 : decode prog_4_method_3_code 13 = .ok (.ifCond .eq 12, 3) := by decide +kernel
theorem d_N_hasTwo_16 : decode prog_4_method_3_code 16 = .ok (.iload_n 1, 1) := by decide +kernel
theorem d_N_hasTwo_17 : decode prog_4_method_3_code 17 = .ok (.iload_n 2, 1) := by decide +kernel
theorem d_N_hasTwo_18 : decode prog_4_method_3_code 18 = .ok (.if_icmp .eq 7, 3) := by decide +kernel
theorem d_N_hasTwo_21 : decode prog_4_method_3_code 21 = .ok (.iconst 1, 1) := by decide +kernel
theorem d_N_hasTwo_22 : decode prog_4_method_3_code 22 = .ok (.goto 4, 3) := by decide +kernel
theorem d_N_hasTwo_25 : decode prog_4_method_3_code 25 = .ok (.iconst 0, 1) := by decide +kernel
theorem d_N_hasTwo_26 : decode prog_4_method_3_code 26 = .ok (.ireturn, 1) := by decide +kernel
theorem d_N_putArc_0 : decode prog_4_method_5_code 0 = .ok (.aload_n 0, 1) := by decide +kernel
theorem d_N_putArc_1 : decode prog_4_method_5_code 1 = .ok (.getfield 22, 3) := by decide +kernel
theorem d_N_putArc_4 : decode prog_4_method_5_code 4 = .ok (.iload_n 1, 1) := by decide +kernel
theorem d_N_putArc_5 : decode prog_4_method_5_code 5 = .ok (.aaload, 1) := by decide +kernel
theorem d_N_putArc_6 : decode prog_4_method_5_code 6 = .ok (.iload_n 2, 1) := by decide +kernel
theorem d_N_putArc_7 : decode prog_4_method_5_code 7 = .ok (.iaload, 1) := by decide +kernel
theorem d_N_putArc_8 : decode prog_4_method_5_code 8 = .ok (.istore 4, 2) := by decide +kernel
theorem d_N_putArc_10 : decode prog_4_method_5_code 10 = .ok (.iload 4, 2) := by decide +kernel
theorem d_N_putArc_12 : decode prog_4_method_5_code 12 = .ok (.iconst (-1), 1) := by decide +kernel
theorem d_N_putArc_13 : decode prog_4_method_5_code 13 = .ok (.if_icmp .ne 13, 3) := by decide +kernel
theorem d_N_putArc_16 : decode prog_4_method_5_code 16 = .ok (.aload_n 0, 1) := by decide +kernel
theorem d_N_putArc_17 : decode prog_4_method_5_code 17 = .ok (.dup, 1) := by decide +kernel
theorem d_N_putArc_18 : decode prog_4_method_5_code 18 = .ok (.getfield 15, 3) := by decide +kernel
theorem d_N_putArc_21 : decode prog_4_method_5_code 21 = .ok (.iconst 1, 1) := by decide +kernel
theorem d_N_putArc_22 : decode prog_4_method_5_code 22 = .ok (.iadd, 1) := by decide +kernel
theorem d_N_putArc_23 : decode prog_4_method_5_code 23 = .ok (.putfield 15, 3) := by decide +kernel
theorem d_N_putArc_26 : decode prog_4_method_5_code 26 = .ok (.aload_n 0, 1) := by decide +kernel
theorem d_N_putArc_27 : decode prog_4_method_5_code 27 = .ok (.getfield 22, 3) := by decide +kernel
theorem d_N_putArc_30 : decode prog_4_method_5_code 30 = .ok (.iload_n 1, 1) := by decide +kernel
theorem d_N_putArc_31 : decode prog_4_method_5_code 31 = .ok (.aaload, 1) := by decide +kernel
theorem d_N_putArc_32 : decode prog_4_method_5_code 32 = .ok (.iload_n 2, 1) := by decide +kernel
theorem d_N_putArc_33 : decode prog_4_method_5_code 33 = .ok (.iload_n 3, 1) := by decide +kernel
theorem d_N_putArc_34 : decode prog_4_method_5_code 34 = .ok (.iastore, 1) := by decide +kernel
theorem d_N_putArc_35 : decode prog_4_method_5_code 35 = .ok (.iload 4, 2) := by decide +kernel
theorem d_N_putArc_37 : decode prog_4_method_5_code 37 = .ok (.ireturn, 1) := by decide +kernel
theorem d_D_arc_0 : decode prog_1_method_3_code 0 = .ok (.aload_n 0, 1) := by decide +kernel
theorem d_D_arc_1 : decode prog_1_method_3_code 1 = .ok (.getfield 10, 3) := by decide +kernel
theorem d_D_arc_4 : decode prog_1_method_3_code 4 = .ok (.iload_n 1, 1) := by decide +kernel
theorem d_D_arc_5 : decode prog_1_method_3_code 5 = .ok (.iload_n 2, 1) := by decide +kernel
theorem d_D_arc_6 : decode prog_1_method_3_code 6 = .ok (.invokevirtual 63, 3) := by decide +kernel
theorem d_D_arc_9 : decode prog_1_method_3_code 9 = .ok (.ifCond .eq 15, 3) := by decide +kernel
theorem d_D_arc_12 : decode prog_1_method_3_code 12 = .ok (.iload_n 3, 1) := by decide +kernel
theorem d_D_arc_13 : decode prog_1_method_3_code 13 = .ok (.iconst 1, 1) := by decide +kernel
theorem d_D_arc_14 : decode prog_1_method_3_code 14 = .ok (.if_icmp .lt 10, 3) := by decide +kernel
theorem d_D_arc_17 : decode prog_1_method_3_code 17 = .ok (.iload_n 3, 1) := by decide +kernel
theorem d_D_arc_18 : decode prog_1_method_3_code 18 = .ok (.sipush 1000, 3) := by decide +kernel
theorem d_D_arc_21 : decode prog_1_method_3_code 21 = .ok (.if_icmp .le 6, 3) := by decide +kernel
theorem d_D_arc_24 : decode prog_1_method_3_code 24 = .ok (.bipush (-2), 2) := by decide +kernel
theorem d_D_arc_26 : decode prog_1_method_3_code 26 = .ok (.ireturn, 1) := by decide +kernel
theorem d_D_arc_27 : decode prog_1_method_3_code 27 = .ok (.aload_n 0, 1) := by decide +kernel
theorem d_D_arc_28 : decode prog_1_method_3_code 28 = .ok (.iconst 0, 1) := by decide +kernel
theorem d_D_arc_29 : decode prog_1_method_3_code 29 = .ok (.putfield 49, 3) := by decide +kernel
theorem d_D_arc_32 : decode prog_1_method_3_code 32 = .ok (.aload_n 0, 1) := by decide +kernel
theorem d_D_arc_33 : decode prog_1_method_3_code 33 = .ok (.getfield 10, 3) := by decide +kernel
theorem d_D_arc_36 : decode prog_1_method_3_code 36 = .ok (.iload_n 1, 1) := by decide +kernel
theorem d_D_arc_37 : decode prog_1_method_3_code 37 = .ok (.iload_n 2, 1) := by decide +kernel
theorem d_D_arc_38 : decode prog_1_method_3_code 38 = .ok (.iload_n 3, 1) := by decide +kernel
theorem d_D_arc_39 : decode prog_1_method_3_code 39 = .ok (.invokevirtual 67, 3) := by decide +kernel
theorem d_D_arc_42 : decode prog_1_method_3_code 42 = .ok (.ireturn, 1) := by decide +kernel
theorem d_N_dropArc_0 : decode prog_4_method_6_code 0 = .ok (.aload_n 0, 1) := by decide +kernel
theorem d_N_dropArc_1 : decode prog_4_method_6_code 1 = .ok (.getfield 22, 3) := by decide +kernel
theorem d_N_dropArc_4 : decode prog_4_method_6_code 4 = .ok (.iload_n 1, 1) := by decide +kernel
theorem d_N_dropArc_5 : decode prog_4_method_6_code 5 = .ok (.aaload, 1) := by decide +kernel
theorem d_N_dropArc_6 : decode prog_4_method_6_code 6 = .ok (.iload_n 2, 1) := by decide +kernel
theorem d_N_dropArc_7 : decode prog_4_method_6_code 7 = .ok (.iaload, 1) := by decide +kernel
theorem d_N_dropArc_8 : decode prog_4_method_6_code 8 = .ok (.istore_n 3, 1) := by decide +kernel
theorem d_N_dropArc_9 : decode prog_4_method_6_code 9 = .ok (.iload_n 3, 1) := by decide +kernel
theorem d_N_dropArc_10 : decode prog_4_method_6_code 10 = .ok (.iconst (-1), 1) := by decide +kernel
theorem d_N_dropArc_11 : decode prog_4_method_6_code 11 = .ok (.if_icmp .eq 13, 3) := by decide +kernel
theorem d_N_dropArc_14 : decode prog_4_method_6_code 14 = .ok (.aload_n 0, 1) := by decide +kernel
theorem d_N_dropArc_15 : decode prog_4_method_6_code 15 = .ok (.dup, 1) := by decide +kernel
theorem d_N_dropArc_16 : decode prog_4_method_6_code 16 = .ok (.getfield 15, 3) := by decide +kernel
theorem d_N_dropArc_19 : decode prog_4_method_6_code 19 = .ok (.iconst 1, 1) := by decide +kernel
theorem d_N_dropArc_20 : decode prog_4_method_6_code 20 = .ok (.isub, 1) := by decide +kernel
theorem d_N_dropArc_21 : decode prog_4_method_6_code 21 = .ok (.putfield 15, 3) := by decide +kernel
theorem d_N_dropArc_24 : decode prog_4_method_6_code 24 = .ok (.aload_n 0, 1) := by decide +kernel
theorem d_N_dropArc_25 : decode prog_4_method_6_code 25 = .ok (.getfield 22, 3) := by decide +kernel
theorem d_N_dropArc_28 : decode prog_4_method_6_code 28 = .ok (.iload_n 1, 1) := by decide +kernel
theorem d_N_dropArc_29 : decode prog_4_method_6_code 29 = .ok (.aaload, 1) := by decide +kernel
theorem d_N_dropArc_30 : decode prog_4_method_6_code 30 = .ok (.iload_n 2, 1) := by decide +kernel
theorem d_N_dropArc_31 : decode prog_4_method_6_code 31 = .ok (.iconst (-1), 1) := by decide +kernel
theorem d_N_dropArc_32 : decode prog_4_method_6_code 32 = .ok (.iastore, 1) := by decide +kernel
theorem d_N_dropArc_33 : decode prog_4_method_6_code 33 = .ok (.iload_n 3, 1) := by decide +kernel
theorem d_N_dropArc_34 : decode prog_4_method_6_code 34 = .ok (.ireturn, 1) := by decide +kernel
theorem d_D_lose_0 : decode prog_1_method_4_code 0 = .ok (.aload_n 0, 1) := by decide +kernel
theorem d_D_lose_1 : decode prog_1_method_4_code 1 = .ok (.getfield 10, 3) := by decide +kernel
theorem d_D_lose_4 : decode prog_1_method_4_code 4 = .ok (.iload_n 1, 1) := by decide +kernel
theorem d_D_lose_5 : decode prog_1_method_4_code 5 = .ok (.iload_n 2, 1) := by decide +kernel
theorem d_D_lose_6 : decode prog_1_method_4_code 6 = .ok (.invokevirtual 63, 3) := by decide +kernel
theorem d_D_lose_9 : decode prog_1_method_4_code 9 = .ok (.ifCond .ne 6, 3) := by decide +kernel
theorem d_D_lose_12 : decode prog_1_method_4_code 12 = .ok (.bipush (-2), 2) := by decide +kernel
theorem d_D_lose_14 : decode prog_1_method_4_code 14 = .ok (.ireturn, 1) := by decide +kernel
theorem d_D_lose_15 : decode prog_1_method_4_code 15 = .ok (.aload_n 0, 1) := by decide +kernel
theorem d_D_lose_16 : decode prog_1_method_4_code 16 = .ok (.getfield 10, 3) := by decide +kernel
theorem d_D_lose_19 : decode prog_1_method_4_code 19 = .ok (.iload_n 1, 1) := by decide +kernel
theorem d_D_lose_20 : decode prog_1_method_4_code 20 = .ok (.iload_n 2, 1) := by decide +kernel
theorem d_D_lose_21 : decode prog_1_method_4_code 21 = .ok (.invokevirtual 71, 3) := by decide +kernel
theorem d_D_lose_24 : decode prog_1_method_4_code 24 = .ok (.istore_n 3, 1) := by decide +kernel
theorem d_D_lose_25 : decode prog_1_method_4_code 25 = .ok (.iload_n 3, 1) := by decide +kernel
theorem d_D_lose_26 : decode prog_1_method_4_code 26 = .ok (.iconst (-1), 1) := by decide +kernel
theorem d_D_lose_27 : decode prog_1_method_4_code 27 = .ok (.if_icmp .eq 8, 3) := by decide +kernel
theorem d_D_lose_30 : decode prog_1_method_4_code 30 = .ok (.aload_n 0, 1) := by decide +kernel
theorem d_D_lose_31 : decode prog_1_method_4_code 31 = .ok (.iconst 0, 1) := by decide +kernel
theorem d_D_lose_32 : decode prog_1_method_4_code 32 = .ok (.putfield 49, 3) := by decide +kernel
theorem d_D_lose_35 : decode prog_1_method_4_code 35 = .ok (.iload_n 3, 1) := by decide +kernel
theorem d_D_lose_36 : decode prog_1_method_4_code 36 = .ok (.ireturn, 1) := by decide +kernel
theorem d_N_moveTo_0 : decode prog_4_method_7_code 0 = .ok (.aload_n 0, 1) := by decide +kernel
theorem d_N_moveTo_1 : decode prog_4_method_7_code 1 = .ok (.getfield 30, 3) := by decide +kernel
theorem d_N_moveTo_4 : decode prog_4_method_7_code 4 = .ok (.iload_n 1, 1) := by decide +kernel
theorem d_N_moveTo_5 : decode prog_4_method_7_code 5 = .ok (.iaload, 1) := by decide +kernel
theorem d_N_moveTo_6 : decode prog_4_method_7_code 6 = .ok (.istore_n 3, 1) := by decide +kernel
theorem d_N_moveTo_7 : decode prog_4_method_7_code 7 = .ok (.iload_n 3, 1) := by decide +kernel
theorem d_N_moveTo_8 : decode prog_4_method_7_code 8 = .ok (.istore 4, 2) := by decide +kernel
theorem d_N_moveTo_10 : decode prog_4_method_7_code 10 = .ok (.iload 4, 2) := by decide +kernel
theorem d_N_moveTo_12 : decode prog_4_method_7_code 12 = .ok (.iload_n 2, 1) := by decide +kernel
theorem d_N_moveTo_13 : decode prog_4_method_7_code 13 = .ok (.if_icmp .ge 24, 3) := by decide +kernel
theorem d_N_moveTo_16 : decode prog_4_method_7_code 16 = .ok (.aload_n 0, 1) := by decide +kernel
theorem d_N_moveTo_17 : decode prog_4_method_7_code 17 = .ok (.aload_n 0, 1) := by decide +kernel
theorem d_N_moveTo_18 : decode prog_4_method_7_code 18 = .ok (.getfield 26, 3) := by decide +kernel
theorem d_N_moveTo_21 : decode prog_4_method_7_code 21 = .ok (.iload 4, 2) := by decide +kernel
theorem d_N_moveTo_23 : decode prog_4_method_7_code 23 = .ok (.iconst 1, 1) := by decide +kernel
theorem d_N_moveTo_24 : decode prog_4_method_7_code 24 = .ok (.iadd, 1) := by decide +kernel
theorem d_N_moveTo_25 : decode prog_4_method_7_code 25 = .ok (.iaload, 1) := by decide +kernel
theorem d_N_moveTo_26 : decode prog_4_method_7_code 26 = .ok (.iload 4, 2) := by decide +kernel
theorem d_N_moveTo_28 : decode prog_4_method_7_code 28 = .ok (.invokevirtual 37, 3) := by decide +kernel
theorem d_N_moveTo_31 : decode prog_4_method_7_code 31 = .ok (.iinc 4 1, 3) := by decide +kernel
theorem d_N_moveTo_34 : decode prog_4_method_7_code 34 = .ok (.goto (-24), 3) := by decide +kernel
theorem d_N_moveTo_37 : decode prog_4_method_7_code 37 = .ok (.iload_n 3, 1) := by decide +kernel
theorem d_N_moveTo_38 : decode prog_4_method_7_code 38 = .ok (.istore 4, 2) := by decide +kernel
theorem d_N_moveTo_40 : decode prog_4_method_7_code 40 = .ok (.iload 4, 2) := by decide +kernel
theorem d_N_moveTo_42 : decode prog_4_method_7_code 42 = .ok (.iload_n 2, 1) := by decide +kernel
theorem d_N_moveTo_43 : decode prog_4_method_7_code 43 = .ok (.if_icmp .le 24, 3) := by decide +kernel
theorem d_N_moveTo_46 : decode prog_4_method_7_code 46 = .ok (.aload_n 0, 1) := by decide +kernel
theorem d_N_moveTo_47 : decode prog_4_method_7_code 47 = .ok (.aload_n 0, 1) := by decide +kernel
theorem d_N_moveTo_48 : decode prog_4_method_7_code 48 = .ok (.getfield 26, 3) := by decide +kernel
theorem d_N_moveTo_51 : decode prog_4_method_7_code 51 = .ok (.iload 4, 2) := by decide +kernel
theorem d_N_moveTo_53 : decode prog_4_method_7_code 53 = .ok (.iconst 1, 1) := by decide +kernel
theorem d_N_moveTo_54 : decode prog_4_method_7_code 54 = .ok (.isub, 1) := by decide +kernel
theorem d_N_moveTo_55 : decode prog_4_method_7_code 55 = .ok (.iaload, 1) := by decide +kernel
theorem d_N_moveTo_56 : decode prog_4_method_7_code 56 = .ok (.iload 4, 2) := by decide +kernel
theorem d_N_moveTo_58 : decode prog_4_method_7_code 58 = .ok (.invokevirtual 37, 3) := by decide +kernel
theorem d_N_moveTo_61 : decode prog_4_method_7_code 61 = .ok (.iinc 4 (-1), 3) := by decide +kernel
theorem d_N_moveTo_64 : decode prog_4_method_7_code 64 = .ok (.goto (-24), 3) := by decide +kernel
theorem d_N_moveTo_67 : decode prog_4_method_7_code 67 = .ok (.aload_n 0, 1) := by decide +kernel
theorem d_N_moveTo_68 : decode prog_4_method_7_code 68 = .ok (.iload_n 1, 1) := by decide +kernel
theorem d_N_moveTo_69 : decode prog_4_method_7_code 69 = .ok (.iload_n 2, 1) := by decide +kernel
theorem d_N_moveTo_70 : decode prog_4_method_7_code 70 = .ok (.invokevirtual 37, 3) := by decide +kernel
theorem d_N_moveTo_73 : decode prog_4_method_7_code 73 = .ok (.iload_n 3, 1) := by decide +kernel
theorem d_N_moveTo_74 : decode prog_4_method_7_code 74 = .ok (.ireturn, 1) := by decide +kernel
theorem d_D_rank_0 : decode prog_1_method_5_code 0 = .ok (.aload_n 0, 1) := by decide +kernel
theorem d_D_rank_1 : decode prog_1_method_5_code 1 = .ok (.getfield 10, 3) := by decide +kernel
theorem d_D_rank_4 : decode prog_1_method_5_code 4 = .ok (.iload_n 1, 1) := by decide +kernel
theorem d_D_rank_5 : decode prog_1_method_5_code 5 = .ok (.invokevirtual 75, 3) := by decide +kernel
theorem d_D_rank_8 : decode prog_1_method_5_code 8 = .ok (.ifCond .eq 14, 3) := by decide +kernel
theorem d_D_rank_11 : decode prog_1_method_5_code 11 = .ok (.aload_n 0, 1) := by decide +kernel
theorem d_D_rank_12 : decode prog_1_method_5_code 12 = .ok (.getfield 10, 3) := by decide +kernel
theorem d_D_rank_15 : decode prog_1_method_5_code 15 = .ok (.iload_n 2, 1) := by decide +kernel
theorem d_D_rank_16 : decode prog_1_method_5_code 16 = .ok (.invokevirtual 75, 3) := by decide +kernel
theorem d_D_rank_19 : decode prog_1_method_5_code 19 = .ok (.ifCond .ne 6, 3) := by decide +kernel
theorem d_D_rank_22 : decode prog_1_method_5_code 22 = .ok (.bipush (-2), 2) := by decide +kernel
theorem d_D_rank_24 : decode prog_1_method_5_code 24 = .ok (.ireturn, 1) := by decide +kernel
theorem d_D_rank_25 : decode prog_1_method_5_code 25 = .ok (.aload_n 0, 1) := by decide +kernel
theorem d_D_rank_26 : decode prog_1_method_5_code 26 = .ok (.iconst 0, 1) := by decide +kernel
theorem d_D_rank_27 : decode prog_1_method_5_code 27 = .ok (.putfield 49, 3) := by decide +kernel
theorem d_D_rank_30 : decode prog_1_method_5_code 30 = .ok (.aload_n 0, 1) := by decide +kernel
theorem d_D_rank_31 : decode prog_1_method_5_code 31 = .ok (.getfield 10, 3) := by decide +kernel
theorem d_D_rank_34 : decode prog_1_method_5_code 34 = .ok (.iload_n 1, 1) := by decide +kernel
theorem d_D_rank_35 : decode prog_1_method_5_code 35 = .ok (.iload_n 2, 1) := by decide +kernel
theorem d_D_rank_36 : decode prog_1_method_5_code 36 = .ok (.invokevirtual 79, 3) := by decide +kernel
theorem d_D_rank_39 : decode prog_1_method_5_code 39 = .ok (.ireturn, 1) := by decide +kernel
theorem d_D_ranked_0 : decode prog_1_method_6_code 0 = .ok (.aload_n 0, 1) := by decide +kernel
theorem d_D_ranked_1 : decode prog_1_method_6_code 1 = .ok (.getfield 10, 3) := by decide +kernel
theorem d_D_ranked_4 : decode prog_1_method_6_code 4 = .ok (.iload_n 1, 1) := by decide +kernel
theorem d_D_ranked_5 : decode prog_1_method_6_code 5 = .ok (.invokevirtual 75, 3) := by decide +kernel
theorem d_D_ranked_8 : decode prog_1_method_6_code 8 = .ok (.ifCond .eq 15, 3) := by decide +kernel
theorem d_D_ranked_11 : decode prog_1_method_6_code 11 = .ok (.aload_n 0, 1) := by decide +kernel
theorem d_D_ranked_12 : decode prog_1_method_6_code 12 = .ok (.getfield 10, 3) := by decide +kernel
theorem d_D_ranked_15 : decode prog_1_method_6_code 15 = .ok (.getfield 82, 3) := by decide +kernel
theorem d_D_ranked_18 : decode prog_1_method_6_code 18 = .ok (.iload_n 1, 1) := by decide +kernel
theorem d_D_ranked_19 : decode prog_1_method_6_code 19 = .ok (.iaload, 1) := by decide +kernel
theorem d_D_ranked_20 : decode prog_1_method_6_code 20 = .ok (.goto 5, 3) := by decide +kernel
theorem d_D_ranked_23 : decode prog_1_method_6_code 23 = .ok (.bipush (-2), 2) := by decide +kernel
theorem d_D_ranked_25 : decode prog_1_method_6_code 25 = .ok (.ireturn, 1) := by decide +kernel
theorem d_D_landmark_0 : decode prog_1_method_7_code 0 = .ok (.aload_n 0, 1) := by decide +kernel
theorem d_D_landmark_1 : decode prog_1_method_7_code 1 = .ok (.getfield 10, 3) := by decide +kernel
theorem d_D_landmark_4 : decode prog_1_method_7_code 4 = .ok (.iload_n 1, 1) := by decide +kernel
theorem d_D_landmark_5 : decode prog_1_method_7_code 5 = .ok (.invokevirtual 75, 3) := by decide +kernel
theorem d_D_landmark_8 : decode prog_1_method_7_code 8 = .ok (.ifCond .ne 6, 3) := by decide +kernel
theorem d_D_landmark_11 : decode prog_1_method_7_code 11 = .ok (.bipush (-2), 2) := by decide +kernel
theorem d_D_landmark_13 : decode prog_1_method_7_code 13 = .ok (.ireturn, 1) := by decide +kernel
theorem d_D_landmark_14 : decode prog_1_method_7_code 14 = .ok (.aload_n 0, 1) := by decide +kernel
theorem d_D_landmark_15 : decode prog_1_method_7_code 15 = .ok (.getfield 41, 3) := by decide +kernel
theorem d_D_landmark_18 : decode prog_1_method_7_code 18 = .ok (.iload_n 1, 1) := by decide +kernel
theorem d_D_landmark_19 : decode prog_1_method_7_code 19 = .ok (.baload, 1) := by decide +kernel
theorem d_D_landmark_20 : decode prog_1_method_7_code 20 = .ok (.istore_n 3, 1) := by decide +kernel
theorem d_D_landmark_21 : decode prog_1_method_7_code 21 = .ok (.iload_n 2, 1) := by decide +kernel
theorem d_D_landmark_22 : decode prog_1_method_7_code 22 = .ok (.ifCond .eq 18, 3) := by decide +kernel
theorem d_D_landmark_25 : decode prog_1_method_7_code 25 = .ok (.iload_n 3, 1) := by decide +kernel
theorem d_D_landmark_26 : decode prog_1_method_7_code 26 = .ok (.ifCond .ne 14, 3) := by decide +kernel
theorem d_D_landmark_29 : decode prog_1_method_7_code 29 = .ok (.aload_n 0, 1) := by decide +kernel
theorem d_D_landmark_30 : decode prog_1_method_7_code 30 = .ok (.getfield 45, 3) := by decide +kernel
theorem d_D_landmark_33 : decode prog_1_method_7_code 33 = .ok (.iconst 4, 1) := by decide +kernel
theorem d_D_landmark_34 : decode prog_1_method_7_code 34 = .ok (.if_icmp .lt 6, 3) := by decide +kernel
theorem d_D_landmark_37 : decode prog_1_method_7_code 37 = .ok (.bipush (-3), 2) := by decide +kernel
theorem d_D_landmark_39 : decode prog_1_method_7_code 39 = .ok (.ireturn, 1) := by decide +kernel
theorem d_D_landmark_40 : decode prog_1_method_7_code 40 = .ok (.iload_n 2, 1) := by decide +kernel
theorem d_D_landmark_41 : decode prog_1_method_7_code 41 = .ok (.iload_n 3, 1) := by decide +kernel
theorem d_D_landmark_42 : decode prog_1_method_7_code 42 = .ok (.if_icmp .eq 28, 3) := by decide +kernel
theorem d_D_landmark_45 : decode prog_1_method_7_code 45 = .ok (.aload_n 0, 1) := by decide +kernel
theorem d_D_landmark_46 : decode prog_1_method_7_code 46 = .ok (.getfield 41, 3) := by decide +kernel
theorem d_D_landmark_49 : decode prog_1_method_7_code 49 = .ok (.iload_n 1, 1) := by decide +kernel
theorem d_D_landmark_50 : decode prog_1_method_7_code 50 = .ok (.iload_n 2, 1) := by decide +kernel
theorem d_D_landmark_51 : decode prog_1_method_7_code 51 = .ok (.bastore, 1) := by decide +kernel
theorem d_D_landmark_52 : decode prog_1_method_7_code 52 = .ok (.aload_n 0, 1) := by decide +kernel
theorem d_D_landmark_53 : decode prog_1_method_7_code 53 = .ok (.dup, 1) := by decide +kernel
theorem d_D_landmark_54 : decode prog_1_method_7_code 54 = .ok (.getfield 45, 3) := by decide +kernel
theorem d_D_landmark_57 : decode prog_1_method_7_code 57 = .ok (.iload_n 2, 1) := by decide +kernel
theorem d_D_landmark_58 : decode prog_1_method_7_code 58 = .ok (.ifCond .eq 7, 3) := by decide +kernel
theorem d_D_landmark_61 : decode prog_1_method_7_code 61 = .ok (.iconst 1, 1) := by decide +kernel
theorem d_D_landmark_62 : decode prog_1_method_7_code 62 = .ok (.goto 4, 3) := by decide +kernel
theorem d_D_landmark_65 : decode prog_1_method_7_code 65 = .ok (.iconst (-1), 1) := by decide +kernel
theorem d_D_landmark_66 : decode prog_1_method_7_code 66 = .ok (.iadd, 1) := by decide +kernel
theorem d_D_landmark_67 : decode prog_1_method_7_code 67 = .ok (.putfield 45, 3) := by decide +kernel
theorem d_D_landmark_70 : decode prog_1_method_7_code 70 = .ok (.iload_n 3, 1) := by decide +kernel
theorem d_D_landmark_71 : decode prog_1_method_7_code 71 = .ok (.ifCond .eq 7, 3) := by decide +kernel
theorem d_D_landmark_74 : decode prog_1_method_7_code 74 = .ok (.iconst 1, 1) := by decide +kernel
theorem d_D_landmark_75 : decode prog_1_method_7_code 75 = .ok (.goto 4, 3) := by decide +kernel
theorem d_D_landmark_78 : decode prog_1_method_7_code 78 = .ok (.iconst 0, 1) := by decide +kernel
theorem d_D_landmark_79 : decode prog_1_method_7_code 79 = .ok (.ireturn, 1) := by decide +kernel
theorem d_D_copyAmong_0 : decode prog_1_method_36_code 0 = .ok (.iconst 0, 1) := by decide +kernel
theorem d_D_copyAmong_1 : decode prog_1_method_36_code 1 = .ok (.istore 4, 2) := by decide +kernel
theorem d_D_copyAmong_3 : decode prog_1_method_36_code 3 = .ok (.iload 4, 2) := by decide +kernel
theorem d_D_copyAmong_5 : decode prog_1_method_36_code 5 = .ok (.iload_n 1, 1) := by decide +kernel
theorem d_D_copyAmong_6 : decode prog_1_method_36_code 6 = .ok (.if_icmp .ge 46, 3) := by decide +kernel
theorem d_D_copyAmong_9 : decode prog_1_method_36_code 9 = .ok (.iconst 0, 1) := by decide +kernel
theorem d_D_copyAmong_10 : decode prog_1_method_36_code 10 = .ok (.istore 5, 2) := by decide +kernel
theorem d_D_copyAmong_12 : decode prog_1_method_36_code 12 = .ok (.iload 5, 2) := by decide +kernel
theorem d_D_copyAmong_14 : decode prog_1_method_36_code 14 = .ok (.iload_n 1, 1) := by decide +kernel
theorem d_D_copyAmong_15 : decode prog_1_method_36_code 15 = .ok (.if_icmp .ge 31, 3) := by decide +kernel
theorem d_D_copyAmong_18 : decode prog_1_method_36_code 18 = .ok (.aload_n 3, 1) := by decide +kernel
theorem d_D_copyAmong_19 : decode prog_1_method_36_code 19 = .ok (.aload_n 0, 1) := by decide +kernel
theorem d_D_copyAmong_20 : decode prog_1_method_36_code 20 = .ok (.iload 4, 2) := by decide +kernel
theorem d_D_copyAmong_22 : decode prog_1_method_36_code 22 = .ok (.iaload, 1) := by decide +kernel
theorem d_D_copyAmong_23 : decode prog_1_method_36_code 23 = .ok (.aaload, 1) := by decide +kernel
theorem d_D_copyAmong_24 : decode prog_1_method_36_code 24 = .ok (.aload_n 0, 1) := by decide +kernel
theorem d_D_copyAmong_25 : decode prog_1_method_36_code 25 = .ok (.iload 5, 2) := by decide +kernel
theorem d_D_copyAmong_27 : decode prog_1_method_36_code 27 = .ok (.iaload, 1) := by decide +kernel
theorem d_D_copyAmong_28 : decode prog_1_method_36_code 28 = .ok (.aload_n 2, 1) := by decide +kernel
theorem d_D_copyAmong_29 : decode prog_1_method_36_code 29 = .ok (.aload_n 0, 1) := by decide +kernel
theorem d_D_copyAmong_30 : decode prog_1_method_36_code 30 = .ok (.iload 4, 2) := by decide +kernel
theorem d_D_copyAmong_32 : decode prog_1_method_36_code 32 = .ok (.iaload, 1) := by decide +kernel
theorem d_D_copyAmong_33 : decode prog_1_method_36_code 33 = .ok (.aaload, 1) := by decide +kernel
theorem d_D_copyAmong_34 : decode prog_1_method_36_code 34 = .ok (.aload_n 0, 1) := by decide +kernel
theorem d_D_copyAmong_35 : decode prog_1_method_36_code 35 = .ok (.iload 5, 2) := by decide +kernel
theorem d_D_copyAmong_37 : decode prog_1_method_36_code 37 = .ok (.iaload, 1) := by decide +kernel
theorem d_D_copyAmong_38 : decode prog_1_method_36_code 38 = .ok (.iaload, 1) := by decide +kernel
theorem d_D_copyAmong_39 : decode prog_1_method_36_code 39 = .ok (.iastore, 1) := by decide +kernel
theorem d_D_copyAmong_40 : decode prog_1_method_36_code 40 = .ok (.iinc 5 1, 3) := by decide +kernel
theorem d_D_copyAmong_43 : decode prog_1_method_36_code 43 = .ok (.goto (-31), 3) := by decide +kernel
theorem d_D_copyAmong_46 : decode prog_1_method_36_code 46 = .ok (.iinc 4 1, 3) := by decide +kernel
theorem d_D_copyAmong_49 : decode prog_1_method_36_code 49 = .ok (.goto (-46), 3) := by decide +kernel
theorem d_D_copyAmong_52 : decode prog_1_method_36_code 52 = .ok (.return_, 1) := by decide +kernel
theorem d_D_isLess_0 : decode prog_1_method_32_code 0 = .ok (.iload_n 0, 1) := by decide +kernel
theorem d_D_isLess_1 : decode prog_1_method_32_code 1 = .ok (.iconst (-1), 1) := by decide +kernel
theorem d_D_isLess_2 : decode prog_1_method_32_code 2 = .ok (.if_icmp .eq 17, 3) := by decide +kernel
theorem d_D_isLess_5 : decode prog_1_method_32_code 5 = .ok (.iload_n 1, 1) := by decide +kernel
theorem d_D_isLess_6 : decode prog_1_method_32_code 6 = .ok (.iconst (-1), 1) := by decide +kernel
theorem d_D_isLess_7 : decode prog_1_method_32_code 7 = .ok (.if_icmp .eq 8, 3) := by decide +kernel
theorem d_D_isLess_10 : decode prog_1_method_32_code 10 = .ok (.iload_n 0, 1) := by decide +kernel
theorem d_D_isLess_11 : decode prog_1_method_32_code 11 = .ok (.iload_n 1, 1) := by decide +kernel
theorem d_D_isLess_12 : decode prog_1_method_32_code 12 = .ok (.if_icmp .ge 7, 3) := by decide +kernel
theorem d_D_isLess_15 : decode prog_1_method_32_code 15 = .ok (.iconst 1, 1) := by decide +kernel
theorem d_D_isLess_16 : decode prog_1_method_32_code 16 = .ok (.goto 4, 3) := by decide +kernel
theorem d_D_isLess_19 : decode prog_1_method_32_code 19 = .ok (.iconst 0, 1) := by decide +kernel
theorem d_D_isLess_20 : decode prog_1_method_32_code 20 = .ok (.ireturn, 1) := by decide +kernel
theorem d_D_shortenRow_0 : decode prog_1_method_38_code 0 = .ok (.iconst 0, 1) := by decide +kernel
theorem d_D_shortenRow_1 : decode prog_1_method_38_code 1 = .ok (.istore 5, 2) := by decide +kernel
theorem d_D_shortenRow_3 : decode prog_1_method_38_code 3 = .ok (.iload 5, 2) := by decide +kernel
theorem d_D_shortenRow_5 : decode prog_1_method_38_code 5 = .ok (.iload_n 1, 1) := by decide +kernel
theorem d_D_shortenRow_6 : decode prog_1_method_38_code 6 = .ok (.if_icmp .ge 51, 3) := by decide +kernel
theorem d_D_shortenRow_9 : decode prog_1_method_38_code 9 = .ok (.aload_n 0, 1) := by decide +kernel
theorem d_D_shortenRow_10 : decode prog_1_method_38_code 10 = .ok (.iload 5, 2) := by decide +kernel
theorem d_D_shortenRow_12 : decode prog_1_method_38_code 12 = .ok (.iaload, 1) := by decide +kernel
theorem d_D_shortenRow_13 : decode prog_1_method_38_code 13 = .ok (.istore 6, 2) := by decide +kernel
theorem d_D_shortenRow_15 : decode prog_1_method_38_code 15 = .ok (.aload_n 3, 1) := by decide +kernel
theorem d_D_shortenRow_16 : decode prog_1_method_38_code 16 = .ok (.iload 6, 2) := by decide +kernel
theorem d_D_shortenRow_18 : decode prog_1_method_38_code 18 = .ok (.iaload, 1) := by decide +kernel
theorem d_D_shortenRow_19 : decode prog_1_method_38_code 19 = .ok (.istore 7, 2) := by decide +kernel
theorem d_D_shortenRow_21 : decode prog_1_method_38_code 21 = .ok (.iload 7, 2) := by decide +kernel
theorem d_D_shortenRow_23 : decode prog_1_method_38_code 23 = .ok (.iconst (-1), 1) := by decide +kernel
theorem d_D_shortenRow_24 : decode prog_1_method_38_code 24 = .ok (.if_icmp .eq 27, 3) := by decide +kernel
theorem d_D_shortenRow_27 : decode prog_1_method_38_code 27 = .ok (.iload_n 2, 1) := by decide +kernel
theorem d_D_shortenRow_28 : decode prog_1_method_38_code 28 = .ok (.iload 7, 2) := by decide +kernel
theorem d_D_shortenRow_30 : decode prog_1_method_38_code 30 = .ok (.iadd, 1) := by decide +kernel
theorem d_D_shortenRow_31 : decode prog_1_method_38_code 31 = .ok (.aload 4, 2) := by decide +kernel
theorem d_D_shortenRow_33 : decode prog_1_method_38_code 33 = .ok (.iload 6, 2) := by decide +kernel
theorem d_D_shortenRow_35 : decode prog_1_method_38_code 35 = .ok (.iaload, 1) := by decide +kernel
theorem d_D_shortenRow_36 : decode prog_1_method_38_code 36 = .ok (.invokestatic 184, 3) := by decide +kernel
theorem d_D_shortenRow_39 : decode prog_1_method_38_code 39 = .ok (.ifCond .eq 12, 3) := by decide +kernel
theorem d_D_shortenRow_42 : decode prog_1_method_38_code 42 = .ok (.aload 4, 2) := by decide +kernel
theorem d_D_shortenRow_44 : decode prog_1_method_38_code 44 = .ok (.iload 6, 2) := by decide +kernel
theorem d_D_shortenRow_46 : decode prog_1_method_38_code 46 = .ok (.iload_n 2, 1) := by decide +kernel
theorem d_D_shortenRow_47 : decode prog_1_method_38_code 47 = .ok (.iload 7, 2) := by decide +kernel
theorem d_D_shortenRow_49 : decode prog_1_method_38_code 49 = .ok (.iadd, 1) := by decide +kernel
theorem d_D_shortenRow_50 : decode prog_1_method_38_code 50 = .ok (.iastore, 1) := by decide +kernel
theorem d_D_shortenRow_51 : decode prog_1_method_38_code 51 = .ok (.iinc 5 1, 3) := by decide +kernel
theorem d_D_shortenRow_54 : decode prog_1_method_38_code 54 = .ok (.goto (-51), 3) := by decide +kernel
theorem d_D_shortenRow_57 : decode prog_1_method_38_code 57 = .ok (.return_, 1) := by decide +kernel
theorem d_D_shortenAmong_0 : decode prog_1_method_37_code 0 = .ok (.iconst 0, 1) := by decide +kernel
theorem d_D_shortenAmong_1 : decode prog_1_method_37_code 1 = .ok (.istore_n 3, 1) := by decide +kernel
theorem d_D_shortenAmong_2 : decode prog_1_method_37_code 2 = .ok (.iload_n 3, 1) := by decide +kernel
theorem d_D_shortenAmong_3 : decode prog_1_method_37_code 3 = .ok (.iload_n 1, 1) := by decide +kernel
theorem d_D_shortenAmong_4 : decode prog_1_method_37_code 4 = .ok (.if_icmp .ge 63, 3) := by decide +kernel
theorem d_D_shortenAmong_7 : decode prog_1_method_37_code 7 = .ok (.aload_n 0, 1) := by decide +kernel
theorem d_D_shortenAmong_8 : decode prog_1_method_37_code 8 = .ok (.iload_n 3, 1) := by decide +kernel
theorem d_D_shortenAmong_9 : decode prog_1_method_37_code 9 = .ok (.iaload, 1) := by decide +kernel
theorem d_D_shortenAmong_10 : decode prog_1_method_37_code 10 = .ok (.istore 4, 2) := by decide +kernel
theorem d_D_shortenAmong_12 : decode prog_1_method_37_code 12 = .ok (.iconst 0, 1) := by decide +kernel
theorem d_D_shortenAmong_13 : decode prog_1_method_37_code 13 = .ok (.istore 5, 2) := by decide +kernel
theorem d_D_shortenAmong_15 : decode prog_1_method_37_code 15 = .ok (.iload 5, 2) := by decide +kernel
theorem d_D_shortenAmong_17 : decode prog_1_method_37_code 17 = .ok (.iload_n 1, 1) := by decide +kernel
theorem d_D_shortenAmong_18 : decode prog_1_method_37_code 18 = .ok (.if_icmp .ge 43, 3) := by decide +kernel
theorem d_D_shortenAmong_21 : decode prog_1_method_37_code 21 = .ok (.aload_n 2, 1) := by decide +kernel
theorem d_D_shortenAmong_22 : decode prog_1_method_37_code 22 = .ok (.aload_n 0, 1) := by decide +kernel
theorem d_D_shortenAmong_23 : decode prog_1_method_37_code 23 = .ok (.iload 5, 2) := by decide +kernel
theorem d_D_shortenAmong_25 : decode prog_1_method_37_code 25 = .ok (.iaload, 1) := by decide +kernel
theorem d_D_shortenAmong_26 : decode prog_1_method_37_code 26 = .ok (.aaload, 1) := by decide +kernel
theorem d_D_shortenAmong_27 : decode prog_1_method_37_code 27 = .ok (.iload 4, 2) := by decide +kernel
theorem d_D_shortenAmong_29 : decode prog_1_method_37_code 29 = .ok (.iaload, 1) := by decide +kernel
theorem d_D_shortenAmong_30 : decode prog_1_method_37_code 30 = .ok (.istore 6, 2) := by decide +kernel
theorem d_D_shortenAmong_32 : decode prog_1_method_37_code 32 = .ok (.iload 6, 2) := by decide +kernel
theorem d_D_shortenAmong_34 : decode prog_1_method_37_code 34 = .ok (.iconst (-1), 1) := by decide +kernel
theorem d_D_shortenAmong_35 : decode prog_1_method_37_code 35 = .ok (.if_icmp .eq 20, 3) := by decide +kernel
theorem d_D_shortenAmong_38 : decode prog_1_method_37_code 38 = .ok (.aload_n 0, 1) := by decide +kernel
theorem d_D_shortenAmong_39 : decode prog_1_method_37_code 39 = .ok (.iload_n 1, 1) := by decide +kernel
theorem d_D_shortenAmong_40 : decode prog_1_method_37_code 40 = .ok (.iload 6, 2) := by decide +kernel
theorem d_D_shortenAmong_42 : decode prog_1_method_37_code 42 = .ok (.aload_n 2, 1) := by decide +kernel
theorem d_D_shortenAmong_43 : decode prog_1_method_37_code 43 = .ok (.iload 4, 2) := by decide +kernel
theorem d_D_shortenAmong_45 : decode prog_1_method_37_code 45 = .ok (.aaload, 1) := by decide +kernel
theorem d_D_shortenAmong_46 : decode prog_1_method_37_code 46 = .ok (.aload_n 2, 1) := by decide +kernel
theorem d_D_shortenAmong_47 : decode prog_1_method_37_code 47 = .ok (.aload_n 0, 1) := by decide +kernel
theorem d_D_shortenAmong_48 : decode prog_1_method_37_code 48 = .ok (.iload 5, 2) := by decide +kernel
theorem d_D_shortenAmong_50 : decode prog_1_method_37_code 50 = .ok (.iaload, 1) := by decide +kernel
theorem d_D_shortenAmong_51 : decode prog_1_method_37_code 51 = .ok (.aaload, 1) := by decide +kernel
theorem d_D_shortenAmong_52 : decode prog_1_method_37_code 52 = .ok (.invokestatic 188, 3) := by decide +kernel
theorem d_D_shortenAmong_55 : decode prog_1_method_37_code 55 = .ok (.iinc 5 1, 3) := by decide +kernel
theorem d_D_shortenAmong_58 : decode prog_1_method_37_code 58 = .ok (.goto (-43), 3) := by decide +kernel
theorem d_D_shortenAmong_61 : decode prog_1_method_37_code 61 = .ok (.iinc 3 1, 3) := by decide +kernel
theorem d_D_shortenAmong_64 : decode prog_1_method_37_code 64 = .ok (.goto (-62), 3) := by decide +kernel
theorem d_D_shortenAmong_67 : decode prog_1_method_37_code 67 = .ok (.return_, 1) := by decide +kernel
theorem d_D_layDistances_0 : decode prog_1_method_24_code 0 = .ok (.aload_n 0, 1) := by decide +kernel
theorem d_D_layDistances_1 : decode prog_1_method_24_code 1 = .ok (.getfield 10, 3) := by decide +kernel
theorem d_D_layDistances_4 : decode prog_1_method_24_code 4 = .ok (.getfield 82, 3) := by decide +kernel
theorem d_D_layDistances_7 : decode prog_1_method_24_code 7 = .ok (.aload_n 0, 1) := by decide +kernel
theorem d_D_layDistances_8 : decode prog_1_method_24_code 8 = .ok (.getfield 10, 3) := by decide +kernel
theorem d_D_layDistances_11 : decode prog_1_method_24_code 11 = .ok (.getfield 56, 3) := by decide +kernel
theorem d_D_layDistances_14 : decode prog_1_method_24_code 14 = .ok (.aload_n 0, 1) := by decide +kernel
theorem d_D_layDistances_15 : decode prog_1_method_24_code 15 = .ok (.getfield 10, 3) := by decide +kernel
theorem d_D_layDistances_18 : decode prog_1_method_24_code 18 = .ok (.getfield 167, 3) := by decide +kernel
theorem d_D_layDistances_21 : decode prog_1_method_24_code 21 = .ok (.aload_n 0, 1) := by decide +kernel
theorem d_D_layDistances_22 : decode prog_1_method_24_code 22 = .ok (.getfield 20, 3) := by decide +kernel
theorem d_D_layDistances_25 : decode prog_1_method_24_code 25 = .ok (.invokestatic 170, 3) := by decide +kernel
theorem d_D_layDistances_28 : decode prog_1_method_24_code 28 = .ok (.iconst 0, 1) := by decide +kernel
theorem d_D_layDistances_29 : decode prog_1_method_24_code 29 = .ok (.istore_n 1, 1) := by decide +kernel
theorem d_D_layDistances_30 : decode prog_1_method_24_code 30 = .ok (.iload_n 1, 1) := by decide +kernel
theorem d_D_layDistances_31 : decode prog_1_method_24_code 31 = .ok (.aload_n 0, 1) := by decide +kernel
theorem d_D_layDistances_32 : decode prog_1_method_24_code 32 = .ok (.getfield 10, 3) := by decide +kernel
theorem d_D_layDistances_35 : decode prog_1_method_24_code 35 = .ok (.getfield 56, 3) := by decide +kernel
theorem d_D_layDistances_38 : decode prog_1_method_24_code 38 = .ok (.if_icmp .ge 18, 3) := by decide +kernel
theorem d_D_layDistances_41 : decode prog_1_method_24_code 41 = .ok (.aload_n 0, 1) := by decide +kernel
theorem d_D_layDistances_42 : decode prog_1_method_24_code 42 = .ok (.getfield 20, 3) := by decide +kernel
theorem d_D_layDistances_45 : decode prog_1_method_24_code 45 = .ok (.iload_n 1, 1) := by decide +kernel
theorem d_D_layDistances_46 : decode prog_1_method_24_code 46 = .ok (.aaload, 1) := by decide +kernel
theorem d_D_layDistances_47 : decode prog_1_method_24_code 47 = .ok (.iload_n 1, 1) := by decide +kernel
theorem d_D_layDistances_48 : decode prog_1_method_24_code 48 = .ok (.iconst 0, 1) := by decide +kernel
theorem d_D_layDistances_49 : decode prog_1_method_24_code 49 = .ok (.iastore, 1) := by decide +kernel
theorem d_D_layDistances_50 : decode prog_1_method_24_code 50 = .ok (.iinc 1 1, 3) := by decide +kernel
theorem d_D_layDistances_53 : decode prog_1_method_24_code 53 = .ok (.goto (-23), 3) := by decide +kernel
theorem d_D_layDistances_56 : decode prog_1_method_24_code 56 = .ok (.aload_n 0, 1) := by decide +kernel
theorem d_D_layDistances_57 : decode prog_1_method_24_code 57 = .ok (.getfield 10, 3) := by decide +kernel
theorem d_D_layDistances_60 : decode prog_1_method_24_code 60 = .ok (.getfield 82, 3) := by decide +kernel
theorem d_D_layDistances_63 : decode prog_1_method_24_code 63 = .ok (.aload_n 0, 1) := by decide +kernel
theorem d_D_layDistances_64 : decode prog_1_method_24_code 64 = .ok (.getfield 10, 3) := by decide +kernel
theorem d_D_layDistances_67 : decode prog_1_method_24_code 67 = .ok (.getfield 56, 3) := by decide +kernel
theorem d_D_layDistances_70 : decode prog_1_method_24_code 70 = .ok (.aload_n 0, 1) := by decide +kernel
theorem d_D_layDistances_71 : decode prog_1_method_24_code 71 = .ok (.getfield 20, 3) := by decide +kernel
theorem d_D_layDistances_74 : decode prog_1_method_24_code 74 = .ok (.invokestatic 174, 3) := by decide +kernel
theorem d_D_layDistances_77 : decode prog_1_method_24_code 77 = .ok (.return_, 1) := by decide +kernel
theorem d_D_sum_0 : decode prog_1_method_31_code 0 = .ok (.iload_n 0, 1) := by decide +kernel
theorem d_D_sum_1 : decode prog_1_method_31_code 1 = .ok (.iconst (-1), 1) := by decide +kernel
theorem d_D_sum_2 : decode prog_1_method_31_code 2 = .ok (.if_icmp .eq 8, 3) := by decide +kernel
theorem d_D_sum_5 : decode prog_1_method_31_code 5 = .ok (.iload_n 1, 1) := by decide +kernel
theorem d_D_sum_6 : decode prog_1_method_31_code 6 = .ok (.iconst (-1), 1) := by decide +kernel
theorem d_D_sum_7 : decode prog_1_method_31_code 7 = .ok (.if_icmp .ne 7, 3) := by decide +kernel
theorem d_D_sum_10 : decode prog_1_method_31_code 10 = .ok (.iconst (-1), 1) := by decide +kernel
theorem d_D_sum_11 : decode prog_1_method_31_code 11 = .ok (.goto 6, 3) := by decide +kernel
theorem d_D_sum_14 : decode prog_1_method_31_code 14 = .ok (.iload_n 0, 1) := by decide +kernel
theorem d_D_sum_15 : decode prog_1_method_31_code 15 = .ok (.iload_n 1, 1) := by decide +kernel
theorem d_D_sum_16 : decode prog_1_method_31_code 16 = .ok (.iadd, 1) := by decide +kernel
theorem d_D_sum_17 : decode prog_1_method_31_code 17 = .ok (.ireturn, 1) := by decide +kernel
theorem d_D_firstOnLeastWays_0 : decode prog_1_method_26_code 0 = .ok (.aload_n 0, 1) := by decide +kernel
theorem d_D_firstOnLeastWays_1 : decode prog_1_method_26_code 1 = .ok (.getfield 20, 3) := by decide +kernel
theorem d_D_firstOnLeastWays_4 : decode prog_1_method_26_code 4 = .ok (.iload_n 1, 1) := by decide +kernel
theorem d_D_firstOnLeastWays_5 : decode prog_1_method_26_code 5 = .ok (.aaload, 1) := by decide +kernel
theorem d_D_firstOnLeastWays_6 : decode prog_1_method_26_code 6 = .ok (.iload_n 2, 1) := by decide +kernel
theorem d_D_firstOnLeastWays_7 : decode prog_1_method_26_code 7 = .ok (.iaload, 1) := by decide +kernel
theorem d_D_firstOnLeastWays_8 : decode prog_1_method_26_code 8 = .ok (.iconst (-1), 1) := by decide +kernel
theorem d_D_firstOnLeastWays_9 : decode prog_1_method_26_code 9 = .ok (.if_icmp .ne 5, 3) := by decide +kernel
theorem d_D_firstOnLeastWays_12 : decode prog_1_method_26_code 12 = .ok (.iconst (-1), 1) := by decide +kernel
theorem d_D_firstOnLeastWays_13 : decode prog_1_method_26_code 13 = .ok (.ireturn, 1) := by decide +kernel
theorem d_D_firstOnLeastWays_14 : decode prog_1_method_26_code 14 = .ok (.iconst 0, 1) := by decide +kernel
theorem d_D_firstOnLeastWays_15 : decode prog_1_method_26_code 15 = .ok (.istore_n 3, 1) := by decide +kernel
theorem d_D_firstOnLeastWays_16 : decode prog_1_method_26_code 16 = .ok (.iload_n 3, 1) := by decide +kernel
theorem d_D_firstOnLeastWays_17 : decode prog_1_method_26_code 17 = .ok (.aload_n 0, 1) := by decide +kernel
theorem d_D_firstOnLeastWays_18 : decode prog_1_method_26_code 18 = .ok (.getfield 10, 3) := by decide +kernel
theorem d_D_firstOnLeastWays_21 : decode prog_1_method_26_code 21 = .ok (.getfield 56, 3) := by decide +kernel
theorem d_D_firstOnLeastWays_24 : decode prog_1_method_26_code 24 = .ok (.if_icmp .ge 55, 3) := by decide +kernel
theorem d_D_firstOnLeastWays_27 : decode prog_1_method_26_code 27 = .ok (.aload_n 0, 1) := by decide +kernel
theorem d_D_firstOnLeastWays_28 : decode prog_1_method_26_code 28 = .ok (.getfield 10, 3) := by decide +kernel
theorem d_D_firstOnLeastWays_31 : decode prog_1_method_26_code 31 = .ok (.getfield 82, 3) := by decide +kernel
theorem d_D_firstOnLeastWays_34 : decode prog_1_method_26_code 34 = .ok (.iload_n 3, 1) := by decide +kernel
theorem d_D_firstOnLeastWays_35 : decode prog_1_method_26_code 35 = .ok (.iaload, 1) := by decide +kernel
theorem d_D_firstOnLeastWays_36 : decode prog_1_method_26_code 36 = .ok (.istore 4, 2) := by decide +kernel
theorem d_D_firstOnLeastWays_38 : decode prog_1_method_26_code 38 = .ok (.aload_n 0, 1) := by decide +kernel
theorem d_D_firstOnLeastWays_39 : decode prog_1_method_26_code 39 = .ok (.getfield 20, 3) := by decide +kernel
theorem d_D_firstOnLeastWays_42 : decode prog_1_method_26_code 42 = .ok (.iload_n 1, 1) := by decide +kernel
theorem d_D_firstOnLeastWays_43 : decode prog_1_method_26_code 43 = .ok (.aaload, 1) := by decide +kernel
theorem d_D_firstOnLeastWays_44 : decode prog_1_method_26_code 44 = .ok (.iload 4, 2) := by decide +kernel
theorem d_D_firstOnLeastWays_46 : decode prog_1_method_26_code 46 = .ok (.iaload, 1) := by decide +kernel
theorem d_D_firstOnLeastWays_47 : decode prog_1_method_26_code 47 = .ok (.aload_n 0, 1) := by decide +kernel
theorem d_D_firstOnLeastWays_48 : decode prog_1_method_26_code 48 = .ok (.getfield 20, 3) := by decide +kernel
theorem d_D_firstOnLeastWays_51 : decode prog_1_method_26_code 51 = .ok (.iload 4, 2) := by decide +kernel
theorem d_D_firstOnLeastWays_53 : decode prog_1_method_26_code 53 = .ok (.aaload, 1) := by decide +kernel
theorem d_D_firstOnLeastWays_54 : decode prog_1_method_26_code 54 = .ok (.iload_n 2, 1) := by decide +kernel
theorem d_D_firstOnLeastWays_55 : decode prog_1_method_26_code 55 = .ok (.iaload, 1) := by decide +kernel
theorem d_D_firstOnLeastWays_56 : decode prog_1_method_26_code 56 = .ok (.invokestatic 158, 3) := by decide +kernel
theorem d_D_firstOnLeastWays_59 : decode prog_1_method_26_code 59 = .ok (.aload_n 0, 1) := by decide +kernel
theorem d_D_firstOnLeastWays_60 : decode prog_1_method_26_code 60 = .ok (.getfield 20, 3) := by decide +kernel
theorem d_D_firstOnLeastWays_63 : decode prog_1_method_26_code 63 = .ok (.iload_n 1, 1) := by decide +kernel
theorem d_D_firstOnLeastWays_64 : decode prog_1_method_26_code 64 = .ok (.aaload, 1) := by decide +kernel
theorem d_D_firstOnLeastWays_65 : decode prog_1_method_26_code 65 = .ok (.iload_n 2, 1) := by decide +kernel
theorem d_D_firstOnLeastWays_66 : decode prog_1_method_26_code 66 = .ok (.iaload, 1) := by decide +kernel
theorem d_D_firstOnLeastWays_67 : decode prog_1_method_26_code 67 = .ok (.if_icmp .ne 6, 3) := by decide +kernel
theorem d_D_firstOnLeastWays_70 : decode prog_1_method_26_code 70 = .ok (.iload 4, 2) := by decide +kernel
theorem d_D_firstOnLeastWays_72 : decode prog_1_method_26_code 72 = .ok (.ireturn, 1) := by decide +kernel
theorem d_D_firstOnLeastWays_73 : decode prog_1_method_26_code 73 = .ok (.iinc 3 1, 3) := by decide +kernel
theorem d_D_firstOnLeastWays_76 : decode prog_1_method_26_code 76 = .ok (.goto (-60), 3) := by decide +kernel
theorem d_D_firstOnLeastWays_79 : decode prog_1_method_26_code 79 = .ok (.iconst (-1), 1) := by decide +kernel
theorem d_D_firstOnLeastWays_80 : decode prog_1_method_26_code 80 = .ok (.ireturn, 1) := by decide +kernel
