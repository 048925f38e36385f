theorem d_L_lay_0 : decode prog_3_method_2_code 0 = .ok (.aload_n 0, 1) := by decide +kernel
theorem d_L_lay_1 : decode prog_3_method_2_code 1 = .ok (.getfield 13, 3) := by decide +kernel
theorem d_L_lay_4 : decode prog_3_method_2_code 4 = .ok (.iload_n 1, 1) := by decide +kernel
theorem d_L_lay_5 : decode prog_3_method_2_code 5 = .ok (.aaload, 1) := by decide +kernel
theorem d_L_lay_6 : decode prog_3_method_2_code 6 = .ok (.iload_n 2, 1) := by decide +kernel
theorem d_L_lay_7 : decode prog_3_method_2_code 7 = .ok (.iaload, 1) := by decide +kernel
theorem d_L_lay_8 : decode prog_3_method_2_code 8 = .ok (.istore 4, 2) := by decide +kernel
theorem d_L_lay_10 : decode prog_3_method_2_code 10 = .ok (.aload_n 0, 1) := by decide +kernel
theorem d_L_lay_11 : decode prog_3_method_2_code 11 = .ok (.getfield 13, 3) := by decide +kernel
theorem d_L_lay_14 : decode prog_3_method_2_code 14 = .ok (.iload_n 1, 1) := by decide +kernel
theorem d_L_lay_15 : decode prog_3_method_2_code 15 = .ok (.aaload, 1) := by decide +kernel
theorem d_L_lay_16 : decode prog_3_method_2_code 16 = .ok (.iload_n 2, 1) := by decide +kernel
theorem d_L_lay_17 : decode prog_3_method_2_code 17 = .ok (.iload_n 3, 1) := by decide +kernel
theorem d_L_lay_18 : decode prog_3_method_2_code 18 = .ok (.iastore, 1) := by decide +kernel
theorem d_L_lay_19 : decode prog_3_method_2_code 19 = .ok (.aload_n 0, 1) := by decide +kernel
theorem d_L_lay_20 : decode prog_3_method_2_code 20 = .ok (.getfield 19, 3) := by decide +kernel
theorem d_L_lay_23 : decode prog_3_method_2_code 23 = .ok (.iload_n 1, 1) := by decide +kernel
theorem d_L_lay_24 : decode prog_3_method_2_code 24 = .ok (.aaload, 1) := by decide +kernel
theorem d_L_lay_25 : decode prog_3_method_2_code 25 = .ok (.iload_n 2, 1) := by decide +kernel
theorem d_L_lay_26 : decode prog_3_method_2_code 26 = .ok (.iload_n 3, 1) := by decide +kernel
theorem d_L_lay_27 : decode prog_3_method_2_code 27 = .ok (.iastore, 1) := by decide +kernel
theorem d_L_lay_28 : decode prog_3_method_2_code 28 = .ok (.iload 4, 2) := by decide +kernel
theorem d_L_lay_30 : decode prog_3_method_2_code 30 = .ok (.iload_n 3, 1) := by decide +kernel
theorem d_L_lay_31 : decode prog_3_method_2_code 31 = .ok (.if_icmp .ne 5, 3) := by decide +kernel
theorem d_L_lay_34 : decode prog_3_method_2_code 34 = .ok (.iconst 0, 1) := by decide +kernel
theorem d_L_lay_35 : decode prog_3_method_2_code 35 = .ok (.ireturn, 1) := by decide +kernel
theorem d_L_lay_36 : decode prog_3_method_2_code 36 = .ok (.iload 4, 2) := by decide +kernel
theorem d_L_lay_38 : decode prog_3_method_2_code 38 = .ok (.iconst (-1), 1) := by decide +kernel
theorem d_L_lay_39 : decode prog_3_method_2_code 39 = .ok (.if_icmp .eq 8, 3) := by decide +kernel
theorem d_L_lay_42 : decode prog_3_method_2_code 42 = .ok (.iload_n 3, 1) := by decide +kernel
theorem d_L_lay_43 : decode prog_3_method_2_code 43 = .ok (.iconst (-1), 1) := by decide +kernel
theorem d_L_lay_44 : decode prog_3_method_2_code 44 = .ok (.if_icmp .ne 7, 3) := by decide +kernel
theorem d_L_lay_47 : decode prog_3_method_2_code 47 = .ok (.iconst 1, 1) := by decide +kernel
theorem d_L_lay_48 : decode prog_3_method_2_code 48 = .ok (.goto 4, 3) := by decide +kernel
theorem d_L_lay_51 : decode prog_3_method_2_code 51 = .ok (.iconst 2, 1) := by decide +kernel
theorem d_L_lay_52 : decode prog_3_method_2_code 52 = .ok (.ireturn, 1) := by decide +kernel
theorem d_D_layPair_0 : decode prog_1_method_25_code 0 = .ok (.aload_n 0, 1) := by decide +kernel
theorem d_D_layPair_1 : decode prog_1_method_25_code 1 = .ok (.iload_n 1, 1) := by decide +kernel
theorem d_D_layPair_2 : decode prog_1_method_25_code 2 = .ok (.iload_n 2, 1) := by decide +kernel
theorem d_D_layPair_3 : decode prog_1_method_25_code 3 = .ok (.invokevirtual 178, 3) := by decide +kernel
theorem d_D_layPair_6 : decode prog_1_method_25_code 6 = .ok (.istore_n 3, 1) := by decide +kernel
theorem d_D_layPair_7 : decode prog_1_method_25_code 7 = .ok (.iload_n 3, 1) := by decide +kernel
theorem d_D_layPair_8 : decode prog_1_method_25_code 8 = .ok (.iload_n 2, 1) := by decide +kernel
theorem d_D_layPair_9 : decode prog_1_method_25_code 9 = .ok (.if_icmp .ne 14, 3) := by decide +kernel
theorem d_D_layPair_12 : decode prog_1_method_25_code 12 = .ok (.aload_n 0, 1) := by decide +kernel
theorem d_D_layPair_13 : decode prog_1_method_25_code 13 = .ok (.getfield 20, 3) := by decide +kernel
theorem d_D_layPair_16 : decode prog_1_method_25_code 16 = .ok (.iload_n 1, 1) := by decide +kernel
theorem d_D_layPair_17 : decode prog_1_method_25_code 17 = .ok (.aaload, 1) := by decide +kernel
theorem d_D_layPair_18 : decode prog_1_method_25_code 18 = .ok (.iload_n 2, 1) := by decide +kernel
theorem d_D_layPair_19 : decode prog_1_method_25_code 19 = .ok (.iaload, 1) := by decide +kernel
theorem d_D_layPair_20 : decode prog_1_method_25_code 20 = .ok (.goto 4, 3) := by decide +kernel
theorem d_D_layPair_23 : decode prog_1_method_25_code 23 = .ok (.iconst (-1), 1) := by decide +kernel
theorem d_D_layPair_24 : decode prog_1_method_25_code 24 = .ok (.istore 4, 2) := by decide +kernel
theorem d_D_layPair_26 : decode prog_1_method_25_code 26 = .ok (.iload_n 3, 1) := by decide +kernel
theorem d_D_layPair_27 : decode prog_1_method_25_code 27 = .ok (.iload_n 1, 1) := by decide +kernel
theorem d_D_layPair_28 : decode prog_1_method_25_code 28 = .ok (.if_icmp .ne 14, 3) := by decide +kernel
theorem d_D_layPair_31 : decode prog_1_method_25_code 31 = .ok (.aload_n 0, 1) := by decide +kernel
theorem d_D_layPair_32 : decode prog_1_method_25_code 32 = .ok (.getfield 20, 3) := by decide +kernel
theorem d_D_layPair_35 : decode prog_1_method_25_code 35 = .ok (.iload_n 1, 1) := by decide +kernel
theorem d_D_layPair_36 : decode prog_1_method_25_code 36 = .ok (.aaload, 1) := by decide +kernel
theorem d_D_layPair_37 : decode prog_1_method_25_code 37 = .ok (.iload_n 2, 1) := by decide +kernel
theorem d_D_layPair_38 : decode prog_1_method_25_code 38 = .ok (.iaload, 1) := by decide +kernel
theorem d_D_layPair_39 : decode prog_1_method_25_code 39 = .ok (.goto 4, 3) := by decide +kernel
theorem d_D_layPair_42 : decode prog_1_method_25_code 42 = .ok (.iconst (-1), 1) := by decide +kernel
theorem d_D_layPair_43 : decode prog_1_method_25_code 43 = .ok (.istore 5, 2) := by decide +kernel
theorem d_D_layPair_45 : decode prog_1_method_25_code 45 = .ok (.aload_n 0, 1) := by decide +kernel
theorem d_D_layPair_46 : decode prog_1_method_25_code 46 = .ok (.dup, 1) := by decide +kernel
theorem d_D_layPair_47 : decode prog_1_method_25_code 47 = .ok (.getfield 53, 3) := by decide +kernel
theorem d_D_layPair_50 : decode prog_1_method_25_code 50 = .ok (.aload_n 0, 1) := by decide +kernel
theorem d_D_layPair_51 : decode prog_1_method_25_code 51 = .ok (.getfield 27, 3) := by decide +kernel
theorem d_D_layPair_54 : decode prog_1_method_25_code 54 = .ok (.iload_n 1, 1) := by decide +kernel
theorem d_D_layPair_55 : decode prog_1_method_25_code 55 = .ok (.iload_n 2, 1) := by decide +kernel
theorem d_D_layPair_56 : decode prog_1_method_25_code 56 = .ok (.iload 4, 2) := by decide +kernel
theorem d_D_layPair_58 : decode prog_1_method_25_code 58 = .ok (.invokevirtual 181, 3) := by decide +kernel
theorem d_D_layPair_61 : decode prog_1_method_25_code 61 = .ok (.aload_n 0, 1) := by decide +kernel
theorem d_D_layPair_62 : decode prog_1_method_25_code 62 = .ok (.getfield 31, 3) := by decide +kernel
theorem d_D_layPair_65 : decode prog_1_method_25_code 65 = .ok (.iload_n 2, 1) := by decide +kernel
theorem d_D_layPair_66 : decode prog_1_method_25_code 66 = .ok (.iload_n 1, 1) := by decide +kernel
theorem d_D_layPair_67 : decode prog_1_method_25_code 67 = .ok (.iload 5, 2) := by decide +kernel
theorem d_D_layPair_69 : decode prog_1_method_25_code 69 = .ok (.invokevirtual 181, 3) := by decide +kernel
theorem d_D_layPair_72 : decode prog_1_method_25_code 72 = .ok (.iadd, 1) := by decide +kernel
theorem d_D_layPair_73 : decode prog_1_method_25_code 73 = .ok (.iadd, 1) := by decide +kernel
theorem d_D_layPair_74 : decode prog_1_method_25_code 74 = .ok (.putfield 53, 3) := by decide +kernel
theorem d_D_layPair_77 : decode prog_1_method_25_code 77 = .ok (.iload 4, 2) := by decide +kernel
theorem d_D_layPair_79 : decode prog_1_method_25_code 79 = .ok (.iconst (-1), 1) := by decide +kernel
theorem d_D_layPair_80 : decode prog_1_method_25_code 80 = .ok (.if_icmp .eq 7, 3) := by decide +kernel
theorem d_D_layPair_83 : decode prog_1_method_25_code 83 = .ok (.iconst 1, 1) := by decide +kernel
theorem d_D_layPair_84 : decode prog_1_method_25_code 84 = .ok (.goto 4, 3) := by decide +kernel
theorem d_D_layPair_87 : decode prog_1_method_25_code 87 = .ok (.iconst 0, 1) := by decide +kernel
theorem d_D_layPair_88 : decode prog_1_method_25_code 88 = .ok (.iload 5, 2) := by decide +kernel
theorem d_D_layPair_90 : decode prog_1_method_25_code 90 = .ok (.iconst (-1), 1) := by decide +kernel
theorem d_D_layPair_91 : decode prog_1_method_25_code 91 = .ok (.if_icmp .eq 7, 3) := by decide +kernel
theorem d_D_layPair_94 : decode prog_1_method_25_code 94 = .ok (.iconst 1, 1) := by decide +kernel
theorem d_D_layPair_95 : decode prog_1_method_25_code 95 = .ok (.goto 4, 3) := by decide +kernel
theorem d_D_layPair_98 : decode prog_1_method_25_code 98 = .ok (.iconst 0, 1) := by decide +kernel
theorem d_D_layPair_99 : decode prog_1_method_25_code 99 = .ok (.iadd, 1) := by decide +kernel
theorem d_D_layPair_100 : decode prog_1_method_25_code 100 = .ok (.ireturn, 1) := by decide +kernel
theorem d_K_bring_0 : decode prog_2_method_4_code 0 = .ok (.aload_n 0, 1) := by decide +kernel
theorem d_K_bring_1 : decode prog_2_method_4_code 1 = .ok (.getfield 13, 3) := by decide +kernel
theorem d_K_bring_4 : decode prog_2_method_4_code 4 = .ok (.iload_n 1, 1) := by decide +kernel
theorem d_K_bring_5 : decode prog_2_method_4_code 5 = .ok (.aaload, 1) := by decide +kernel
theorem d_K_bring_6 : decode prog_2_method_4_code 6 = .ok (.iload_n 2, 1) := by decide +kernel
theorem d_K_bring_7 : decode prog_2_method_4_code 7 = .ok (.iload_n 3, 1) := by decide +kernel
theorem d_K_bring_8 : decode prog_2_method_4_code 8 = .ok (.iastore, 1) := by decide +kernel
theorem d_K_bring_9 : decode prog_2_method_4_code 9 = .ok (.aload_n 0, 1) := by decide +kernel
theorem d_K_bring_10 : decode prog_2_method_4_code 10 = .ok (.getfield 29, 3) := by decide +kernel
theorem d_K_bring_13 : decode prog_2_method_4_code 13 = .ok (.sipush 1120, 3) := by decide +kernel
theorem d_K_bring_16 : decode prog_2_method_4_code 16 = .ok (.if_icmp .ge 44, 3) := by decide +kernel
theorem d_K_bring_19 : decode prog_2_method_4_code 19 = .ok (.aload_n 0, 1) := by decide +kernel
theorem d_K_bring_20 : decode prog_2_method_4_code 20 = .ok (.getfield 22, 3) := by decide +kernel
theorem d_K_bring_23 : decode prog_2_method_4_code 23 = .ok (.aload_n 0, 1) := by decide +kernel
theorem d_K_bring_24 : decode prog_2_method_4_code 24 = .ok (.getfield 29, 3) := by decide +kernel
theorem d_K_bring_27 : decode prog_2_method_4_code 27 = .ok (.iload_n 1, 1) := by decide +kernel
theorem d_K_bring_28 : decode prog_2_method_4_code 28 = .ok (.bipush 16, 2) := by decide +kernel
theorem d_K_bring_30 : decode prog_2_method_4_code 30 = .ok (.imul, 1) := by decide +kernel
theorem d_K_bring_31 : decode prog_2_method_4_code 31 = .ok (.iload_n 2, 1) := by decide +kernel
theorem d_K_bring_32 : decode prog_2_method_4_code 32 = .ok (.iadd, 1) := by decide +kernel
theorem d_K_bring_33 : decode prog_2_method_4_code 33 = .ok (.bipush 16, 2) := by decide +kernel
theorem d_K_bring_35 : decode prog_2_method_4_code 35 = .ok (.imul, 1) := by decide +kernel
theorem d_K_bring_36 : decode prog_2_method_4_code 36 = .ok (.iload 4, 2) := by decide +kernel
theorem d_K_bring_38 : decode prog_2_method_4_code 38 = .ok (.iadd, 1) := by decide +kernel
theorem d_K_bring_39 : decode prog_2_method_4_code 39 = .ok (.iastore, 1) := by decide +kernel
theorem d_K_bring_40 : decode prog_2_method_4_code 40 = .ok (.aload_n 0, 1) := by decide +kernel
theorem d_K_bring_41 : decode prog_2_method_4_code 41 = .ok (.getfield 26, 3) := by decide +kernel
theorem d_K_bring_44 : decode prog_2_method_4_code 44 = .ok (.aload_n 0, 1) := by decide +kernel
theorem d_K_bring_45 : decode prog_2_method_4_code 45 = .ok (.getfield 29, 3) := by decide +kernel
theorem d_K_bring_48 : decode prog_2_method_4_code 48 = .ok (.iload_n 3, 1) := by decide +kernel
theorem d_K_bring_49 : decode prog_2_method_4_code 49 = .ok (.iastore, 1) := by decide +kernel
theorem d_K_bring_50 : decode prog_2_method_4_code 50 = .ok (.aload_n 0, 1) := by decide +kernel
theorem d_K_bring_51 : decode prog_2_method_4_code 51 = .ok (.dup, 1) := by decide +kernel
theorem d_K_bring_52 : decode prog_2_method_4_code 52 = .ok (.getfield 29, 3) := by decide +kernel
theorem d_K_bring_55 : decode prog_2_method_4_code 55 = .ok (.iconst 1, 1) := by decide +kernel
theorem d_K_bring_56 : decode prog_2_method_4_code 56 = .ok (.iadd, 1) := by decide +kernel
theorem d_K_bring_57 : decode prog_2_method_4_code 57 = .ok (.putfield 29, 3) := by decide +kernel
theorem d_K_bring_60 : decode prog_2_method_4_code 60 = .ok (.return_, 1) := by decide +kernel
theorem d_K_letGo_0 : decode prog_2_method_3_code 0 = .ok (.aload_n 1, 1) := by decide +kernel
theorem d_K_letGo_1 : decode prog_2_method_3_code 1 = .ok (.getfield 39, 3) := by decide +kernel
theorem d_K_letGo_4 : decode prog_2_method_3_code 4 = .ok (.iload_n 2, 1) := by decide +kernel
theorem d_K_letGo_5 : decode prog_2_method_3_code 5 = .ok (.aload_n 0, 1) := by decide +kernel
theorem d_K_letGo_6 : decode prog_2_method_3_code 6 = .ok (.getfield 13, 3) := by decide +kernel
theorem d_K_letGo_9 : decode prog_2_method_3_code 9 = .ok (.aload_n 0, 1) := by decide +kernel
theorem d_K_letGo_10 : decode prog_2_method_3_code 10 = .ok (.getfield 19, 3) := by decide +kernel
theorem d_K_letGo_13 : decode prog_2_method_3_code 13 = .ok (.invokestatic 48, 3) := by decide +kernel
theorem d_K_letGo_16 : decode prog_2_method_3_code 16 = .ok (.aload_n 1, 1) := by decide +kernel
theorem d_K_letGo_17 : decode prog_2_method_3_code 17 = .ok (.getfield 39, 3) := by decide +kernel
theorem d_K_letGo_20 : decode prog_2_method_3_code 20 = .ok (.iload_n 2, 1) := by decide +kernel
theorem d_K_letGo_21 : decode prog_2_method_3_code 21 = .ok (.aload_n 0, 1) := by decide +kernel
theorem d_K_letGo_22 : decode prog_2_method_3_code 22 = .ok (.getfield 19, 3) := by decide +kernel
theorem d_K_letGo_25 : decode prog_2_method_3_code 25 = .ok (.invokestatic 56, 3) := by decide +kernel
theorem d_K_letGo_28 : decode prog_2_method_3_code 28 = .ok (.aload_n 1, 1) := by decide +kernel
theorem d_K_letGo_29 : decode prog_2_method_3_code 29 = .ok (.getfield 39, 3) := by decide +kernel
theorem d_K_letGo_32 : decode prog_2_method_3_code 32 = .ok (.iload_n 2, 1) := by decide +kernel
theorem d_K_letGo_33 : decode prog_2_method_3_code 33 = .ok (.iaload, 1) := by decide +kernel
theorem d_K_letGo_34 : decode prog_2_method_3_code 34 = .ok (.istore_n 3, 1) := by decide +kernel
theorem d_K_letGo_35 : decode prog_2_method_3_code 35 = .ok (.iconst 0, 1) := by decide +kernel
theorem d_K_letGo_36 : decode prog_2_method_3_code 36 = .ok (.istore 4, 2) := by decide +kernel
theorem d_K_letGo_38 : decode prog_2_method_3_code 38 = .ok (.iload 4, 2) := by decide +kernel
theorem d_K_letGo_40 : decode prog_2_method_3_code 40 = .ok (.aload_n 1, 1) := by decide +kernel
theorem d_K_letGo_41 : decode prog_2_method_3_code 41 = .ok (.getfield 44, 3) := by decide +kernel
theorem d_K_letGo_44 : decode prog_2_method_3_code 44 = .ok (.if_icmp .ge 108, 3) := by decide +kernel
theorem d_K_letGo_47 : decode prog_2_method_3_code 47 = .ok (.iconst 0, 1) := by decide +kernel
theorem d_K_letGo_48 : decode prog_2_method_3_code 48 = .ok (.istore 5, 2) := by decide +kernel
theorem d_K_letGo_50 : decode prog_2_method_3_code 50 = .ok (.iload 5, 2) := by decide +kernel
theorem d_K_letGo_52 : decode prog_2_method_3_code 52 = .ok (.aload_n 1, 1) := by decide +kernel
theorem d_K_letGo_53 : decode prog_2_method_3_code 53 = .ok (.getfield 44, 3) := by decide +kernel
theorem d_K_letGo_56 : decode prog_2_method_3_code 56 = .ok (.if_icmp .ge 90, 3) := by decide +kernel
theorem d_K_letGo_59 : decode prog_2_method_3_code 59 = .ok (.iload 4, 2) := by decide +kernel
theorem d_K_letGo_61 : decode prog_2_method_3_code 61 = .ok (.iload 5, 2) := by decide +kernel
theorem d_K_letGo_63 : decode prog_2_method_3_code 63 = .ok (.if_icmp .eq 77, 3) := by decide +kernel
theorem d_K_letGo_66 : decode prog_2_method_3_code 66 = .ok (.aload_n 1, 1) := by decide +kernel
theorem d_K_letGo_67 : decode prog_2_method_3_code 67 = .ok (.getfield 60, 3) := by decide +kernel
theorem d_K_letGo_70 : decode prog_2_method_3_code 70 = .ok (.iload 4, 2) := by decide +kernel
theorem d_K_letGo_72 : decode prog_2_method_3_code 72 = .ok (.iaload, 1) := by decide +kernel
theorem d_K_letGo_73 : decode prog_2_method_3_code 73 = .ok (.iload_n 2, 1) := by decide +kernel
theorem d_K_letGo_74 : decode prog_2_method_3_code 74 = .ok (.if_icmp .ge 66, 3) := by decide +kernel
theorem d_K_letGo_77 : decode prog_2_method_3_code 77 = .ok (.aload_n 1, 1) := by decide +kernel
theorem d_K_letGo_78 : decode prog_2_method_3_code 78 = .ok (.getfield 60, 3) := by decide +kernel
theorem d_K_letGo_81 : decode prog_2_method_3_code 81 = .ok (.iload 5, 2) := by decide +kernel
theorem d_K_letGo_83 : decode prog_2_method_3_code 83 = .ok (.iaload, 1) := by decide +kernel
theorem d_K_letGo_84 : decode prog_2_method_3_code 84 = .ok (.iload_n 2, 1) := by decide +kernel
theorem d_K_letGo_85 : decode prog_2_method_3_code 85 = .ok (.if_icmp .ge 55, 3) := by decide +kernel
theorem d_K_letGo_88 : decode prog_2_method_3_code 88 = .ok (.aload_n 0, 1) := by decide +kernel
theorem d_K_letGo_89 : decode prog_2_method_3_code 89 = .ok (.getfield 13, 3) := by decide +kernel
theorem d_K_letGo_92 : decode prog_2_method_3_code 92 = .ok (.iload 4, 2) := by decide +kernel
theorem d_K_letGo_94 : decode prog_2_method_3_code 94 = .ok (.aaload, 1) := by decide +kernel
theorem d_K_letGo_95 : decode prog_2_method_3_code 95 = .ok (.iload_n 3, 1) := by decide +kernel
theorem d_K_letGo_96 : decode prog_2_method_3_code 96 = .ok (.iaload, 1) := by decide +kernel
theorem d_K_letGo_97 : decode prog_2_method_3_code 97 = .ok (.aload_n 0, 1) := by decide +kernel
theorem d_K_letGo_98 : decode prog_2_method_3_code 98 = .ok (.getfield 13, 3) := by decide +kernel
theorem d_K_letGo_101 : decode prog_2_method_3_code 101 = .ok (.iload_n 3, 1) := by decide +kernel
theorem d_K_letGo_102 : decode prog_2_method_3_code 102 = .ok (.aaload, 1) := by decide +kernel
theorem d_K_letGo_103 : decode prog_2_method_3_code 103 = .ok (.iload 5, 2) := by decide +kernel
theorem d_K_letGo_105 : decode prog_2_method_3_code 105 = .ok (.iaload, 1) := by decide +kernel
theorem d_K_letGo_106 : decode prog_2_method_3_code 106 = .ok (.invokestatic 63, 3) := by decide +kernel
theorem d_K_letGo_109 : decode prog_2_method_3_code 109 = .ok (.istore 6, 2) := by decide +kernel
theorem d_K_letGo_111 : decode prog_2_method_3_code 111 = .ok (.iload 6, 2) := by decide +kernel
theorem d_K_letGo_113 : decode prog_2_method_3_code 113 = .ok (.aload_n 0, 1) := by decide +kernel
theorem d_K_letGo_114 : decode prog_2_method_3_code 114 = .ok (.getfield 19, 3) := by decide +kernel
theorem d_K_letGo_117 : decode prog_2_method_3_code 117 = .ok (.iload 4, 2) := by decide +kernel
theorem d_K_letGo_119 : decode prog_2_method_3_code 119 = .ok (.aaload, 1) := by decide +kernel
theorem d_K_letGo_120 : decode prog_2_method_3_code 120 = .ok (.iload 5, 2) := by decide +kernel
theorem d_K_letGo_122 : decode prog_2_method_3_code 122 = .ok (.iaload, 1) := by decide +kernel
theorem d_K_letGo_123 : decode prog_2_method_3_code 123 = .ok (.invokestatic 67, 3) := by decide +kernel
theorem d_K_letGo_126 : decode prog_2_method_3_code 126 = .ok (.ifCond .eq 14, 3) := by decide +kernel
theorem d_K_letGo_129 : decode prog_2_method_3_code 129 = .ok (.aload_n 0, 1) := by decide +kernel
theorem d_K_letGo_130 : decode prog_2_method_3_code 130 = .ok (.iload 4, 2) := by decide +kernel
theorem d_K_letGo_132 : decode prog_2_method_3_code 132 = .ok (.iload 5, 2) := by decide +kernel
theorem d_K_letGo_134 : decode prog_2_method_3_code 134 = .ok (.iload 6, 2) := by decide +kernel
theorem d_K_letGo_136 : decode prog_2_method_3_code 136 = .ok (.iload_n 3, 1) := by decide +kernel
theorem d_K_letGo_137 : decode prog_2_method_3_code 137 = .ok (.invokevirtual 71, 3) := by decide +kernel
theorem d_K_letGo_140 : decode prog_2_method_3_code 140 = .ok (.iinc 5 1, 3) := by decide +kernel
theorem d_K_letGo_143 : decode prog_2_method_3_code 143 = .ok (.goto (-93), 3) := by decide +kernel
theorem d_K_letGo_146 : decode prog_2_method_3_code 146 = .ok (.iinc 4 1, 3) := by decide +kernel
theorem d_K_letGo_149 : decode prog_2_method_3_code 149 = .ok (.goto (-111), 3) := by decide +kernel
theorem d_K_letGo_152 : decode prog_2_method_3_code 152 = .ok (.return_, 1) := by decide +kernel
theorem d_K_layAll_0 : decode prog_2_method_2_code 0 = .ok (.aload_n 1, 1) := by decide +kernel
theorem d_K_layAll_1 : decode prog_2_method_2_code 1 = .ok (.getfield 39, 3) := by decide +kernel
theorem d_K_layAll_4 : decode prog_2_method_2_code 4 = .ok (.aload_n 1, 1) := by decide +kernel
theorem d_K_layAll_5 : decode prog_2_method_2_code 5 = .ok (.getfield 44, 3) := by decide +kernel
theorem d_K_layAll_8 : decode prog_2_method_2_code 8 = .ok (.aload_n 1, 1) := by decide +kernel
theorem d_K_layAll_9 : decode prog_2_method_2_code 9 = .ok (.getfield 47, 3) := by decide +kernel
theorem d_K_layAll_12 : decode prog_2_method_2_code 12 = .ok (.aload_n 0, 1) := by decide +kernel
theorem d_K_layAll_13 : decode prog_2_method_2_code 13 = .ok (.getfield 13, 3) := by decide +kernel
theorem d_K_layAll_16 : decode prog_2_method_2_code 16 = .ok (.invokestatic 48, 3) := by decide +kernel
theorem d_K_layAll_19 : decode prog_2_method_2_code 19 = .ok (.aload_n 0, 1) := by decide +kernel
theorem d_K_layAll_20 : decode prog_2_method_2_code 20 = .ok (.iconst 0, 1) := by decide +kernel
theorem d_K_layAll_21 : decode prog_2_method_2_code 21 = .ok (.putfield 29, 3) := by decide +kernel
theorem d_K_layAll_24 : decode prog_2_method_2_code 24 = .ok (.aload_n 1, 1) := by decide +kernel
theorem d_K_layAll_25 : decode prog_2_method_2_code 25 = .ok (.getfield 44, 3) := by decide +kernel
theorem d_K_layAll_28 : decode prog_2_method_2_code 28 = .ok (.iconst 1, 1) := by decide +kernel
theorem d_K_layAll_29 : decode prog_2_method_2_code 29 = .ok (.isub, 1) := by decide +kernel
theorem d_K_layAll_30 : decode prog_2_method_2_code 30 = .ok (.istore_n 2, 1) := by decide +kernel
theorem d_K_layAll_31 : decode prog_2_method_2_code 31 = .ok (.iload_n 2, 1) := by decide +kernel
theorem d_K_layAll_32 : decode prog_2_method_2_code 32 = .ok (.ifCond .lt 15, 3) := by decide +kernel
theorem d_K_layAll_35 : decode prog_2_method_2_code 35 = .ok (.aload_n 0, 1) := by decide +kernel
theorem d_K_layAll_36 : decode prog_2_method_2_code 36 = .ok (.aload_n 1, 1) := by decide +kernel
theorem d_K_layAll_37 : decode prog_2_method_2_code 37 = .ok (.iload_n 2, 1) := by decide +kernel
theorem d_K_layAll_38 : decode prog_2_method_2_code 38 = .ok (.invokevirtual 52, 3) := by decide +kernel
theorem d_K_layAll_41 : decode prog_2_method_2_code 41 = .ok (.iinc 2 (-1), 3) := by decide +kernel
theorem d_K_layAll_44 : decode prog_2_method_2_code 44 = .ok (.goto (-13), 3) := by decide +kernel
theorem d_K_layAll_47 : decode prog_2_method_2_code 47 = .ok (.return_, 1) := by decide +kernel
theorem d_D_make_0 : decode prog_1_method_8_code 0 = .ok (.aload_n 0, 1) := by decide +kernel
theorem d_D_make_1 : decode prog_1_method_8_code 1 = .ok (.invokevirtual 86, 3) := by decide +kernel
theorem d_D_make_4 : decode prog_1_method_8_code 4 = .ok (.aload_n 0, 1) := by decide +kernel
theorem d_D_make_5 : decode prog_1_method_8_code 5 = .ok (.iconst 0, 1) := by decide +kernel
theorem d_D_make_6 : decode prog_1_method_8_code 6 = .ok (.putfield 53, 3) := by decide +kernel
theorem d_D_make_9 : decode prog_1_method_8_code 9 = .ok (.iconst 0, 1) := by decide +kernel
theorem d_D_make_10 : decode prog_1_method_8_code 10 = .ok (.istore_n 1, 1) := by decide +kernel
theorem d_D_make_11 : decode prog_1_method_8_code 11 = .ok (.iconst 0, 1) := by decide +kernel
theorem d_D_make_12 : decode prog_1_method_8_code 12 = .ok (.istore_n 2, 1) := by decide +kernel
theorem d_D_make_13 : decode prog_1_method_8_code 13 = .ok (.iload_n 2, 1) := by decide +kernel
theorem d_D_make_14 : decode prog_1_method_8_code 14 = .ok (.aload_n 0, 1) := by decide +kernel
theorem d_D_make_15 : decode prog_1_method_8_code 15 = .ok (.getfield 10, 3) := by decide +kernel
theorem d_D_make_18 : decode prog_1_method_8_code 18 = .ok (.getfield 56, 3) := by decide +kernel
theorem d_D_make_21 : decode prog_1_method_8_code 21 = .ok (.if_icmp .ge 37, 3) := by decide +kernel
theorem d_D_make_24 : decode prog_1_method_8_code 24 = .ok (.iconst 0, 1) := by decide +kernel
theorem d_D_make_25 : decode prog_1_method_8_code 25 = .ok (.istore_n 3, 1) := by decide +kernel
theorem d_D_make_26 : decode prog_1_method_8_code 26 = .ok (.iload_n 3, 1) := by decide +kernel
theorem d_D_make_27 : decode prog_1_method_8_code 27 = .ok (.aload_n 0, 1) := by decide +kernel
theorem d_D_make_28 : decode prog_1_method_8_code 28 = .ok (.getfield 10, 3) := by decide +kernel
theorem d_D_make_31 : decode prog_1_method_8_code 31 = .ok (.getfield 56, 3) := by decide +kernel
theorem d_D_make_34 : decode prog_1_method_8_code 34 = .ok (.if_icmp .ge 18, 3) := by decide +kernel
theorem d_D_make_37 : decode prog_1_method_8_code 37 = .ok (.iload_n 1, 1) := by decide +kernel
theorem d_D_make_38 : decode prog_1_method_8_code 38 = .ok (.aload_n 0, 1) := by decide +kernel
theorem d_D_make_39 : decode prog_1_method_8_code 39 = .ok (.iload_n 2, 1) := by decide +kernel
theorem d_D_make_40 : decode prog_1_method_8_code 40 = .ok (.iload_n 3, 1) := by decide +kernel
theorem d_D_make_41 : decode prog_1_method_8_code 41 = .ok (.invokevirtual 89, 3) := by decide +kernel
theorem d_D_make_44 : decode prog_1_method_8_code 44 = .ok (.iadd, 1) := by decide +kernel
theorem d_D_make_45 : decode prog_1_method_8_code 45 = .ok (.istore_n 1, 1) := by decide +kernel
theorem d_D_make_46 : decode prog_1_method_8_code 46 = .ok (.iinc 3 1, 3) := by decide +kernel
theorem d_D_make_49 : decode prog_1_method_8_code 49 = .ok (.goto (-23), 3) := by decide +kernel
theorem d_D_make_52 : decode prog_1_method_8_code 52 = .ok (.iinc 2 1, 3) := by decide +kernel
theorem d_D_make_55 : decode prog_1_method_8_code 55 = .ok (.goto (-42), 3) := by decide +kernel
theorem d_D_make_58 : decode prog_1_method_8_code 58 = .ok (.aload_n 0, 1) := by decide +kernel
theorem d_D_make_59 : decode prog_1_method_8_code 59 = .ok (.getfield 37, 3) := by decide +kernel
theorem d_D_make_62 : decode prog_1_method_8_code 62 = .ok (.aload_n 0, 1) := by decide +kernel
theorem d_D_make_63 : decode prog_1_method_8_code 63 = .ok (.getfield 10, 3) := by decide +kernel
theorem d_D_make_66 : decode prog_1_method_8_code 66 = .ok (.invokevirtual 92, 3) := by decide +kernel
theorem d_D_make_69 : decode prog_1_method_8_code 69 = .ok (.aload_n 0, 1) := by decide +kernel
theorem d_D_make_70 : decode prog_1_method_8_code 70 = .ok (.iconst 1, 1) := by decide +kernel
theorem d_D_make_71 : decode prog_1_method_8_code 71 = .ok (.putfield 49, 3) := by decide +kernel
theorem d_D_make_74 : decode prog_1_method_8_code 74 = .ok (.iload_n 1, 1) := by decide +kernel
theorem d_D_make_75 : decode prog_1_method_8_code 75 = .ok (.ireturn, 1) := by decide +kernel
theorem d_D_isSide_0 : decode prog_1_method_22_code 0 = .ok (.iload_n 0, 1) := by decide +kernel
theorem d_D_isSide_1 : decode prog_1_method_22_code 1 = .ok (.ifCond .eq 8, 3) := by decide +kernel
theorem d_D_isSide_4 : decode prog_1_method_22_code 4 = .ok (.iload_n 0, 1) := by decide +kernel
theorem d_D_isSide_5 : decode prog_1_method_22_code 5 = .ok (.iconst 1, 1) := by decide +kernel
theorem d_D_isSide_6 : decode prog_1_method_22_code 6 = .ok (.if_icmp .ne 7, 3) := by decide +kernel
theorem d_D_isSide_9 : decode prog_1_method_22_code 9 = .ok (.iconst 1, 1) := by decide +kernel
theorem d_D_isSide_10 : decode prog_1_method_22_code 10 = .ok (.goto 4, 3) := by decide +kernel
theorem d_D_isSide_13 : decode prog_1_method_22_code 13 = .ok (.iconst 0, 1) := by decide +kernel
theorem d_D_isSide_14 : decode prog_1_method_22_code 14 = .ok (.ireturn, 1) := by decide +kernel
theorem d_D_ofSide_0 : decode prog_1_method_23_code 0 = .ok (.iload_n 1, 1) := by decide +kernel
theorem d_D_ofSide_1 : decode prog_1_method_23_code 1 = .ok (.ifCond .ne 10, 3) := by decide +kernel
theorem d_D_ofSide_4 : decode prog_1_method_23_code 4 = .ok (.aload_n 0, 1) := by decide +kernel
theorem d_D_ofSide_5 : decode prog_1_method_23_code 5 = .ok (.getfield 27, 3) := by decide +kernel
theorem d_D_ofSide_8 : decode prog_1_method_23_code 8 = .ok (.goto 7, 3) := by decide +kernel
theorem d_D_ofSide_11 : decode prog_1_method_23_code 11 = .ok (.aload_n 0, 1) := by decide +kernel
theorem d_D_ofSide_12 : decode prog_1_method_23_code 12 = .ok (.getfield 31, 3) := by decide +kernel
theorem d_D_ofSide_15 : decode prog_1_method_23_code 15 = .ok (.areturn, 1) := by decide +kernel
theorem d_L_sizeOf_0 : decode prog_3_method_3_code 0 = .ok (.iconst 0, 1) := by decide +kernel
theorem d_L_sizeOf_1 : decode prog_3_method_3_code 1 = .ok (.istore_n 3, 1) := by decide +kernel
theorem d_L_sizeOf_2 : decode prog_3_method_3_code 2 = .ok (.iconst 0, 1) := by decide +kernel
theorem d_L_sizeOf_3 : decode prog_3_method_3_code 3 = .ok (.istore 4, 2) := by decide +kernel
theorem d_L_sizeOf_5 : decode prog_3_method_3_code 5 = .ok (.iload 4, 2) := by decide +kernel
theorem d_L_sizeOf_7 : decode prog_3_method_3_code 7 = .ok (.aload_n 1, 1) := by decide +kernel
theorem d_L_sizeOf_8 : decode prog_3_method_3_code 8 = .ok (.getfield 22, 3) := by decide +kernel
theorem d_L_sizeOf_11 : decode prog_3_method_3_code 11 = .ok (.if_icmp .ge 25, 3) := by decide +kernel
theorem d_L_sizeOf_14 : decode prog_3_method_3_code 14 = .ok (.aload_n 0, 1) := by decide +kernel
theorem d_L_sizeOf_15 : decode prog_3_method_3_code 15 = .ok (.getfield 19, 3) := by decide +kernel
theorem d_L_sizeOf_18 : decode prog_3_method_3_code 18 = .ok (.iload_n 2, 1) := by decide +kernel
theorem d_L_sizeOf_19 : decode prog_3_method_3_code 19 = .ok (.aaload, 1) := by decide +kernel
theorem d_L_sizeOf_20 : decode prog_3_method_3_code 20 = .ok (.iload 4, 2) := by decide +kernel
theorem d_L_sizeOf_22 : decode prog_3_method_3_code 22 = .ok (.iaload, 1) := by decide +kernel
theorem d_L_sizeOf_23 : decode prog_3_method_3_code 23 = .ok (.iconst (-1), 1) := by decide +kernel
theorem d_L_sizeOf_24 : decode prog_3_method_3_code 24 = .ok (.if_icmp .eq 6, 3) := by decide +kernel
theorem d_L_sizeOf_27 : decode prog_3_method_3_code 27 = .ok (.iinc 3 1, 3) := by decide +kernel
theorem d_L_sizeOf_30 : decode prog_3_method_3_code 30 = .ok (.iinc 4 1, 3) := by decide +kernel
theorem d_L_sizeOf_33 : decode prog_3_method_3_code 33 = .ok (.goto (-28), 3) := by decide +kernel
theorem d_L_sizeOf_36 : decode prog_3_method_3_code 36 = .ok (.iload_n 3, 1) := by decide +kernel
theorem d_L_sizeOf_37 : decode prog_3_method_3_code 37 = .ok (.ireturn, 1) := by decide +kernel
theorem d_L_stationAt_0 : decode prog_3_method_4_code 0 = .ok (.iconst 0, 1) := by decide +kernel
theorem d_L_stationAt_1 : decode prog_3_method_4_code 1 = .ok (.istore 4, 2) := by decide +kernel
theorem d_L_stationAt_3 : decode prog_3_method_4_code 3 = .ok (.iconst 0, 1) := by decide +kernel
theorem d_L_stationAt_4 : decode prog_3_method_4_code 4 = .ok (.istore 5, 2) := by decide +kernel
theorem d_L_stationAt_6 : decode prog_3_method_4_code 6 = .ok (.iload 5, 2) := by decide +kernel
theorem d_L_stationAt_8 : decode prog_3_method_4_code 8 = .ok (.aload_n 1, 1) := by decide +kernel
theorem d_L_stationAt_9 : decode prog_3_method_4_code 9 = .ok (.getfield 22, 3) := by decide +kernel
theorem d_L_stationAt_12 : decode prog_3_method_4_code 12 = .ok (.if_icmp .ge 43, 3) := by decide +kernel
theorem d_L_stationAt_15 : decode prog_3_method_4_code 15 = .ok (.aload_n 1, 1) := by decide +kernel
theorem d_L_stationAt_16 : decode prog_3_method_4_code 16 = .ok (.getfield 28, 3) := by decide +kernel
theorem d_L_stationAt_19 : decode prog_3_method_4_code 19 = .ok (.iload 5, 2) := by decide +kernel
theorem d_L_stationAt_21 : decode prog_3_method_4_code 21 = .ok (.iaload, 1) := by decide +kernel
theorem d_L_stationAt_22 : decode prog_3_method_4_code 22 = .ok (.istore 6, 2) := by decide +kernel
theorem d_L_stationAt_24 : decode prog_3_method_4_code 24 = .ok (.aload_n 0, 1) := by decide +kernel
theorem d_L_stationAt_25 : decode prog_3_method_4_code 25 = .ok (.getfield 19, 3) := by decide +kernel
theorem d_L_stationAt_28 : decode prog_3_method_4_code 28 = .ok (.iload_n 2, 1) := by decide +kernel
theorem d_L_stationAt_29 : decode prog_3_method_4_code 29 = .ok (.aaload, 1) := by decide +kernel
theorem d_L_stationAt_30 : decode prog_3_method_4_code 30 = .ok (.iload 6, 2) := by decide +kernel
theorem d_L_stationAt_32 : decode prog_3_method_4_code 32 = .ok (.iaload, 1) := by decide +kernel
theorem d_L_stationAt_33 : decode prog_3_method_4_code 33 = .ok (.iconst (-1), 1) := by decide +kernel
theorem d_L_stationAt_34 : decode prog_3_method_4_code 34 = .ok (.if_icmp .eq 15, 3) := by decide +kernel
theorem d_L_stationAt_37 : decode prog_3_method_4_code 37 = .ok (.iload 4, 2) := by decide +kernel
theorem d_L_stationAt_39 : decode prog_3_method_4_code 39 = .ok (.iload_n 3, 1) := by decide +kernel
theorem d_L_stationAt_40 : decode prog_3_method_4_code 40 = .ok (.if_icmp .ne 6, 3) := by decide +kernel
theorem d_L_stationAt_43 : decode prog_3_method_4_code 43 = .ok (.iload 6, 2) := by decide +kernel
theorem d_L_stationAt_45 : decode prog_3_method_4_code 45 = .ok (.ireturn, 1) := by decide +kernel
theorem d_L_stationAt_46 : decode prog_3_method_4_code 46 = .ok (.iinc 4 1, 3) := by decide +kernel
theorem d_L_stationAt_49 : decode prog_3_method_4_code 49 = .ok (.iinc 5 1, 3) := by decide +kernel
theorem d_L_stationAt_52 : decode prog_3_method_4_code 52 = .ok (.goto (-46), 3) := by decide +kernel
theorem d_L_stationAt_55 : decode prog_3_method_4_code 55 = .ok (.iconst (-1), 1) := by decide +kernel
theorem d_L_stationAt_56 : decode prog_3_method_4_code 56 = .ok (.ireturn, 1) := by decide +kernel
theorem d_D_label_0 : decode prog_1_method_9_code 0 = .ok (.aload_n 0, 1) := by decide +kernel
theorem d_D_label_1 : decode prog_1_method_9_code 1 = .ok (.getfield 49, 3) := by decide +kernel
theorem d_D_label_4 : decode prog_1_method_9_code 4 = .ok (.ifCond .ne 6, 3) := by decide +kernel
theorem d_D_label_7 : decode prog_1_method_9_code 7 = .ok (.bipush (-4), 2) := by decide +kernel
theorem d_D_label_9 : decode prog_1_method_9_code 9 = .ok (.ireturn, 1) := by decide +kernel
theorem d_D_label_10 : decode prog_1_method_9_code 10 = .ok (.iload_n 1, 1) := by decide +kernel
theorem d_D_label_11 : decode prog_1_method_9_code 11 = .ok (.invokestatic 96, 3) := by decide +kernel
theorem d_D_label_14 : decode prog_1_method_9_code 14 = .ok (.ifCond .eq 14, 3) := by decide +kernel
theorem d_D_label_17 : decode prog_1_method_9_code 17 = .ok (.aload_n 0, 1) := by decide +kernel
theorem d_D_label_18 : decode prog_1_method_9_code 18 = .ok (.getfield 10, 3) := by decide +kernel
theorem d_D_label_21 : decode prog_1_method_9_code 21 = .ok (.iload_n 2, 1) := by decide +kernel
theorem d_D_label_22 : decode prog_1_method_9_code 22 = .ok (.invokevirtual 75, 3) := by decide +kernel
theorem d_D_label_25 : decode prog_1_method_9_code 25 = .ok (.ifCond .ne 6, 3) := by decide +kernel
theorem d_D_label_28 : decode prog_1_method_9_code 28 = .ok (.bipush (-2), 2) := by decide +kernel
theorem d_D_label_30 : decode prog_1_method_9_code 30 = .ok (.ireturn, 1) := by decide +kernel
theorem d_D_label_31 : decode prog_1_method_9_code 31 = .ok (.aload_n 0, 1) := by decide +kernel
theorem d_D_label_32 : decode prog_1_method_9_code 32 = .ok (.iload_n 1, 1) := by decide +kernel
theorem d_D_label_33 : decode prog_1_method_9_code 33 = .ok (.invokevirtual 99, 3) := by decide +kernel
theorem d_D_label_36 : decode prog_1_method_9_code 36 = .ok (.astore 5, 2) := by decide +kernel
theorem d_D_label_38 : decode prog_1_method_9_code 38 = .ok (.iload_n 3, 1) := by decide +kernel
theorem d_D_label_39 : decode prog_1_method_9_code 39 = .ok (.iconst (-1), 1) := by decide +kernel
theorem d_D_label_40 : decode prog_1_method_9_code 40 = .ok (.if_icmp .ne 14, 3) := by decide +kernel
theorem d_D_label_43 : decode prog_1_method_9_code 43 = .ok (.aload 5, 2) := by decide +kernel
theorem d_D_label_45 : decode prog_1_method_9_code 45 = .ok (.aload_n 0, 1) := by decide +kernel
theorem d_D_label_46 : decode prog_1_method_9_code 46 = .ok (.getfield 10, 3) := by decide +kernel
theorem d_D_label_49 : decode prog_1_method_9_code 49 = .ok (.iload_n 2, 1) := by decide +kernel
theorem d_D_label_50 : decode prog_1_method_9_code 50 = .ok (.invokevirtual 103, 3) := by decide +kernel
theorem d_D_label_53 : decode prog_1_method_9_code 53 = .ok (.ireturn, 1) := by decide +kernel
theorem d_D_label_54 : decode prog_1_method_9_code 54 = .ok (.aload 5, 2) := by decide +kernel
theorem d_D_label_56 : decode prog_1_method_9_code 56 = .ok (.aload_n 0, 1) := by decide +kernel
theorem d_D_label_57 : decode prog_1_method_9_code 57 = .ok (.getfield 10, 3) := by decide +kernel
theorem d_D_label_60 : decode prog_1_method_9_code 60 = .ok (.iload_n 2, 1) := by decide +kernel
theorem d_D_label_61 : decode prog_1_method_9_code 61 = .ok (.iload_n 3, 1) := by decide +kernel
theorem d_D_label_62 : decode prog_1_method_9_code 62 = .ok (.invokevirtual 107, 3) := by decide +kernel
theorem d_D_label_65 : decode prog_1_method_9_code 65 = .ok (.istore 6, 2) := by decide +kernel
theorem d_D_label_67 : decode prog_1_method_9_code 67 = .ok (.iload 6, 2) := by decide +kernel
theorem d_D_label_69 : decode prog_1_method_9_code 69 = .ok (.iconst (-1), 1) := by decide +kernel
theorem d_D_label_70 : decode prog_1_method_9_code 70 = .ok (.if_icmp .eq 14, 3) := by decide +kernel
theorem d_D_label_73 : decode prog_1_method_9_code 73 = .ok (.iload 4, 2) := by decide +kernel
theorem d_D_label_75 : decode prog_1_method_9_code 75 = .ok (.ifCond .lt 9, 3) := by decide +kernel
theorem d_D_label_78 : decode prog_1_method_9_code 78 = .ok (.iload 4, 2) := by decide +kernel
theorem d_D_label_80 : decode prog_1_method_9_code 80 = .ok (.iconst 1, 1) := by decide +kernel
theorem d_D_label_81 : decode prog_1_method_9_code 81 = .ok (.if_icmp .le 6, 3) := by decide +kernel
theorem d_D_label_84 : decode prog_1_method_9_code 84 = .ok (.bipush (-2), 2) := by decide +kernel
theorem d_D_label_86 : decode prog_1_method_9_code 86 = .ok (.ireturn, 1) := by decide +kernel
theorem d_D_label_87 : decode prog_1_method_9_code 87 = .ok (.iload 4, 2) := by decide +kernel
theorem d_D_label_89 : decode prog_1_method_9_code 89 = .ok (.ifCond .ne 8, 3) := by decide +kernel
theorem d_D_label_92 : decode prog_1_method_9_code 92 = .ok (.iload 6, 2) := by decide +kernel
theorem d_D_label_94 : decode prog_1_method_9_code 94 = .ok (.goto 13, 3) := by decide +kernel
theorem d_D_label_97 : decode prog_1_method_9_code 97 = .ok (.aload 5, 2) := by decide +kernel
theorem d_D_label_99 : decode prog_1_method_9_code 99 = .ok (.getfield 111, 3) := by decide +kernel
theorem d_D_label_102 : decode prog_1_method_9_code 102 = .ok (.iload_n 2, 1) := by decide +kernel
theorem d_D_label_103 : decode prog_1_method_9_code 103 = .ok (.aaload, 1) := by decide +kernel
theorem d_D_label_104 : decode prog_1_method_9_code 104 = .ok (.iload 6, 2) := by decide +kernel
theorem d_D_label_106 : decode prog_1_method_9_code 106 = .ok (.iaload, 1) := by decide +kernel
theorem d_D_label_107 : decode prog_1_method_9_code 107 = .ok (.ireturn, 1) := by decide +kernel
theorem d_D_refusalOf_0 : decode prog_1_method_21_code 0 = .ok (.aload_n 0, 1) := by decide +kernel
theorem d_D_refusalOf_1 : decode prog_1_method_21_code 1 = .ok (.getfield 49, 3) := by decide +kernel
theorem d_D_refusalOf_4 : decode prog_1_method_21_code 4 = .ok (.ifCond .ne 6, 3) := by decide +kernel
theorem d_D_refusalOf_7 : decode prog_1_method_21_code 7 = .ok (.bipush (-4), 2) := by decide +kernel
theorem d_D_refusalOf_9 : decode prog_1_method_21_code 9 = .ok (.ireturn, 1) := by decide +kernel
theorem d_D_refusalOf_10 : decode prog_1_method_21_code 10 = .ok (.aload_n 0, 1) := by decide +kernel
theorem d_D_refusalOf_11 : decode prog_1_method_21_code 11 = .ok (.getfield 10, 3) := by decide +kernel
theorem d_D_refusalOf_14 : decode prog_1_method_21_code 14 = .ok (.iload_n 1, 1) := by decide +kernel
theorem d_D_refusalOf_15 : decode prog_1_method_21_code 15 = .ok (.invokevirtual 75, 3) := by decide +kernel
theorem d_D_refusalOf_18 : decode prog_1_method_21_code 18 = .ok (.ifCond .eq 18, 3) := by decide +kernel
theorem d_D_refusalOf_21 : decode prog_1_method_21_code 21 = .ok (.aload_n 0, 1) := by decide +kernel
theorem d_D_refusalOf_22 : decode prog_1_method_21_code 22 = .ok (.getfield 10, 3) := by decide +kernel
theorem d_D_refusalOf_25 : decode prog_1_method_21_code 25 = .ok (.iload_n 2, 1) := by decide +kernel
theorem d_D_refusalOf_26 : decode prog_1_method_21_code 26 = .ok (.invokevirtual 75, 3) := by decide +kernel
theorem d_D_refusalOf_29 : decode prog_1_method_21_code 29 = .ok (.ifCond .eq 7, 3) := by decide +kernel
theorem d_D_refusalOf_32 : decode prog_1_method_21_code 32 = .ok (.iconst 0, 1) := by decide +kernel
theorem d_D_refusalOf_33 : decode prog_1_method_21_code 33 = .ok (.goto 5, 3) := by decide +kernel
theorem d_D_refusalOf_36 : decode prog_1_method_21_code 36 = .ok (.bipush (-2), 2) := by decide +kernel
theorem d_D_refusalOf_38 : decode prog_1_method_21_code 38 = .ok (.ireturn, 1) := by decide +kernel
theorem d_D_meetingOf_0 : decode prog_1_method_27_code 0 = .ok (.iconst (-1), 1) := by decide +kernel
theorem d_D_meetingOf_1 : decode prog_1_method_27_code 1 = .ok (.istore_n 3, 1) := by decide +kernel
theorem d_D_meetingOf_2 : decode prog_1_method_27_code 2 = .ok (.iconst (-1), 1) := by decide +kernel
theorem d_D_meetingOf_3 : decode prog_1_method_27_code 3 = .ok (.istore 4, 2) := by decide +kernel
theorem d_D_meetingOf_5 : decode prog_1_method_27_code 5 = .ok (.iconst 0, 1) := by decide +kernel
theorem d_D_meetingOf_6 : decode prog_1_method_27_code 6 = .ok (.istore 5, 2) := by decide +kernel
theorem d_D_meetingOf_8 : decode prog_1_method_27_code 8 = .ok (.iload 5, 2) := by decide +kernel
theorem d_D_meetingOf_10 : decode prog_1_method_27_code 10 = .ok (.aload_n 0, 1) := by decide +kernel
theorem d_D_meetingOf_11 : decode prog_1_method_27_code 11 = .ok (.getfield 10, 3) := by decide +kernel
theorem d_D_meetingOf_14 : decode prog_1_method_27_code 14 = .ok (.getfield 56, 3) := by decide +kernel
theorem d_D_meetingOf_17 : decode prog_1_method_27_code 17 = .ok (.if_icmp .ge 66, 3) := by decide +kernel
theorem d_D_meetingOf_20 : decode prog_1_method_27_code 20 = .ok (.aload_n 0, 1) := by decide +kernel
theorem d_D_meetingOf_21 : decode prog_1_method_27_code 21 = .ok (.getfield 10, 3) := by decide +kernel
theorem d_D_meetingOf_24 : decode prog_1_method_27_code 24 = .ok (.getfield 82, 3) := by decide +kernel
theorem d_D_meetingOf_27 : decode prog_1_method_27_code 27 = .ok (.iload 5, 2) := by decide +kernel
theorem d_D_meetingOf_29 : decode prog_1_method_27_code 29 = .ok (.iaload, 1) := by decide +kernel
theorem d_D_meetingOf_30 : decode prog_1_method_27_code 30 = .ok (.istore 6, 2) := by decide +kernel
theorem d_D_meetingOf_32 : decode prog_1_method_27_code 32 = .ok (.aload_n 0, 1) := by decide +kernel
theorem d_D_meetingOf_33 : decode prog_1_method_27_code 33 = .ok (.getfield 27, 3) := by decide +kernel
theorem d_D_meetingOf_36 : decode prog_1_method_27_code 36 = .ok (.getfield 111, 3) := by decide +kernel
theorem d_D_meetingOf_39 : decode prog_1_method_27_code 39 = .ok (.iload_n 1, 1) := by decide +kernel
theorem d_D_meetingOf_40 : decode prog_1_method_27_code 40 = .ok (.aaload, 1) := by decide +kernel
theorem d_D_meetingOf_41 : decode prog_1_method_27_code 41 = .ok (.iload 6, 2) := by decide +kernel
theorem d_D_meetingOf_43 : decode prog_1_method_27_code 43 = .ok (.iaload, 1) := by decide +kernel
theorem d_D_meetingOf_44 : decode prog_1_method_27_code 44 = .ok (.aload_n 0, 1) := by decide +kernel
theorem d_D_meetingOf_45 : decode prog_1_method_27_code 45 = .ok (.getfield 31, 3) := by decide +kernel
theorem d_D_meetingOf_48 : decode prog_1_method_27_code 48 = .ok (.getfield 111, 3) := by decide +kernel
theorem d_D_meetingOf_51 : decode prog_1_method_27_code 51 = .ok (.iload_n 2, 1) := by decide +kernel
theorem d_D_meetingOf_52 : decode prog_1_method_27_code 52 = .ok (.aaload, 1) := by decide +kernel
theorem d_D_meetingOf_53 : decode prog_1_method_27_code 53 = .ok (.iload 6, 2) := by decide +kernel
theorem d_D_meetingOf_55 : decode prog_1_method_27_code 55 = .ok (.iaload, 1) := by decide +kernel
theorem d_D_meetingOf_56 : decode prog_1_method_27_code 56 = .ok (.invokestatic 158, 3) := by decide +kernel
theorem d_D_meetingOf_59 : decode prog_1_method_27_code 59 = .ok (.istore 7, 2) := by decide +kernel
theorem d_D_meetingOf_61 : decode prog_1_method_27_code 61 = .ok (.iload 7, 2) := by decide +kernel
theorem d_D_meetingOf_63 : decode prog_1_method_27_code 63 = .ok (.iload_n 3, 1) := by decide +kernel
theorem d_D_meetingOf_64 : decode prog_1_method_27_code 64 = .ok (.invokestatic 184, 3) := by decide +kernel
theorem d_D_meetingOf_67 : decode prog_1_method_27_code 67 = .ok (.ifCond .eq 10, 3) := by decide +kernel
theorem d_D_meetingOf_70 : decode prog_1_method_27_code 70 = .ok (.iload 7, 2) := by decide +kernel
theorem d_D_meetingOf_72 : decode prog_1_method_27_code 72 = .ok (.istore_n 3, 1) := by decide +kernel
theorem d_D_meetingOf_73 : decode prog_1_method_27_code 73 = .ok (.iload 6, 2) := by decide +kernel
theorem d_D_meetingOf_75 : decode prog_1_method_27_code 75 = .ok (.istore 4, 2) := by decide +kernel
theorem d_D_meetingOf_77 : decode prog_1_method_27_code 77 = .ok (.iinc 5 1, 3) := by decide +kernel
theorem d_D_meetingOf_80 : decode prog_1_method_27_code 80 = .ok (.goto (-72), 3) := by decide +kernel
theorem d_D_meetingOf_83 : decode prog_1_method_27_code 83 = .ok (.iload 4, 2) := by decide +kernel
theorem d_D_meetingOf_85 : decode prog_1_method_27_code 85 = .ok (.ireturn, 1) := by decide +kernel
theorem d_D_askedOf_0 : decode prog_1_method_28_code 0 = .ok (.aload_n 0, 1) := by decide +kernel
theorem d_D_askedOf_1 : decode prog_1_method_28_code 1 = .ok (.iload_n 1, 1) := by decide +kernel
theorem d_D_askedOf_2 : decode prog_1_method_28_code 2 = .ok (.iload_n 2, 1) := by decide +kernel
theorem d_D_askedOf_3 : decode prog_1_method_28_code 3 = .ok (.invokevirtual 120, 3) := by decide +kernel
theorem d_D_askedOf_6 : decode prog_1_method_28_code 6 = .ok (.istore_n 3, 1) := by decide +kernel
theorem d_D_askedOf_7 : decode prog_1_method_28_code 7 = .ok (.iload_n 3, 1) := by decide +kernel
theorem d_D_askedOf_8 : decode prog_1_method_28_code 8 = .ok (.iconst (-1), 1) := by decide +kernel
theorem d_D_askedOf_9 : decode prog_1_method_28_code 9 = .ok (.if_icmp .ne 7, 3) := by decide +kernel
theorem d_D_askedOf_12 : decode prog_1_method_28_code 12 = .ok (.iconst (-1), 1) := by decide +kernel
theorem d_D_askedOf_13 : decode prog_1_method_28_code 13 = .ok (.goto 28, 3) := by decide +kernel
theorem d_D_askedOf_16 : decode prog_1_method_28_code 16 = .ok (.aload_n 0, 1) := by decide +kernel
theorem d_D_askedOf_17 : decode prog_1_method_28_code 17 = .ok (.getfield 27, 3) := by decide +kernel
theorem d_D_askedOf_20 : decode prog_1_method_28_code 20 = .ok (.getfield 111, 3) := by decide +kernel
theorem d_D_askedOf_23 : decode prog_1_method_28_code 23 = .ok (.iload_n 1, 1) := by decide +kernel
theorem d_D_askedOf_24 : decode prog_1_method_28_code 24 = .ok (.aaload, 1) := by decide +kernel
theorem d_D_askedOf_25 : decode prog_1_method_28_code 25 = .ok (.iload_n 3, 1) := by decide +kernel
theorem d_D_askedOf_26 : decode prog_1_method_28_code 26 = .ok (.iaload, 1) := by decide +kernel
theorem d_D_askedOf_27 : decode prog_1_method_28_code 27 = .ok (.aload_n 0, 1) := by decide +kernel
theorem d_D_askedOf_28 : decode prog_1_method_28_code 28 = .ok (.getfield 31, 3) := by decide +kernel
theorem d_D_askedOf_31 : decode prog_1_method_28_code 31 = .ok (.getfield 111, 3) := by decide +kernel
theorem d_D_askedOf_34 : decode prog_1_method_28_code 34 = .ok (.iload_n 2, 1) := by decide +kernel
theorem d_D_askedOf_35 : decode prog_1_method_28_code 35 = .ok (.aaload, 1) := by decide +kernel
theorem d_D_askedOf_36 : decode prog_1_method_28_code 36 = .ok (.iload_n 3, 1) := by decide +kernel
theorem d_D_askedOf_37 : decode prog_1_method_28_code 37 = .ok (.iaload, 1) := by decide +kernel
theorem d_D_askedOf_38 : decode prog_1_method_28_code 38 = .ok (.invokestatic 158, 3) := by decide +kernel
theorem d_D_askedOf_41 : decode prog_1_method_28_code 41 = .ok (.ireturn, 1) := by decide +kernel
theorem d_D_ask_0 : decode prog_1_method_10_code 0 = .ok (.aload_n 0, 1) := by decide +kernel
theorem d_D_ask_1 : decode prog_1_method_10_code 1 = .ok (.iload_n 1, 1) := by decide +kernel
theorem d_D_ask_2 : decode prog_1_method_10_code 2 = .ok (.iload_n 2, 1) := by decide +kernel
theorem d_D_ask_3 : decode prog_1_method_10_code 3 = .ok (.invokevirtual 114, 3) := by decide +kernel
theorem d_D_ask_6 : decode prog_1_method_10_code 6 = .ok (.istore_n 3, 1) := by decide +kernel
theorem d_D_ask_7 : decode prog_1_method_10_code 7 = .ok (.iload_n 3, 1) := by decide +kernel
theorem d_D_ask_8 : decode prog_1_method_10_code 8 = .ok (.ifCond .eq 7, 3) := by decide +kernel
theorem d_D_ask_11 : decode prog_1_method_10_code 11 = .ok (.iload_n 3, 1) := by decide +kernel
theorem d_D_ask_12 : decode prog_1_method_10_code 12 = .ok (.goto 9, 3) := by decide +kernel
theorem d_D_ask_15 : decode prog_1_method_10_code 15 = .ok (.aload_n 0, 1) := by decide +kernel
theorem d_D_ask_16 : decode prog_1_method_10_code 16 = .ok (.iload_n 1, 1) := by decide +kernel
theorem d_D_ask_17 : decode prog_1_method_10_code 17 = .ok (.iload_n 2, 1) := by decide +kernel
theorem d_D_ask_18 : decode prog_1_method_10_code 18 = .ok (.invokevirtual 117, 3) := by decide +kernel
theorem d_D_ask_21 : decode prog_1_method_10_code 21 = .ok (.ireturn, 1) := by decide +kernel
theorem d_D_meeting_0 : decode prog_1_method_11_code 0 = .ok (.aload_n 0, 1) := by decide +kernel
theorem d_D_meeting_1 : decode prog_1_method_11_code 1 = .ok (.iload_n 1, 1) := by decide +kernel
theorem d_D_meeting_2 : decode prog_1_method_11_code 2 = .ok (.iload_n 2, 1) := by decide +kernel
theorem d_D_meeting_3 : decode prog_1_method_11_code 3 = .ok (.invokevirtual 114, 3) := by decide +kernel
theorem d_D_meeting_6 : decode prog_1_method_11_code 6 = .ok (.istore_n 3, 1) := by decide +kernel
theorem d_D_meeting_7 : decode prog_1_method_11_code 7 = .ok (.iload_n 3, 1) := by decide +kernel
theorem d_D_meeting_8 : decode prog_1_method_11_code 8 = .ok (.ifCond .eq 7, 3) := by decide +kernel
theorem d_D_meeting_11 : decode prog_1_method_11_code 11 = .ok (.iload_n 3, 1) := by decide +kernel
theorem d_D_meeting_12 : decode prog_1_method_11_code 12 = .ok (.goto 9, 3) := by decide +kernel
theorem d_D_meeting_15 : decode prog_1_method_11_code 15 = .ok (.aload_n 0, 1) := by decide +kernel
theorem d_D_meeting_16 : decode prog_1_method_11_code 16 = .ok (.iload_n 1, 1) := by decide +kernel
theorem d_D_meeting_17 : decode prog_1_method_11_code 17 = .ok (.iload_n 2, 1) := by decide +kernel
theorem d_D_meeting_18 : decode prog_1_method_11_code 18 = .ok (.invokevirtual 120, 3) := by decide +kernel
theorem d_D_meeting_21 : decode prog_1_method_11_code 21 = .ok (.ireturn, 1) := by decide +kernel
theorem d_D_redone_0 : decode prog_1_method_12_code 0 = .ok (.aload_n 0, 1) := by decide +kernel
theorem d_D_redone_1 : decode prog_1_method_12_code 1 = .ok (.getfield 49, 3) := by decide +kernel
theorem d_D_redone_4 : decode prog_1_method_12_code 4 = .ok (.ifCond .eq 10, 3) := by decide +kernel
theorem d_D_redone_7 : decode prog_1_method_12_code 7 = .ok (.aload_n 0, 1) := by decide +kernel
theorem d_D_redone_8 : decode prog_1_method_12_code 8 = .ok (.getfield 53, 3) := by decide +kernel
theorem d_D_redone_11 : decode prog_1_method_12_code 11 = .ok (.goto 5, 3) := by decide +kernel
theorem d_D_redone_14 : decode prog_1_method_12_code 14 = .ok (.bipush (-4), 2) := by decide +kernel
theorem d_D_redone_16 : decode prog_1_method_12_code 16 = .ok (.ireturn, 1) := by decide +kernel
theorem d_D_damage_0 : decode prog_1_method_13_code 0 = .ok (.aload_n 0, 1) := by decide +kernel
theorem d_D_damage_1 : decode prog_1_method_13_code 1 = .ok (.getfield 49, 3) := by decide +kernel
theorem d_D_damage_4 : decode prog_1_method_13_code 4 = .ok (.ifCond .ne 6, 3) := by decide +kernel
theorem d_D_damage_7 : decode prog_1_method_13_code 7 = .ok (.bipush (-4), 2) := by decide +kernel
theorem d_D_damage_9 : decode prog_1_method_13_code 9 = .ok (.ireturn, 1) := by decide +kernel
theorem d_D_damage_10 : decode prog_1_method_13_code 10 = .ok (.iload_n 1, 1) := by decide +kernel
theorem d_D_damage_11 : decode prog_1_method_13_code 11 = .ok (.invokestatic 96, 3) := by decide +kernel
theorem d_D_damage_14 : decode prog_1_method_13_code 14 = .ok (.ifCond .eq 30, 3) := by decide +kernel
theorem d_D_damage_17 : decode prog_1_method_13_code 17 = .ok (.aload_n 0, 1) := by decide +kernel
theorem d_D_damage_18 : decode prog_1_method_13_code 18 = .ok (.getfield 10, 3) := by decide +kernel
theorem d_D_damage_21 : decode prog_1_method_13_code 21 = .ok (.iload_n 2, 1) := by decide +kernel
theorem d_D_damage_22 : decode prog_1_method_13_code 22 = .ok (.invokevirtual 75, 3) := by decide +kernel
theorem d_D_damage_25 : decode prog_1_method_13_code 25 = .ok (.ifCond .eq 19, 3) := by decide +kernel
theorem d_D_damage_28 : decode prog_1_method_13_code 28 = .ok (.iload 4, 2) := by decide +kernel
theorem d_D_damage_30 : decode prog_1_method_13_code 30 = .ok (.sipush (-1000), 3) := by decide +kernel
theorem d_D_damage_33 : decode prog_1_method_13_code 33 = .ok (.if_icmp .lt 11, 3) := by decide +kernel
theorem d_D_damage_36 : decode prog_1_method_13_code 36 = .ok (.iload 4, 2) := by decide +kernel
theorem d_D_damage_38 : decode prog_1_method_13_code 38 = .ok (.sipush 1000, 3) := by decide +kernel
theorem d_D_damage_41 : decode prog_1_method_13_code 41 = .ok (.if_icmp .le 6, 3) := by decide +kernel
theorem d_D_damage_44 : decode prog_1_method_13_code 44 = .ok (.bipush (-2), 2) := by decide +kernel
theorem d_D_damage_46 : decode prog_1_method_13_code 46 = .ok (.ireturn, 1) := by decide +kernel
theorem d_D_damage_47 : decode prog_1_method_13_code 47 = .ok (.aload_n 0, 1) := by decide +kernel
theorem d_D_damage_48 : decode prog_1_method_13_code 48 = .ok (.iload_n 1, 1) := by decide +kernel
theorem d_D_damage_49 : decode prog_1_method_13_code 49 = .ok (.invokevirtual 99, 3) := by decide +kernel
theorem d_D_damage_52 : decode prog_1_method_13_code 52 = .ok (.astore 5, 2) := by decide +kernel
theorem d_D_damage_54 : decode prog_1_method_13_code 54 = .ok (.aload 5, 2) := by decide +kernel
theorem d_D_damage_56 : decode prog_1_method_13_code 56 = .ok (.aload_n 0, 1) := by decide +kernel
theorem d_D_damage_57 : decode prog_1_method_13_code 57 = .ok (.getfield 10, 3) := by decide +kernel
theorem d_D_damage_60 : decode prog_1_method_13_code 60 = .ok (.iload_n 2, 1) := by decide +kernel
theorem d_D_damage_61 : decode prog_1_method_13_code 61 = .ok (.iload_n 3, 1) := by decide +kernel
theorem d_D_damage_62 : decode prog_1_method_13_code 62 = .ok (.invokevirtual 107, 3) := by decide +kernel
theorem d_D_damage_65 : decode prog_1_method_13_code 65 = .ok (.istore 6, 2) := by decide +kernel
theorem d_D_damage_67 : decode prog_1_method_13_code 67 = .ok (.iload 6, 2) := by decide +kernel
theorem d_D_damage_69 : decode prog_1_method_13_code 69 = .ok (.iconst (-1), 1) := by decide +kernel
theorem d_D_damage_70 : decode prog_1_method_13_code 70 = .ok (.if_icmp .ne 6, 3) := by decide +kernel
theorem d_D_damage_73 : decode prog_1_method_13_code 73 = .ok (.bipush (-2), 2) := by decide +kernel
theorem d_D_damage_75 : decode prog_1_method_13_code 75 = .ok (.ireturn, 1) := by decide +kernel
theorem d_D_damage_76 : decode prog_1_method_13_code 76 = .ok (.aload 5, 2) := by decide +kernel
theorem d_D_damage_78 : decode prog_1_method_13_code 78 = .ok (.getfield 111, 3) := by decide +kernel
theorem d_D_damage_81 : decode prog_1_method_13_code 81 = .ok (.iload_n 2, 1) := by decide +kernel
theorem d_D_damage_82 : decode prog_1_method_13_code 82 = .ok (.aaload, 1) := by decide +kernel
theorem d_D_damage_83 : decode prog_1_method_13_code 83 = .ok (.iload 6, 2) := by decide +kernel
theorem d_D_damage_85 : decode prog_1_method_13_code 85 = .ok (.iaload, 1) := by decide +kernel
theorem d_D_damage_86 : decode prog_1_method_13_code 86 = .ok (.iload 4, 2) := by decide +kernel
theorem d_D_damage_88 : decode prog_1_method_13_code 88 = .ok (.iadd, 1) := by decide +kernel
theorem d_D_damage_89 : decode prog_1_method_13_code 89 = .ok (.istore 7, 2) := by decide +kernel
theorem d_D_damage_91 : decode prog_1_method_13_code 91 = .ok (.iload 7, 2) := by decide +kernel
theorem d_D_damage_93 : decode prog_1_method_13_code 93 = .ok (.ifCond .lt 10, 3) := by decide +kernel
theorem d_D_damage_96 : decode prog_1_method_13_code 96 = .ok (.iload 7, 2) := by decide +kernel
theorem d_D_damage_98 : decode prog_1_method_13_code 98 = .ok (.ldc 123, 2) := by decide +kernel
theorem d_D_damage_100 : decode prog_1_method_13_code 100 = .ok (.if_icmp .le 6, 3) := by decide +kernel
theorem d_D_damage_103 : decode prog_1_method_13_code 103 = .ok (.bipush (-2), 2) := by decide +kernel
theorem d_D_damage_105 : decode prog_1_method_13_code 105 = .ok (.ireturn, 1) := by decide +kernel
theorem d_D_damage_106 : decode prog_1_method_13_code 106 = .ok (.aload 5, 2) := by decide +kernel
theorem d_D_damage_108 : decode prog_1_method_13_code 108 = .ok (.getfield 111, 3) := by decide +kernel
theorem d_D_damage_111 : decode prog_1_method_13_code 111 = .ok (.iload_n 2, 1) := by decide +kernel
theorem d_D_damage_112 : decode prog_1_method_13_code 112 = .ok (.aaload, 1) := by decide +kernel
theorem d_D_damage_113 : decode prog_1_method_13_code 113 = .ok (.iload 6, 2) := by decide +kernel
theorem d_D_damage_115 : decode prog_1_method_13_code 115 = .ok (.iload 7, 2) := by decide +kernel
theorem d_D_damage_117 : decode prog_1_method_13_code 117 = .ok (.iastore, 1) := by decide +kernel
theorem d_D_damage_118 : decode prog_1_method_13_code 118 = .ok (.iload 7, 2) := by decide +kernel
theorem d_D_damage_120 : decode prog_1_method_13_code 120 = .ok (.ireturn, 1) := by decide +kernel
theorem d_D_check_0 : decode prog_1_method_14_code 0 = .ok (.aload_n 0, 1) := by decide +kernel
theorem d_D_check_1 : decode prog_1_method_14_code 1 = .ok (.getfield 49, 3) := by decide +kernel
theorem d_D_check_4 : decode prog_1_method_14_code 4 = .ok (.ifCond .ne 6, 3) := by decide +kernel
theorem d_D_check_7 : decode prog_1_method_14_code 7 = .ok (.bipush (-4), 2) := by decide +kernel
theorem d_D_check_9 : decode prog_1_method_14_code 9 = .ok (.ireturn, 1) := by decide +kernel
theorem d_D_check_10 : decode prog_1_method_14_code 10 = .ok (.iconst 0, 1) := by decide +kernel
theorem d_D_check_11 : decode prog_1_method_14_code 11 = .ok (.istore_n 1, 1) := by decide +kernel
theorem d_D_check_12 : decode prog_1_method_14_code 12 = .ok (.iload_n 1, 1) := by decide +kernel
theorem d_D_check_13 : decode prog_1_method_14_code 13 = .ok (.aload_n 0, 1) := by decide +kernel
theorem d_D_check_14 : decode prog_1_method_14_code 14 = .ok (.getfield 10, 3) := by decide +kernel
theorem d_D_check_17 : decode prog_1_method_14_code 17 = .ok (.getfield 56, 3) := by decide +kernel
theorem d_D_check_20 : decode prog_1_method_14_code 20 = .ok (.if_icmp .ge 52, 3) := by decide +kernel
theorem d_D_check_23 : decode prog_1_method_14_code 23 = .ok (.iconst 0, 1) := by decide +kernel
theorem d_D_check_24 : decode prog_1_method_14_code 24 = .ok (.istore_n 2, 1) := by decide +kernel
theorem d_D_check_25 : decode prog_1_method_14_code 25 = .ok (.iload_n 2, 1) := by decide +kernel
theorem d_D_check_26 : decode prog_1_method_14_code 26 = .ok (.aload_n 0, 1) := by decide +kernel
theorem d_D_check_27 : decode prog_1_method_14_code 27 = .ok (.getfield 10, 3) := by decide +kernel
theorem d_D_check_30 : decode prog_1_method_14_code 30 = .ok (.getfield 56, 3) := by decide +kernel
theorem d_D_check_33 : decode prog_1_method_14_code 33 = .ok (.if_icmp .ge 33, 3) := by decide +kernel
theorem d_D_check_36 : decode prog_1_method_14_code 36 = .ok (.aload_n 0, 1) := by decide +kernel
theorem d_D_check_37 : decode prog_1_method_14_code 37 = .ok (.iload_n 1, 1) := by decide +kernel
theorem d_D_check_38 : decode prog_1_method_14_code 38 = .ok (.iload_n 2, 1) := by decide +kernel
theorem d_D_check_39 : decode prog_1_method_14_code 39 = .ok (.invokevirtual 117, 3) := by decide +kernel
theorem d_D_check_42 : decode prog_1_method_14_code 42 = .ok (.aload_n 0, 1) := by decide +kernel
theorem d_D_check_43 : decode prog_1_method_14_code 43 = .ok (.getfield 20, 3) := by decide +kernel
theorem d_D_check_46 : decode prog_1_method_14_code 46 = .ok (.iload_n 1, 1) := by decide +kernel
theorem d_D_check_47 : decode prog_1_method_14_code 47 = .ok (.aaload, 1) := by decide +kernel
theorem d_D_check_48 : decode prog_1_method_14_code 48 = .ok (.iload_n 2, 1) := by decide +kernel
theorem d_D_check_49 : decode prog_1_method_14_code 49 = .ok (.iaload, 1) := by decide +kernel
theorem d_D_check_50 : decode prog_1_method_14_code 50 = .ok (.if_icmp .eq 10, 3) := by decide +kernel
theorem d_D_check_53 : decode prog_1_method_14_code 53 = .ok (.bipush 16, 2) := by decide +kernel
theorem d_D_check_55 : decode prog_1_method_14_code 55 = .ok (.iload_n 1, 1) := by decide +kernel
theorem d_D_check_56 : decode prog_1_method_14_code 56 = .ok (.imul, 1) := by decide +kernel
theorem d_D_check_57 : decode prog_1_method_14_code 57 = .ok (.iload_n 2, 1) := by decide +kernel
theorem d_D_check_58 : decode prog_1_method_14_code 58 = .ok (.iadd, 1) := by decide +kernel
theorem d_D_check_59 : decode prog_1_method_14_code 59 = .ok (.ireturn, 1) := by decide +kernel
theorem d_D_check_60 : decode prog_1_method_14_code 60 = .ok (.iinc 2 1, 3) := by decide +kernel
theorem d_D_check_63 : decode prog_1_method_14_code 63 = .ok (.goto (-38), 3) := by decide +kernel
theorem d_D_check_66 : decode prog_1_method_14_code 66 = .ok (.iinc 1 1, 3) := by decide +kernel
theorem d_D_check_69 : decode prog_1_method_14_code 69 = .ok (.goto (-57), 3) := by decide +kernel
theorem d_D_check_72 : decode prog_1_method_14_code 72 = .ok (.iconst (-1), 1) := by decide +kernel
theorem d_D_check_73 : decode prog_1_method_14_code 73 = .ok (.ireturn, 1) := by decide +kernel
