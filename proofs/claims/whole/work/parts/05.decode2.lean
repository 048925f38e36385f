theorem d_K_fromOf_0 : decode prog_2_method_5_code 0 = .ok (.aload_n 0, 1) := by decide +kernel
theorem d_K_fromOf_1 : decode prog_2_method_5_code 1 = .ok (.getfield 22, 3) := by decide +kernel
theorem d_K_fromOf_4 : decode prog_2_method_5_code 4 = .ok (.iload_n 1, 1) := by decide +kernel
theorem d_K_fromOf_5 : decode prog_2_method_5_code 5 = .ok (.iaload, 1) := by decide +kernel
theorem d_K_fromOf_6 : decode prog_2_method_5_code 6 = .ok (.sipush 256, 3) := by decide +kernel
theorem d_K_fromOf_9 : decode prog_2_method_5_code 9 = .ok (.idiv, 1) := by decide +kernel
theorem d_K_fromOf_10 : decode prog_2_method_5_code 10 = .ok (.ireturn, 1) := by decide +kernel
theorem d_K_toOf_0 : decode prog_2_method_6_code 0 = .ok (.aload_n 0, 1) := by decide +kernel
theorem d_K_toOf_1 : decode prog_2_method_6_code 1 = .ok (.getfield 22, 3) := by decide +kernel
theorem d_K_toOf_4 : decode prog_2_method_6_code 4 = .ok (.iload_n 1, 1) := by decide +kernel
theorem d_K_toOf_5 : decode prog_2_method_6_code 5 = .ok (.iaload, 1) := by decide +kernel
theorem d_K_toOf_6 : decode prog_2_method_6_code 6 = .ok (.bipush 16, 2) := by decide +kernel
theorem d_K_toOf_8 : decode prog_2_method_6_code 8 = .ok (.idiv, 1) := by decide +kernel
theorem d_K_toOf_9 : decode prog_2_method_6_code 9 = .ok (.bipush 16, 2) := by decide +kernel
theorem d_K_toOf_11 : decode prog_2_method_6_code 11 = .ok (.irem, 1) := by decide +kernel
theorem d_K_toOf_12 : decode prog_2_method_6_code 12 = .ok (.ireturn, 1) := by decide +kernel
theorem d_K_byOf_0 : decode prog_2_method_7_code 0 = .ok (.aload_n 0, 1) := by decide +kernel
theorem d_K_byOf_1 : decode prog_2_method_7_code 1 = .ok (.getfield 22, 3) := by decide +kernel
theorem d_K_byOf_4 : decode prog_2_method_7_code 4 = .ok (.iload_n 1, 1) := by decide +kernel
theorem d_K_byOf_5 : decode prog_2_method_7_code 5 = .ok (.iaload, 1) := by decide +kernel
theorem d_K_byOf_6 : decode prog_2_method_7_code 6 = .ok (.bipush 16, 2) := by decide +kernel
theorem d_K_byOf_8 : decode prog_2_method_7_code 8 = .ok (.irem, 1) := by decide +kernel
theorem d_K_byOf_9 : decode prog_2_method_7_code 9 = .ok (.ireturn, 1) := by decide +kernel
theorem d_D_shortcut_0 : decode prog_1_method_15_code 0 = .ok (.aload_n 0, 1) := by decide +kernel
theorem d_D_shortcut_1 : decode prog_1_method_15_code 1 = .ok (.getfield 49, 3) := by decide +kernel
theorem d_D_shortcut_4 : decode prog_1_method_15_code 4 = .ok (.ifCond .ne 6, 3) := by decide +kernel
theorem d_D_shortcut_7 : decode prog_1_method_15_code 7 = .ok (.bipush (-4), 2) := by decide +kernel
theorem d_D_shortcut_9 : decode prog_1_method_15_code 9 = .ok (.ireturn, 1) := by decide +kernel
theorem d_D_shortcut_10 : decode prog_1_method_15_code 10 = .ok (.iload_n 1, 1) := by decide +kernel
theorem d_D_shortcut_11 : decode prog_1_method_15_code 11 = .ok (.iconst (-1), 1) := by decide +kernel
theorem d_D_shortcut_12 : decode prog_1_method_15_code 12 = .ok (.if_icmp .ne 11, 3) := by decide +kernel
theorem d_D_shortcut_15 : decode prog_1_method_15_code 15 = .ok (.aload_n 0, 1) := by decide +kernel
theorem d_D_shortcut_16 : decode prog_1_method_15_code 16 = .ok (.getfield 37, 3) := by decide +kernel
theorem d_D_shortcut_19 : decode prog_1_method_15_code 19 = .ok (.getfield 124, 3) := by decide +kernel
theorem d_D_shortcut_22 : decode prog_1_method_15_code 22 = .ok (.ireturn, 1) := by decide +kernel
theorem d_D_shortcut_23 : decode prog_1_method_15_code 23 = .ok (.iload_n 1, 1) := by decide +kernel
theorem d_D_shortcut_24 : decode prog_1_method_15_code 24 = .ok (.ifCond .lt 14, 3) := by decide +kernel
theorem d_D_shortcut_27 : decode prog_1_method_15_code 27 = .ok (.iload_n 1, 1) := by decide +kernel
theorem d_D_shortcut_28 : decode prog_1_method_15_code 28 = .ok (.aload_n 0, 1) := by decide +kernel
theorem d_D_shortcut_29 : decode prog_1_method_15_code 29 = .ok (.getfield 37, 3) := by decide +kernel
theorem d_D_shortcut_32 : decode prog_1_method_15_code 32 = .ok (.getfield 124, 3) := by decide +kernel
theorem d_D_shortcut_35 : decode prog_1_method_15_code 35 = .ok (.if_icmp .lt 6, 3) := by decide +kernel
theorem d_D_shortcut_38 : decode prog_1_method_15_code 38 = .ok (.bipush (-2), 2) := by decide +kernel
theorem d_D_shortcut_40 : decode prog_1_method_15_code 40 = .ok (.ireturn, 1) := by decide +kernel
theorem d_D_shortcut_41 : decode prog_1_method_15_code 41 = .ok (.iload_n 2, 1) := by decide +kernel
theorem d_D_shortcut_42 : decode prog_1_method_15_code 42 = .ok (.tableswitch 67 0 3 #[30, 39, 48, 58], 30) := by decide +kernel
theorem d_D_shortcut_72 : decode prog_1_method_15_code 72 = .ok (.aload_n 0, 1) := by decide +kernel
theorem d_D_shortcut_73 : decode prog_1_method_15_code 73 = .ok (.getfield 37, 3) := by decide +kernel
theorem d_D_shortcut_76 : decode prog_1_method_15_code 76 = .ok (.iload_n 1, 1) := by decide +kernel
theorem d_D_shortcut_77 : decode prog_1_method_15_code 77 = .ok (.invokevirtual 127, 3) := by decide +kernel
theorem d_D_shortcut_80 : decode prog_1_method_15_code 80 = .ok (.ireturn, 1) := by decide +kernel
theorem d_D_shortcut_81 : decode prog_1_method_15_code 81 = .ok (.aload_n 0, 1) := by decide +kernel
theorem d_D_shortcut_82 : decode prog_1_method_15_code 82 = .ok (.getfield 37, 3) := by decide +kernel
theorem d_D_shortcut_85 : decode prog_1_method_15_code 85 = .ok (.iload_n 1, 1) := by decide +kernel
theorem d_D_shortcut_86 : decode prog_1_method_15_code 86 = .ok (.invokevirtual 131, 3) := by decide +kernel
theorem d_D_shortcut_89 : decode prog_1_method_15_code 89 = .ok (.ireturn, 1) := by decide +kernel
theorem d_D_shortcut_90 : decode prog_1_method_15_code 90 = .ok (.aload_n 0, 1) := by decide +kernel
theorem d_D_shortcut_91 : decode prog_1_method_15_code 91 = .ok (.getfield 37, 3) := by decide +kernel
theorem d_D_shortcut_94 : decode prog_1_method_15_code 94 = .ok (.getfield 134, 3) := by decide +kernel
theorem d_D_shortcut_97 : decode prog_1_method_15_code 97 = .ok (.iload_n 1, 1) := by decide +kernel
theorem d_D_shortcut_98 : decode prog_1_method_15_code 98 = .ok (.iaload, 1) := by decide +kernel
theorem d_D_shortcut_99 : decode prog_1_method_15_code 99 = .ok (.ireturn, 1) := by decide +kernel
theorem d_D_shortcut_100 : decode prog_1_method_15_code 100 = .ok (.aload_n 0, 1) := by decide +kernel
theorem d_D_shortcut_101 : decode prog_1_method_15_code 101 = .ok (.getfield 37, 3) := by decide +kernel
theorem d_D_shortcut_104 : decode prog_1_method_15_code 104 = .ok (.iload_n 1, 1) := by decide +kernel
theorem d_D_shortcut_105 : decode prog_1_method_15_code 105 = .ok (.invokevirtual 137, 3) := by decide +kernel
theorem d_D_shortcut_108 : decode prog_1_method_15_code 108 = .ok (.ireturn, 1) := by decide +kernel
theorem d_D_shortcut_109 : decode prog_1_method_15_code 109 = .ok (.bipush (-2), 2) := by decide +kernel
theorem d_D_shortcut_111 : decode prog_1_method_15_code 111 = .ok (.ireturn, 1) := by decide +kernel
theorem d_J_fill_0 : decode prog_8_method_103_code 0 = .ok (.iconst 0, 1) := by decide +kernel
theorem d_J_fill_1 : decode prog_8_method_103_code 1 = .ok (.istore_n 2, 1) := by decide +kernel
theorem d_J_fill_2 : decode prog_8_method_103_code 2 = .ok (.aload_n 0, 1) := by decide +kernel
theorem d_J_fill_3 : decode prog_8_method_103_code 3 = .ok (.arraylength, 1) := by decide +kernel
theorem d_J_fill_4 : decode prog_8_method_103_code 4 = .ok (.istore_n 3, 1) := by decide +kernel
theorem d_J_fill_5 : decode prog_8_method_103_code 5 = .ok (.iload_n 2, 1) := by decide +kernel
theorem d_J_fill_6 : decode prog_8_method_103_code 6 = .ok (.iload_n 3, 1) := by decide +kernel
theorem d_J_fill_7 : decode prog_8_method_103_code 7 = .ok (.if_icmp .ge 13, 3) := by decide +kernel
theorem d_J_fill_10 : decode prog_8_method_103_code 10 = .ok (.aload_n 0, 1) := by decide +kernel
theorem d_J_fill_11 : decode prog_8_method_103_code 11 = .ok (.iload_n 2, 1) := by decide +kernel
theorem d_J_fill_12 : decode prog_8_method_103_code 12 = .ok (.iload_n 1, 1) := by decide +kernel
theorem d_J_fill_13 : decode prog_8_method_103_code 13 = .ok (.iastore, 1) := by decide +kernel
theorem d_J_fill_14 : decode prog_8_method_103_code 14 = .ok (.iinc 2 1, 3) := by decide +kernel
theorem d_J_fill_17 : decode prog_8_method_103_code 17 = .ok (.goto (-12), 3) := by decide +kernel
theorem d_J_fill_20 : decode prog_8_method_103_code 20 = .ok (.return_, 1) := by decide +kernel
theorem d_D_lesser_0 : decode prog_1_method_33_code 0 = .ok (.iload_n 0, 1) := by decide +kernel
theorem d_D_lesser_1 : decode prog_1_method_33_code 1 = .ok (.iload_n 1, 1) := by decide +kernel
theorem d_D_lesser_2 : decode prog_1_method_33_code 2 = .ok (.invokestatic 184, 3) := by decide +kernel
theorem d_D_lesser_5 : decode prog_1_method_33_code 5 = .ok (.ifCond .eq 7, 3) := by decide +kernel
theorem d_D_lesser_8 : decode prog_1_method_33_code 8 = .ok (.iload_n 0, 1) := by decide +kernel
theorem d_D_lesser_9 : decode prog_1_method_33_code 9 = .ok (.goto 4, 3) := by decide +kernel
theorem d_D_lesser_12 : decode prog_1_method_33_code 12 = .ok (.iload_n 1, 1) := by decide +kernel
theorem d_D_lesser_13 : decode prog_1_method_33_code 13 = .ok (.ireturn, 1) := by decide +kernel
theorem d_K_climbFrom_0 : decode prog_2_method_9_code 0 = .ok (.aload_n 0, 1) := by decide +kernel
theorem d_K_climbFrom_1 : decode prog_2_method_9_code 1 = .ok (.getfield 33, 3) := by decide +kernel
theorem d_K_climbFrom_4 : decode prog_2_method_9_code 4 = .ok (.iconst (-1), 1) := by decide +kernel
theorem d_K_climbFrom_5 : decode prog_2_method_9_code 5 = .ok (.invokestatic 84, 3) := by decide +kernel
theorem d_K_climbFrom_8 : decode prog_2_method_9_code 8 = .ok (.aload_n 0, 1) := by decide +kernel
theorem d_K_climbFrom_9 : decode prog_2_method_9_code 9 = .ok (.getfield 33, 3) := by decide +kernel
theorem d_K_climbFrom_12 : decode prog_2_method_9_code 12 = .ok (.iload_n 2, 1) := by decide +kernel
theorem d_K_climbFrom_13 : decode prog_2_method_9_code 13 = .ok (.iconst 0, 1) := by decide +kernel
theorem d_K_climbFrom_14 : decode prog_2_method_9_code 14 = .ok (.iastore, 1) := by decide +kernel
theorem d_K_climbFrom_15 : decode prog_2_method_9_code 15 = .ok (.aload_n 1, 1) := by decide +kernel
theorem d_K_climbFrom_16 : decode prog_2_method_9_code 16 = .ok (.getfield 60, 3) := by decide +kernel
theorem d_K_climbFrom_19 : decode prog_2_method_9_code 19 = .ok (.iload_n 2, 1) := by decide +kernel
theorem d_K_climbFrom_20 : decode prog_2_method_9_code 20 = .ok (.iaload, 1) := by decide +kernel
theorem d_K_climbFrom_21 : decode prog_2_method_9_code 21 = .ok (.istore_n 3, 1) := by decide +kernel
theorem d_K_climbFrom_22 : decode prog_2_method_9_code 22 = .ok (.iload_n 3, 1) := by decide +kernel
theorem d_K_climbFrom_23 : decode prog_2_method_9_code 23 = .ok (.ifCond .le 78, 3) := by decide +kernel
theorem d_K_climbFrom_26 : decode prog_2_method_9_code 26 = .ok (.aload_n 1, 1) := by decide +kernel
theorem d_K_climbFrom_27 : decode prog_2_method_9_code 27 = .ok (.getfield 39, 3) := by decide +kernel
theorem d_K_climbFrom_30 : decode prog_2_method_9_code 30 = .ok (.iload_n 3, 1) := by decide +kernel
theorem d_K_climbFrom_31 : decode prog_2_method_9_code 31 = .ok (.iaload, 1) := by decide +kernel
theorem d_K_climbFrom_32 : decode prog_2_method_9_code 32 = .ok (.istore 4, 2) := by decide +kernel
theorem d_K_climbFrom_34 : decode prog_2_method_9_code 34 = .ok (.iconst 0, 1) := by decide +kernel
theorem d_K_climbFrom_35 : decode prog_2_method_9_code 35 = .ok (.istore 5, 2) := by decide +kernel
theorem d_K_climbFrom_37 : decode prog_2_method_9_code 37 = .ok (.iload 5, 2) := by decide +kernel
theorem d_K_climbFrom_39 : decode prog_2_method_9_code 39 = .ok (.iload_n 3, 1) := by decide +kernel
theorem d_K_climbFrom_40 : decode prog_2_method_9_code 40 = .ok (.if_icmp .ge 55, 3) := by decide +kernel
theorem d_K_climbFrom_43 : decode prog_2_method_9_code 43 = .ok (.aload_n 1, 1) := by decide +kernel
theorem d_K_climbFrom_44 : decode prog_2_method_9_code 44 = .ok (.getfield 39, 3) := by decide +kernel
theorem d_K_climbFrom_47 : decode prog_2_method_9_code 47 = .ok (.iload 5, 2) := by decide +kernel
theorem d_K_climbFrom_49 : decode prog_2_method_9_code 49 = .ok (.iaload, 1) := by decide +kernel
theorem d_K_climbFrom_50 : decode prog_2_method_9_code 50 = .ok (.istore 6, 2) := by decide +kernel
theorem d_K_climbFrom_52 : decode prog_2_method_9_code 52 = .ok (.aload_n 0, 1) := by decide +kernel
theorem d_K_climbFrom_53 : decode prog_2_method_9_code 53 = .ok (.getfield 33, 3) := by decide +kernel
theorem d_K_climbFrom_56 : decode prog_2_method_9_code 56 = .ok (.iload 6, 2) := by decide +kernel
theorem d_K_climbFrom_58 : decode prog_2_method_9_code 58 = .ok (.aload_n 0, 1) := by decide +kernel
theorem d_K_climbFrom_59 : decode prog_2_method_9_code 59 = .ok (.getfield 33, 3) := by decide +kernel
theorem d_K_climbFrom_62 : decode prog_2_method_9_code 62 = .ok (.iload 4, 2) := by decide +kernel
theorem d_K_climbFrom_64 : decode prog_2_method_9_code 64 = .ok (.iaload, 1) := by decide +kernel
theorem d_K_climbFrom_65 : decode prog_2_method_9_code 65 = .ok (.aload_n 0, 1) := by decide +kernel
theorem d_K_climbFrom_66 : decode prog_2_method_9_code 66 = .ok (.getfield 13, 3) := by decide +kernel
theorem d_K_climbFrom_69 : decode prog_2_method_9_code 69 = .ok (.iload 4, 2) := by decide +kernel
theorem d_K_climbFrom_71 : decode prog_2_method_9_code 71 = .ok (.aaload, 1) := by decide +kernel
theorem d_K_climbFrom_72 : decode prog_2_method_9_code 72 = .ok (.iload 6, 2) := by decide +kernel
theorem d_K_climbFrom_74 : decode prog_2_method_9_code 74 = .ok (.iaload, 1) := by decide +kernel
theorem d_K_climbFrom_75 : decode prog_2_method_9_code 75 = .ok (.invokestatic 63, 3) := by decide +kernel
theorem d_K_climbFrom_78 : decode prog_2_method_9_code 78 = .ok (.aload_n 0, 1) := by decide +kernel
theorem d_K_climbFrom_79 : decode prog_2_method_9_code 79 = .ok (.getfield 33, 3) := by decide +kernel
theorem d_K_climbFrom_82 : decode prog_2_method_9_code 82 = .ok (.iload 6, 2) := by decide +kernel
theorem d_K_climbFrom_84 : decode prog_2_method_9_code 84 = .ok (.iaload, 1) := by decide +kernel
theorem d_K_climbFrom_85 : decode prog_2_method_9_code 85 = .ok (.invokestatic 81, 3) := by decide +kernel
theorem d_K_climbFrom_88 : decode prog_2_method_9_code 88 = .ok (.iastore, 1) := by decide +kernel
theorem d_K_climbFrom_89 : decode prog_2_method_9_code 89 = .ok (.iinc 5 1, 3) := by decide +kernel
theorem d_K_climbFrom_92 : decode prog_2_method_9_code 92 = .ok (.goto (-55), 3) := by decide +kernel
theorem d_K_climbFrom_95 : decode prog_2_method_9_code 95 = .ok (.iinc 3 (-1), 3) := by decide +kernel
theorem d_K_climbFrom_98 : decode prog_2_method_9_code 98 = .ok (.goto (-76), 3) := by decide +kernel
theorem d_K_climbFrom_101 : decode prog_2_method_9_code 101 = .ok (.return_, 1) := by decide +kernel
theorem d_K_climbBackFrom_0 : decode prog_2_method_10_code 0 = .ok (.aload_n 0, 1) := by decide +kernel
theorem d_K_climbBackFrom_1 : decode prog_2_method_10_code 1 = .ok (.getfield 36, 3) := by decide +kernel
theorem d_K_climbBackFrom_4 : decode prog_2_method_10_code 4 = .ok (.iconst (-1), 1) := by decide +kernel
theorem d_K_climbBackFrom_5 : decode prog_2_method_10_code 5 = .ok (.invokestatic 84, 3) := by decide +kernel
theorem d_K_climbBackFrom_8 : decode prog_2_method_10_code 8 = .ok (.aload_n 0, 1) := by decide +kernel
theorem d_K_climbBackFrom_9 : decode prog_2_method_10_code 9 = .ok (.getfield 36, 3) := by decide +kernel
theorem d_K_climbBackFrom_12 : decode prog_2_method_10_code 12 = .ok (.iload_n 2, 1) := by decide +kernel
theorem d_K_climbBackFrom_13 : decode prog_2_method_10_code 13 = .ok (.iconst 0, 1) := by decide +kernel
theorem d_K_climbBackFrom_14 : decode prog_2_method_10_code 14 = .ok (.iastore, 1) := by decide +kernel
theorem d_K_climbBackFrom_15 : decode prog_2_method_10_code 15 = .ok (.aload_n 1, 1) := by decide +kernel
theorem d_K_climbBackFrom_16 : decode prog_2_method_10_code 16 = .ok (.getfield 60, 3) := by decide +kernel
theorem d_K_climbBackFrom_19 : decode prog_2_method_10_code 19 = .ok (.iload_n 2, 1) := by decide +kernel
theorem d_K_climbBackFrom_20 : decode prog_2_method_10_code 20 = .ok (.iaload, 1) := by decide +kernel
theorem d_K_climbBackFrom_21 : decode prog_2_method_10_code 21 = .ok (.istore_n 3, 1) := by decide +kernel
theorem d_K_climbBackFrom_22 : decode prog_2_method_10_code 22 = .ok (.iload_n 3, 1) := by decide +kernel
theorem d_K_climbBackFrom_23 : decode prog_2_method_10_code 23 = .ok (.ifCond .le 78, 3) := by decide +kernel
theorem d_K_climbBackFrom_26 : decode prog_2_method_10_code 26 = .ok (.aload_n 1, 1) := by decide +kernel
theorem d_K_climbBackFrom_27 : decode prog_2_method_10_code 27 = .ok (.getfield 39, 3) := by decide +kernel
theorem d_K_climbBackFrom_30 : decode prog_2_method_10_code 30 = .ok (.iload_n 3, 1) := by decide +kernel
theorem d_K_climbBackFrom_31 : decode prog_2_method_10_code 31 = .ok (.iaload, 1) := by decide +kernel
theorem d_K_climbBackFrom_32 : decode prog_2_method_10_code 32 = .ok (.istore 4, 2) := by decide +kernel
theorem d_K_climbBackFrom_34 : decode prog_2_method_10_code 34 = .ok (.iconst 0, 1) := by decide +kernel
theorem d_K_climbBackFrom_35 : decode prog_2_method_10_code 35 = .ok (.istore 5, 2) := by decide +kernel
theorem d_K_climbBackFrom_37 : decode prog_2_method_10_code 37 = .ok (.iload 5, 2) := by decide +kernel
theorem d_K_climbBackFrom_39 : decode prog_2_method_10_code 39 = .ok (.iload_n 3, 1) := by decide +kernel
theorem d_K_climbBackFrom_40 : decode prog_2_method_10_code 40 = .ok (.if_icmp .ge 55, 3) := by decide +kernel
theorem d_K_climbBackFrom_43 : decode prog_2_method_10_code 43 = .ok (.aload_n 1, 1) := by decide +kernel
theorem d_K_climbBackFrom_44 : decode prog_2_method_10_code 44 = .ok (.getfield 39, 3) := by decide +kernel
theorem d_K_climbBackFrom_47 : decode prog_2_method_10_code 47 = .ok (.iload 5, 2) := by decide +kernel
theorem d_K_climbBackFrom_49 : decode prog_2_method_10_code 49 = .ok (.iaload, 1) := by decide +kernel
theorem d_K_climbBackFrom_50 : decode prog_2_method_10_code 50 = .ok (.istore 6, 2) := by decide +kernel
theorem d_K_climbBackFrom_52 : decode prog_2_method_10_code 52 = .ok (.aload_n 0, 1) := by decide +kernel
theorem d_K_climbBackFrom_53 : decode prog_2_method_10_code 53 = .ok (.getfield 36, 3) := by decide +kernel
theorem d_K_climbBackFrom_56 : decode prog_2_method_10_code 56 = .ok (.iload 6, 2) := by decide +kernel
theorem d_K_climbBackFrom_58 : decode prog_2_method_10_code 58 = .ok (.aload_n 0, 1) := by decide +kernel
theorem d_K_climbBackFrom_59 : decode prog_2_method_10_code 59 = .ok (.getfield 13, 3) := by decide +kernel
theorem d_K_climbBackFrom_62 : decode prog_2_method_10_code 62 = .ok (.iload 6, 2) := by decide +kernel
theorem d_K_climbBackFrom_64 : decode prog_2_method_10_code 64 = .ok (.aaload, 1) := by decide +kernel
theorem d_K_climbBackFrom_65 : decode prog_2_method_10_code 65 = .ok (.iload 4, 2) := by decide +kernel
theorem d_K_climbBackFrom_67 : decode prog_2_method_10_code 67 = .ok (.iaload, 1) := by decide +kernel
theorem d_K_climbBackFrom_68 : decode prog_2_method_10_code 68 = .ok (.aload_n 0, 1) := by decide +kernel
theorem d_K_climbBackFrom_69 : decode prog_2_method_10_code 69 = .ok (.getfield 36, 3) := by decide +kernel
theorem d_K_climbBackFrom_72 : decode prog_2_method_10_code 72 = .ok (.iload 4, 2) := by decide +kernel
theorem d_K_climbBackFrom_74 : decode prog_2_method_10_code 74 = .ok (.iaload, 1) := by decide +kernel
theorem d_K_climbBackFrom_75 : decode prog_2_method_10_code 75 = .ok (.invokestatic 63, 3) := by decide +kernel
theorem d_K_climbBackFrom_78 : decode prog_2_method_10_code 78 = .ok (.aload_n 0, 1) := by decide +kernel
theorem d_K_climbBackFrom_79 : decode prog_2_method_10_code 79 = .ok (.getfield 36, 3) := by decide +kernel
theorem d_K_climbBackFrom_82 : decode prog_2_method_10_code 82 = .ok (.iload 6, 2) := by decide +kernel
theorem d_K_climbBackFrom_84 : decode prog_2_method_10_code 84 = .ok (.iaload, 1) := by decide +kernel
theorem d_K_climbBackFrom_85 : decode prog_2_method_10_code 85 = .ok (.invokestatic 81, 3) := by decide +kernel
theorem d_K_climbBackFrom_88 : decode prog_2_method_10_code 88 = .ok (.iastore, 1) := by decide +kernel
theorem d_K_climbBackFrom_89 : decode prog_2_method_10_code 89 = .ok (.iinc 5 1, 3) := by decide +kernel
theorem d_K_climbBackFrom_92 : decode prog_2_method_10_code 92 = .ok (.goto (-55), 3) := by decide +kernel
theorem d_K_climbBackFrom_95 : decode prog_2_method_10_code 95 = .ok (.iinc 3 (-1), 3) := by decide +kernel
theorem d_K_climbBackFrom_98 : decode prog_2_method_10_code 98 = .ok (.goto (-76), 3) := by decide +kernel
theorem d_K_climbBackFrom_101 : decode prog_2_method_10_code 101 = .ok (.return_, 1) := by decide +kernel
theorem d_K_climbed_0 : decode prog_2_method_8_code 0 = .ok (.aload_n 0, 1) := by decide +kernel
theorem d_K_climbed_1 : decode prog_2_method_8_code 1 = .ok (.aload_n 1, 1) := by decide +kernel
theorem d_K_climbed_2 : decode prog_2_method_8_code 2 = .ok (.iload_n 2, 1) := by decide +kernel
theorem d_K_climbed_3 : decode prog_2_method_8_code 3 = .ok (.invokevirtual 75, 3) := by decide +kernel
theorem d_K_climbed_6 : decode prog_2_method_8_code 6 = .ok (.aload_n 0, 1) := by decide +kernel
theorem d_K_climbed_7 : decode prog_2_method_8_code 7 = .ok (.aload_n 1, 1) := by decide +kernel
theorem d_K_climbed_8 : decode prog_2_method_8_code 8 = .ok (.iload_n 3, 1) := by decide +kernel
theorem d_K_climbed_9 : decode prog_2_method_8_code 9 = .ok (.invokevirtual 78, 3) := by decide +kernel
theorem d_K_climbed_12 : decode prog_2_method_8_code 12 = .ok (.iconst (-1), 1) := by decide +kernel
theorem d_K_climbed_13 : decode prog_2_method_8_code 13 = .ok (.istore 4, 2) := by decide +kernel
theorem d_K_climbed_15 : decode prog_2_method_8_code 15 = .ok (.iconst 0, 1) := by decide +kernel
theorem d_K_climbed_16 : decode prog_2_method_8_code 16 = .ok (.istore 5, 2) := by decide +kernel
theorem d_K_climbed_18 : decode prog_2_method_8_code 18 = .ok (.iload 5, 2) := by decide +kernel
theorem d_K_climbed_20 : decode prog_2_method_8_code 20 = .ok (.aload_n 1, 1) := by decide +kernel
theorem d_K_climbed_21 : decode prog_2_method_8_code 21 = .ok (.getfield 44, 3) := by decide +kernel
theorem d_K_climbed_24 : decode prog_2_method_8_code 24 = .ok (.if_icmp .ge 33, 3) := by decide +kernel
theorem d_K_climbed_27 : decode prog_2_method_8_code 27 = .ok (.iload 4, 2) := by decide +kernel
theorem d_K_climbed_29 : decode prog_2_method_8_code 29 = .ok (.aload_n 0, 1) := by decide +kernel
theorem d_K_climbed_30 : decode prog_2_method_8_code 30 = .ok (.getfield 33, 3) := by decide +kernel
theorem d_K_climbed_33 : decode prog_2_method_8_code 33 = .ok (.iload 5, 2) := by decide +kernel
theorem d_K_climbed_35 : decode prog_2_method_8_code 35 = .ok (.iaload, 1) := by decide +kernel
theorem d_K_climbed_36 : decode prog_2_method_8_code 36 = .ok (.aload_n 0, 1) := by decide +kernel
theorem d_K_climbed_37 : decode prog_2_method_8_code 37 = .ok (.getfield 36, 3) := by decide +kernel
theorem d_K_climbed_40 : decode prog_2_method_8_code 40 = .ok (.iload 5, 2) := by decide +kernel
theorem d_K_climbed_42 : decode prog_2_method_8_code 42 = .ok (.iaload, 1) := by decide +kernel
theorem d_K_climbed_43 : decode prog_2_method_8_code 43 = .ok (.invokestatic 63, 3) := by decide +kernel
theorem d_K_climbed_46 : decode prog_2_method_8_code 46 = .ok (.invokestatic 81, 3) := by decide +kernel
theorem d_K_climbed_49 : decode prog_2_method_8_code 49 = .ok (.istore 4, 2) := by decide +kernel
theorem d_K_climbed_51 : decode prog_2_method_8_code 51 = .ok (.iinc 5 1, 3) := by decide +kernel
theorem d_K_climbed_54 : decode prog_2_method_8_code 54 = .ok (.goto (-36), 3) := by decide +kernel
theorem d_K_climbed_57 : decode prog_2_method_8_code 57 = .ok (.iload 4, 2) := by decide +kernel
theorem d_K_climbed_59 : decode prog_2_method_8_code 59 = .ok (.ireturn, 1) := by decide +kernel
theorem d_D_climb_0 : decode prog_1_method_16_code 0 = .ok (.aload_n 0, 1) := by decide +kernel
theorem d_D_climb_1 : decode prog_1_method_16_code 1 = .ok (.iload_n 1, 1) := by decide +kernel
theorem d_D_climb_2 : decode prog_1_method_16_code 2 = .ok (.iload_n 2, 1) := by decide +kernel
theorem d_D_climb_3 : decode prog_1_method_16_code 3 = .ok (.invokevirtual 114, 3) := by decide +kernel
theorem d_D_climb_6 : decode prog_1_method_16_code 6 = .ok (.istore_n 3, 1) := by decide +kernel
theorem d_D_climb_7 : decode prog_1_method_16_code 7 = .ok (.iload_n 3, 1) := by decide +kernel
theorem d_D_climb_8 : decode prog_1_method_16_code 8 = .ok (.ifCond .eq 7, 3) := by decide +kernel
theorem d_D_climb_11 : decode prog_1_method_16_code 11 = .ok (.iload_n 3, 1) := by decide +kernel
theorem d_D_climb_12 : decode prog_1_method_16_code 12 = .ok (.goto 16, 3) := by decide +kernel
theorem d_D_climb_15 : decode prog_1_method_16_code 15 = .ok (.aload_n 0, 1) := by decide +kernel
theorem d_D_climb_16 : decode prog_1_method_16_code 16 = .ok (.getfield 37, 3) := by decide +kernel
theorem d_D_climb_19 : decode prog_1_method_16_code 19 = .ok (.aload_n 0, 1) := by decide +kernel
theorem d_D_climb_20 : decode prog_1_method_16_code 20 = .ok (.getfield 10, 3) := by decide +kernel
theorem d_D_climb_23 : decode prog_1_method_16_code 23 = .ok (.iload_n 1, 1) := by decide +kernel
theorem d_D_climb_24 : decode prog_1_method_16_code 24 = .ok (.iload_n 2, 1) := by decide +kernel
theorem d_D_climb_25 : decode prog_1_method_16_code 25 = .ok (.invokevirtual 140, 3) := by decide +kernel
theorem d_D_climb_28 : decode prog_1_method_16_code 28 = .ok (.ireturn, 1) := by decide +kernel
theorem d_D_nextOnWay_0 : decode prog_1_method_29_code 0 = .ok (.iconst 0, 1) := by decide +kernel
theorem d_D_nextOnWay_1 : decode prog_1_method_29_code 1 = .ok (.istore_n 3, 1) := by decide +kernel
theorem d_D_nextOnWay_2 : decode prog_1_method_29_code 2 = .ok (.iload_n 3, 1) := by decide +kernel
theorem d_D_nextOnWay_3 : decode prog_1_method_29_code 3 = .ok (.aload_n 0, 1) := by decide +kernel
theorem d_D_nextOnWay_4 : decode prog_1_method_29_code 4 = .ok (.getfield 10, 3) := by decide +kernel
theorem d_D_nextOnWay_7 : decode prog_1_method_29_code 7 = .ok (.getfield 56, 3) := by decide +kernel
theorem d_D_nextOnWay_10 : decode prog_1_method_29_code 10 = .ok (.if_icmp .ge 54, 3) := by decide +kernel
theorem d_D_nextOnWay_13 : decode prog_1_method_29_code 13 = .ok (.aload_n 0, 1) := by decide +kernel
theorem d_D_nextOnWay_14 : decode prog_1_method_29_code 14 = .ok (.getfield 10, 3) := by decide +kernel
theorem d_D_nextOnWay_17 : decode prog_1_method_29_code 17 = .ok (.getfield 167, 3) := by decide +kernel
theorem d_D_nextOnWay_20 : decode prog_1_method_29_code 20 = .ok (.iload_n 1, 1) := by decide +kernel
theorem d_D_nextOnWay_21 : decode prog_1_method_29_code 21 = .ok (.aaload, 1) := by decide +kernel
theorem d_D_nextOnWay_22 : decode prog_1_method_29_code 22 = .ok (.iload_n 3, 1) := by decide +kernel
theorem d_D_nextOnWay_23 : decode prog_1_method_29_code 23 = .ok (.iaload, 1) := by decide +kernel
theorem d_D_nextOnWay_24 : decode prog_1_method_29_code 24 = .ok (.istore 4, 2) := by decide +kernel
theorem d_D_nextOnWay_26 : decode prog_1_method_29_code 26 = .ok (.iload 4, 2) := by decide +kernel
theorem d_D_nextOnWay_28 : decode prog_1_method_29_code 28 = .ok (.iconst (-1), 1) := by decide +kernel
theorem d_D_nextOnWay_29 : decode prog_1_method_29_code 29 = .ok (.if_icmp .eq 29, 3) := by decide +kernel
theorem d_D_nextOnWay_32 : decode prog_1_method_29_code 32 = .ok (.iload 4, 2) := by decide +kernel
theorem d_D_nextOnWay_34 : decode prog_1_method_29_code 34 = .ok (.aload_n 0, 1) := by decide +kernel
theorem d_D_nextOnWay_35 : decode prog_1_method_29_code 35 = .ok (.getfield 20, 3) := by decide +kernel
theorem d_D_nextOnWay_38 : decode prog_1_method_29_code 38 = .ok (.iload_n 3, 1) := by decide +kernel
theorem d_D_nextOnWay_39 : decode prog_1_method_29_code 39 = .ok (.aaload, 1) := by decide +kernel
theorem d_D_nextOnWay_40 : decode prog_1_method_29_code 40 = .ok (.iload_n 2, 1) := by decide +kernel
theorem d_D_nextOnWay_41 : decode prog_1_method_29_code 41 = .ok (.iaload, 1) := by decide +kernel
theorem d_D_nextOnWay_42 : decode prog_1_method_29_code 42 = .ok (.invokestatic 158, 3) := by decide +kernel
theorem d_D_nextOnWay_45 : decode prog_1_method_29_code 45 = .ok (.aload_n 0, 1) := by decide +kernel
theorem d_D_nextOnWay_46 : decode prog_1_method_29_code 46 = .ok (.getfield 20, 3) := by decide +kernel
theorem d_D_nextOnWay_49 : decode prog_1_method_29_code 49 = .ok (.iload_n 1, 1) := by decide +kernel
theorem d_D_nextOnWay_50 : decode prog_1_method_29_code 50 = .ok (.aaload, 1) := by decide +kernel
theorem d_D_nextOnWay_51 : decode prog_1_method_29_code 51 = .ok (.iload_n 2, 1) := by decide +kernel
theorem d_D_nextOnWay_52 : decode prog_1_method_29_code 52 = .ok (.iaload, 1) := by decide +kernel
theorem d_D_nextOnWay_53 : decode prog_1_method_29_code 53 = .ok (.if_icmp .ne 5, 3) := by decide +kernel
theorem d_D_nextOnWay_56 : decode prog_1_method_29_code 56 = .ok (.iload_n 3, 1) := by decide +kernel
theorem d_D_nextOnWay_57 : decode prog_1_method_29_code 57 = .ok (.ireturn, 1) := by decide +kernel
theorem d_D_nextOnWay_58 : decode prog_1_method_29_code 58 = .ok (.iinc 3 1, 3) := by decide +kernel
theorem d_D_nextOnWay_61 : decode prog_1_method_29_code 61 = .ok (.goto (-59), 3) := by decide +kernel
theorem d_D_nextOnWay_64 : decode prog_1_method_29_code 64 = .ok (.iload_n 2, 1) := by decide +kernel
theorem d_D_nextOnWay_65 : decode prog_1_method_29_code 65 = .ok (.ireturn, 1) := by decide +kernel
theorem d_D_way_0 : decode prog_1_method_17_code 0 = .ok (.aload_n 0, 1) := by decide +kernel
theorem d_D_way_1 : decode prog_1_method_17_code 1 = .ok (.iload_n 1, 1) := by decide +kernel
theorem d_D_way_2 : decode prog_1_method_17_code 2 = .ok (.iload_n 2, 1) := by decide +kernel
theorem d_D_way_3 : decode prog_1_method_17_code 3 = .ok (.invokevirtual 114, 3) := by decide +kernel
theorem d_D_way_6 : decode prog_1_method_17_code 6 = .ok (.istore 4, 2) := by decide +kernel
theorem d_D_way_8 : decode prog_1_method_17_code 8 = .ok (.iload 4, 2) := by decide +kernel
theorem d_D_way_10 : decode prog_1_method_17_code 10 = .ok (.ifCond .eq 6, 3) := by decide +kernel
theorem d_D_way_13 : decode prog_1_method_17_code 13 = .ok (.iload 4, 2) := by decide +kernel
theorem d_D_way_15 : decode prog_1_method_17_code 15 = .ok (.ireturn, 1) := by decide +kernel
theorem d_D_way_16 : decode prog_1_method_17_code 16 = .ok (.aload_n 0, 1) := by decide +kernel
theorem d_D_way_17 : decode prog_1_method_17_code 17 = .ok (.getfield 20, 3) := by decide +kernel
theorem d_D_way_20 : decode prog_1_method_17_code 20 = .ok (.iload_n 1, 1) := by decide +kernel
theorem d_D_way_21 : decode prog_1_method_17_code 21 = .ok (.aaload, 1) := by decide +kernel
theorem d_D_way_22 : decode prog_1_method_17_code 22 = .ok (.iload_n 2, 1) := by decide +kernel
theorem d_D_way_23 : decode prog_1_method_17_code 23 = .ok (.iaload, 1) := by decide +kernel
theorem d_D_way_24 : decode prog_1_method_17_code 24 = .ok (.iconst (-1), 1) := by decide +kernel
theorem d_D_way_25 : decode prog_1_method_17_code 25 = .ok (.if_icmp .ne 5, 3) := by decide +kernel
theorem d_D_way_28 : decode prog_1_method_17_code 28 = .ok (.iconst (-1), 1) := by decide +kernel
theorem d_D_way_29 : decode prog_1_method_17_code 29 = .ok (.ireturn, 1) := by decide +kernel
theorem d_D_way_30 : decode prog_1_method_17_code 30 = .ok (.iload_n 3, 1) := by decide +kernel
theorem d_D_way_31 : decode prog_1_method_17_code 31 = .ok (.iconst (-1), 1) := by decide +kernel
theorem d_D_way_32 : decode prog_1_method_17_code 32 = .ok (.if_icmp .ge 6, 3) := by decide +kernel
theorem d_D_way_35 : decode prog_1_method_17_code 35 = .ok (.bipush (-2), 2) := by decide +kernel
theorem d_D_way_37 : decode prog_1_method_17_code 37 = .ok (.ireturn, 1) := by decide +kernel
theorem d_D_way_38 : decode prog_1_method_17_code 38 = .ok (.iload_n 1, 1) := by decide +kernel
theorem d_D_way_39 : decode prog_1_method_17_code 39 = .ok (.istore 5, 2) := by decide +kernel
theorem d_D_way_41 : decode prog_1_method_17_code 41 = .ok (.iconst 0, 1) := by decide +kernel
theorem d_D_way_42 : decode prog_1_method_17_code 42 = .ok (.istore 6, 2) := by decide +kernel
theorem d_D_way_44 : decode prog_1_method_17_code 44 = .ok (.iload 6, 2) := by decide +kernel
theorem d_D_way_46 : decode prog_1_method_17_code 46 = .ok (.bipush 16, 2) := by decide +kernel
theorem d_D_way_48 : decode prog_1_method_17_code 48 = .ok (.if_icmp .ge 48, 3) := by decide +kernel
theorem d_D_way_51 : decode prog_1_method_17_code 51 = .ok (.iload 6, 2) := by decide +kernel
theorem d_D_way_53 : decode prog_1_method_17_code 53 = .ok (.iload_n 3, 1) := by decide +kernel
theorem d_D_way_54 : decode prog_1_method_17_code 54 = .ok (.if_icmp .ne 6, 3) := by decide +kernel
theorem d_D_way_57 : decode prog_1_method_17_code 57 = .ok (.iload 5, 2) := by decide +kernel
theorem d_D_way_59 : decode prog_1_method_17_code 59 = .ok (.ireturn, 1) := by decide +kernel
theorem d_D_way_60 : decode prog_1_method_17_code 60 = .ok (.iload 5, 2) := by decide +kernel
theorem d_D_way_62 : decode prog_1_method_17_code 62 = .ok (.iload_n 2, 1) := by decide +kernel
theorem d_D_way_63 : decode prog_1_method_17_code 63 = .ok (.if_icmp .ne 18, 3) := by decide +kernel
theorem d_D_way_66 : decode prog_1_method_17_code 66 = .ok (.iload_n 3, 1) := by decide +kernel
theorem d_D_way_67 : decode prog_1_method_17_code 67 = .ok (.iconst (-1), 1) := by decide +kernel
theorem d_D_way_68 : decode prog_1_method_17_code 68 = .ok (.if_icmp .ne 10, 3) := by decide +kernel
theorem d_D_way_71 : decode prog_1_method_17_code 71 = .ok (.iload 6, 2) := by decide +kernel
theorem d_D_way_73 : decode prog_1_method_17_code 73 = .ok (.iconst 1, 1) := by decide +kernel
theorem d_D_way_74 : decode prog_1_method_17_code 74 = .ok (.iadd, 1) := by decide +kernel
theorem d_D_way_75 : decode prog_1_method_17_code 75 = .ok (.goto 5, 3) := by decide +kernel
theorem d_D_way_78 : decode prog_1_method_17_code 78 = .ok (.bipush (-2), 2) := by decide +kernel
theorem d_D_way_80 : decode prog_1_method_17_code 80 = .ok (.ireturn, 1) := by decide +kernel
theorem d_D_way_81 : decode prog_1_method_17_code 81 = .ok (.aload_n 0, 1) := by decide +kernel
theorem d_D_way_82 : decode prog_1_method_17_code 82 = .ok (.iload 5, 2) := by decide +kernel
theorem d_D_way_84 : decode prog_1_method_17_code 84 = .ok (.iload_n 2, 1) := by decide +kernel
theorem d_D_way_85 : decode prog_1_method_17_code 85 = .ok (.invokevirtual 143, 3) := by decide +kernel
theorem d_D_way_88 : decode prog_1_method_17_code 88 = .ok (.istore 5, 2) := by decide +kernel
theorem d_D_way_90 : decode prog_1_method_17_code 90 = .ok (.iinc 6 1, 3) := by decide +kernel
theorem d_D_way_93 : decode prog_1_method_17_code 93 = .ok (.goto (-49), 3) := by decide +kernel
theorem d_D_way_96 : decode prog_1_method_17_code 96 = .ok (.bipush (-2), 2) := by decide +kernel
theorem d_D_way_98 : decode prog_1_method_17_code 98 = .ok (.ireturn, 1) := by decide +kernel
theorem d_D_isSureBy_0 : decode prog_1_method_30_code 0 = .ok (.aload_n 0, 1) := by decide +kernel
theorem d_D_isSureBy_1 : decode prog_1_method_30_code 1 = .ok (.getfield 20, 3) := by decide +kernel
theorem d_D_isSureBy_4 : decode prog_1_method_30_code 4 = .ok (.iload_n 1, 1) := by decide +kernel
theorem d_D_isSureBy_5 : decode prog_1_method_30_code 5 = .ok (.aaload, 1) := by decide +kernel
theorem d_D_isSureBy_6 : decode prog_1_method_30_code 6 = .ok (.iload_n 2, 1) := by decide +kernel
theorem d_D_isSureBy_7 : decode prog_1_method_30_code 7 = .ok (.iaload, 1) := by decide +kernel
theorem d_D_isSureBy_8 : decode prog_1_method_30_code 8 = .ok (.iconst (-1), 1) := by decide +kernel
theorem d_D_isSureBy_9 : decode prog_1_method_30_code 9 = .ok (.if_icmp .eq 15, 3) := by decide +kernel
theorem d_D_isSureBy_12 : decode prog_1_method_30_code 12 = .ok (.aload_n 0, 1) := by decide +kernel
theorem d_D_isSureBy_13 : decode prog_1_method_30_code 13 = .ok (.getfield 20, 3) := by decide +kernel
theorem d_D_isSureBy_16 : decode prog_1_method_30_code 16 = .ok (.iload_n 1, 1) := by decide +kernel
theorem d_D_isSureBy_17 : decode prog_1_method_30_code 17 = .ok (.aaload, 1) := by decide +kernel
theorem d_D_isSureBy_18 : decode prog_1_method_30_code 18 = .ok (.iload_n 3, 1) := by decide +kernel
theorem d_D_isSureBy_19 : decode prog_1_method_30_code 19 = .ok (.iaload, 1) := by decide +kernel
theorem d_D_isSureBy_20 : decode prog_1_method_30_code 20 = .ok (.iconst (-1), 1) := by decide +kernel
theorem d_D_isSureBy_21 : decode prog_1_method_30_code 21 = .ok (.if_icmp .eq 27, 3) := by decide +kernel
theorem d_D_isSureBy_24 : decode prog_1_method_30_code 24 = .ok (.aload_n 0, 1) := by decide +kernel
theorem d_D_isSureBy_25 : decode prog_1_method_30_code 25 = .ok (.getfield 20, 3) := by decide +kernel
theorem d_D_isSureBy_28 : decode prog_1_method_30_code 28 = .ok (.iload_n 3, 1) := by decide +kernel
theorem d_D_isSureBy_29 : decode prog_1_method_30_code 29 = .ok (.aaload, 1) := by decide +kernel
theorem d_D_isSureBy_30 : decode prog_1_method_30_code 30 = .ok (.iload_n 1, 1) := by decide +kernel
theorem d_D_isSureBy_31 : decode prog_1_method_30_code 31 = .ok (.iaload, 1) := by decide +kernel
theorem d_D_isSureBy_32 : decode prog_1_method_30_code 32 = .ok (.iconst (-1), 1) := by decide +kernel
theorem d_D_isSureBy_33 : decode prog_1_method_30_code 33 = .ok (.if_icmp .eq 19, 3) := by decide +kernel
theorem d_D_isSureBy_36 : decode prog_1_method_30_code 36 = .ok (.aload_n 0, 1) := by decide +kernel
theorem d_D_isSureBy_37 : decode prog_1_method_30_code 37 = .ok (.getfield 20, 3) := by decide +kernel
theorem d_D_isSureBy_40 : decode prog_1_method_30_code 40 = .ok (.iload_n 2, 1) := by decide +kernel
theorem d_D_isSureBy_41 : decode prog_1_method_30_code 41 = .ok (.aaload, 1) := by decide +kernel
theorem d_D_isSureBy_42 : decode prog_1_method_30_code 42 = .ok (.iload_n 1, 1) := by decide +kernel
theorem d_D_isSureBy_43 : decode prog_1_method_30_code 43 = .ok (.iaload, 1) := by decide +kernel
theorem d_D_isSureBy_44 : decode prog_1_method_30_code 44 = .ok (.iconst (-1), 1) := by decide +kernel
theorem d_D_isSureBy_45 : decode prog_1_method_30_code 45 = .ok (.if_icmp .ne 7, 3) := by decide +kernel
theorem d_D_isSureBy_48 : decode prog_1_method_30_code 48 = .ok (.iconst 1, 1) := by decide +kernel
theorem d_D_isSureBy_49 : decode prog_1_method_30_code 49 = .ok (.goto 4, 3) := by decide +kernel
theorem d_D_isSureBy_52 : decode prog_1_method_30_code 52 = .ok (.iconst 0, 1) := by decide +kernel
theorem d_D_isSureBy_53 : decode prog_1_method_30_code 53 = .ok (.ireturn, 1) := by decide +kernel
theorem d_D_lead_0 : decode prog_1_method_34_code 0 = .ok (.iload_n 0, 1) := by decide +kernel
theorem d_D_lead_1 : decode prog_1_method_34_code 1 = .ok (.iconst (-1), 1) := by decide +kernel
theorem d_D_lead_2 : decode prog_1_method_34_code 2 = .ok (.if_icmp .eq 8, 3) := by decide +kernel
theorem d_D_lead_5 : decode prog_1_method_34_code 5 = .ok (.iload_n 1, 1) := by decide +kernel
theorem d_D_lead_6 : decode prog_1_method_34_code 6 = .ok (.iconst (-1), 1) := by decide +kernel
theorem d_D_lead_7 : decode prog_1_method_34_code 7 = .ok (.if_icmp .ne 7, 3) := by decide +kernel
theorem d_D_lead_10 : decode prog_1_method_34_code 10 = .ok (.iconst 0, 1) := by decide +kernel
theorem d_D_lead_11 : decode prog_1_method_34_code 11 = .ok (.goto 6, 3) := by decide +kernel
theorem d_D_lead_14 : decode prog_1_method_34_code 14 = .ok (.iload_n 0, 1) := by decide +kernel
theorem d_D_lead_15 : decode prog_1_method_34_code 15 = .ok (.iload_n 1, 1) := by decide +kernel
theorem d_D_lead_16 : decode prog_1_method_34_code 16 = .ok (.isub, 1) := by decide +kernel
theorem d_D_lead_17 : decode prog_1_method_34_code 17 = .ok (.ireturn, 1) := by decide +kernel
theorem d_D_least_0 : decode prog_1_method_18_code 0 = .ok (.aload_n 0, 1) := by decide +kernel
theorem d_D_least_1 : decode prog_1_method_18_code 1 = .ok (.iload_n 1, 1) := by decide +kernel
theorem d_D_least_2 : decode prog_1_method_18_code 2 = .ok (.iload_n 2, 1) := by decide +kernel
theorem d_D_least_3 : decode prog_1_method_18_code 3 = .ok (.invokevirtual 114, 3) := by decide +kernel
theorem d_D_least_6 : decode prog_1_method_18_code 6 = .ok (.istore_n 3, 1) := by decide +kernel
theorem d_D_least_7 : decode prog_1_method_18_code 7 = .ok (.iload_n 3, 1) := by decide +kernel
theorem d_D_least_8 : decode prog_1_method_18_code 8 = .ok (.ifCond .eq 5, 3) := by decide +kernel
theorem d_D_least_11 : decode prog_1_method_18_code 11 = .ok (.iload_n 3, 1) := by decide +kernel
theorem d_D_least_12 : decode prog_1_method_18_code 12 = .ok (.ireturn, 1) := by decide +kernel
theorem d_D_least_13 : decode prog_1_method_18_code 13 = .ok (.iconst 0, 1) := by decide +kernel
theorem d_D_least_14 : decode prog_1_method_18_code 14 = .ok (.istore 4, 2) := by decide +kernel
theorem d_D_least_16 : decode prog_1_method_18_code 16 = .ok (.iconst 0, 1) := by decide +kernel
theorem d_D_least_17 : decode prog_1_method_18_code 17 = .ok (.istore 5, 2) := by decide +kernel
theorem d_D_least_19 : decode prog_1_method_18_code 19 = .ok (.iload 5, 2) := by decide +kernel
theorem d_D_least_21 : decode prog_1_method_18_code 21 = .ok (.aload_n 0, 1) := by decide +kernel
theorem d_D_least_22 : decode prog_1_method_18_code 22 = .ok (.getfield 10, 3) := by decide +kernel
theorem d_D_least_25 : decode prog_1_method_18_code 25 = .ok (.getfield 56, 3) := by decide +kernel
theorem d_D_least_28 : decode prog_1_method_18_code 28 = .ok (.if_icmp .ge 88, 3) := by decide +kernel
theorem d_D_least_31 : decode prog_1_method_18_code 31 = .ok (.aload_n 0, 1) := by decide +kernel
theorem d_D_least_32 : decode prog_1_method_18_code 32 = .ok (.getfield 41, 3) := by decide +kernel
theorem d_D_least_35 : decode prog_1_method_18_code 35 = .ok (.iload 5, 2) := by decide +kernel
theorem d_D_least_37 : decode prog_1_method_18_code 37 = .ok (.baload, 1) := by decide +kernel
theorem d_D_least_38 : decode prog_1_method_18_code 38 = .ok (.ifCond .eq 72, 3) := by decide +kernel
theorem d_D_least_41 : decode prog_1_method_18_code 41 = .ok (.aload_n 0, 1) := by decide +kernel
theorem d_D_least_42 : decode prog_1_method_18_code 42 = .ok (.iload 5, 2) := by decide +kernel
theorem d_D_least_44 : decode prog_1_method_18_code 44 = .ok (.iload_n 1, 1) := by decide +kernel
theorem d_D_least_45 : decode prog_1_method_18_code 45 = .ok (.iload_n 2, 1) := by decide +kernel
theorem d_D_least_46 : decode prog_1_method_18_code 46 = .ok (.invokevirtual 146, 3) := by decide +kernel
theorem d_D_least_49 : decode prog_1_method_18_code 49 = .ok (.ifCond .eq 5, 3) := by decide +kernel
theorem d_D_least_52 : decode prog_1_method_18_code 52 = .ok (.iconst (-1), 1) := by decide +kernel
theorem d_D_least_53 : decode prog_1_method_18_code 53 = .ok (.ireturn, 1) := by decide +kernel
theorem d_D_least_54 : decode prog_1_method_18_code 54 = .ok (.iload 4, 2) := by decide +kernel
theorem d_D_least_56 : decode prog_1_method_18_code 56 = .ok (.aload_n 0, 1) := by decide +kernel
theorem d_D_least_57 : decode prog_1_method_18_code 57 = .ok (.getfield 20, 3) := by decide +kernel
theorem d_D_least_60 : decode prog_1_method_18_code 60 = .ok (.iload 5, 2) := by decide +kernel
theorem d_D_least_62 : decode prog_1_method_18_code 62 = .ok (.aaload, 1) := by decide +kernel
theorem d_D_least_63 : decode prog_1_method_18_code 63 = .ok (.iload_n 2, 1) := by decide +kernel
theorem d_D_least_64 : decode prog_1_method_18_code 64 = .ok (.iaload, 1) := by decide +kernel
theorem d_D_least_65 : decode prog_1_method_18_code 65 = .ok (.aload_n 0, 1) := by decide +kernel
theorem d_D_least_66 : decode prog_1_method_18_code 66 = .ok (.getfield 20, 3) := by decide +kernel
theorem d_D_least_69 : decode prog_1_method_18_code 69 = .ok (.iload 5, 2) := by decide +kernel
theorem d_D_least_71 : decode prog_1_method_18_code 71 = .ok (.aaload, 1) := by decide +kernel
theorem d_D_least_72 : decode prog_1_method_18_code 72 = .ok (.iload_n 1, 1) := by decide +kernel
theorem d_D_least_73 : decode prog_1_method_18_code 73 = .ok (.iaload, 1) := by decide +kernel
theorem d_D_least_74 : decode prog_1_method_18_code 74 = .ok (.invokestatic 150, 3) := by decide +kernel
theorem d_D_least_77 : decode prog_1_method_18_code 77 = .ok (.invokestatic 153, 3) := by decide +kernel
theorem d_D_least_80 : decode prog_1_method_18_code 80 = .ok (.istore 4, 2) := by decide +kernel
theorem d_D_least_82 : decode prog_1_method_18_code 82 = .ok (.iload 4, 2) := by decide +kernel
theorem d_D_least_84 : decode prog_1_method_18_code 84 = .ok (.aload_n 0, 1) := by decide +kernel
theorem d_D_least_85 : decode prog_1_method_18_code 85 = .ok (.getfield 20, 3) := by decide +kernel
theorem d_D_least_88 : decode prog_1_method_18_code 88 = .ok (.iload_n 1, 1) := by decide +kernel
theorem d_D_least_89 : decode prog_1_method_18_code 89 = .ok (.aaload, 1) := by decide +kernel
theorem d_D_least_90 : decode prog_1_method_18_code 90 = .ok (.iload 5, 2) := by decide +kernel
theorem d_D_least_92 : decode prog_1_method_18_code 92 = .ok (.iaload, 1) := by decide +kernel
theorem d_D_least_93 : decode prog_1_method_18_code 93 = .ok (.aload_n 0, 1) := by decide +kernel
theorem d_D_least_94 : decode prog_1_method_18_code 94 = .ok (.getfield 20, 3) := by decide +kernel
theorem d_D_least_97 : decode prog_1_method_18_code 97 = .ok (.iload_n 2, 1) := by decide +kernel
theorem d_D_least_98 : decode prog_1_method_18_code 98 = .ok (.aaload, 1) := by decide +kernel
theorem d_D_least_99 : decode prog_1_method_18_code 99 = .ok (.iload 5, 2) := by decide +kernel
theorem d_D_least_101 : decode prog_1_method_18_code 101 = .ok (.iaload, 1) := by decide +kernel
theorem d_D_least_102 : decode prog_1_method_18_code 102 = .ok (.invokestatic 150, 3) := by decide +kernel
theorem d_D_least_105 : decode prog_1_method_18_code 105 = .ok (.invokestatic 153, 3) := by decide +kernel
theorem d_D_least_108 : decode prog_1_method_18_code 108 = .ok (.istore 4, 2) := by decide +kernel
theorem d_D_least_110 : decode prog_1_method_18_code 110 = .ok (.iinc 5 1, 3) := by decide +kernel
theorem d_D_least_113 : decode prog_1_method_18_code 113 = .ok (.goto (-94), 3) := by decide +kernel
theorem d_D_least_116 : decode prog_1_method_18_code 116 = .ok (.iload 4, 2) := by decide +kernel
theorem d_D_least_118 : decode prog_1_method_18_code 118 = .ok (.ireturn, 1) := by decide +kernel
theorem d_D_most_0 : decode prog_1_method_19_code 0 = .ok (.aload_n 0, 1) := by decide +kernel
theorem d_D_most_1 : decode prog_1_method_19_code 1 = .ok (.iload_n 1, 1) := by decide +kernel
theorem d_D_most_2 : decode prog_1_method_19_code 2 = .ok (.iload_n 2, 1) := by decide +kernel
theorem d_D_most_3 : decode prog_1_method_19_code 3 = .ok (.invokevirtual 114, 3) := by decide +kernel
theorem d_D_most_6 : decode prog_1_method_19_code 6 = .ok (.istore_n 3, 1) := by decide +kernel
theorem d_D_most_7 : decode prog_1_method_19_code 7 = .ok (.iload_n 3, 1) := by decide +kernel
theorem d_D_most_8 : decode prog_1_method_19_code 8 = .ok (.ifCond .eq 5, 3) := by decide +kernel
theorem d_D_most_11 : decode prog_1_method_19_code 11 = .ok (.iload_n 3, 1) := by decide +kernel
theorem d_D_most_12 : decode prog_1_method_19_code 12 = .ok (.ireturn, 1) := by decide +kernel
theorem d_D_most_13 : decode prog_1_method_19_code 13 = .ok (.iconst (-1), 1) := by decide +kernel
theorem d_D_most_14 : decode prog_1_method_19_code 14 = .ok (.istore 4, 2) := by decide +kernel
theorem d_D_most_16 : decode prog_1_method_19_code 16 = .ok (.iconst 0, 1) := by decide +kernel
theorem d_D_most_17 : decode prog_1_method_19_code 17 = .ok (.istore 5, 2) := by decide +kernel
theorem d_D_most_19 : decode prog_1_method_19_code 19 = .ok (.iload 5, 2) := by decide +kernel
theorem d_D_most_21 : decode prog_1_method_19_code 21 = .ok (.aload_n 0, 1) := by decide +kernel
theorem d_D_most_22 : decode prog_1_method_19_code 22 = .ok (.getfield 10, 3) := by decide +kernel
theorem d_D_most_25 : decode prog_1_method_19_code 25 = .ok (.getfield 56, 3) := by decide +kernel
theorem d_D_most_28 : decode prog_1_method_19_code 28 = .ok (.if_icmp .ge 47, 3) := by decide +kernel
theorem d_D_most_31 : decode prog_1_method_19_code 31 = .ok (.aload_n 0, 1) := by decide +kernel
theorem d_D_most_32 : decode prog_1_method_19_code 32 = .ok (.getfield 41, 3) := by decide +kernel
theorem d_D_most_35 : decode prog_1_method_19_code 35 = .ok (.iload 5, 2) := by decide +kernel
theorem d_D_most_37 : decode prog_1_method_19_code 37 = .ok (.baload, 1) := by decide +kernel
theorem d_D_most_38 : decode prog_1_method_19_code 38 = .ok (.ifCond .eq 31, 3) := by decide +kernel
theorem d_D_most_41 : decode prog_1_method_19_code 41 = .ok (.iload 4, 2) := by decide +kernel
theorem d_D_most_43 : decode prog_1_method_19_code 43 = .ok (.aload_n 0, 1) := by decide +kernel
theorem d_D_most_44 : decode prog_1_method_19_code 44 = .ok (.getfield 20, 3) := by decide +kernel
theorem d_D_most_47 : decode prog_1_method_19_code 47 = .ok (.iload_n 1, 1) := by decide +kernel
theorem d_D_most_48 : decode prog_1_method_19_code 48 = .ok (.aaload, 1) := by decide +kernel
theorem d_D_most_49 : decode prog_1_method_19_code 49 = .ok (.iload 5, 2) := by decide +kernel
theorem d_D_most_51 : decode prog_1_method_19_code 51 = .ok (.iaload, 1) := by decide +kernel
theorem d_D_most_52 : decode prog_1_method_19_code 52 = .ok (.aload_n 0, 1) := by decide +kernel
theorem d_D_most_53 : decode prog_1_method_19_code 53 = .ok (.getfield 20, 3) := by decide +kernel
theorem d_D_most_56 : decode prog_1_method_19_code 56 = .ok (.iload 5, 2) := by decide +kernel
theorem d_D_most_58 : decode prog_1_method_19_code 58 = .ok (.aaload, 1) := by decide +kernel
theorem d_D_most_59 : decode prog_1_method_19_code 59 = .ok (.iload_n 2, 1) := by decide +kernel
theorem d_D_most_60 : decode prog_1_method_19_code 60 = .ok (.iaload, 1) := by decide +kernel
theorem d_D_most_61 : decode prog_1_method_19_code 61 = .ok (.invokestatic 158, 3) := by decide +kernel
theorem d_D_most_64 : decode prog_1_method_19_code 64 = .ok (.invokestatic 161, 3) := by decide +kernel
theorem d_D_most_67 : decode prog_1_method_19_code 67 = .ok (.istore 4, 2) := by decide +kernel
theorem d_D_most_69 : decode prog_1_method_19_code 69 = .ok (.iinc 5 1, 3) := by decide +kernel
theorem d_D_most_72 : decode prog_1_method_19_code 72 = .ok (.goto (-53), 3) := by decide +kernel
theorem d_D_most_75 : decode prog_1_method_19_code 75 = .ok (.iload 4, 2) := by decide +kernel
theorem d_D_most_77 : decode prog_1_method_19_code 77 = .ok (.ireturn, 1) := by decide +kernel
theorem d_D_count_0 : decode prog_1_method_20_code 0 = .ok (.iload_n 1, 1) := by decide +kernel
theorem d_D_count_1 : decode prog_1_method_20_code 1 = .ok (.tableswitch 65 0 3 #[31, 39, 47, 52], 31) := by decide +kernel
theorem d_D_count_32 : decode prog_1_method_20_code 32 = .ok (.aload_n 0, 1) := by decide +kernel
theorem d_D_count_33 : decode prog_1_method_20_code 33 = .ok (.getfield 10, 3) := by decide +kernel
theorem d_D_count_36 : decode prog_1_method_20_code 36 = .ok (.getfield 56, 3) := by decide +kernel
theorem d_D_count_39 : decode prog_1_method_20_code 39 = .ok (.ireturn, 1) := by decide +kernel
theorem d_D_count_40 : decode prog_1_method_20_code 40 = .ok (.aload_n 0, 1) := by decide +kernel
theorem d_D_count_41 : decode prog_1_method_20_code 41 = .ok (.getfield 10, 3) := by decide +kernel
theorem d_D_count_44 : decode prog_1_method_20_code 44 = .ok (.getfield 164, 3) := by decide +kernel
theorem d_D_count_47 : decode prog_1_method_20_code 47 = .ok (.ireturn, 1) := by decide +kernel
theorem d_D_count_48 : decode prog_1_method_20_code 48 = .ok (.aload_n 0, 1) := by decide +kernel
theorem d_D_count_49 : decode prog_1_method_20_code 49 = .ok (.getfield 45, 3) := by decide +kernel
theorem d_D_count_52 : decode prog_1_method_20_code 52 = .ok (.ireturn, 1) := by decide +kernel
theorem d_D_count_53 : decode prog_1_method_20_code 53 = .ok (.aload_n 0, 1) := by decide +kernel
theorem d_D_count_54 : decode prog_1_method_20_code 54 = .ok (.getfield 49, 3) := by decide +kernel
theorem d_D_count_57 : decode prog_1_method_20_code 57 = .ok (.ifCond .eq 7, 3) := by decide +kernel
theorem d_D_count_60 : decode prog_1_method_20_code 60 = .ok (.iconst 1, 1) := by decide +kernel
theorem d_D_count_61 : decode prog_1_method_20_code 61 = .ok (.goto 4, 3) := by decide +kernel
theorem d_D_count_64 : decode prog_1_method_20_code 64 = .ok (.iconst 0, 1) := by decide +kernel
theorem d_D_count_65 : decode prog_1_method_20_code 65 = .ok (.ireturn, 1) := by decide +kernel
theorem d_D_count_66 : decode prog_1_method_20_code 66 = .ok (.bipush (-2), 2) := by decide +kernel
theorem d_D_count_68 : decode prog_1_method_20_code 68 = .ok (.ireturn, 1) := by decide +kernel
theorem d_R_in_0 : decode prog_6_method_2_code 0 = .ok (.iload_n 0, 1) := by decide +kernel
theorem d_R_in_1 : decode prog_6_method_2_code 1 = .ok (.iload_n 1, 1) := by decide +kernel
theorem d_R_in_2 : decode prog_6_method_2_code 2 = .ok (.if_icmp .lt 12, 3) := by decide +kernel
theorem d_R_in_5 : decode prog_6_method_2_code 5 = .ok (.iload_n 0, 1) := by decide +kernel
theorem d_R_in_6 : decode prog_6_method_2_code 6 = .ok (.iload_n 2, 1) := by decide +kernel
theorem d_R_in_7 : decode prog_6_method_2_code 7 = .ok (.if_icmp .gt 7, 3) := by decide +kernel
theorem d_R_in_10 : decode prog_6_method_2_code 10 = .ok (.iconst 1, 1) := by decide +kernel
theorem d_R_in_11 : decode prog_6_method_2_code 11 = .ok (.goto 4, 3) := by decide +kernel
theorem d_R_in_14 : decode prog_6_method_2_code 14 = .ok (.iconst 0, 1) := by decide +kernel
theorem d_R_in_15 : decode prog_6_method_2_code 15 = .ok (.ireturn, 1) := by decide +kernel
theorem d_R_init_0 : decode prog_6_method_3_code 0 = .ok (.aload_n 0, 1) := by decide +kernel
theorem d_R_init_1 : decode prog_6_method_3_code 1 = .ok (.invokespecial 7, 3) := by decide +kernel
theorem d_R_init_4 : decode prog_6_method_3_code 4 = .ok (.aload_n 0, 1) := by decide +kernel
theorem d_R_init_5 : decode prog_6_method_3_code 5 = .ok (.sipush 256, 3) := by decide +kernel
theorem d_R_init_8 : decode prog_6_method_3_code 8 = .ok (.newarray .int, 2) := by decide +kernel
theorem d_R_init_10 : decode prog_6_method_3_code 10 = .ok (.putfield 13, 3) := by decide +kernel
theorem d_R_init_13 : decode prog_6_method_3_code 13 = .ok (.aload_n 0, 1) := by decide +kernel
theorem d_R_init_14 : decode prog_6_method_3_code 14 = .ok (.bipush 16, 2) := by decide +kernel
theorem d_R_init_16 : decode prog_6_method_3_code 16 = .ok (.newarray .int, 2) := by decide +kernel
theorem d_R_init_18 : decode prog_6_method_3_code 18 = .ok (.putfield 17, 3) := by decide +kernel
theorem d_R_init_21 : decode prog_6_method_3_code 21 = .ok (.aload_n 0, 1) := by decide +kernel
theorem d_R_init_22 : decode prog_6_method_3_code 22 = .ok (.bipush 16, 2) := by decide +kernel
theorem d_R_init_24 : decode prog_6_method_3_code 24 = .ok (.newarray .boolean, 2) := by decide +kernel
theorem d_R_init_26 : decode prog_6_method_3_code 26 = .ok (.putfield 20, 3) := by decide +kernel
theorem d_R_init_29 : decode prog_6_method_3_code 29 = .ok (.aload_n 0, 1) := by decide +kernel
theorem d_R_init_30 : decode prog_6_method_3_code 30 = .ok (.sipush 256, 3) := by decide +kernel
theorem d_R_init_33 : decode prog_6_method_3_code 33 = .ok (.newarray .int, 2) := by decide +kernel
theorem d_R_init_35 : decode prog_6_method_3_code 35 = .ok (.putfield 24, 3) := by decide +kernel
theorem d_R_init_38 : decode prog_6_method_3_code 38 = .ok (.aload_n 0, 1) := by decide +kernel
theorem d_R_init_39 : decode prog_6_method_3_code 39 = .ok (.sipush 512, 3) := by decide +kernel
theorem d_R_init_42 : decode prog_6_method_3_code 42 = .ok (.newarray .int, 2) := by decide +kernel
theorem d_R_init_44 : decode prog_6_method_3_code 44 = .ok (.putfield 27, 3) := by decide +kernel
theorem d_R_init_47 : decode prog_6_method_3_code 47 = .ok (.aload_n 0, 1) := by decide +kernel
theorem d_R_init_48 : decode prog_6_method_3_code 48 = .ok (.sipush 512, 3) := by decide +kernel
theorem d_R_init_51 : decode prog_6_method_3_code 51 = .ok (.newarray .int, 2) := by decide +kernel
theorem d_R_init_53 : decode prog_6_method_3_code 53 = .ok (.putfield 30, 3) := by decide +kernel
theorem d_R_init_56 : decode prog_6_method_3_code 56 = .ok (.aload_n 0, 1) := by decide +kernel
theorem d_R_init_57 : decode prog_6_method_3_code 57 = .ok (.sipush 512, 3) := by decide +kernel
theorem d_R_init_60 : decode prog_6_method_3_code 60 = .ok (.newarray .int, 2) := by decide +kernel
theorem d_R_init_62 : decode prog_6_method_3_code 62 = .ok (.putfield 33, 3) := by decide +kernel
theorem d_R_init_65 : decode prog_6_method_3_code 65 = .ok (.aload_n 0, 1) := by decide +kernel
theorem d_R_init_66 : decode prog_6_method_3_code 66 = .ok (.bipush 16, 2) := by decide +kernel
theorem d_R_init_68 : decode prog_6_method_3_code 68 = .ok (.newarray .boolean, 2) := by decide +kernel
theorem d_R_init_70 : decode prog_6_method_3_code 70 = .ok (.putfield 36, 3) := by decide +kernel
theorem d_R_init_73 : decode prog_6_method_3_code 73 = .ok (.aload_n 0, 1) := by decide +kernel
theorem d_R_init_74 : decode prog_6_method_3_code 74 = .ok (.sipush 256, 3) := by decide +kernel
theorem d_R_init_77 : decode prog_6_method_3_code 77 = .ok (.newarray .int, 2) := by decide +kernel
theorem d_R_init_79 : decode prog_6_method_3_code 79 = .ok (.putfield 39, 3) := by decide +kernel
theorem d_R_init_82 : decode prog_6_method_3_code 82 = .ok (.aload_n 0, 1) := by decide +kernel
theorem d_R_init_83 : decode prog_6_method_3_code 83 = .ok (.sipush 256, 3) := by decide +kernel
theorem d_R_init_86 : decode prog_6_method_3_code 86 = .ok (.newarray .int, 2) := by decide +kernel
theorem d_R_init_88 : decode prog_6_method_3_code 88 = .ok (.putfield 42, 3) := by decide +kernel
theorem d_R_init_91 : decode prog_6_method_3_code 91 = .ok (.aload_n 0, 1) := by decide +kernel
theorem d_R_init_92 : decode prog_6_method_3_code 92 = .ok (.sipush 256, 3) := by decide +kernel
theorem d_R_init_95 : decode prog_6_method_3_code 95 = .ok (.newarray .int, 2) := by decide +kernel
theorem d_R_init_97 : decode prog_6_method_3_code 97 = .ok (.putfield 45, 3) := by decide +kernel
theorem d_R_init_100 : decode prog_6_method_3_code 100 = .ok (.aload_n 0, 1) := by decide +kernel
theorem d_R_init_101 : decode prog_6_method_3_code 101 = .ok (.sipush 256, 3) := by decide +kernel
theorem d_R_init_104 : decode prog_6_method_3_code 104 = .ok (.newarray .int, 2) := by decide +kernel
theorem d_R_init_106 : decode prog_6_method_3_code 106 = .ok (.putfield 48, 3) := by decide +kernel
theorem d_R_init_109 : decode prog_6_method_3_code 109 = .ok (.aload_n 0, 1) := by decide +kernel
theorem d_R_init_110 : decode prog_6_method_3_code 110 = .ok (.sipush 4096, 3) := by decide +kernel
theorem d_R_init_113 : decode prog_6_method_3_code 113 = .ok (.newarray .int, 2) := by decide +kernel
theorem d_R_init_115 : decode prog_6_method_3_code 115 = .ok (.putfield 51, 3) := by decide +kernel
theorem d_R_init_118 : decode prog_6_method_3_code 118 = .ok (.aload_n 0, 1) := by decide +kernel
theorem d_R_init_119 : decode prog_6_method_3_code 119 = .ok (.sipush 4096, 3) := by decide +kernel
theorem d_R_init_122 : decode prog_6_method_3_code 122 = .ok (.newarray .int, 2) := by decide +kernel
theorem d_R_init_124 : decode prog_6_method_3_code 124 = .ok (.putfield 54, 3) := by decide +kernel
theorem d_R_init_127 : decode prog_6_method_3_code 127 = .ok (.aload_n 0, 1) := by decide +kernel
theorem d_R_init_128 : decode prog_6_method_3_code 128 = .ok (.sipush 4096, 3) := by decide +kernel
theorem d_R_init_131 : decode prog_6_method_3_code 131 = .ok (.newarray .int, 2) := by decide +kernel
theorem d_R_init_133 : decode prog_6_method_3_code 133 = .ok (.putfield 57, 3) := by decide +kernel
theorem d_R_init_136 : decode prog_6_method_3_code 136 = .ok (.aload_n 0, 1) := by decide +kernel
theorem d_R_init_137 : decode prog_6_method_3_code 137 = .ok (.sipush 4096, 3) := by decide +kernel
theorem d_R_init_140 : decode prog_6_method_3_code 140 = .ok (.newarray .int, 2) := by decide +kernel
theorem d_R_init_142 : decode prog_6_method_3_code 142 = .ok (.putfield 60, 3) := by decide +kernel
theorem d_R_init_145 : decode prog_6_method_3_code 145 = .ok (.aload_n 0, 1) := by decide +kernel
theorem d_R_init_146 : decode prog_6_method_3_code 146 = .ok (.sipush 256, 3) := by decide +kernel
theorem d_R_init_149 : decode prog_6_method_3_code 149 = .ok (.newarray .int, 2) := by decide +kernel
theorem d_R_init_151 : decode prog_6_method_3_code 151 = .ok (.putfield 63, 3) := by decide +kernel
theorem d_R_init_154 : decode prog_6_method_3_code 154 = .ok (.aload_n 0, 1) := by decide +kernel
theorem d_R_init_155 : decode prog_6_method_3_code 155 = .ok (.sipush 256, 3) := by decide +kernel
theorem d_R_init_158 : decode prog_6_method_3_code 158 = .ok (.newarray .int, 2) := by decide +kernel
theorem d_R_init_160 : decode prog_6_method_3_code 160 = .ok (.putfield 66, 3) := by decide +kernel
theorem d_R_init_163 : decode prog_6_method_3_code 163 = .ok (.aload_n 0, 1) := by decide +kernel
theorem d_R_init_164 : decode prog_6_method_3_code 164 = .ok (.iconst 0, 1) := by decide +kernel
theorem d_R_init_165 : decode prog_6_method_3_code 165 = .ok (.putfield 1, 3) := by decide +kernel
theorem d_R_init_168 : decode prog_6_method_3_code 168 = .ok (.iconst 0, 1) := by decide +kernel
theorem d_R_init_169 : decode prog_6_method_3_code 169 = .ok (.istore_n 1, 1) := by decide +kernel
theorem d_R_init_170 : decode prog_6_method_3_code 170 = .ok (.iload_n 1, 1) := by decide +kernel
theorem d_R_init_171 : decode prog_6_method_3_code 171 = .ok (.sipush 256, 3) := by decide +kernel
theorem d_R_init_174 : decode prog_6_method_3_code 174 = .ok (.if_icmp .ge 17, 3) := by decide +kernel
theorem d_R_init_177 : decode prog_6_method_3_code 177 = .ok (.aload_n 0, 1) := by decide +kernel
theorem d_R_init_178 : decode prog_6_method_3_code 178 = .ok (.getfield 13, 3) := by decide +kernel
theorem d_R_init_181 : decode prog_6_method_3_code 181 = .ok (.iload_n 1, 1) := by decide +kernel
theorem d_R_init_182 : decode prog_6_method_3_code 182 = .ok (.ldc 69, 2) := by decide +kernel
theorem d_R_init_184 : decode prog_6_method_3_code 184 = .ok (.iastore, 1) := by decide +kernel
theorem d_R_init_185 : decode prog_6_method_3_code 185 = .ok (.iinc 1 1, 3) := by decide +kernel
theorem d_R_init_188 : decode prog_6_method_3_code 188 = .ok (.goto (-18), 3) := by decide +kernel
theorem d_R_init_191 : decode prog_6_method_3_code 191 = .ok (.return_, 1) := by decide +kernel
