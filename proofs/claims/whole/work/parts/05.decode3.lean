theorem d_R_noNode_0 : decode prog_6_method_4_code 0 = .ok (.iload_n 1, 1) := by decide +kernel
theorem d_R_noNode_1 : decode prog_6_method_4_code 1 = .ok (.iconst 0, 1) := by decide +kernel
theorem d_R_noNode_2 : decode prog_6_method_4_code 2 = .ok (.aload_n 0, 1) := by decide +kernel
theorem d_R_noNode_3 : decode prog_6_method_4_code 3 = .ok (.getfield 70, 3) := by decide +kernel
theorem d_R_noNode_6 : decode prog_6_method_4_code 6 = .ok (.iconst 1, 1) := by decide +kernel
theorem d_R_noNode_7 : decode prog_6_method_4_code 7 = .ok (.isub, 1) := by decide +kernel
theorem d_R_noNode_8 : decode prog_6_method_4_code 8 = .ok (.invokestatic 73, 3) := by decide +kernel
theorem d_R_noNode_11 : decode prog_6_method_4_code 11 = .ok (.ifCond .ne 7, 3) := by decide +kernel
theorem d_R_noNode_14 : decode prog_6_method_4_code 14 = .ok (.iconst 1, 1) := by decide +kernel
theorem d_R_noNode_15 : decode prog_6_method_4_code 15 = .ok (.goto 4, 3) := by decide +kernel
theorem d_R_noNode_18 : decode prog_6_method_4_code 18 = .ok (.iconst 0, 1) := by decide +kernel
theorem d_R_noNode_19 : decode prog_6_method_4_code 19 = .ok (.ireturn, 1) := by decide +kernel
theorem d_R_noPair_0 : decode prog_6_method_5_code 0 = .ok (.aload_n 0, 1) := by decide +kernel
theorem d_R_noPair_1 : decode prog_6_method_5_code 1 = .ok (.iload_n 1, 1) := by decide +kernel
theorem d_R_noPair_2 : decode prog_6_method_5_code 2 = .ok (.invokevirtual 77, 3) := by decide +kernel
theorem d_R_noPair_5 : decode prog_6_method_5_code 5 = .ok (.ifCond .ne 11, 3) := by decide +kernel
theorem d_R_noPair_8 : decode prog_6_method_5_code 8 = .ok (.aload_n 0, 1) := by decide +kernel
theorem d_R_noPair_9 : decode prog_6_method_5_code 9 = .ok (.iload_n 2, 1) := by decide +kernel
theorem d_R_noPair_10 : decode prog_6_method_5_code 10 = .ok (.invokevirtual 77, 3) := by decide +kernel
theorem d_R_noPair_13 : decode prog_6_method_5_code 13 = .ok (.ifCond .eq 7, 3) := by decide +kernel
theorem d_R_noPair_16 : decode prog_6_method_5_code 16 = .ok (.iconst 1, 1) := by decide +kernel
theorem d_R_noPair_17 : decode prog_6_method_5_code 17 = .ok (.goto 4, 3) := by decide +kernel
theorem d_R_noPair_20 : decode prog_6_method_5_code 20 = .ok (.iconst 0, 1) := by decide +kernel
theorem d_R_noPair_21 : decode prog_6_method_5_code 21 = .ok (.ireturn, 1) := by decide +kernel
theorem d_R_node_0 : decode prog_6_method_6_code 0 = .ok (.aload_n 0, 1) := by decide +kernel
theorem d_R_node_1 : decode prog_6_method_6_code 1 = .ok (.iconst 0, 1) := by decide +kernel
theorem d_R_node_2 : decode prog_6_method_6_code 2 = .ok (.putfield 1, 3) := by decide +kernel
theorem d_R_node_5 : decode prog_6_method_6_code 5 = .ok (.aload_n 0, 1) := by decide +kernel
theorem d_R_node_6 : decode prog_6_method_6_code 6 = .ok (.getfield 70, 3) := by decide +kernel
theorem d_R_node_9 : decode prog_6_method_6_code 9 = .ok (.bipush 16, 2) := by decide +kernel
theorem d_R_node_11 : decode prog_6_method_6_code 11 = .ok (.if_icmp .ne 6, 3) := by decide +kernel
theorem d_R_node_14 : decode prog_6_method_6_code 14 = .ok (.bipush (-3), 2) := by decide +kernel
theorem d_R_node_16 : decode prog_6_method_6_code 16 = .ok (.ireturn, 1) := by decide +kernel
theorem d_R_node_17 : decode prog_6_method_6_code 17 = .ok (.aload_n 0, 1) := by decide +kernel
theorem d_R_node_18 : decode prog_6_method_6_code 18 = .ok (.getfield 17, 3) := by decide +kernel
theorem d_R_node_21 : decode prog_6_method_6_code 21 = .ok (.aload_n 0, 1) := by decide +kernel
theorem d_R_node_22 : decode prog_6_method_6_code 22 = .ok (.getfield 70, 3) := by decide +kernel
theorem d_R_node_25 : decode prog_6_method_6_code 25 = .ok (.aload_n 0, 1) := by decide +kernel
theorem d_R_node_26 : decode prog_6_method_6_code 26 = .ok (.getfield 70, 3) := by decide +kernel
theorem d_R_node_29 : decode prog_6_method_6_code 29 = .ok (.iastore, 1) := by decide +kernel
theorem d_R_node_30 : decode prog_6_method_6_code 30 = .ok (.aload_n 0, 1) := by decide +kernel
theorem d_R_node_31 : decode prog_6_method_6_code 31 = .ok (.dup, 1) := by decide +kernel
theorem d_R_node_32 : decode prog_6_method_6_code 32 = .ok (.getfield 70, 3) := by decide +kernel
theorem d_R_node_35 : decode prog_6_method_6_code 35 = .ok (.iconst 1, 1) := by decide +kernel
theorem d_R_node_36 : decode prog_6_method_6_code 36 = .ok (.iadd, 1) := by decide +kernel
theorem d_R_node_37 : decode prog_6_method_6_code 37 = .ok (.putfield 70, 3) := by decide +kernel
theorem d_R_node_40 : decode prog_6_method_6_code 40 = .ok (.aload_n 0, 1) := by decide +kernel
theorem d_R_node_41 : decode prog_6_method_6_code 41 = .ok (.iconst 0, 1) := by decide +kernel
theorem d_R_node_42 : decode prog_6_method_6_code 42 = .ok (.putfield 81, 3) := by decide +kernel
theorem d_R_node_45 : decode prog_6_method_6_code 45 = .ok (.aload_n 0, 1) := by decide +kernel
theorem d_R_node_46 : decode prog_6_method_6_code 46 = .ok (.getfield 70, 3) := by decide +kernel
theorem d_R_node_49 : decode prog_6_method_6_code 49 = .ok (.iconst 1, 1) := by decide +kernel
theorem d_R_node_50 : decode prog_6_method_6_code 50 = .ok (.isub, 1) := by decide +kernel
theorem d_R_node_51 : decode prog_6_method_6_code 51 = .ok (.ireturn, 1) := by decide +kernel
theorem d_R_arc_0 : decode prog_6_method_7_code 0 = .ok (.aload_n 0, 1) := by decide +kernel
theorem d_R_arc_1 : decode prog_6_method_7_code 1 = .ok (.iconst 0, 1) := by decide +kernel
theorem d_R_arc_2 : decode prog_6_method_7_code 2 = .ok (.putfield 1, 3) := by decide +kernel
theorem d_R_arc_5 : decode prog_6_method_7_code 5 = .ok (.aload_n 0, 1) := by decide +kernel
theorem d_R_arc_6 : decode prog_6_method_7_code 6 = .ok (.iload_n 1, 1) := by decide +kernel
theorem d_R_arc_7 : decode prog_6_method_7_code 7 = .ok (.iload_n 2, 1) := by decide +kernel
theorem d_R_arc_8 : decode prog_6_method_7_code 8 = .ok (.invokevirtual 85, 3) := by decide +kernel
theorem d_R_arc_11 : decode prog_6_method_7_code 11 = .ok (.ifCond .ne 19, 3) := by decide +kernel
theorem d_R_arc_14 : decode prog_6_method_7_code 14 = .ok (.iload_n 1, 1) := by decide +kernel
theorem d_R_arc_15 : decode prog_6_method_7_code 15 = .ok (.iload_n 2, 1) := by decide +kernel
theorem d_R_arc_16 : decode prog_6_method_7_code 16 = .ok (.if_icmp .eq 14, 3) := by decide +kernel
theorem d_R_arc_19 : decode prog_6_method_7_code 19 = .ok (.iload_n 3, 1) := by decide +kernel
theorem d_R_arc_20 : decode prog_6_method_7_code 20 = .ok (.iconst 1, 1) := by decide +kernel
theorem d_R_arc_21 : decode prog_6_method_7_code 21 = .ok (.sipush 1000, 3) := by decide +kernel
theorem d_R_arc_24 : decode prog_6_method_7_code 24 = .ok (.invokestatic 73, 3) := by decide +kernel
theorem d_R_arc_27 : decode prog_6_method_7_code 27 = .ok (.ifCond .ne 6, 3) := by decide +kernel
theorem d_R_arc_30 : decode prog_6_method_7_code 30 = .ok (.bipush (-2), 2) := by decide +kernel
theorem d_R_arc_32 : decode prog_6_method_7_code 32 = .ok (.ireturn, 1) := by decide +kernel
theorem d_R_arc_33 : decode prog_6_method_7_code 33 = .ok (.aload_n 0, 1) := by decide +kernel
theorem d_R_arc_34 : decode prog_6_method_7_code 34 = .ok (.getfield 13, 3) := by decide +kernel
theorem d_R_arc_37 : decode prog_6_method_7_code 37 = .ok (.bipush 16, 2) := by decide +kernel
theorem d_R_arc_39 : decode prog_6_method_7_code 39 = .ok (.iload_n 1, 1) := by decide +kernel
theorem d_R_arc_40 : decode prog_6_method_7_code 40 = .ok (.imul, 1) := by decide +kernel
theorem d_R_arc_41 : decode prog_6_method_7_code 41 = .ok (.iload_n 2, 1) := by decide +kernel
theorem d_R_arc_42 : decode prog_6_method_7_code 42 = .ok (.iadd, 1) := by decide +kernel
theorem d_R_arc_43 : decode prog_6_method_7_code 43 = .ok (.iaload, 1) := by decide +kernel
theorem d_R_arc_44 : decode prog_6_method_7_code 44 = .ok (.istore 4, 2) := by decide +kernel
theorem d_R_arc_46 : decode prog_6_method_7_code 46 = .ok (.aload_n 0, 1) := by decide +kernel
theorem d_R_arc_47 : decode prog_6_method_7_code 47 = .ok (.getfield 13, 3) := by decide +kernel
theorem d_R_arc_50 : decode prog_6_method_7_code 50 = .ok (.bipush 16, 2) := by decide +kernel
theorem d_R_arc_52 : decode prog_6_method_7_code 52 = .ok (.iload_n 1, 1) := by decide +kernel
theorem d_R_arc_53 : decode prog_6_method_7_code 53 = .ok (.imul, 1) := by decide +kernel
theorem d_R_arc_54 : decode prog_6_method_7_code 54 = .ok (.iload_n 2, 1) := by decide +kernel
theorem d_R_arc_55 : decode prog_6_method_7_code 55 = .ok (.iadd, 1) := by decide +kernel
theorem d_R_arc_56 : decode prog_6_method_7_code 56 = .ok (.iload_n 3, 1) := by decide +kernel
theorem d_R_arc_57 : decode prog_6_method_7_code 57 = .ok (.iastore, 1) := by decide +kernel
theorem d_R_arc_58 : decode prog_6_method_7_code 58 = .ok (.aload_n 0, 1) := by decide +kernel
theorem d_R_arc_59 : decode prog_6_method_7_code 59 = .ok (.iconst 0, 1) := by decide +kernel
theorem d_R_arc_60 : decode prog_6_method_7_code 60 = .ok (.putfield 81, 3) := by decide +kernel
theorem d_R_arc_63 : decode prog_6_method_7_code 63 = .ok (.iload 4, 2) := by decide +kernel
theorem d_R_arc_65 : decode prog_6_method_7_code 65 = .ok (.ldc 69, 2) := by decide +kernel
theorem d_R_arc_67 : decode prog_6_method_7_code 67 = .ok (.if_icmp .ne 7, 3) := by decide +kernel
theorem d_R_arc_70 : decode prog_6_method_7_code 70 = .ok (.iconst (-1), 1) := by decide +kernel
theorem d_R_arc_71 : decode prog_6_method_7_code 71 = .ok (.goto 5, 3) := by decide +kernel
theorem d_R_arc_74 : decode prog_6_method_7_code 74 = .ok (.iload 4, 2) := by decide +kernel
theorem d_R_arc_76 : decode prog_6_method_7_code 76 = .ok (.ireturn, 1) := by decide +kernel
theorem d_R_lose_0 : decode prog_6_method_8_code 0 = .ok (.aload_n 0, 1) := by decide +kernel
theorem d_R_lose_1 : decode prog_6_method_8_code 1 = .ok (.iconst 0, 1) := by decide +kernel
theorem d_R_lose_2 : decode prog_6_method_8_code 2 = .ok (.putfield 1, 3) := by decide +kernel
theorem d_R_lose_5 : decode prog_6_method_8_code 5 = .ok (.aload_n 0, 1) := by decide +kernel
theorem d_R_lose_6 : decode prog_6_method_8_code 6 = .ok (.iload_n 1, 1) := by decide +kernel
theorem d_R_lose_7 : decode prog_6_method_8_code 7 = .ok (.iload_n 2, 1) := by decide +kernel
theorem d_R_lose_8 : decode prog_6_method_8_code 8 = .ok (.invokevirtual 85, 3) := by decide +kernel
theorem d_R_lose_11 : decode prog_6_method_8_code 11 = .ok (.ifCond .ne 8, 3) := by decide +kernel
theorem d_R_lose_14 : decode prog_6_method_8_code 14 = .ok (.iload_n 1, 1) := by decide +kernel
theorem d_R_lose_15 : decode prog_6_method_8_code 15 = .ok (.iload_n 2, 1) := by decide +kernel
theorem d_R_lose_16 : decode prog_6_method_8_code 16 = .ok (.if_icmp .ne 6, 3) := by decide +kernel
theorem d_R_lose_19 : decode prog_6_method_8_code 19 = .ok (.bipush (-2), 2) := by decide +kernel
theorem d_R_lose_21 : decode prog_6_method_8_code 21 = .ok (.ireturn, 1) := by decide +kernel
theorem d_R_lose_22 : decode prog_6_method_8_code 22 = .ok (.aload_n 0, 1) := by decide +kernel
theorem d_R_lose_23 : decode prog_6_method_8_code 23 = .ok (.getfield 13, 3) := by decide +kernel
theorem d_R_lose_26 : decode prog_6_method_8_code 26 = .ok (.bipush 16, 2) := by decide +kernel
theorem d_R_lose_28 : decode prog_6_method_8_code 28 = .ok (.iload_n 1, 1) := by decide +kernel
theorem d_R_lose_29 : decode prog_6_method_8_code 29 = .ok (.imul, 1) := by decide +kernel
theorem d_R_lose_30 : decode prog_6_method_8_code 30 = .ok (.iload_n 2, 1) := by decide +kernel
theorem d_R_lose_31 : decode prog_6_method_8_code 31 = .ok (.iadd, 1) := by decide +kernel
theorem d_R_lose_32 : decode prog_6_method_8_code 32 = .ok (.iaload, 1) := by decide +kernel
theorem d_R_lose_33 : decode prog_6_method_8_code 33 = .ok (.istore_n 3, 1) := by decide +kernel
theorem d_R_lose_34 : decode prog_6_method_8_code 34 = .ok (.iload_n 3, 1) := by decide +kernel
theorem d_R_lose_35 : decode prog_6_method_8_code 35 = .ok (.ldc 69, 2) := by decide +kernel
theorem d_R_lose_37 : decode prog_6_method_8_code 37 = .ok (.if_icmp .ne 5, 3) := by decide +kernel
theorem d_R_lose_40 : decode prog_6_method_8_code 40 = .ok (.iconst (-1), 1) := by decide +kernel
theorem d_R_lose_41 : decode prog_6_method_8_code 41 = .ok (.ireturn, 1) := by decide +kernel
theorem d_R_lose_42 : decode prog_6_method_8_code 42 = .ok (.aload_n 0, 1) := by decide +kernel
theorem d_R_lose_43 : decode prog_6_method_8_code 43 = .ok (.getfield 13, 3) := by decide +kernel
theorem d_R_lose_46 : decode prog_6_method_8_code 46 = .ok (.bipush 16, 2) := by decide +kernel
theorem d_R_lose_48 : decode prog_6_method_8_code 48 = .ok (.iload_n 1, 1) := by decide +kernel
theorem d_R_lose_49 : decode prog_6_method_8_code 49 = .ok (.imul, 1) := by decide +kernel
theorem d_R_lose_50 : decode prog_6_method_8_code 50 = .ok (.iload_n 2, 1) := by decide +kernel
theorem d_R_lose_51 : decode prog_6_method_8_code 51 = .ok (.iadd, 1) := by decide +kernel
theorem d_R_lose_52 : decode prog_6_method_8_code 52 = .ok (.ldc 69, 2) := by decide +kernel
theorem d_R_lose_54 : decode prog_6_method_8_code 54 = .ok (.iastore, 1) := by decide +kernel
theorem d_R_lose_55 : decode prog_6_method_8_code 55 = .ok (.aload_n 0, 1) := by decide +kernel
theorem d_R_lose_56 : decode prog_6_method_8_code 56 = .ok (.iconst 0, 1) := by decide +kernel
theorem d_R_lose_57 : decode prog_6_method_8_code 57 = .ok (.putfield 81, 3) := by decide +kernel
theorem d_R_lose_60 : decode prog_6_method_8_code 60 = .ok (.iload_n 3, 1) := by decide +kernel
theorem d_R_lose_61 : decode prog_6_method_8_code 61 = .ok (.ireturn, 1) := by decide +kernel
theorem d_R_rankOf_0 : decode prog_6_method_9_code 0 = .ok (.iconst 0, 1) := by decide +kernel
theorem d_R_rankOf_1 : decode prog_6_method_9_code 1 = .ok (.istore_n 2, 1) := by decide +kernel
theorem d_R_rankOf_2 : decode prog_6_method_9_code 2 = .ok (.aload_n 0, 1) := by decide +kernel
theorem d_R_rankOf_3 : decode prog_6_method_9_code 3 = .ok (.getfield 17, 3) := by decide +kernel
theorem d_R_rankOf_6 : decode prog_6_method_9_code 6 = .ok (.iload_n 2, 1) := by decide +kernel
theorem d_R_rankOf_7 : decode prog_6_method_9_code 7 = .ok (.iaload, 1) := by decide +kernel
theorem d_R_rankOf_8 : decode prog_6_method_9_code 8 = .ok (.iload_n 1, 1) := by decide +kernel
theorem d_R_rankOf_9 : decode prog_6_method_9_code 9 = .ok (.if_icmp .eq 9, 3) := by decide +kernel
theorem d_R_rankOf_12 : decode prog_6_method_9_code 12 = .ok (.iinc 2 1, 3) := by decide +kernel
theorem d_R_rankOf_15 : decode prog_6_method_9_code 15 = .ok (.goto (-13), 3) := by decide +kernel
theorem d_R_rankOf_18 : decode prog_6_method_9_code 18 = .ok (.iload_n 2, 1) := by decide +kernel
theorem d_R_rankOf_19 : decode prog_6_method_9_code 19 = .ok (.ireturn, 1) := by decide +kernel
theorem d_R_rank_0 : decode prog_6_method_10_code 0 = .ok (.aload_n 0, 1) := by decide +kernel
theorem d_R_rank_1 : decode prog_6_method_10_code 1 = .ok (.iconst 0, 1) := by decide +kernel
theorem d_R_rank_2 : decode prog_6_method_10_code 2 = .ok (.putfield 1, 3) := by decide +kernel
theorem d_R_rank_5 : decode prog_6_method_10_code 5 = .ok (.aload_n 0, 1) := by decide +kernel
theorem d_R_rank_6 : decode prog_6_method_10_code 6 = .ok (.iload_n 1, 1) := by decide +kernel
theorem d_R_rank_7 : decode prog_6_method_10_code 7 = .ok (.invokevirtual 77, 3) := by decide +kernel
theorem d_R_rank_10 : decode prog_6_method_10_code 10 = .ok (.ifCond .ne 17, 3) := by decide +kernel
theorem d_R_rank_13 : decode prog_6_method_10_code 13 = .ok (.iload_n 2, 1) := by decide +kernel
theorem d_R_rank_14 : decode prog_6_method_10_code 14 = .ok (.iconst 0, 1) := by decide +kernel
theorem d_R_rank_15 : decode prog_6_method_10_code 15 = .ok (.aload_n 0, 1) := by decide +kernel
theorem d_R_rank_16 : decode prog_6_method_10_code 16 = .ok (.getfield 70, 3) := by decide +kernel
theorem d_R_rank_19 : decode prog_6_method_10_code 19 = .ok (.iconst 1, 1) := by decide +kernel
theorem d_R_rank_20 : decode prog_6_method_10_code 20 = .ok (.isub, 1) := by decide +kernel
theorem d_R_rank_21 : decode prog_6_method_10_code 21 = .ok (.invokestatic 73, 3) := by decide +kernel
theorem d_R_rank_24 : decode prog_6_method_10_code 24 = .ok (.ifCond .ne 6, 3) := by decide +kernel
theorem d_R_rank_27 : decode prog_6_method_10_code 27 = .ok (.bipush (-2), 2) := by decide +kernel
theorem d_R_rank_29 : decode prog_6_method_10_code 29 = .ok (.ireturn, 1) := by decide +kernel
theorem d_R_rank_30 : decode prog_6_method_10_code 30 = .ok (.aload_n 0, 1) := by decide +kernel
theorem d_R_rank_31 : decode prog_6_method_10_code 31 = .ok (.iload_n 1, 1) := by decide +kernel
theorem d_R_rank_32 : decode prog_6_method_10_code 32 = .ok (.invokevirtual 89, 3) := by decide +kernel
theorem d_R_rank_35 : decode prog_6_method_10_code 35 = .ok (.istore_n 3, 1) := by decide +kernel
theorem d_R_rank_36 : decode prog_6_method_10_code 36 = .ok (.iload_n 3, 1) := by decide +kernel
theorem d_R_rank_37 : decode prog_6_method_10_code 37 = .ok (.istore 4, 2) := by decide +kernel
theorem d_R_rank_39 : decode prog_6_method_10_code 39 = .ok (.iload 4, 2) := by decide +kernel
theorem d_R_rank_41 : decode prog_6_method_10_code 41 = .ok (.aload_n 0, 1) := by decide +kernel
theorem d_R_rank_42 : decode prog_6_method_10_code 42 = .ok (.getfield 70, 3) := by decide +kernel
theorem d_R_rank_45 : decode prog_6_method_10_code 45 = .ok (.iconst 1, 1) := by decide +kernel
theorem d_R_rank_46 : decode prog_6_method_10_code 46 = .ok (.isub, 1) := by decide +kernel
theorem d_R_rank_47 : decode prog_6_method_10_code 47 = .ok (.if_icmp .ge 25, 3) := by decide +kernel
theorem d_R_rank_50 : decode prog_6_method_10_code 50 = .ok (.aload_n 0, 1) := by decide +kernel
theorem d_R_rank_51 : decode prog_6_method_10_code 51 = .ok (.getfield 17, 3) := by decide +kernel
theorem d_R_rank_54 : decode prog_6_method_10_code 54 = .ok (.iload 4, 2) := by decide +kernel
theorem d_R_rank_56 : decode prog_6_method_10_code 56 = .ok (.aload_n 0, 1) := by decide +kernel
theorem d_R_rank_57 : decode prog_6_method_10_code 57 = .ok (.getfield 17, 3) := by decide +kernel
theorem d_R_rank_60 : decode prog_6_method_10_code 60 = .ok (.iload 4, 2) := by decide +kernel
theorem d_R_rank_62 : decode prog_6_method_10_code 62 = .ok (.iconst 1, 1) := by decide +kernel
theorem d_R_rank_63 : decode prog_6_method_10_code 63 = .ok (.iadd, 1) := by decide +kernel
theorem d_R_rank_64 : decode prog_6_method_10_code 64 = .ok (.iaload, 1) := by decide +kernel
theorem d_R_rank_65 : decode prog_6_method_10_code 65 = .ok (.iastore, 1) := by decide +kernel
theorem d_R_rank_66 : decode prog_6_method_10_code 66 = .ok (.iinc 4 1, 3) := by decide +kernel
theorem d_R_rank_69 : decode prog_6_method_10_code 69 = .ok (.goto (-30), 3) := by decide +kernel
theorem d_R_rank_72 : decode prog_6_method_10_code 72 = .ok (.aload_n 0, 1) := by decide +kernel
theorem d_R_rank_73 : decode prog_6_method_10_code 73 = .ok (.getfield 70, 3) := by decide +kernel
theorem d_R_rank_76 : decode prog_6_method_10_code 76 = .ok (.iconst 1, 1) := by decide +kernel
theorem d_R_rank_77 : decode prog_6_method_10_code 77 = .ok (.isub, 1) := by decide +kernel
theorem d_R_rank_78 : decode prog_6_method_10_code 78 = .ok (.istore 4, 2) := by decide +kernel
theorem d_R_rank_80 : decode prog_6_method_10_code 80 = .ok (.iload 4, 2) := by decide +kernel
theorem d_R_rank_82 : decode prog_6_method_10_code 82 = .ok (.iload_n 2, 1) := by decide +kernel
theorem d_R_rank_83 : decode prog_6_method_10_code 83 = .ok (.if_icmp .le 25, 3) := by decide +kernel
theorem d_R_rank_86 : decode prog_6_method_10_code 86 = .ok (.aload_n 0, 1) := by decide +kernel
theorem d_R_rank_87 : decode prog_6_method_10_code 87 = .ok (.getfield 17, 3) := by decide +kernel
theorem d_R_rank_90 : decode prog_6_method_10_code 90 = .ok (.iload 4, 2) := by decide +kernel
theorem d_R_rank_92 : decode prog_6_method_10_code 92 = .ok (.aload_n 0, 1) := by decide +kernel
theorem d_R_rank_93 : decode prog_6_method_10_code 93 = .ok (.getfield 17, 3) := by decide +kernel
theorem d_R_rank_96 : decode prog_6_method_10_code 96 = .ok (.iload 4, 2) := by decide +kernel
theorem d_R_rank_98 : decode prog_6_method_10_code 98 = .ok (.iconst 1, 1) := by decide +kernel
theorem d_R_rank_99 : decode prog_6_method_10_code 99 = .ok (.isub, 1) := by decide +kernel
theorem d_R_rank_100 : decode prog_6_method_10_code 100 = .ok (.iaload, 1) := by decide +kernel
theorem d_R_rank_101 : decode prog_6_method_10_code 101 = .ok (.iastore, 1) := by decide +kernel
theorem d_R_rank_102 : decode prog_6_method_10_code 102 = .ok (.iinc 4 (-1), 3) := by decide +kernel
theorem d_R_rank_105 : decode prog_6_method_10_code 105 = .ok (.goto (-25), 3) := by decide +kernel
theorem d_R_rank_108 : decode prog_6_method_10_code 108 = .ok (.aload_n 0, 1) := by decide +kernel
theorem d_R_rank_109 : decode prog_6_method_10_code 109 = .ok (.getfield 17, 3) := by decide +kernel
theorem d_R_rank_112 : decode prog_6_method_10_code 112 = .ok (.iload_n 2, 1) := by decide +kernel
theorem d_R_rank_113 : decode prog_6_method_10_code 113 = .ok (.iload_n 1, 1) := by decide +kernel
theorem d_R_rank_114 : decode prog_6_method_10_code 114 = .ok (.iastore, 1) := by decide +kernel
theorem d_R_rank_115 : decode prog_6_method_10_code 115 = .ok (.aload_n 0, 1) := by decide +kernel
theorem d_R_rank_116 : decode prog_6_method_10_code 116 = .ok (.iconst 0, 1) := by decide +kernel
theorem d_R_rank_117 : decode prog_6_method_10_code 117 = .ok (.putfield 81, 3) := by decide +kernel
theorem d_R_rank_120 : decode prog_6_method_10_code 120 = .ok (.iload_n 3, 1) := by decide +kernel
theorem d_R_rank_121 : decode prog_6_method_10_code 121 = .ok (.ireturn, 1) := by decide +kernel
theorem d_R_ranked_0 : decode prog_6_method_11_code 0 = .ok (.aload_n 0, 1) := by decide +kernel
theorem d_R_ranked_1 : decode prog_6_method_11_code 1 = .ok (.iconst 0, 1) := by decide +kernel
theorem d_R_ranked_2 : decode prog_6_method_11_code 2 = .ok (.putfield 1, 3) := by decide +kernel
theorem d_R_ranked_5 : decode prog_6_method_11_code 5 = .ok (.iload_n 1, 1) := by decide +kernel
theorem d_R_ranked_6 : decode prog_6_method_11_code 6 = .ok (.iconst 0, 1) := by decide +kernel
theorem d_R_ranked_7 : decode prog_6_method_11_code 7 = .ok (.aload_n 0, 1) := by decide +kernel
theorem d_R_ranked_8 : decode prog_6_method_11_code 8 = .ok (.getfield 70, 3) := by decide +kernel
theorem d_R_ranked_11 : decode prog_6_method_11_code 11 = .ok (.iconst 1, 1) := by decide +kernel
theorem d_R_ranked_12 : decode prog_6_method_11_code 12 = .ok (.isub, 1) := by decide +kernel
theorem d_R_ranked_13 : decode prog_6_method_11_code 13 = .ok (.invokestatic 73, 3) := by decide +kernel
theorem d_R_ranked_16 : decode prog_6_method_11_code 16 = .ok (.ifCond .eq 12, 3) := by decide +kernel
theorem d_R_ranked_19 : decode prog_6_method_11_code 19 = .ok (.aload_n 0, 1) := by decide +kernel
theorem d_R_ranked_20 : decode prog_6_method_11_code 20 = .ok (.getfield 17, 3) := by decide +kernel
theorem d_R_ranked_23 : decode prog_6_method_11_code 23 = .ok (.iload_n 1, 1) := by decide +kernel
theorem d_R_ranked_24 : decode prog_6_method_11_code 24 = .ok (.iaload, 1) := by decide +kernel
theorem d_R_ranked_25 : decode prog_6_method_11_code 25 = .ok (.goto 5, 3) := by decide +kernel
theorem d_R_ranked_28 : decode prog_6_method_11_code 28 = .ok (.bipush (-2), 2) := by decide +kernel
theorem d_R_ranked_30 : decode prog_6_method_11_code 30 = .ok (.ireturn, 1) := by decide +kernel
theorem d_R_marks_0 : decode prog_6_method_13_code 0 = .ok (.iconst 0, 1) := by decide +kernel
theorem d_R_marks_1 : decode prog_6_method_13_code 1 = .ok (.istore_n 1, 1) := by decide +kernel
theorem d_R_marks_2 : decode prog_6_method_13_code 2 = .ok (.iconst 0, 1) := by decide +kernel
theorem d_R_marks_3 : decode prog_6_method_13_code 3 = .ok (.istore_n 2, 1) := by decide +kernel
theorem d_R_marks_4 : decode prog_6_method_13_code 4 = .ok (.iload_n 2, 1) := by decide +kernel
theorem d_R_marks_5 : decode prog_6_method_13_code 5 = .ok (.aload_n 0, 1) := by decide +kernel
theorem d_R_marks_6 : decode prog_6_method_13_code 6 = .ok (.getfield 70, 3) := by decide +kernel
theorem d_R_marks_9 : decode prog_6_method_13_code 9 = .ok (.if_icmp .ge 26, 3) := by decide +kernel
theorem d_R_marks_12 : decode prog_6_method_13_code 12 = .ok (.aload_n 0, 1) := by decide +kernel
theorem d_R_marks_13 : decode prog_6_method_13_code 13 = .ok (.getfield 20, 3) := by decide +kernel
theorem d_R_marks_16 : decode prog_6_method_13_code 16 = .ok (.iload_n 2, 1) := by decide +kernel
theorem d_R_marks_17 : decode prog_6_method_13_code 17 = .ok (.baload, 1) := by decide +kernel
theorem d_R_marks_18 : decode prog_6_method_13_code 18 = .ok (.ifCond .eq 9, 3) := by decide +kernel
theorem d_R_marks_21 : decode prog_6_method_13_code 21 = .ok (.iload_n 1, 1) := by decide +kernel
theorem d_R_marks_22 : decode prog_6_method_13_code 22 = .ok (.iconst 1, 1) := by decide +kernel
theorem d_R_marks_23 : decode prog_6_method_13_code 23 = .ok (.iadd, 1) := by decide +kernel
theorem d_R_marks_24 : decode prog_6_method_13_code 24 = .ok (.goto 4, 3) := by decide +kernel
theorem d_R_marks_27 : decode prog_6_method_13_code 27 = .ok (.iload_n 1, 1) := by decide +kernel
theorem d_R_marks_28 : decode prog_6_method_13_code 28 = .ok (.istore_n 1, 1) := by decide +kernel
theorem d_R_marks_29 : decode prog_6_method_13_code 29 = .ok (.iinc 2 1, 3) := by decide +kernel
theorem d_R_marks_32 : decode prog_6_method_13_code 32 = .ok (.goto (-28), 3) := by decide +kernel
theorem d_R_marks_35 : decode prog_6_method_13_code 35 = .ok (.iload_n 1, 1) := by decide +kernel
theorem d_R_marks_36 : decode prog_6_method_13_code 36 = .ok (.ireturn, 1) := by decide +kernel
theorem d_R_landmark_0 : decode prog_6_method_12_code 0 = .ok (.aload_n 0, 1) := by decide +kernel
theorem d_R_landmark_1 : decode prog_6_method_12_code 1 = .ok (.iconst 0, 1) := by decide +kernel
theorem d_R_landmark_2 : decode prog_6_method_12_code 2 = .ok (.putfield 1, 3) := by decide +kernel
theorem d_R_landmark_5 : decode prog_6_method_12_code 5 = .ok (.aload_n 0, 1) := by decide +kernel
theorem d_R_landmark_6 : decode prog_6_method_12_code 6 = .ok (.iload_n 1, 1) := by decide +kernel
theorem d_R_landmark_7 : decode prog_6_method_12_code 7 = .ok (.invokevirtual 77, 3) := by decide +kernel
theorem d_R_landmark_10 : decode prog_6_method_12_code 10 = .ok (.ifCond .eq 6, 3) := by decide +kernel
theorem d_R_landmark_13 : decode prog_6_method_12_code 13 = .ok (.bipush (-2), 2) := by decide +kernel
theorem d_R_landmark_15 : decode prog_6_method_12_code 15 = .ok (.ireturn, 1) := by decide +kernel
theorem d_R_landmark_16 : decode prog_6_method_12_code 16 = .ok (.aload_n 0, 1) := by decide +kernel
theorem d_R_landmark_17 : decode prog_6_method_12_code 17 = .ok (.getfield 20, 3) := by decide +kernel
theorem d_R_landmark_20 : decode prog_6_method_12_code 20 = .ok (.iload_n 1, 1) := by decide +kernel
theorem d_R_landmark_21 : decode prog_6_method_12_code 21 = .ok (.baload, 1) := by decide +kernel
theorem d_R_landmark_22 : decode prog_6_method_12_code 22 = .ok (.istore_n 3, 1) := by decide +kernel
theorem d_R_landmark_23 : decode prog_6_method_12_code 23 = .ok (.iload_n 2, 1) := by decide +kernel
theorem d_R_landmark_24 : decode prog_6_method_12_code 24 = .ok (.ifCond .eq 18, 3) := by decide +kernel
theorem d_R_landmark_27 : decode prog_6_method_12_code 27 = .ok (.iload_n 3, 1) := by decide +kernel
theorem d_R_landmark_28 : decode prog_6_method_12_code 28 = .ok (.ifCond .ne 14, 3) := by decide +kernel
theorem d_R_landmark_31 : decode prog_6_method_12_code 31 = .ok (.aload_n 0, 1) := by decide +kernel
theorem d_R_landmark_32 : decode prog_6_method_12_code 32 = .ok (.invokevirtual 93, 3) := by decide +kernel
theorem d_R_landmark_35 : decode prog_6_method_12_code 35 = .ok (.iconst 4, 1) := by decide +kernel
theorem d_R_landmark_36 : decode prog_6_method_12_code 36 = .ok (.if_icmp .ne 6, 3) := by decide +kernel
theorem d_R_landmark_39 : decode prog_6_method_12_code 39 = .ok (.bipush (-3), 2) := by decide +kernel
theorem d_R_landmark_41 : decode prog_6_method_12_code 41 = .ok (.ireturn, 1) := by decide +kernel
theorem d_R_landmark_42 : decode prog_6_method_12_code 42 = .ok (.aload_n 0, 1) := by decide +kernel
theorem d_R_landmark_43 : decode prog_6_method_12_code 43 = .ok (.getfield 20, 3) := by decide +kernel
theorem d_R_landmark_46 : decode prog_6_method_12_code 46 = .ok (.iload_n 1, 1) := by decide +kernel
theorem d_R_landmark_47 : decode prog_6_method_12_code 47 = .ok (.iload_n 2, 1) := by decide +kernel
theorem d_R_landmark_48 : decode prog_6_method_12_code 48 = .ok (.bastore, 1) := by decide +kernel
theorem d_R_landmark_49 : decode prog_6_method_12_code 49 = .ok (.iload_n 3, 1) := by decide +kernel
theorem d_R_landmark_50 : decode prog_6_method_12_code 50 = .ok (.ifCond .eq 7, 3) := by decide +kernel
theorem d_R_landmark_53 : decode prog_6_method_12_code 53 = .ok (.iconst 1, 1) := by decide +kernel
theorem d_R_landmark_54 : decode prog_6_method_12_code 54 = .ok (.goto 4, 3) := by decide +kernel
theorem d_R_landmark_57 : decode prog_6_method_12_code 57 = .ok (.iconst 0, 1) := by decide +kernel
theorem d_R_landmark_58 : decode prog_6_method_12_code 58 = .ok (.ireturn, 1) := by decide +kernel
theorem d_R_fill_0 : decode prog_6_method_14_code 0 = .ok (.iconst 0, 1) := by decide +kernel
theorem d_R_fill_1 : decode prog_6_method_14_code 1 = .ok (.istore 5, 2) := by decide +kernel
theorem d_R_fill_3 : decode prog_6_method_14_code 3 = .ok (.iload 5, 2) := by decide +kernel
theorem d_R_fill_5 : decode prog_6_method_14_code 5 = .ok (.sipush 256, 3) := by decide +kernel
theorem d_R_fill_8 : decode prog_6_method_14_code 8 = .ok (.if_icmp .ge 17, 3) := by decide +kernel
theorem d_R_fill_11 : decode prog_6_method_14_code 11 = .ok (.aload_n 2, 1) := by decide +kernel
theorem d_R_fill_12 : decode prog_6_method_14_code 12 = .ok (.iload 5, 2) := by decide +kernel
theorem d_R_fill_14 : decode prog_6_method_14_code 14 = .ok (.aload_n 1, 1) := by decide +kernel
theorem d_R_fill_15 : decode prog_6_method_14_code 15 = .ok (.iload 5, 2) := by decide +kernel
theorem d_R_fill_17 : decode prog_6_method_14_code 17 = .ok (.iaload, 1) := by decide +kernel
theorem d_R_fill_18 : decode prog_6_method_14_code 18 = .ok (.iastore, 1) := by decide +kernel
theorem d_R_fill_19 : decode prog_6_method_14_code 19 = .ok (.iinc 5 1, 3) := by decide +kernel
theorem d_R_fill_22 : decode prog_6_method_14_code 22 = .ok (.goto (-19), 3) := by decide +kernel
theorem d_R_fill_25 : decode prog_6_method_14_code 25 = .ok (.iconst 0, 1) := by decide +kernel
theorem d_R_fill_26 : decode prog_6_method_14_code 26 = .ok (.istore 5, 2) := by decide +kernel
theorem d_R_fill_28 : decode prog_6_method_14_code 28 = .ok (.iload 5, 2) := by decide +kernel
theorem d_R_fill_30 : decode prog_6_method_14_code 30 = .ok (.aload_n 0, 1) := by decide +kernel
theorem d_R_fill_31 : decode prog_6_method_14_code 31 = .ok (.getfield 70, 3) := by decide +kernel
theorem d_R_fill_34 : decode prog_6_method_14_code 34 = .ok (.if_icmp .ge 122, 3) := by decide +kernel
theorem d_R_fill_37 : decode prog_6_method_14_code 37 = .ok (.iconst 0, 1) := by decide +kernel
theorem d_R_fill_38 : decode prog_6_method_14_code 38 = .ok (.istore 6, 2) := by decide +kernel
theorem d_R_fill_40 : decode prog_6_method_14_code 40 = .ok (.iload 6, 2) := by decide +kernel
theorem d_R_fill_42 : decode prog_6_method_14_code 42 = .ok (.aload_n 0, 1) := by decide +kernel
theorem d_R_fill_43 : decode prog_6_method_14_code 43 = .ok (.getfield 70, 3) := by decide +kernel
theorem d_R_fill_46 : decode prog_6_method_14_code 46 = .ok (.if_icmp .ge 104, 3) := by decide +kernel
theorem d_R_fill_49 : decode prog_6_method_14_code 49 = .ok (.iload 5, 2) := by decide +kernel
theorem d_R_fill_51 : decode prog_6_method_14_code 51 = .ok (.iload_n 3, 1) := by decide +kernel
theorem d_R_fill_52 : decode prog_6_method_14_code 52 = .ok (.if_icmp .eq 98, 3) := by decide +kernel
theorem d_R_fill_55 : decode prog_6_method_14_code 55 = .ok (.aload 4, 2) := by decide +kernel
theorem d_R_fill_57 : decode prog_6_method_14_code 57 = .ok (.iload 5, 2) := by decide +kernel
theorem d_R_fill_59 : decode prog_6_method_14_code 59 = .ok (.baload, 1) := by decide +kernel
theorem d_R_fill_60 : decode prog_6_method_14_code 60 = .ok (.ifCond .ne 90, 3) := by decide +kernel
theorem d_R_fill_63 : decode prog_6_method_14_code 63 = .ok (.iconst 0, 1) := by decide +kernel
theorem d_R_fill_64 : decode prog_6_method_14_code 64 = .ok (.istore 7, 2) := by decide +kernel
theorem d_R_fill_66 : decode prog_6_method_14_code 66 = .ok (.iload 7, 2) := by decide +kernel
theorem d_R_fill_68 : decode prog_6_method_14_code 68 = .ok (.aload_n 0, 1) := by decide +kernel
theorem d_R_fill_69 : decode prog_6_method_14_code 69 = .ok (.getfield 70, 3) := by decide +kernel
theorem d_R_fill_72 : decode prog_6_method_14_code 72 = .ok (.if_icmp .ge 72, 3) := by decide +kernel
theorem d_R_fill_75 : decode prog_6_method_14_code 75 = .ok (.aload_n 2, 1) := by decide +kernel
theorem d_R_fill_76 : decode prog_6_method_14_code 76 = .ok (.bipush 16, 2) := by decide +kernel
theorem d_R_fill_78 : decode prog_6_method_14_code 78 = .ok (.iload 6, 2) := by decide +kernel
theorem d_R_fill_80 : decode prog_6_method_14_code 80 = .ok (.imul, 1) := by decide +kernel
theorem d_R_fill_81 : decode prog_6_method_14_code 81 = .ok (.iload 5, 2) := by decide +kernel
theorem d_R_fill_83 : decode prog_6_method_14_code 83 = .ok (.iadd, 1) := by decide +kernel
theorem d_R_fill_84 : decode prog_6_method_14_code 84 = .ok (.iaload, 1) := by decide +kernel
theorem d_R_fill_85 : decode prog_6_method_14_code 85 = .ok (.aload_n 2, 1) := by decide +kernel
theorem d_R_fill_86 : decode prog_6_method_14_code 86 = .ok (.bipush 16, 2) := by decide +kernel
theorem d_R_fill_88 : decode prog_6_method_14_code 88 = .ok (.iload 5, 2) := by decide +kernel
theorem d_R_fill_90 : decode prog_6_method_14_code 90 = .ok (.imul, 1) := by decide +kernel
theorem d_R_fill_91 : decode prog_6_method_14_code 91 = .ok (.iload 7, 2) := by decide +kernel
theorem d_R_fill_93 : decode prog_6_method_14_code 93 = .ok (.iadd, 1) := by decide +kernel
theorem d_R_fill_94 : decode prog_6_method_14_code 94 = .ok (.iaload, 1) := by decide +kernel
theorem d_R_fill_95 : decode prog_6_method_14_code 95 = .ok (.iadd, 1) := by decide +kernel
theorem d_R_fill_96 : decode prog_6_method_14_code 96 = .ok (.istore 8, 2) := by decide +kernel
theorem d_R_fill_98 : decode prog_6_method_14_code 98 = .ok (.aload_n 2, 1) := by decide +kernel
theorem d_R_fill_99 : decode prog_6_method_14_code 99 = .ok (.bipush 16, 2) := by decide +kernel
theorem d_R_fill_101 : decode prog_6_method_14_code 101 = .ok (.iload 6, 2) := by decide +kernel
theorem d_R_fill_103 : decode prog_6_method_14_code 103 = .ok (.imul, 1) := by decide +kernel
theorem d_R_fill_104 : decode prog_6_method_14_code 104 = .ok (.iload 7, 2) := by decide +kernel
theorem d_R_fill_106 : decode prog_6_method_14_code 106 = .ok (.iadd, 1) := by decide +kernel
theorem d_R_fill_107 : decode prog_6_method_14_code 107 = .ok (.iload 8, 2) := by decide +kernel
theorem d_R_fill_109 : decode prog_6_method_14_code 109 = .ok (.aload_n 2, 1) := by decide +kernel
theorem d_R_fill_110 : decode prog_6_method_14_code 110 = .ok (.bipush 16, 2) := by decide +kernel
theorem d_R_fill_112 : decode prog_6_method_14_code 112 = .ok (.iload 6, 2) := by decide +kernel
theorem d_R_fill_114 : decode prog_6_method_14_code 114 = .ok (.imul, 1) := by decide +kernel
theorem d_R_fill_115 : decode prog_6_method_14_code 115 = .ok (.iload 7, 2) := by decide +kernel
theorem d_R_fill_117 : decode prog_6_method_14_code 117 = .ok (.iadd, 1) := by decide +kernel
theorem d_R_fill_118 : decode prog_6_method_14_code 118 = .ok (.iaload, 1) := by decide +kernel
theorem d_R_fill_119 : decode prog_6_method_14_code 119 = .ok (.if_icmp .ge 8, 3) := by decide +kernel
theorem d_R_fill_122 : decode prog_6_method_14_code 122 = .ok (.iload 8, 2) := by decide +kernel
theorem d_R_fill_124 : decode prog_6_method_14_code 124 = .ok (.goto 13, 3) := by decide +kernel
theorem d_R_fill_127 : decode prog_6_method_14_code 127 = .ok (.aload_n 2, 1) := by decide +kernel
theorem d_R_fill_128 : decode prog_6_method_14_code 128 = .ok (.bipush 16, 2) := by decide +kernel
theorem d_R_fill_130 : decode prog_6_method_14_code 130 = .ok (.iload 6, 2) := by decide +kernel
theorem d_R_fill_132 : decode prog_6_method_14_code 132 = .ok (.imul, 1) := by decide +kernel
theorem d_R_fill_133 : decode prog_6_method_14_code 133 = .ok (.iload 7, 2) := by decide +kernel
theorem d_R_fill_135 : decode prog_6_method_14_code 135 = .ok (.iadd, 1) := by decide +kernel
theorem d_R_fill_136 : decode prog_6_method_14_code 136 = .ok (.iaload, 1) := by decide +kernel
theorem d_R_fill_137 : decode prog_6_method_14_code 137 = .ok (.iastore, 1) := by decide +kernel
theorem d_R_fill_138 : decode prog_6_method_14_code 138 = .ok (.iinc 7 1, 3) := by decide +kernel
theorem d_R_fill_141 : decode prog_6_method_14_code 141 = .ok (.goto (-75), 3) := by decide +kernel
theorem d_R_fill_144 : decode prog_6_method_14_code 144 = .ok (.iinc 6 1, 3) := by decide +kernel
theorem d_R_fill_147 : decode prog_6_method_14_code 147 = .ok (.goto (-107), 3) := by decide +kernel
theorem d_R_fill_150 : decode prog_6_method_14_code 150 = .ok (.iinc 5 1, 3) := by decide +kernel
theorem d_R_fill_153 : decode prog_6_method_14_code 153 = .ok (.goto (-125), 3) := by decide +kernel
theorem d_R_fill_156 : decode prog_6_method_14_code 156 = .ok (.return_, 1) := by decide +kernel
theorem d_R_isStation_0 : decode prog_6_method_15_code 0 = .ok (.iload_n 1, 1) := by decide +kernel
theorem d_R_isStation_1 : decode prog_6_method_15_code 1 = .ok (.ifCond .ne 7, 3) := by decide +kernel
theorem d_R_isStation_4 : decode prog_6_method_15_code 4 = .ok (.iload_n 2, 1) := by decide +kernel
theorem d_R_isStation_5 : decode prog_6_method_15_code 5 = .ok (.goto 4, 3) := by decide +kernel
theorem d_R_isStation_8 : decode prog_6_method_15_code 8 = .ok (.iload_n 3, 1) := by decide +kernel
theorem d_R_isStation_9 : decode prog_6_method_15_code 9 = .ok (.istore 4, 2) := by decide +kernel
theorem d_R_isStation_11 : decode prog_6_method_15_code 11 = .ok (.iload_n 1, 1) := by decide +kernel
theorem d_R_isStation_12 : decode prog_6_method_15_code 12 = .ok (.ifCond .ne 7, 3) := by decide +kernel
theorem d_R_isStation_15 : decode prog_6_method_15_code 15 = .ok (.iload_n 3, 1) := by decide +kernel
theorem d_R_isStation_16 : decode prog_6_method_15_code 16 = .ok (.goto 4, 3) := by decide +kernel
theorem d_R_isStation_19 : decode prog_6_method_15_code 19 = .ok (.iload_n 2, 1) := by decide +kernel
theorem d_R_isStation_20 : decode prog_6_method_15_code 20 = .ok (.istore 5, 2) := by decide +kernel
theorem d_R_isStation_22 : decode prog_6_method_15_code 22 = .ok (.aload_n 0, 1) := by decide +kernel
theorem d_R_isStation_23 : decode prog_6_method_15_code 23 = .ok (.getfield 24, 3) := by decide +kernel
theorem d_R_isStation_26 : decode prog_6_method_15_code 26 = .ok (.bipush 16, 2) := by decide +kernel
theorem d_R_isStation_28 : decode prog_6_method_15_code 28 = .ok (.iload 4, 2) := by decide +kernel
theorem d_R_isStation_30 : decode prog_6_method_15_code 30 = .ok (.imul, 1) := by decide +kernel
theorem d_R_isStation_31 : decode prog_6_method_15_code 31 = .ok (.iload 5, 2) := by decide +kernel
theorem d_R_isStation_33 : decode prog_6_method_15_code 33 = .ok (.iadd, 1) := by decide +kernel
theorem d_R_isStation_34 : decode prog_6_method_15_code 34 = .ok (.iaload, 1) := by decide +kernel
theorem d_R_isStation_35 : decode prog_6_method_15_code 35 = .ok (.ldc 69, 2) := by decide +kernel
theorem d_R_isStation_37 : decode prog_6_method_15_code 37 = .ok (.if_icmp .ge 7, 3) := by decide +kernel
theorem d_R_isStation_40 : decode prog_6_method_15_code 40 = .ok (.iconst 1, 1) := by decide +kernel
theorem d_R_isStation_41 : decode prog_6_method_15_code 41 = .ok (.goto 4, 3) := by decide +kernel
theorem d_R_isStation_44 : decode prog_6_method_15_code 44 = .ok (.iconst 0, 1) := by decide +kernel
theorem d_R_isStation_45 : decode prog_6_method_15_code 45 = .ok (.istore 6, 2) := by decide +kernel
theorem d_R_isStation_47 : decode prog_6_method_15_code 47 = .ok (.iconst 0, 1) := by decide +kernel
theorem d_R_isStation_48 : decode prog_6_method_15_code 48 = .ok (.istore 7, 2) := by decide +kernel
theorem d_R_isStation_50 : decode prog_6_method_15_code 50 = .ok (.aload_n 0, 1) := by decide +kernel
theorem d_R_isStation_51 : decode prog_6_method_15_code 51 = .ok (.getfield 17, 3) := by decide +kernel
theorem d_R_isStation_54 : decode prog_6_method_15_code 54 = .ok (.iload 7, 2) := by decide +kernel
theorem d_R_isStation_56 : decode prog_6_method_15_code 56 = .ok (.iaload, 1) := by decide +kernel
theorem d_R_isStation_57 : decode prog_6_method_15_code 57 = .ok (.iload_n 3, 1) := by decide +kernel
theorem d_R_isStation_58 : decode prog_6_method_15_code 58 = .ok (.if_icmp .eq 73, 3) := by decide +kernel
theorem d_R_isStation_61 : decode prog_6_method_15_code 61 = .ok (.iload 6, 2) := by decide +kernel
theorem d_R_isStation_63 : decode prog_6_method_15_code 63 = .ok (.ifCond .eq 68, 3) := by decide +kernel
theorem d_R_isStation_66 : decode prog_6_method_15_code 66 = .ok (.aload_n 0, 1) := by decide +kernel
theorem d_R_isStation_67 : decode prog_6_method_15_code 67 = .ok (.getfield 17, 3) := by decide +kernel
theorem d_R_isStation_70 : decode prog_6_method_15_code 70 = .ok (.iload 7, 2) := by decide +kernel
theorem d_R_isStation_72 : decode prog_6_method_15_code 72 = .ok (.iaload, 1) := by decide +kernel
theorem d_R_isStation_73 : decode prog_6_method_15_code 73 = .ok (.istore 8, 2) := by decide +kernel
theorem d_R_isStation_75 : decode prog_6_method_15_code 75 = .ok (.aload_n 0, 1) := by decide +kernel
theorem d_R_isStation_76 : decode prog_6_method_15_code 76 = .ok (.getfield 24, 3) := by decide +kernel
theorem d_R_isStation_79 : decode prog_6_method_15_code 79 = .ok (.bipush 16, 2) := by decide +kernel
theorem d_R_isStation_81 : decode prog_6_method_15_code 81 = .ok (.iload 4, 2) := by decide +kernel
theorem d_R_isStation_83 : decode prog_6_method_15_code 83 = .ok (.imul, 1) := by decide +kernel
theorem d_R_isStation_84 : decode prog_6_method_15_code 84 = .ok (.iload 8, 2) := by decide +kernel
theorem d_R_isStation_86 : decode prog_6_method_15_code 86 = .ok (.iadd, 1) := by decide +kernel
theorem d_R_isStation_87 : decode prog_6_method_15_code 87 = .ok (.iaload, 1) := by decide +kernel
theorem d_R_isStation_88 : decode prog_6_method_15_code 88 = .ok (.aload_n 0, 1) := by decide +kernel
theorem d_R_isStation_89 : decode prog_6_method_15_code 89 = .ok (.getfield 24, 3) := by decide +kernel
theorem d_R_isStation_92 : decode prog_6_method_15_code 92 = .ok (.bipush 16, 2) := by decide +kernel
theorem d_R_isStation_94 : decode prog_6_method_15_code 94 = .ok (.iload 8, 2) := by decide +kernel
theorem d_R_isStation_96 : decode prog_6_method_15_code 96 = .ok (.imul, 1) := by decide +kernel
theorem d_R_isStation_97 : decode prog_6_method_15_code 97 = .ok (.iload 5, 2) := by decide +kernel
theorem d_R_isStation_99 : decode prog_6_method_15_code 99 = .ok (.iadd, 1) := by decide +kernel
theorem d_R_isStation_100 : decode prog_6_method_15_code 100 = .ok (.iaload, 1) := by decide +kernel
theorem d_R_isStation_101 : decode prog_6_method_15_code 101 = .ok (.iadd, 1) := by decide +kernel
theorem d_R_isStation_102 : decode prog_6_method_15_code 102 = .ok (.aload_n 0, 1) := by decide +kernel
theorem d_R_isStation_103 : decode prog_6_method_15_code 103 = .ok (.getfield 24, 3) := by decide +kernel
theorem d_R_isStation_106 : decode prog_6_method_15_code 106 = .ok (.bipush 16, 2) := by decide +kernel
theorem d_R_isStation_108 : decode prog_6_method_15_code 108 = .ok (.iload 4, 2) := by decide +kernel
theorem d_R_isStation_110 : decode prog_6_method_15_code 110 = .ok (.imul, 1) := by decide +kernel
theorem d_R_isStation_111 : decode prog_6_method_15_code 111 = .ok (.iload 5, 2) := by decide +kernel
theorem d_R_isStation_113 : decode prog_6_method_15_code 113 = .ok (.iadd, 1) := by decide +kernel
theorem d_R_isStation_114 : decode prog_6_method_15_code 114 = .ok (.iaload, 1) := by decide +kernel
theorem d_R_isStation_115 : decode prog_6_method_15_code 115 = .ok (.if_icmp .eq 7, 3) := by decide +kernel
theorem d_R_isStation_118 : decode prog_6_method_15_code 118 = .ok (.iconst 1, 1) := by decide +kernel
theorem d_R_isStation_119 : decode prog_6_method_15_code 119 = .ok (.goto 4, 3) := by decide +kernel
theorem d_R_isStation_122 : decode prog_6_method_15_code 122 = .ok (.iconst 0, 1) := by decide +kernel
theorem d_R_isStation_123 : decode prog_6_method_15_code 123 = .ok (.istore 6, 2) := by decide +kernel
theorem d_R_isStation_125 : decode prog_6_method_15_code 125 = .ok (.iinc 7 1, 3) := by decide +kernel
theorem d_R_isStation_128 : decode prog_6_method_15_code 128 = .ok (.goto (-78), 3) := by decide +kernel
theorem d_R_isStation_131 : decode prog_6_method_15_code 131 = .ok (.iload 6, 2) := by decide +kernel
theorem d_R_isStation_133 : decode prog_6_method_15_code 133 = .ok (.ireturn, 1) := by decide +kernel
theorem d_R_climbAll_0 : decode prog_6_method_18_code 0 = .ok (.iconst 0, 1) := by decide +kernel
theorem d_R_climbAll_1 : decode prog_6_method_18_code 1 = .ok (.istore_n 1, 1) := by decide +kernel
theorem d_R_climbAll_2 : decode prog_6_method_18_code 2 = .ok (.iload_n 1, 1) := by decide +kernel
theorem d_R_climbAll_3 : decode prog_6_method_18_code 3 = .ok (.sipush 256, 3) := by decide +kernel
theorem d_R_climbAll_6 : decode prog_6_method_18_code 6 = .ok (.if_icmp .ge 44, 3) := by decide +kernel
theorem d_R_climbAll_9 : decode prog_6_method_18_code 9 = .ok (.aload_n 0, 1) := by decide +kernel
theorem d_R_climbAll_10 : decode prog_6_method_18_code 10 = .ok (.getfield 63, 3) := by decide +kernel
theorem d_R_climbAll_13 : decode prog_6_method_18_code 13 = .ok (.iload_n 1, 1) := by decide +kernel
theorem d_R_climbAll_14 : decode prog_6_method_18_code 14 = .ok (.iload_n 1, 1) := by decide +kernel
theorem d_R_climbAll_15 : decode prog_6_method_18_code 15 = .ok (.bipush 16, 2) := by decide +kernel
theorem d_R_climbAll_17 : decode prog_6_method_18_code 17 = .ok (.idiv, 1) := by decide +kernel
theorem d_R_climbAll_18 : decode prog_6_method_18_code 18 = .ok (.iload_n 1, 1) := by decide +kernel
theorem d_R_climbAll_19 : decode prog_6_method_18_code 19 = .ok (.bipush 16, 2) := by decide +kernel
theorem d_R_climbAll_21 : decode prog_6_method_18_code 21 = .ok (.irem, 1) := by decide +kernel
theorem d_R_climbAll_22 : decode prog_6_method_18_code 22 = .ok (.if_icmp .ne 7, 3) := by decide +kernel
theorem d_R_climbAll_25 : decode prog_6_method_18_code 25 = .ok (.iconst 0, 1) := by decide +kernel
theorem d_R_climbAll_26 : decode prog_6_method_18_code 26 = .ok (.goto 5, 3) := by decide +kernel
theorem d_R_climbAll_29 : decode prog_6_method_18_code 29 = .ok (.ldc 69, 2) := by decide +kernel
theorem d_R_climbAll_31 : decode prog_6_method_18_code 31 = .ok (.iastore, 1) := by decide +kernel
theorem d_R_climbAll_32 : decode prog_6_method_18_code 32 = .ok (.aload_n 0, 1) := by decide +kernel
theorem d_R_climbAll_33 : decode prog_6_method_18_code 33 = .ok (.getfield 66, 3) := by decide +kernel
theorem d_R_climbAll_36 : decode prog_6_method_18_code 36 = .ok (.iload_n 1, 1) := by decide +kernel
theorem d_R_climbAll_37 : decode prog_6_method_18_code 37 = .ok (.aload_n 0, 1) := by decide +kernel
theorem d_R_climbAll_38 : decode prog_6_method_18_code 38 = .ok (.getfield 63, 3) := by decide +kernel
theorem d_R_climbAll_41 : decode prog_6_method_18_code 41 = .ok (.iload_n 1, 1) := by decide +kernel
theorem d_R_climbAll_42 : decode prog_6_method_18_code 42 = .ok (.iaload, 1) := by decide +kernel
theorem d_R_climbAll_43 : decode prog_6_method_18_code 43 = .ok (.iastore, 1) := by decide +kernel
theorem d_R_climbAll_44 : decode prog_6_method_18_code 44 = .ok (.iinc 1 1, 3) := by decide +kernel
theorem d_R_climbAll_47 : decode prog_6_method_18_code 47 = .ok (.goto (-45), 3) := by decide +kernel
theorem d_R_climbAll_50 : decode prog_6_method_18_code 50 = .ok (.iconst 0, 1) := by decide +kernel
theorem d_R_climbAll_51 : decode prog_6_method_18_code 51 = .ok (.istore_n 1, 1) := by decide +kernel
theorem d_R_climbAll_52 : decode prog_6_method_18_code 52 = .ok (.iload_n 1, 1) := by decide +kernel
theorem d_R_climbAll_53 : decode prog_6_method_18_code 53 = .ok (.aload_n 0, 1) := by decide +kernel
theorem d_R_climbAll_54 : decode prog_6_method_18_code 54 = .ok (.getfield 70, 3) := by decide +kernel
theorem d_R_climbAll_57 : decode prog_6_method_18_code 57 = .ok (.if_icmp .ge 203, 3) := by decide +kernel
theorem d_R_climbAll_60 : decode prog_6_method_18_code 60 = .ok (.aload_n 0, 1) := by decide +kernel
theorem d_R_climbAll_61 : decode prog_6_method_18_code 61 = .ok (.getfield 17, 3) := by decide +kernel
theorem d_R_climbAll_64 : decode prog_6_method_18_code 64 = .ok (.iload_n 1, 1) := by decide +kernel
theorem d_R_climbAll_65 : decode prog_6_method_18_code 65 = .ok (.iaload, 1) := by decide +kernel
theorem d_R_climbAll_66 : decode prog_6_method_18_code 66 = .ok (.istore_n 2, 1) := by decide +kernel
theorem d_R_climbAll_67 : decode prog_6_method_18_code 67 = .ok (.iconst 0, 1) := by decide +kernel
theorem d_R_climbAll_68 : decode prog_6_method_18_code 68 = .ok (.istore_n 3, 1) := by decide +kernel
theorem d_R_climbAll_69 : decode prog_6_method_18_code 69 = .ok (.iload_n 3, 1) := by decide +kernel
theorem d_R_climbAll_70 : decode prog_6_method_18_code 70 = .ok (.iload_n 1, 1) := by decide +kernel
theorem d_R_climbAll_71 : decode prog_6_method_18_code 71 = .ok (.if_icmp .ge 183, 3) := by decide +kernel
theorem d_R_climbAll_74 : decode prog_6_method_18_code 74 = .ok (.aload_n 0, 1) := by decide +kernel
theorem d_R_climbAll_75 : decode prog_6_method_18_code 75 = .ok (.getfield 17, 3) := by decide +kernel
theorem d_R_climbAll_78 : decode prog_6_method_18_code 78 = .ok (.iload_n 3, 1) := by decide +kernel
theorem d_R_climbAll_79 : decode prog_6_method_18_code 79 = .ok (.iaload, 1) := by decide +kernel
theorem d_R_climbAll_80 : decode prog_6_method_18_code 80 = .ok (.istore 4, 2) := by decide +kernel
theorem d_R_climbAll_82 : decode prog_6_method_18_code 82 = .ok (.iconst 0, 1) := by decide +kernel
theorem d_R_climbAll_83 : decode prog_6_method_18_code 83 = .ok (.istore 5, 2) := by decide +kernel
theorem d_R_climbAll_85 : decode prog_6_method_18_code 85 = .ok (.iload 5, 2) := by decide +kernel
theorem d_R_climbAll_87 : decode prog_6_method_18_code 87 = .ok (.aload_n 0, 1) := by decide +kernel
theorem d_R_climbAll_88 : decode prog_6_method_18_code 88 = .ok (.getfield 70, 3) := by decide +kernel
theorem d_R_climbAll_91 : decode prog_6_method_18_code 91 = .ok (.if_icmp .ge 157, 3) := by decide +kernel
theorem d_R_climbAll_94 : decode prog_6_method_18_code 94 = .ok (.aload_n 0, 1) := by decide +kernel
theorem d_R_climbAll_95 : decode prog_6_method_18_code 95 = .ok (.getfield 45, 3) := by decide +kernel
theorem d_R_climbAll_98 : decode prog_6_method_18_code 98 = .ok (.bipush 16, 2) := by decide +kernel
theorem d_R_climbAll_100 : decode prog_6_method_18_code 100 = .ok (.iload_n 2, 1) := by decide +kernel
theorem d_R_climbAll_101 : decode prog_6_method_18_code 101 = .ok (.imul, 1) := by decide +kernel
theorem d_R_climbAll_102 : decode prog_6_method_18_code 102 = .ok (.iload 4, 2) := by decide +kernel
theorem d_R_climbAll_104 : decode prog_6_method_18_code 104 = .ok (.iadd, 1) := by decide +kernel
theorem d_R_climbAll_105 : decode prog_6_method_18_code 105 = .ok (.iaload, 1) := by decide +kernel
theorem d_R_climbAll_106 : decode prog_6_method_18_code 106 = .ok (.aload_n 0, 1) := by decide +kernel
theorem d_R_climbAll_107 : decode prog_6_method_18_code 107 = .ok (.getfield 63, 3) := by decide +kernel
theorem d_R_climbAll_110 : decode prog_6_method_18_code 110 = .ok (.bipush 16, 2) := by decide +kernel
theorem d_R_climbAll_112 : decode prog_6_method_18_code 112 = .ok (.iload 4, 2) := by decide +kernel
theorem d_R_climbAll_114 : decode prog_6_method_18_code 114 = .ok (.imul, 1) := by decide +kernel
theorem d_R_climbAll_115 : decode prog_6_method_18_code 115 = .ok (.iload 5, 2) := by decide +kernel
theorem d_R_climbAll_117 : decode prog_6_method_18_code 117 = .ok (.iadd, 1) := by decide +kernel
theorem d_R_climbAll_118 : decode prog_6_method_18_code 118 = .ok (.iaload, 1) := by decide +kernel
theorem d_R_climbAll_119 : decode prog_6_method_18_code 119 = .ok (.iadd, 1) := by decide +kernel
theorem d_R_climbAll_120 : decode prog_6_method_18_code 120 = .ok (.istore 6, 2) := by decide +kernel
theorem d_R_climbAll_122 : decode prog_6_method_18_code 122 = .ok (.aload_n 0, 1) := by decide +kernel
theorem d_R_climbAll_123 : decode prog_6_method_18_code 123 = .ok (.getfield 66, 3) := by decide +kernel
theorem d_R_climbAll_126 : decode prog_6_method_18_code 126 = .ok (.bipush 16, 2) := by decide +kernel
theorem d_R_climbAll_128 : decode prog_6_method_18_code 128 = .ok (.iload 5, 2) := by decide +kernel
theorem d_R_climbAll_130 : decode prog_6_method_18_code 130 = .ok (.imul, 1) := by decide +kernel
theorem d_R_climbAll_131 : decode prog_6_method_18_code 131 = .ok (.iload 4, 2) := by decide +kernel
theorem d_R_climbAll_133 : decode prog_6_method_18_code 133 = .ok (.iadd, 1) := by decide +kernel
theorem d_R_climbAll_134 : decode prog_6_method_18_code 134 = .ok (.iaload, 1) := by decide +kernel
theorem d_R_climbAll_135 : decode prog_6_method_18_code 135 = .ok (.aload_n 0, 1) := by decide +kernel
theorem d_R_climbAll_136 : decode prog_6_method_18_code 136 = .ok (.getfield 45, 3) := by decide +kernel
theorem d_R_climbAll_139 : decode prog_6_method_18_code 139 = .ok (.bipush 16, 2) := by decide +kernel
theorem d_R_climbAll_141 : decode prog_6_method_18_code 141 = .ok (.iload 4, 2) := by decide +kernel
theorem d_R_climbAll_143 : decode prog_6_method_18_code 143 = .ok (.imul, 1) := by decide +kernel
theorem d_R_climbAll_144 : decode prog_6_method_18_code 144 = .ok (.iload_n 2, 1) := by decide +kernel
theorem d_R_climbAll_145 : decode prog_6_method_18_code 145 = .ok (.iadd, 1) := by decide +kernel
theorem d_R_climbAll_146 : decode prog_6_method_18_code 146 = .ok (.iaload, 1) := by decide +kernel
theorem d_R_climbAll_147 : decode prog_6_method_18_code 147 = .ok (.iadd, 1) := by decide +kernel
theorem d_R_climbAll_148 : decode prog_6_method_18_code 148 = .ok (.istore 7, 2) := by decide +kernel
theorem d_R_climbAll_150 : decode prog_6_method_18_code 150 = .ok (.aload_n 0, 1) := by decide +kernel
theorem d_R_climbAll_151 : decode prog_6_method_18_code 151 = .ok (.getfield 63, 3) := by decide +kernel
theorem d_R_climbAll_154 : decode prog_6_method_18_code 154 = .ok (.bipush 16, 2) := by decide +kernel
theorem d_R_climbAll_156 : decode prog_6_method_18_code 156 = .ok (.iload_n 2, 1) := by decide +kernel
theorem d_R_climbAll_157 : decode prog_6_method_18_code 157 = .ok (.imul, 1) := by decide +kernel
theorem d_R_climbAll_158 : decode prog_6_method_18_code 158 = .ok (.iload 5, 2) := by decide +kernel
theorem d_R_climbAll_160 : decode prog_6_method_18_code 160 = .ok (.iadd, 1) := by decide +kernel
theorem d_R_climbAll_161 : decode prog_6_method_18_code 161 = .ok (.iload 6, 2) := by decide +kernel
theorem d_R_climbAll_163 : decode prog_6_method_18_code 163 = .ok (.aload_n 0, 1) := by decide +kernel
theorem d_R_climbAll_164 : decode prog_6_method_18_code 164 = .ok (.getfield 63, 3) := by decide +kernel
theorem d_R_climbAll_167 : decode prog_6_method_18_code 167 = .ok (.bipush 16, 2) := by decide +kernel
theorem d_R_climbAll_169 : decode prog_6_method_18_code 169 = .ok (.iload_n 2, 1) := by decide +kernel
theorem d_R_climbAll_170 : decode prog_6_method_18_code 170 = .ok (.imul, 1) := by decide +kernel
theorem d_R_climbAll_171 : decode prog_6_method_18_code 171 = .ok (.iload 5, 2) := by decide +kernel
theorem d_R_climbAll_173 : decode prog_6_method_18_code 173 = .ok (.iadd, 1) := by decide +kernel
theorem d_R_climbAll_174 : decode prog_6_method_18_code 174 = .ok (.iaload, 1) := by decide +kernel
theorem d_R_climbAll_175 : decode prog_6_method_18_code 175 = .ok (.if_icmp .ge 8, 3) := by decide +kernel
theorem d_R_climbAll_178 : decode prog_6_method_18_code 178 = .ok (.iload 6, 2) := by decide +kernel
theorem d_R_climbAll_180 : decode prog_6_method_18_code 180 = .ok (.goto 15, 3) := by decide +kernel
theorem d_R_climbAll_183 : decode prog_6_method_18_code 183 = .ok (.aload_n 0, 1) := by decide +kernel
theorem d_R_climbAll_184 : decode prog_6_method_18_code 184 = .ok (.getfield 63, 3) := by decide +kernel
theorem d_R_climbAll_187 : decode prog_6_method_18_code 187 = .ok (.bipush 16, 2) := by decide +kernel
theorem d_R_climbAll_189 : decode prog_6_method_18_code 189 = .ok (.iload_n 2, 1) := by decide +kernel
theorem d_R_climbAll_190 : decode prog_6_method_18_code 190 = .ok (.imul, 1) := by decide +kernel
theorem d_R_climbAll_191 : decode prog_6_method_18_code 191 = .ok (.iload 5, 2) := by decide +kernel
theorem d_R_climbAll_193 : decode prog_6_method_18_code 193 = .ok (.iadd, 1) := by decide +kernel
theorem d_R_climbAll_194 : decode prog_6_method_18_code 194 = .ok (.iaload, 1) := by decide +kernel
theorem d_R_climbAll_195 : decode prog_6_method_18_code 195 = .ok (.iastore, 1) := by decide +kernel
theorem d_R_climbAll_196 : decode prog_6_method_18_code 196 = .ok (.aload_n 0, 1) := by decide +kernel
theorem d_R_climbAll_197 : decode prog_6_method_18_code 197 = .ok (.getfield 66, 3) := by decide +kernel
theorem d_R_climbAll_200 : decode prog_6_method_18_code 200 = .ok (.bipush 16, 2) := by decide +kernel
theorem d_R_climbAll_202 : decode prog_6_method_18_code 202 = .ok (.iload 5, 2) := by decide +kernel
theorem d_R_climbAll_204 : decode prog_6_method_18_code 204 = .ok (.imul, 1) := by decide +kernel
theorem d_R_climbAll_205 : decode prog_6_method_18_code 205 = .ok (.iload_n 2, 1) := by decide +kernel
theorem d_R_climbAll_206 : decode prog_6_method_18_code 206 = .ok (.iadd, 1) := by decide +kernel
theorem d_R_climbAll_207 : decode prog_6_method_18_code 207 = .ok (.iload 7, 2) := by decide +kernel
theorem d_R_climbAll_209 : decode prog_6_method_18_code 209 = .ok (.aload_n 0, 1) := by decide +kernel
theorem d_R_climbAll_210 : decode prog_6_method_18_code 210 = .ok (.getfield 66, 3) := by decide +kernel
theorem d_R_climbAll_213 : decode prog_6_method_18_code 213 = .ok (.bipush 16, 2) := by decide +kernel
theorem d_R_climbAll_215 : decode prog_6_method_18_code 215 = .ok (.iload 5, 2) := by decide +kernel
theorem d_R_climbAll_217 : decode prog_6_method_18_code 217 = .ok (.imul, 1) := by decide +kernel
theorem d_R_climbAll_218 : decode prog_6_method_18_code 218 = .ok (.iload_n 2, 1) := by decide +kernel
theorem d_R_climbAll_219 : decode prog_6_method_18_code 219 = .ok (.iadd, 1) := by decide +kernel
theorem d_R_climbAll_220 : decode prog_6_method_18_code 220 = .ok (.iaload, 1) := by decide +kernel
theorem d_R_climbAll_221 : decode prog_6_method_18_code 221 = .ok (.if_icmp .ge 8, 3) := by decide +kernel
theorem d_R_climbAll_224 : decode prog_6_method_18_code 224 = .ok (.iload 7, 2) := by decide +kernel
theorem d_R_climbAll_226 : decode prog_6_method_18_code 226 = .ok (.goto 15, 3) := by decide +kernel
theorem d_R_climbAll_229 : decode prog_6_method_18_code 229 = .ok (.aload_n 0, 1) := by decide +kernel
theorem d_R_climbAll_230 : decode prog_6_method_18_code 230 = .ok (.getfield 66, 3) := by decide +kernel
theorem d_R_climbAll_233 : decode prog_6_method_18_code 233 = .ok (.bipush 16, 2) := by decide +kernel
theorem d_R_climbAll_235 : decode prog_6_method_18_code 235 = .ok (.iload 5, 2) := by decide +kernel
theorem d_R_climbAll_237 : decode prog_6_method_18_code 237 = .ok (.imul, 1) := by decide +kernel
theorem d_R_climbAll_238 : decode prog_6_method_18_code 238 = .ok (.iload_n 2, 1) := by decide +kernel
theorem d_R_climbAll_239 : decode prog_6_method_18_code 239 = .ok (.iadd, 1) := by decide +kernel
theorem d_R_climbAll_240 : decode prog_6_method_18_code 240 = .ok (.iaload, 1) := by decide +kernel
theorem d_R_climbAll_241 : decode prog_6_method_18_code 241 = .ok (.iastore, 1) := by decide +kernel
theorem d_R_climbAll_242 : decode prog_6_method_18_code 242 = .ok (.iinc 5 1, 3) := by decide +kernel
theorem d_R_climbAll_245 : decode prog_6_method_18_code 245 = .ok (.goto (-160), 3) := by decide +kernel
theorem d_R_climbAll_248 : decode prog_6_method_18_code 248 = .ok (.iinc 3 1, 3) := by decide +kernel
theorem d_R_climbAll_251 : decode prog_6_method_18_code 251 = .ok (.goto (-182), 3) := by decide +kernel
theorem d_R_climbAll_254 : decode prog_6_method_18_code 254 = .ok (.iinc 1 1, 3) := by decide +kernel
theorem d_R_climbAll_257 : decode prog_6_method_18_code 257 = .ok (.goto (-205), 3) := by decide +kernel
theorem d_R_climbAll_260 : decode prog_6_method_18_code 260 = .ok (.iconst 0, 1) := by decide +kernel
theorem d_R_climbAll_261 : decode prog_6_method_18_code 261 = .ok (.istore_n 1, 1) := by decide +kernel
theorem d_R_climbAll_262 : decode prog_6_method_18_code 262 = .ok (.iload_n 1, 1) := by decide +kernel
theorem d_R_climbAll_263 : decode prog_6_method_18_code 263 = .ok (.sipush 256, 3) := by decide +kernel
theorem d_R_climbAll_266 : decode prog_6_method_18_code 266 = .ok (.if_icmp .ge 79, 3) := by decide +kernel
theorem d_R_climbAll_269 : decode prog_6_method_18_code 269 = .ok (.ldc 69, 2) := by decide +kernel
theorem d_R_climbAll_271 : decode prog_6_method_18_code 271 = .ok (.istore_n 2, 1) := by decide +kernel
theorem d_R_climbAll_272 : decode prog_6_method_18_code 272 = .ok (.iconst 0, 1) := by decide +kernel
theorem d_R_climbAll_273 : decode prog_6_method_18_code 273 = .ok (.istore_n 3, 1) := by decide +kernel
theorem d_R_climbAll_274 : decode prog_6_method_18_code 274 = .ok (.iload_n 3, 1) := by decide +kernel
theorem d_R_climbAll_275 : decode prog_6_method_18_code 275 = .ok (.aload_n 0, 1) := by decide +kernel
theorem d_R_climbAll_276 : decode prog_6_method_18_code 276 = .ok (.getfield 70, 3) := by decide +kernel
theorem d_R_climbAll_279 : decode prog_6_method_18_code 279 = .ok (.if_icmp .ge 53, 3) := by decide +kernel
theorem d_R_climbAll_282 : decode prog_6_method_18_code 282 = .ok (.aload_n 0, 1) := by decide +kernel
theorem d_R_climbAll_283 : decode prog_6_method_18_code 283 = .ok (.getfield 63, 3) := by decide +kernel
theorem d_R_climbAll_286 : decode prog_6_method_18_code 286 = .ok (.bipush 16, 2) := by decide +kernel
theorem d_R_climbAll_288 : decode prog_6_method_18_code 288 = .ok (.iload_n 1, 1) := by decide +kernel
theorem d_R_climbAll_289 : decode prog_6_method_18_code 289 = .ok (.bipush 16, 2) := by decide +kernel
theorem d_R_climbAll_291 : decode prog_6_method_18_code 291 = .ok (.idiv, 1) := by decide +kernel
theorem d_R_climbAll_292 : decode prog_6_method_18_code 292 = .ok (.imul, 1) := by decide +kernel
theorem d_R_climbAll_293 : decode prog_6_method_18_code 293 = .ok (.iload_n 3, 1) := by decide +kernel
theorem d_R_climbAll_294 : decode prog_6_method_18_code 294 = .ok (.iadd, 1) := by decide +kernel
theorem d_R_climbAll_295 : decode prog_6_method_18_code 295 = .ok (.iaload, 1) := by decide +kernel
theorem d_R_climbAll_296 : decode prog_6_method_18_code 296 = .ok (.aload_n 0, 1) := by decide +kernel
theorem d_R_climbAll_297 : decode prog_6_method_18_code 297 = .ok (.getfield 66, 3) := by decide +kernel
theorem d_R_climbAll_300 : decode prog_6_method_18_code 300 = .ok (.bipush 16, 2) := by decide +kernel
theorem d_R_climbAll_302 : decode prog_6_method_18_code 302 = .ok (.iload_n 3, 1) := by decide +kernel
theorem d_R_climbAll_303 : decode prog_6_method_18_code 303 = .ok (.imul, 1) := by decide +kernel
theorem d_R_climbAll_304 : decode prog_6_method_18_code 304 = .ok (.iload_n 1, 1) := by decide +kernel
theorem d_R_climbAll_305 : decode prog_6_method_18_code 305 = .ok (.bipush 16, 2) := by decide +kernel
theorem d_R_climbAll_307 : decode prog_6_method_18_code 307 = .ok (.irem, 1) := by decide +kernel
theorem d_R_climbAll_308 : decode prog_6_method_18_code 308 = .ok (.iadd, 1) := by decide +kernel
theorem d_R_climbAll_309 : decode prog_6_method_18_code 309 = .ok (.iaload, 1) := by decide +kernel
theorem d_R_climbAll_310 : decode prog_6_method_18_code 310 = .ok (.iadd, 1) := by decide +kernel
theorem d_R_climbAll_311 : decode prog_6_method_18_code 311 = .ok (.istore 4, 2) := by decide +kernel
theorem d_R_climbAll_313 : decode prog_6_method_18_code 313 = .ok (.iload 4, 2) := by decide +kernel
theorem d_R_climbAll_315 : decode prog_6_method_18_code 315 = .ok (.iload_n 2, 1) := by decide +kernel
theorem d_R_climbAll_316 : decode prog_6_method_18_code 316 = .ok (.if_icmp .ge 8, 3) := by decide +kernel
theorem d_R_climbAll_319 : decode prog_6_method_18_code 319 = .ok (.iload 4, 2) := by decide +kernel
theorem d_R_climbAll_321 : decode prog_6_method_18_code 321 = .ok (.goto 4, 3) := by decide +kernel
theorem d_R_climbAll_324 : decode prog_6_method_18_code 324 = .ok (.iload_n 2, 1) := by decide +kernel
theorem d_R_climbAll_325 : decode prog_6_method_18_code 325 = .ok (.istore_n 2, 1) := by decide +kernel
theorem d_R_climbAll_326 : decode prog_6_method_18_code 326 = .ok (.iinc 3 1, 3) := by decide +kernel
theorem d_R_climbAll_329 : decode prog_6_method_18_code 329 = .ok (.goto (-55), 3) := by decide +kernel
theorem d_R_climbAll_332 : decode prog_6_method_18_code 332 = .ok (.aload_n 0, 1) := by decide +kernel
theorem d_R_climbAll_333 : decode prog_6_method_18_code 333 = .ok (.getfield 48, 3) := by decide +kernel
theorem d_R_climbAll_336 : decode prog_6_method_18_code 336 = .ok (.iload_n 1, 1) := by decide +kernel
theorem d_R_climbAll_337 : decode prog_6_method_18_code 337 = .ok (.iload_n 2, 1) := by decide +kernel
theorem d_R_climbAll_338 : decode prog_6_method_18_code 338 = .ok (.iastore, 1) := by decide +kernel
theorem d_R_climbAll_339 : decode prog_6_method_18_code 339 = .ok (.iinc 1 1, 3) := by decide +kernel
theorem d_R_climbAll_342 : decode prog_6_method_18_code 342 = .ok (.goto (-80), 3) := by decide +kernel
theorem d_R_climbAll_345 : decode prog_6_method_18_code 345 = .ok (.return_, 1) := by decide +kernel
