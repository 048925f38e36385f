theorem d_R_meeting_0 : decode prog_6_method_23_code 0 = .ok (.aload_n 0, 1) := by decide +kernel
theorem d_R_meeting_1 : decode prog_6_method_23_code 1 = .ok (.iconst 0, 1) := by decide +kernel
theorem d_R_meeting_2 : decode prog_6_method_23_code 2 = .ok (.putfield 1, 3) := by decide +kernel
theorem d_R_meeting_5 : decode prog_6_method_23_code 5 = .ok (.aload_n 0, 1) := by decide +kernel
theorem d_R_meeting_6 : decode prog_6_method_23_code 6 = .ok (.getfield 81, 3) := by decide +kernel
theorem d_R_meeting_9 : decode prog_6_method_23_code 9 = .ok (.ifCond .ne 6, 3) := by decide +kernel
theorem d_R_meeting_12 : decode prog_6_method_23_code 12 = .ok (.bipush (-4), 2) := by decide +kernel
theorem d_R_meeting_14 : decode prog_6_method_23_code 14 = .ok (.ireturn, 1) := by decide +kernel
theorem d_R_meeting_15 : decode prog_6_method_23_code 15 = .ok (.aload_n 0, 1) := by decide +kernel
theorem d_R_meeting_16 : decode prog_6_method_23_code 16 = .ok (.iload_n 1, 1) := by decide +kernel
theorem d_R_meeting_17 : decode prog_6_method_23_code 17 = .ok (.iload_n 2, 1) := by decide +kernel
theorem d_R_meeting_18 : decode prog_6_method_23_code 18 = .ok (.invokevirtual 85, 3) := by decide +kernel
theorem d_R_meeting_21 : decode prog_6_method_23_code 21 = .ok (.ifCond .eq 8, 3) := by decide +kernel
theorem d_R_meeting_24 : decode prog_6_method_23_code 24 = .ok (.bipush (-2), 2) := by decide +kernel
theorem d_R_meeting_26 : decode prog_6_method_23_code 26 = .ok (.goto 9, 3) := by decide +kernel
theorem d_R_meeting_29 : decode prog_6_method_23_code 29 = .ok (.aload_n 0, 1) := by decide +kernel
theorem d_R_meeting_30 : decode prog_6_method_23_code 30 = .ok (.iload_n 1, 1) := by decide +kernel
theorem d_R_meeting_31 : decode prog_6_method_23_code 31 = .ok (.iload_n 2, 1) := by decide +kernel
theorem d_R_meeting_32 : decode prog_6_method_23_code 32 = .ok (.invokevirtual 126, 3) := by decide +kernel
theorem d_R_meeting_35 : decode prog_6_method_23_code 35 = .ok (.ireturn, 1) := by decide +kernel
theorem d_R_redone_0 : decode prog_6_method_24_code 0 = .ok (.aload_n 0, 1) := by decide +kernel
theorem d_R_redone_1 : decode prog_6_method_24_code 1 = .ok (.iconst 0, 1) := by decide +kernel
theorem d_R_redone_2 : decode prog_6_method_24_code 2 = .ok (.putfield 1, 3) := by decide +kernel
theorem d_R_redone_5 : decode prog_6_method_24_code 5 = .ok (.aload_n 0, 1) := by decide +kernel
theorem d_R_redone_6 : decode prog_6_method_24_code 6 = .ok (.getfield 81, 3) := by decide +kernel
theorem d_R_redone_9 : decode prog_6_method_24_code 9 = .ok (.ifCond .eq 10, 3) := by decide +kernel
theorem d_R_redone_12 : decode prog_6_method_24_code 12 = .ok (.aload_n 0, 1) := by decide +kernel
theorem d_R_redone_13 : decode prog_6_method_24_code 13 = .ok (.getfield 101, 3) := by decide +kernel
theorem d_R_redone_16 : decode prog_6_method_24_code 16 = .ok (.goto 5, 3) := by decide +kernel
theorem d_R_redone_19 : decode prog_6_method_24_code 19 = .ok (.bipush (-4), 2) := by decide +kernel
theorem d_R_redone_21 : decode prog_6_method_24_code 21 = .ok (.ireturn, 1) := by decide +kernel
theorem d_R_damage_0 : decode prog_6_method_25_code 0 = .ok (.aload_n 0, 1) := by decide +kernel
theorem d_R_damage_1 : decode prog_6_method_25_code 1 = .ok (.iconst 0, 1) := by decide +kernel
theorem d_R_damage_2 : decode prog_6_method_25_code 2 = .ok (.putfield 1, 3) := by decide +kernel
theorem d_R_damage_5 : decode prog_6_method_25_code 5 = .ok (.aload_n 0, 1) := by decide +kernel
theorem d_R_damage_6 : decode prog_6_method_25_code 6 = .ok (.getfield 81, 3) := by decide +kernel
theorem d_R_damage_9 : decode prog_6_method_25_code 9 = .ok (.ifCond .ne 6, 3) := by decide +kernel
theorem d_R_damage_12 : decode prog_6_method_25_code 12 = .ok (.bipush (-4), 2) := by decide +kernel
theorem d_R_damage_14 : decode prog_6_method_25_code 14 = .ok (.ireturn, 1) := by decide +kernel
theorem d_R_damage_15 : decode prog_6_method_25_code 15 = .ok (.iload_n 1, 1) := by decide +kernel
theorem d_R_damage_16 : decode prog_6_method_25_code 16 = .ok (.iconst 0, 1) := by decide +kernel
theorem d_R_damage_17 : decode prog_6_method_25_code 17 = .ok (.iconst 1, 1) := by decide +kernel
theorem d_R_damage_18 : decode prog_6_method_25_code 18 = .ok (.invokestatic 73, 3) := by decide +kernel
theorem d_R_damage_21 : decode prog_6_method_25_code 21 = .ok (.ifCond .eq 25, 3) := by decide +kernel
theorem d_R_damage_24 : decode prog_6_method_25_code 24 = .ok (.aload_n 0, 1) := by decide +kernel
theorem d_R_damage_25 : decode prog_6_method_25_code 25 = .ok (.iload_n 2, 1) := by decide +kernel
theorem d_R_damage_26 : decode prog_6_method_25_code 26 = .ok (.invokevirtual 77, 3) := by decide +kernel
theorem d_R_damage_29 : decode prog_6_method_25_code 29 = .ok (.ifCond .ne 17, 3) := by decide +kernel
theorem d_R_damage_32 : decode prog_6_method_25_code 32 = .ok (.iload_n 3, 1) := by decide +kernel
theorem d_R_damage_33 : decode prog_6_method_25_code 33 = .ok (.ifCond .lt 13, 3) := by decide +kernel
theorem d_R_damage_36 : decode prog_6_method_25_code 36 = .ok (.aload_n 0, 1) := by decide +kernel
theorem d_R_damage_37 : decode prog_6_method_25_code 37 = .ok (.iload_n 1, 1) := by decide +kernel
theorem d_R_damage_38 : decode prog_6_method_25_code 38 = .ok (.iload_n 2, 1) := by decide +kernel
theorem d_R_damage_39 : decode prog_6_method_25_code 39 = .ok (.iload_n 3, 1) := by decide +kernel
theorem d_R_damage_40 : decode prog_6_method_25_code 40 = .ok (.invokevirtual 119, 3) := by decide +kernel
theorem d_R_damage_43 : decode prog_6_method_25_code 43 = .ok (.goto 4, 3) := by decide +kernel
theorem d_R_damage_46 : decode prog_6_method_25_code 46 = .ok (.iconst (-1), 1) := by decide +kernel
theorem d_R_damage_47 : decode prog_6_method_25_code 47 = .ok (.istore 5, 2) := by decide +kernel
theorem d_R_damage_49 : decode prog_6_method_25_code 49 = .ok (.iload 5, 2) := by decide +kernel
theorem d_R_damage_51 : decode prog_6_method_25_code 51 = .ok (.ifCond .lt 17, 3) := by decide +kernel
theorem d_R_damage_54 : decode prog_6_method_25_code 54 = .ok (.iload 4, 2) := by decide +kernel
theorem d_R_damage_56 : decode prog_6_method_25_code 56 = .ok (.sipush (-1000), 3) := by decide +kernel
theorem d_R_damage_59 : decode prog_6_method_25_code 59 = .ok (.sipush 1000, 3) := by decide +kernel
theorem d_R_damage_62 : decode prog_6_method_25_code 62 = .ok (.invokestatic 73, 3) := by decide +kernel
theorem d_R_damage_65 : decode prog_6_method_25_code 65 = .ok (.ifCond .ne 6, 3) := by decide +kernel
theorem d_R_damage_68 : decode prog_6_method_25_code 68 = .ok (.bipush (-2), 2) := by decide +kernel
theorem d_R_damage_70 : decode prog_6_method_25_code 70 = .ok (.ireturn, 1) := by decide +kernel
theorem d_R_damage_71 : decode prog_6_method_25_code 71 = .ok (.sipush 256, 3) := by decide +kernel
theorem d_R_damage_74 : decode prog_6_method_25_code 74 = .ok (.iload_n 1, 1) := by decide +kernel
theorem d_R_damage_75 : decode prog_6_method_25_code 75 = .ok (.imul, 1) := by decide +kernel
theorem d_R_damage_76 : decode prog_6_method_25_code 76 = .ok (.bipush 16, 2) := by decide +kernel
theorem d_R_damage_78 : decode prog_6_method_25_code 78 = .ok (.iload_n 2, 1) := by decide +kernel
theorem d_R_damage_79 : decode prog_6_method_25_code 79 = .ok (.imul, 1) := by decide +kernel
theorem d_R_damage_80 : decode prog_6_method_25_code 80 = .ok (.iadd, 1) := by decide +kernel
theorem d_R_damage_81 : decode prog_6_method_25_code 81 = .ok (.iload 5, 2) := by decide +kernel
theorem d_R_damage_83 : decode prog_6_method_25_code 83 = .ok (.iadd, 1) := by decide +kernel
theorem d_R_damage_84 : decode prog_6_method_25_code 84 = .ok (.istore 6, 2) := by decide +kernel
theorem d_R_damage_86 : decode prog_6_method_25_code 86 = .ok (.aload_n 0, 1) := by decide +kernel
theorem d_R_damage_87 : decode prog_6_method_25_code 87 = .ok (.getfield 33, 3) := by decide +kernel
theorem d_R_damage_90 : decode prog_6_method_25_code 90 = .ok (.iload 6, 2) := by decide +kernel
theorem d_R_damage_92 : decode prog_6_method_25_code 92 = .ok (.iaload, 1) := by decide +kernel
theorem d_R_damage_93 : decode prog_6_method_25_code 93 = .ok (.iconst 1, 1) := by decide +kernel
theorem d_R_damage_94 : decode prog_6_method_25_code 94 = .ok (.isub, 1) := by decide +kernel
theorem d_R_damage_95 : decode prog_6_method_25_code 95 = .ok (.iload 4, 2) := by decide +kernel
theorem d_R_damage_97 : decode prog_6_method_25_code 97 = .ok (.iadd, 1) := by decide +kernel
theorem d_R_damage_98 : decode prog_6_method_25_code 98 = .ok (.istore 7, 2) := by decide +kernel
theorem d_R_damage_100 : decode prog_6_method_25_code 100 = .ok (.iload 7, 2) := by decide +kernel
theorem d_R_damage_102 : decode prog_6_method_25_code 102 = .ok (.iconst 0, 1) := by decide +kernel
theorem d_R_damage_103 : decode prog_6_method_25_code 103 = .ok (.ldc 130, 2) := by decide +kernel
theorem d_R_damage_105 : decode prog_6_method_25_code 105 = .ok (.invokestatic 73, 3) := by decide +kernel
theorem d_R_damage_108 : decode prog_6_method_25_code 108 = .ok (.ifCond .ne 6, 3) := by decide +kernel
theorem d_R_damage_111 : decode prog_6_method_25_code 111 = .ok (.bipush (-2), 2) := by decide +kernel
theorem d_R_damage_113 : decode prog_6_method_25_code 113 = .ok (.ireturn, 1) := by decide +kernel
theorem d_R_damage_114 : decode prog_6_method_25_code 114 = .ok (.aload_n 0, 1) := by decide +kernel
theorem d_R_damage_115 : decode prog_6_method_25_code 115 = .ok (.getfield 33, 3) := by decide +kernel
theorem d_R_damage_118 : decode prog_6_method_25_code 118 = .ok (.iload 6, 2) := by decide +kernel
theorem d_R_damage_120 : decode prog_6_method_25_code 120 = .ok (.iload 7, 2) := by decide +kernel
theorem d_R_damage_122 : decode prog_6_method_25_code 122 = .ok (.iconst 1, 1) := by decide +kernel
theorem d_R_damage_123 : decode prog_6_method_25_code 123 = .ok (.iadd, 1) := by decide +kernel
theorem d_R_damage_124 : decode prog_6_method_25_code 124 = .ok (.iastore, 1) := by decide +kernel
theorem d_R_damage_125 : decode prog_6_method_25_code 125 = .ok (.iload 7, 2) := by decide +kernel
theorem d_R_damage_127 : decode prog_6_method_25_code 127 = .ok (.ireturn, 1) := by decide +kernel
theorem d_R_check_0 : decode prog_6_method_26_code 0 = .ok (.aload_n 0, 1) := by decide +kernel
theorem d_R_check_1 : decode prog_6_method_26_code 1 = .ok (.iconst 0, 1) := by decide +kernel
theorem d_R_check_2 : decode prog_6_method_26_code 2 = .ok (.putfield 1, 3) := by decide +kernel
theorem d_R_check_5 : decode prog_6_method_26_code 5 = .ok (.aload_n 0, 1) := by decide +kernel
theorem d_R_check_6 : decode prog_6_method_26_code 6 = .ok (.getfield 81, 3) := by decide +kernel
theorem d_R_check_9 : decode prog_6_method_26_code 9 = .ok (.ifCond .ne 6, 3) := by decide +kernel
theorem d_R_check_12 : decode prog_6_method_26_code 12 = .ok (.bipush (-4), 2) := by decide +kernel
theorem d_R_check_14 : decode prog_6_method_26_code 14 = .ok (.ireturn, 1) := by decide +kernel
theorem d_R_check_15 : decode prog_6_method_26_code 15 = .ok (.iconst 0, 1) := by decide +kernel
theorem d_R_check_16 : decode prog_6_method_26_code 16 = .ok (.istore_n 1, 1) := by decide +kernel
theorem d_R_check_17 : decode prog_6_method_26_code 17 = .ok (.iload_n 1, 1) := by decide +kernel
theorem d_R_check_18 : decode prog_6_method_26_code 18 = .ok (.aload_n 0, 1) := by decide +kernel
theorem d_R_check_19 : decode prog_6_method_26_code 19 = .ok (.getfield 70, 3) := by decide +kernel
theorem d_R_check_22 : decode prog_6_method_26_code 22 = .ok (.if_icmp .ge 91, 3) := by decide +kernel
theorem d_R_check_25 : decode prog_6_method_26_code 25 = .ok (.iconst 0, 1) := by decide +kernel
theorem d_R_check_26 : decode prog_6_method_26_code 26 = .ok (.istore_n 2, 1) := by decide +kernel
theorem d_R_check_27 : decode prog_6_method_26_code 27 = .ok (.iload_n 2, 1) := by decide +kernel
theorem d_R_check_28 : decode prog_6_method_26_code 28 = .ok (.aload_n 0, 1) := by decide +kernel
theorem d_R_check_29 : decode prog_6_method_26_code 29 = .ok (.getfield 70, 3) := by decide +kernel
theorem d_R_check_32 : decode prog_6_method_26_code 32 = .ok (.if_icmp .ge 75, 3) := by decide +kernel
theorem d_R_check_35 : decode prog_6_method_26_code 35 = .ok (.aload_n 0, 1) := by decide +kernel
theorem d_R_check_36 : decode prog_6_method_26_code 36 = .ok (.iload_n 1, 1) := by decide +kernel
theorem d_R_check_37 : decode prog_6_method_26_code 37 = .ok (.iload_n 2, 1) := by decide +kernel
theorem d_R_check_38 : decode prog_6_method_26_code 38 = .ok (.invokevirtual 126, 3) := by decide +kernel
theorem d_R_check_41 : decode prog_6_method_26_code 41 = .ok (.ifCond .ge 8, 3) := by decide +kernel
theorem d_R_check_44 : decode prog_6_method_26_code 44 = .ok (.ldc 69, 2) := by decide +kernel
theorem d_R_check_46 : decode prog_6_method_26_code 46 = .ok (.goto 7, 3) := by decide +kernel
theorem d_R_check_49 : decode prog_6_method_26_code 49 = .ok (.aload_n 0, 1) := by decide +kernel
theorem d_R_check_50 : decode prog_6_method_26_code 50 = .ok (.getfield 123, 3) := by decide +kernel
theorem d_R_check_53 : decode prog_6_method_26_code 53 = .ok (.istore_n 3, 1) := by decide +kernel
theorem d_R_check_54 : decode prog_6_method_26_code 54 = .ok (.aload_n 0, 1) := by decide +kernel
theorem d_R_check_55 : decode prog_6_method_26_code 55 = .ok (.getfield 24, 3) := by decide +kernel
theorem d_R_check_58 : decode prog_6_method_26_code 58 = .ok (.bipush 16, 2) := by decide +kernel
theorem d_R_check_60 : decode prog_6_method_26_code 60 = .ok (.iload_n 1, 1) := by decide +kernel
theorem d_R_check_61 : decode prog_6_method_26_code 61 = .ok (.imul, 1) := by decide +kernel
theorem d_R_check_62 : decode prog_6_method_26_code 62 = .ok (.iload_n 2, 1) := by decide +kernel
theorem d_R_check_63 : decode prog_6_method_26_code 63 = .ok (.iadd, 1) := by decide +kernel
theorem d_R_check_64 : decode prog_6_method_26_code 64 = .ok (.iaload, 1) := by decide +kernel
theorem d_R_check_65 : decode prog_6_method_26_code 65 = .ok (.ldc 69, 2) := by decide +kernel
theorem d_R_check_67 : decode prog_6_method_26_code 67 = .ok (.if_icmp .ge 17, 3) := by decide +kernel
theorem d_R_check_70 : decode prog_6_method_26_code 70 = .ok (.aload_n 0, 1) := by decide +kernel
theorem d_R_check_71 : decode prog_6_method_26_code 71 = .ok (.getfield 24, 3) := by decide +kernel
theorem d_R_check_74 : decode prog_6_method_26_code 74 = .ok (.bipush 16, 2) := by decide +kernel
theorem d_R_check_76 : decode prog_6_method_26_code 76 = .ok (.iload_n 1, 1) := by decide +kernel
theorem d_R_check_77 : decode prog_6_method_26_code 77 = .ok (.imul, 1) := by decide +kernel
theorem d_R_check_78 : decode prog_6_method_26_code 78 = .ok (.iload_n 2, 1) := by decide +kernel
theorem d_R_check_79 : decode prog_6_method_26_code 79 = .ok (.iadd, 1) := by decide +kernel
theorem d_R_check_80 : decode prog_6_method_26_code 80 = .ok (.iaload, 1) := by decide +kernel
theorem d_R_check_81 : decode prog_6_method_26_code 81 = .ok (.goto 5, 3) := by decide +kernel
theorem d_R_check_84 : decode prog_6_method_26_code 84 = .ok (.ldc 69, 2) := by decide +kernel
theorem d_R_check_86 : decode prog_6_method_26_code 86 = .ok (.istore 4, 2) := by decide +kernel
theorem d_R_check_88 : decode prog_6_method_26_code 88 = .ok (.iload_n 3, 1) := by decide +kernel
theorem d_R_check_89 : decode prog_6_method_26_code 89 = .ok (.iload 4, 2) := by decide +kernel
theorem d_R_check_91 : decode prog_6_method_26_code 91 = .ok (.if_icmp .eq 10, 3) := by decide +kernel
theorem d_R_check_94 : decode prog_6_method_26_code 94 = .ok (.bipush 16, 2) := by decide +kernel
theorem d_R_check_96 : decode prog_6_method_26_code 96 = .ok (.iload_n 1, 1) := by decide +kernel
theorem d_R_check_97 : decode prog_6_method_26_code 97 = .ok (.imul, 1) := by decide +kernel
theorem d_R_check_98 : decode prog_6_method_26_code 98 = .ok (.iload_n 2, 1) := by decide +kernel
theorem d_R_check_99 : decode prog_6_method_26_code 99 = .ok (.iadd, 1) := by decide +kernel
theorem d_R_check_100 : decode prog_6_method_26_code 100 = .ok (.ireturn, 1) := by decide +kernel
theorem d_R_check_101 : decode prog_6_method_26_code 101 = .ok (.iinc 2 1, 3) := by decide +kernel
theorem d_R_check_104 : decode prog_6_method_26_code 104 = .ok (.goto (-77), 3) := by decide +kernel
theorem d_R_check_107 : decode prog_6_method_26_code 107 = .ok (.iinc 1 1, 3) := by decide +kernel
theorem d_R_check_110 : decode prog_6_method_26_code 110 = .ok (.goto (-93), 3) := by decide +kernel
theorem d_R_check_113 : decode prog_6_method_26_code 113 = .ok (.iconst (-1), 1) := by decide +kernel
theorem d_R_check_114 : decode prog_6_method_26_code 114 = .ok (.ireturn, 1) := by decide +kernel
theorem d_R_shortcut_0 : decode prog_6_method_27_code 0 = .ok (.aload_n 0, 1) := by decide +kernel
theorem d_R_shortcut_1 : decode prog_6_method_27_code 1 = .ok (.iconst 0, 1) := by decide +kernel
theorem d_R_shortcut_2 : decode prog_6_method_27_code 2 = .ok (.putfield 1, 3) := by decide +kernel
theorem d_R_shortcut_5 : decode prog_6_method_27_code 5 = .ok (.aload_n 0, 1) := by decide +kernel
theorem d_R_shortcut_6 : decode prog_6_method_27_code 6 = .ok (.getfield 81, 3) := by decide +kernel
theorem d_R_shortcut_9 : decode prog_6_method_27_code 9 = .ok (.ifCond .ne 6, 3) := by decide +kernel
theorem d_R_shortcut_12 : decode prog_6_method_27_code 12 = .ok (.bipush (-4), 2) := by decide +kernel
theorem d_R_shortcut_14 : decode prog_6_method_27_code 14 = .ok (.ireturn, 1) := by decide +kernel
theorem d_R_shortcut_15 : decode prog_6_method_27_code 15 = .ok (.iload_n 1, 1) := by decide +kernel
theorem d_R_shortcut_16 : decode prog_6_method_27_code 16 = .ok (.iconst (-1), 1) := by decide +kernel
theorem d_R_shortcut_17 : decode prog_6_method_27_code 17 = .ok (.if_icmp .ne 8, 3) := by decide +kernel
theorem d_R_shortcut_20 : decode prog_6_method_27_code 20 = .ok (.aload_n 0, 1) := by decide +kernel
theorem d_R_shortcut_21 : decode prog_6_method_27_code 21 = .ok (.getfield 110, 3) := by decide +kernel
theorem d_R_shortcut_24 : decode prog_6_method_27_code 24 = .ok (.ireturn, 1) := by decide +kernel
theorem d_R_shortcut_25 : decode prog_6_method_27_code 25 = .ok (.iload_n 1, 1) := by decide +kernel
theorem d_R_shortcut_26 : decode prog_6_method_27_code 26 = .ok (.iconst 0, 1) := by decide +kernel
theorem d_R_shortcut_27 : decode prog_6_method_27_code 27 = .ok (.aload_n 0, 1) := by decide +kernel
theorem d_R_shortcut_28 : decode prog_6_method_27_code 28 = .ok (.getfield 110, 3) := by decide +kernel
theorem d_R_shortcut_31 : decode prog_6_method_27_code 31 = .ok (.iconst 1, 1) := by decide +kernel
theorem d_R_shortcut_32 : decode prog_6_method_27_code 32 = .ok (.isub, 1) := by decide +kernel
theorem d_R_shortcut_33 : decode prog_6_method_27_code 33 = .ok (.invokestatic 73, 3) := by decide +kernel
theorem d_R_shortcut_36 : decode prog_6_method_27_code 36 = .ok (.ifCond .ne 6, 3) := by decide +kernel
theorem d_R_shortcut_39 : decode prog_6_method_27_code 39 = .ok (.bipush (-2), 2) := by decide +kernel
theorem d_R_shortcut_41 : decode prog_6_method_27_code 41 = .ok (.ireturn, 1) := by decide +kernel
theorem d_R_shortcut_42 : decode prog_6_method_27_code 42 = .ok (.iload_n 2, 1) := by decide +kernel
theorem d_R_shortcut_43 : decode prog_6_method_27_code 43 = .ok (.ifCond .ne 12, 3) := by decide +kernel
theorem d_R_shortcut_46 : decode prog_6_method_27_code 46 = .ok (.aload_n 0, 1) := by decide +kernel
theorem d_R_shortcut_47 : decode prog_6_method_27_code 47 = .ok (.getfield 51, 3) := by decide +kernel
theorem d_R_shortcut_50 : decode prog_6_method_27_code 50 = .ok (.iload_n 1, 1) := by decide +kernel
theorem d_R_shortcut_51 : decode prog_6_method_27_code 51 = .ok (.iaload, 1) := by decide +kernel
theorem d_R_shortcut_52 : decode prog_6_method_27_code 52 = .ok (.goto 47, 3) := by decide +kernel
theorem d_R_shortcut_55 : decode prog_6_method_27_code 55 = .ok (.iload_n 2, 1) := by decide +kernel
theorem d_R_shortcut_56 : decode prog_6_method_27_code 56 = .ok (.iconst 1, 1) := by decide +kernel
theorem d_R_shortcut_57 : decode prog_6_method_27_code 57 = .ok (.if_icmp .ne 12, 3) := by decide +kernel
theorem d_R_shortcut_60 : decode prog_6_method_27_code 60 = .ok (.aload_n 0, 1) := by decide +kernel
theorem d_R_shortcut_61 : decode prog_6_method_27_code 61 = .ok (.getfield 54, 3) := by decide +kernel
theorem d_R_shortcut_64 : decode prog_6_method_27_code 64 = .ok (.iload_n 1, 1) := by decide +kernel
theorem d_R_shortcut_65 : decode prog_6_method_27_code 65 = .ok (.iaload, 1) := by decide +kernel
theorem d_R_shortcut_66 : decode prog_6_method_27_code 66 = .ok (.goto 33, 3) := by decide +kernel
theorem d_R_shortcut_69 : decode prog_6_method_27_code 69 = .ok (.iload_n 2, 1) := by decide +kernel
theorem d_R_shortcut_70 : decode prog_6_method_27_code 70 = .ok (.iconst 2, 1) := by decide +kernel
theorem d_R_shortcut_71 : decode prog_6_method_27_code 71 = .ok (.if_icmp .ne 12, 3) := by decide +kernel
theorem d_R_shortcut_74 : decode prog_6_method_27_code 74 = .ok (.aload_n 0, 1) := by decide +kernel
theorem d_R_shortcut_75 : decode prog_6_method_27_code 75 = .ok (.getfield 57, 3) := by decide +kernel
theorem d_R_shortcut_78 : decode prog_6_method_27_code 78 = .ok (.iload_n 1, 1) := by decide +kernel
theorem d_R_shortcut_79 : decode prog_6_method_27_code 79 = .ok (.iaload, 1) := by decide +kernel
theorem d_R_shortcut_80 : decode prog_6_method_27_code 80 = .ok (.goto 19, 3) := by decide +kernel
theorem d_R_shortcut_83 : decode prog_6_method_27_code 83 = .ok (.iload_n 2, 1) := by decide +kernel
theorem d_R_shortcut_84 : decode prog_6_method_27_code 84 = .ok (.iconst 3, 1) := by decide +kernel
theorem d_R_shortcut_85 : decode prog_6_method_27_code 85 = .ok (.if_icmp .ne 12, 3) := by decide +kernel
theorem d_R_shortcut_88 : decode prog_6_method_27_code 88 = .ok (.aload_n 0, 1) := by decide +kernel
theorem d_R_shortcut_89 : decode prog_6_method_27_code 89 = .ok (.getfield 60, 3) := by decide +kernel
theorem d_R_shortcut_92 : decode prog_6_method_27_code 92 = .ok (.iload_n 1, 1) := by decide +kernel
theorem d_R_shortcut_93 : decode prog_6_method_27_code 93 = .ok (.iaload, 1) := by decide +kernel
theorem d_R_shortcut_94 : decode prog_6_method_27_code 94 = .ok (.goto 5, 3) := by decide +kernel
theorem d_R_shortcut_97 : decode prog_6_method_27_code 97 = .ok (.bipush (-2), 2) := by decide +kernel
theorem d_R_shortcut_99 : decode prog_6_method_27_code 99 = .ok (.ireturn, 1) := by decide +kernel
theorem d_R_climb_0 : decode prog_6_method_28_code 0 = .ok (.aload_n 0, 1) := by decide +kernel
theorem d_R_climb_1 : decode prog_6_method_28_code 1 = .ok (.iconst 0, 1) := by decide +kernel
theorem d_R_climb_2 : decode prog_6_method_28_code 2 = .ok (.putfield 1, 3) := by decide +kernel
theorem d_R_climb_5 : decode prog_6_method_28_code 5 = .ok (.aload_n 0, 1) := by decide +kernel
theorem d_R_climb_6 : decode prog_6_method_28_code 6 = .ok (.getfield 81, 3) := by decide +kernel
theorem d_R_climb_9 : decode prog_6_method_28_code 9 = .ok (.ifCond .ne 6, 3) := by decide +kernel
theorem d_R_climb_12 : decode prog_6_method_28_code 12 = .ok (.bipush (-4), 2) := by decide +kernel
theorem d_R_climb_14 : decode prog_6_method_28_code 14 = .ok (.ireturn, 1) := by decide +kernel
theorem d_R_climb_15 : decode prog_6_method_28_code 15 = .ok (.aload_n 0, 1) := by decide +kernel
theorem d_R_climb_16 : decode prog_6_method_28_code 16 = .ok (.iload_n 1, 1) := by decide +kernel
theorem d_R_climb_17 : decode prog_6_method_28_code 17 = .ok (.iload_n 2, 1) := by decide +kernel
theorem d_R_climb_18 : decode prog_6_method_28_code 18 = .ok (.invokevirtual 85, 3) := by decide +kernel
theorem d_R_climb_21 : decode prog_6_method_28_code 21 = .ok (.ifCond .eq 8, 3) := by decide +kernel
theorem d_R_climb_24 : decode prog_6_method_28_code 24 = .ok (.bipush (-2), 2) := by decide +kernel
theorem d_R_climb_26 : decode prog_6_method_28_code 26 = .ok (.goto 34, 3) := by decide +kernel
theorem d_R_climb_29 : decode prog_6_method_28_code 29 = .ok (.aload_n 0, 1) := by decide +kernel
theorem d_R_climb_30 : decode prog_6_method_28_code 30 = .ok (.getfield 48, 3) := by decide +kernel
theorem d_R_climb_33 : decode prog_6_method_28_code 33 = .ok (.bipush 16, 2) := by decide +kernel
theorem d_R_climb_35 : decode prog_6_method_28_code 35 = .ok (.iload_n 1, 1) := by decide +kernel
theorem d_R_climb_36 : decode prog_6_method_28_code 36 = .ok (.imul, 1) := by decide +kernel
theorem d_R_climb_37 : decode prog_6_method_28_code 37 = .ok (.iload_n 2, 1) := by decide +kernel
theorem d_R_climb_38 : decode prog_6_method_28_code 38 = .ok (.iadd, 1) := by decide +kernel
theorem d_R_climb_39 : decode prog_6_method_28_code 39 = .ok (.iaload, 1) := by decide +kernel
theorem d_R_climb_40 : decode prog_6_method_28_code 40 = .ok (.ldc 69, 2) := by decide +kernel
theorem d_R_climb_42 : decode prog_6_method_28_code 42 = .ok (.if_icmp .ge 17, 3) := by decide +kernel
theorem d_R_climb_45 : decode prog_6_method_28_code 45 = .ok (.aload_n 0, 1) := by decide +kernel
theorem d_R_climb_46 : decode prog_6_method_28_code 46 = .ok (.getfield 48, 3) := by decide +kernel
theorem d_R_climb_49 : decode prog_6_method_28_code 49 = .ok (.bipush 16, 2) := by decide +kernel
theorem d_R_climb_51 : decode prog_6_method_28_code 51 = .ok (.iload_n 1, 1) := by decide +kernel
theorem d_R_climb_52 : decode prog_6_method_28_code 52 = .ok (.imul, 1) := by decide +kernel
theorem d_R_climb_53 : decode prog_6_method_28_code 53 = .ok (.iload_n 2, 1) := by decide +kernel
theorem d_R_climb_54 : decode prog_6_method_28_code 54 = .ok (.iadd, 1) := by decide +kernel
theorem d_R_climb_55 : decode prog_6_method_28_code 55 = .ok (.iaload, 1) := by decide +kernel
theorem d_R_climb_56 : decode prog_6_method_28_code 56 = .ok (.goto 4, 3) := by decide +kernel
theorem d_R_climb_59 : decode prog_6_method_28_code 59 = .ok (.iconst (-1), 1) := by decide +kernel
theorem d_R_climb_60 : decode prog_6_method_28_code 60 = .ok (.ireturn, 1) := by decide +kernel
theorem d_R_next_0 : decode prog_6_method_29_code 0 = .ok (.iconst 0, 1) := by decide +kernel
theorem d_R_next_1 : decode prog_6_method_29_code 1 = .ok (.istore_n 3, 1) := by decide +kernel
theorem d_R_next_2 : decode prog_6_method_29_code 2 = .ok (.iload_n 3, 1) := by decide +kernel
theorem d_R_next_3 : decode prog_6_method_29_code 3 = .ok (.iload_n 1, 1) := by decide +kernel
theorem d_R_next_4 : decode prog_6_method_29_code 4 = .ok (.if_icmp .eq 40, 3) := by decide +kernel
theorem d_R_next_7 : decode prog_6_method_29_code 7 = .ok (.aload_n 0, 1) := by decide +kernel
theorem d_R_next_8 : decode prog_6_method_29_code 8 = .ok (.getfield 13, 3) := by decide +kernel
theorem d_R_next_11 : decode prog_6_method_29_code 11 = .ok (.bipush 16, 2) := by decide +kernel
theorem d_R_next_13 : decode prog_6_method_29_code 13 = .ok (.iload_n 1, 1) := by decide +kernel
theorem d_R_next_14 : decode prog_6_method_29_code 14 = .ok (.imul, 1) := by decide +kernel
theorem d_R_next_15 : decode prog_6_method_29_code 15 = .ok (.iload_n 3, 1) := by decide +kernel
theorem d_R_next_16 : decode prog_6_method_29_code 16 = .ok (.iadd, 1) := by decide +kernel
theorem d_R_next_17 : decode prog_6_method_29_code 17 = .ok (.iaload, 1) := by decide +kernel
theorem d_R_next_18 : decode prog_6_method_29_code 18 = .ok (.aload_n 0, 1) := by decide +kernel
theorem d_R_next_19 : decode prog_6_method_29_code 19 = .ok (.getfield 24, 3) := by decide +kernel
theorem d_R_next_22 : decode prog_6_method_29_code 22 = .ok (.bipush 16, 2) := by decide +kernel
theorem d_R_next_24 : decode prog_6_method_29_code 24 = .ok (.iload_n 3, 1) := by decide +kernel
theorem d_R_next_25 : decode prog_6_method_29_code 25 = .ok (.imul, 1) := by decide +kernel
theorem d_R_next_26 : decode prog_6_method_29_code 26 = .ok (.iload_n 2, 1) := by decide +kernel
theorem d_R_next_27 : decode prog_6_method_29_code 27 = .ok (.iadd, 1) := by decide +kernel
theorem d_R_next_28 : decode prog_6_method_29_code 28 = .ok (.iaload, 1) := by decide +kernel
theorem d_R_next_29 : decode prog_6_method_29_code 29 = .ok (.iadd, 1) := by decide +kernel
theorem d_R_next_30 : decode prog_6_method_29_code 30 = .ok (.aload_n 0, 1) := by decide +kernel
theorem d_R_next_31 : decode prog_6_method_29_code 31 = .ok (.getfield 24, 3) := by decide +kernel
theorem d_R_next_34 : decode prog_6_method_29_code 34 = .ok (.bipush 16, 2) := by decide +kernel
theorem d_R_next_36 : decode prog_6_method_29_code 36 = .ok (.iload_n 1, 1) := by decide +kernel
theorem d_R_next_37 : decode prog_6_method_29_code 37 = .ok (.imul, 1) := by decide +kernel
theorem d_R_next_38 : decode prog_6_method_29_code 38 = .ok (.iload_n 2, 1) := by decide +kernel
theorem d_R_next_39 : decode prog_6_method_29_code 39 = .ok (.iadd, 1) := by decide +kernel
theorem d_R_next_40 : decode prog_6_method_29_code 40 = .ok (.iaload, 1) := by decide +kernel
theorem d_R_next_41 : decode prog_6_method_29_code 41 = .ok (.if_icmp .eq 9, 3) := by decide +kernel
theorem d_R_next_44 : decode prog_6_method_29_code 44 = .ok (.iinc 3 1, 3) := by decide +kernel
theorem d_R_next_47 : decode prog_6_method_29_code 47 = .ok (.goto (-45), 3) := by decide +kernel
theorem d_R_next_50 : decode prog_6_method_29_code 50 = .ok (.iload_n 3, 1) := by decide +kernel
theorem d_R_next_51 : decode prog_6_method_29_code 51 = .ok (.ireturn, 1) := by decide +kernel
theorem d_R_way_0 : decode prog_6_method_30_code 0 = .ok (.aload_n 0, 1) := by decide +kernel
theorem d_R_way_1 : decode prog_6_method_30_code 1 = .ok (.iconst 0, 1) := by decide +kernel
theorem d_R_way_2 : decode prog_6_method_30_code 2 = .ok (.putfield 1, 3) := by decide +kernel
theorem d_R_way_5 : decode prog_6_method_30_code 5 = .ok (.aload_n 0, 1) := by decide +kernel
theorem d_R_way_6 : decode prog_6_method_30_code 6 = .ok (.getfield 81, 3) := by decide +kernel
theorem d_R_way_9 : decode prog_6_method_30_code 9 = .ok (.ifCond .ne 6, 3) := by decide +kernel
theorem d_R_way_12 : decode prog_6_method_30_code 12 = .ok (.bipush (-4), 2) := by decide +kernel
theorem d_R_way_14 : decode prog_6_method_30_code 14 = .ok (.ireturn, 1) := by decide +kernel
theorem d_R_way_15 : decode prog_6_method_30_code 15 = .ok (.aload_n 0, 1) := by decide +kernel
theorem d_R_way_16 : decode prog_6_method_30_code 16 = .ok (.iload_n 1, 1) := by decide +kernel
theorem d_R_way_17 : decode prog_6_method_30_code 17 = .ok (.iload_n 2, 1) := by decide +kernel
theorem d_R_way_18 : decode prog_6_method_30_code 18 = .ok (.invokevirtual 85, 3) := by decide +kernel
theorem d_R_way_21 : decode prog_6_method_30_code 21 = .ok (.ifCond .eq 6, 3) := by decide +kernel
theorem d_R_way_24 : decode prog_6_method_30_code 24 = .ok (.bipush (-2), 2) := by decide +kernel
theorem d_R_way_26 : decode prog_6_method_30_code 26 = .ok (.ireturn, 1) := by decide +kernel
theorem d_R_way_27 : decode prog_6_method_30_code 27 = .ok (.aload_n 0, 1) := by decide +kernel
theorem d_R_way_28 : decode prog_6_method_30_code 28 = .ok (.getfield 24, 3) := by decide +kernel
theorem d_R_way_31 : decode prog_6_method_30_code 31 = .ok (.bipush 16, 2) := by decide +kernel
theorem d_R_way_33 : decode prog_6_method_30_code 33 = .ok (.iload_n 1, 1) := by decide +kernel
theorem d_R_way_34 : decode prog_6_method_30_code 34 = .ok (.imul, 1) := by decide +kernel
theorem d_R_way_35 : decode prog_6_method_30_code 35 = .ok (.iload_n 2, 1) := by decide +kernel
theorem d_R_way_36 : decode prog_6_method_30_code 36 = .ok (.iadd, 1) := by decide +kernel
theorem d_R_way_37 : decode prog_6_method_30_code 37 = .ok (.iaload, 1) := by decide +kernel
theorem d_R_way_38 : decode prog_6_method_30_code 38 = .ok (.ldc 69, 2) := by decide +kernel
theorem d_R_way_40 : decode prog_6_method_30_code 40 = .ok (.if_icmp .lt 5, 3) := by decide +kernel
theorem d_R_way_43 : decode prog_6_method_30_code 43 = .ok (.iconst (-1), 1) := by decide +kernel
theorem d_R_way_44 : decode prog_6_method_30_code 44 = .ok (.ireturn, 1) := by decide +kernel
theorem d_R_way_45 : decode prog_6_method_30_code 45 = .ok (.iload_n 1, 1) := by decide +kernel
theorem d_R_way_46 : decode prog_6_method_30_code 46 = .ok (.istore 4, 2) := by decide +kernel
theorem d_R_way_48 : decode prog_6_method_30_code 48 = .ok (.iconst 0, 1) := by decide +kernel
theorem d_R_way_49 : decode prog_6_method_30_code 49 = .ok (.istore 5, 2) := by decide +kernel
theorem d_R_way_51 : decode prog_6_method_30_code 51 = .ok (.iload 4, 2) := by decide +kernel
theorem d_R_way_53 : decode prog_6_method_30_code 53 = .ok (.iload_n 2, 1) := by decide +kernel
theorem d_R_way_54 : decode prog_6_method_30_code 54 = .ok (.if_icmp .eq 24, 3) := by decide +kernel
theorem d_R_way_57 : decode prog_6_method_30_code 57 = .ok (.iload 5, 2) := by decide +kernel
theorem d_R_way_59 : decode prog_6_method_30_code 59 = .ok (.iload_n 3, 1) := by decide +kernel
theorem d_R_way_60 : decode prog_6_method_30_code 60 = .ok (.if_icmp .eq 18, 3) := by decide +kernel
theorem d_R_way_63 : decode prog_6_method_30_code 63 = .ok (.aload_n 0, 1) := by decide +kernel
theorem d_R_way_64 : decode prog_6_method_30_code 64 = .ok (.iload 4, 2) := by decide +kernel
theorem d_R_way_66 : decode prog_6_method_30_code 66 = .ok (.iload_n 2, 1) := by decide +kernel
theorem d_R_way_67 : decode prog_6_method_30_code 67 = .ok (.invokevirtual 131, 3) := by decide +kernel
theorem d_R_way_70 : decode prog_6_method_30_code 70 = .ok (.istore 4, 2) := by decide +kernel
theorem d_R_way_72 : decode prog_6_method_30_code 72 = .ok (.iinc 5 1, 3) := by decide +kernel
theorem d_R_way_75 : decode prog_6_method_30_code 75 = .ok (.goto (-24), 3) := by decide +kernel
theorem d_R_way_78 : decode prog_6_method_30_code 78 = .ok (.iload_n 3, 1) := by decide +kernel
theorem d_R_way_79 : decode prog_6_method_30_code 79 = .ok (.iconst (-1), 1) := by decide +kernel
theorem d_R_way_80 : decode prog_6_method_30_code 80 = .ok (.if_icmp .ne 10, 3) := by decide +kernel
theorem d_R_way_83 : decode prog_6_method_30_code 83 = .ok (.iload 5, 2) := by decide +kernel
theorem d_R_way_85 : decode prog_6_method_30_code 85 = .ok (.iconst 1, 1) := by decide +kernel
theorem d_R_way_86 : decode prog_6_method_30_code 86 = .ok (.iadd, 1) := by decide +kernel
theorem d_R_way_87 : decode prog_6_method_30_code 87 = .ok (.goto 16, 3) := by decide +kernel
theorem d_R_way_90 : decode prog_6_method_30_code 90 = .ok (.iload 5, 2) := by decide +kernel
theorem d_R_way_92 : decode prog_6_method_30_code 92 = .ok (.iload_n 3, 1) := by decide +kernel
theorem d_R_way_93 : decode prog_6_method_30_code 93 = .ok (.if_icmp .ne 8, 3) := by decide +kernel
theorem d_R_way_96 : decode prog_6_method_30_code 96 = .ok (.iload 4, 2) := by decide +kernel
theorem d_R_way_98 : decode prog_6_method_30_code 98 = .ok (.goto 5, 3) := by decide +kernel
theorem d_R_way_101 : decode prog_6_method_30_code 101 = .ok (.bipush (-2), 2) := by decide +kernel
theorem d_R_way_103 : decode prog_6_method_30_code 103 = .ok (.ireturn, 1) := by decide +kernel
theorem d_R_isWay_0 : decode prog_6_method_31_code 0 = .ok (.aload_n 0, 1) := by decide +kernel
theorem d_R_isWay_1 : decode prog_6_method_31_code 1 = .ok (.getfield 24, 3) := by decide +kernel
theorem d_R_isWay_4 : decode prog_6_method_31_code 4 = .ok (.bipush 16, 2) := by decide +kernel
theorem d_R_isWay_6 : decode prog_6_method_31_code 6 = .ok (.iload_n 1, 1) := by decide +kernel
theorem d_R_isWay_7 : decode prog_6_method_31_code 7 = .ok (.imul, 1) := by decide +kernel
theorem d_R_isWay_8 : decode prog_6_method_31_code 8 = .ok (.iload_n 2, 1) := by decide +kernel
theorem d_R_isWay_9 : decode prog_6_method_31_code 9 = .ok (.iadd, 1) := by decide +kernel
theorem d_R_isWay_10 : decode prog_6_method_31_code 10 = .ok (.iaload, 1) := by decide +kernel
theorem d_R_isWay_11 : decode prog_6_method_31_code 11 = .ok (.ldc 69, 2) := by decide +kernel
theorem d_R_isWay_13 : decode prog_6_method_31_code 13 = .ok (.if_icmp .ge 7, 3) := by decide +kernel
theorem d_R_isWay_16 : decode prog_6_method_31_code 16 = .ok (.iconst 1, 1) := by decide +kernel
theorem d_R_isWay_17 : decode prog_6_method_31_code 17 = .ok (.goto 4, 3) := by decide +kernel
theorem d_R_isWay_20 : decode prog_6_method_31_code 20 = .ok (.iconst 0, 1) := by decide +kernel
theorem d_R_isWay_21 : decode prog_6_method_31_code 21 = .ok (.ireturn, 1) := by decide +kernel
theorem d_R_least_0 : decode prog_6_method_32_code 0 = .ok (.aload_n 0, 1) := by decide +kernel
theorem d_R_least_1 : decode prog_6_method_32_code 1 = .ok (.iconst 0, 1) := by decide +kernel
theorem d_R_least_2 : decode prog_6_method_32_code 2 = .ok (.putfield 1, 3) := by decide +kernel
theorem d_R_least_5 : decode prog_6_method_32_code 5 = .ok (.aload_n 0, 1) := by decide +kernel
theorem d_R_least_6 : decode prog_6_method_32_code 6 = .ok (.getfield 81, 3) := by decide +kernel
theorem d_R_least_9 : decode prog_6_method_32_code 9 = .ok (.ifCond .ne 6, 3) := by decide +kernel
theorem d_R_least_12 : decode prog_6_method_32_code 12 = .ok (.bipush (-4), 2) := by decide +kernel
theorem d_R_least_14 : decode prog_6_method_32_code 14 = .ok (.ireturn, 1) := by decide +kernel
theorem d_R_least_15 : decode prog_6_method_32_code 15 = .ok (.aload_n 0, 1) := by decide +kernel
theorem d_R_least_16 : decode prog_6_method_32_code 16 = .ok (.iload_n 1, 1) := by decide +kernel
theorem d_R_least_17 : decode prog_6_method_32_code 17 = .ok (.iload_n 2, 1) := by decide +kernel
theorem d_R_least_18 : decode prog_6_method_32_code 18 = .ok (.invokevirtual 85, 3) := by decide +kernel
theorem d_R_least_21 : decode prog_6_method_32_code 21 = .ok (.ifCond .eq 6, 3) := by decide +kernel
theorem d_R_least_24 : decode prog_6_method_32_code 24 = .ok (.bipush (-2), 2) := by decide +kernel
theorem d_R_least_26 : decode prog_6_method_32_code 26 = .ok (.ireturn, 1) := by decide +kernel
theorem d_R_least_27 : decode prog_6_method_32_code 27 = .ok (.iconst 0, 1) := by decide +kernel
theorem d_R_least_28 : decode prog_6_method_32_code 28 = .ok (.istore_n 3, 1) := by decide +kernel
theorem d_R_least_29 : decode prog_6_method_32_code 29 = .ok (.iconst 0, 1) := by decide +kernel
theorem d_R_least_30 : decode prog_6_method_32_code 30 = .ok (.istore 4, 2) := by decide +kernel
theorem d_R_least_32 : decode prog_6_method_32_code 32 = .ok (.iload 4, 2) := by decide +kernel
theorem d_R_least_34 : decode prog_6_method_32_code 34 = .ok (.aload_n 0, 1) := by decide +kernel
theorem d_R_least_35 : decode prog_6_method_32_code 35 = .ok (.getfield 70, 3) := by decide +kernel
theorem d_R_least_38 : decode prog_6_method_32_code 38 = .ok (.if_icmp .ge 189, 3) := by decide +kernel
theorem d_R_least_41 : decode prog_6_method_32_code 41 = .ok (.aload_n 0, 1) := by decide +kernel
theorem d_R_least_42 : decode prog_6_method_32_code 42 = .ok (.getfield 20, 3) := by decide +kernel
theorem d_R_least_45 : decode prog_6_method_32_code 45 = .ok (.iload 4, 2) := by decide +kernel
theorem d_R_least_47 : decode prog_6_method_32_code 47 = .ok (.baload, 1) := by decide +kernel
theorem d_R_least_48 : decode prog_6_method_32_code 48 = .ok (.ifCond .eq 173, 3) := by decide +kernel
theorem d_R_least_51 : decode prog_6_method_32_code 51 = .ok (.aload_n 0, 1) := by decide +kernel
theorem d_R_least_52 : decode prog_6_method_32_code 52 = .ok (.iload 4, 2) := by decide +kernel
theorem d_R_least_54 : decode prog_6_method_32_code 54 = .ok (.iload_n 1, 1) := by decide +kernel
theorem d_R_least_55 : decode prog_6_method_32_code 55 = .ok (.invokevirtual 134, 3) := by decide +kernel
theorem d_R_least_58 : decode prog_6_method_32_code 58 = .ok (.ifCond .eq 13, 3) := by decide +kernel
theorem d_R_least_61 : decode prog_6_method_32_code 61 = .ok (.aload_n 0, 1) := by decide +kernel
theorem d_R_least_62 : decode prog_6_method_32_code 62 = .ok (.iload 4, 2) := by decide +kernel
theorem d_R_least_64 : decode prog_6_method_32_code 64 = .ok (.iload_n 2, 1) := by decide +kernel
theorem d_R_least_65 : decode prog_6_method_32_code 65 = .ok (.invokevirtual 134, 3) := by decide +kernel
theorem d_R_least_68 : decode prog_6_method_32_code 68 = .ok (.ifCond .eq 23, 3) := by decide +kernel
theorem d_R_least_71 : decode prog_6_method_32_code 71 = .ok (.aload_n 0, 1) := by decide +kernel
theorem d_R_least_72 : decode prog_6_method_32_code 72 = .ok (.iload_n 2, 1) := by decide +kernel
theorem d_R_least_73 : decode prog_6_method_32_code 73 = .ok (.iload 4, 2) := by decide +kernel
theorem d_R_least_75 : decode prog_6_method_32_code 75 = .ok (.invokevirtual 134, 3) := by decide +kernel
theorem d_R_least_78 : decode prog_6_method_32_code 78 = .ok (.ifCond .eq 15, 3) := by decide +kernel
theorem d_R_least_81 : decode prog_6_method_32_code 81 = .ok (.aload_n 0, 1) := by decide +kernel
theorem d_R_least_82 : decode prog_6_method_32_code 82 = .ok (.iload_n 1, 1) := by decide +kernel
theorem d_R_least_83 : decode prog_6_method_32_code 83 = .ok (.iload 4, 2) := by decide +kernel
theorem d_R_least_85 : decode prog_6_method_32_code 85 = .ok (.invokevirtual 134, 3) := by decide +kernel
theorem d_R_least_88 : decode prog_6_method_32_code 88 = .ok (.ifCond .ne 5, 3) := by decide +kernel
theorem d_R_least_91 : decode prog_6_method_32_code 91 = .ok (.iconst (-1), 1) := by decide +kernel
theorem d_R_least_92 : decode prog_6_method_32_code 92 = .ok (.ireturn, 1) := by decide +kernel
theorem d_R_least_93 : decode prog_6_method_32_code 93 = .ok (.aload_n 0, 1) := by decide +kernel
theorem d_R_least_94 : decode prog_6_method_32_code 94 = .ok (.iload 4, 2) := by decide +kernel
theorem d_R_least_96 : decode prog_6_method_32_code 96 = .ok (.iload_n 1, 1) := by decide +kernel
theorem d_R_least_97 : decode prog_6_method_32_code 97 = .ok (.invokevirtual 134, 3) := by decide +kernel
theorem d_R_least_100 : decode prog_6_method_32_code 100 = .ok (.ifCond .eq 41, 3) := by decide +kernel
theorem d_R_least_103 : decode prog_6_method_32_code 103 = .ok (.aload_n 0, 1) := by decide +kernel
theorem d_R_least_104 : decode prog_6_method_32_code 104 = .ok (.iload 4, 2) := by decide +kernel
theorem d_R_least_106 : decode prog_6_method_32_code 106 = .ok (.iload_n 2, 1) := by decide +kernel
theorem d_R_least_107 : decode prog_6_method_32_code 107 = .ok (.invokevirtual 134, 3) := by decide +kernel
theorem d_R_least_110 : decode prog_6_method_32_code 110 = .ok (.ifCond .eq 31, 3) := by decide +kernel
theorem d_R_least_113 : decode prog_6_method_32_code 113 = .ok (.aload_n 0, 1) := by decide +kernel
theorem d_R_least_114 : decode prog_6_method_32_code 114 = .ok (.getfield 24, 3) := by decide +kernel
theorem d_R_least_117 : decode prog_6_method_32_code 117 = .ok (.bipush 16, 2) := by decide +kernel
theorem d_R_least_119 : decode prog_6_method_32_code 119 = .ok (.iload 4, 2) := by decide +kernel
theorem d_R_least_121 : decode prog_6_method_32_code 121 = .ok (.imul, 1) := by decide +kernel
theorem d_R_least_122 : decode prog_6_method_32_code 122 = .ok (.iload_n 2, 1) := by decide +kernel
theorem d_R_least_123 : decode prog_6_method_32_code 123 = .ok (.iadd, 1) := by decide +kernel
theorem d_R_least_124 : decode prog_6_method_32_code 124 = .ok (.iaload, 1) := by decide +kernel
theorem d_R_least_125 : decode prog_6_method_32_code 125 = .ok (.aload_n 0, 1) := by decide +kernel
theorem d_R_least_126 : decode prog_6_method_32_code 126 = .ok (.getfield 24, 3) := by decide +kernel
theorem d_R_least_129 : decode prog_6_method_32_code 129 = .ok (.bipush 16, 2) := by decide +kernel
theorem d_R_least_131 : decode prog_6_method_32_code 131 = .ok (.iload 4, 2) := by decide +kernel
theorem d_R_least_133 : decode prog_6_method_32_code 133 = .ok (.imul, 1) := by decide +kernel
theorem d_R_least_134 : decode prog_6_method_32_code 134 = .ok (.iload_n 1, 1) := by decide +kernel
theorem d_R_least_135 : decode prog_6_method_32_code 135 = .ok (.iadd, 1) := by decide +kernel
theorem d_R_least_136 : decode prog_6_method_32_code 136 = .ok (.iaload, 1) := by decide +kernel
theorem d_R_least_137 : decode prog_6_method_32_code 137 = .ok (.isub, 1) := by decide +kernel
theorem d_R_least_138 : decode prog_6_method_32_code 138 = .ok (.goto 4, 3) := by decide +kernel
theorem d_R_least_141 : decode prog_6_method_32_code 141 = .ok (.iconst 0, 1) := by decide +kernel
theorem d_R_least_142 : decode prog_6_method_32_code 142 = .ok (.istore 5, 2) := by decide +kernel
theorem d_R_least_144 : decode prog_6_method_32_code 144 = .ok (.aload_n 0, 1) := by decide +kernel
theorem d_R_least_145 : decode prog_6_method_32_code 145 = .ok (.iload_n 1, 1) := by decide +kernel
theorem d_R_least_146 : decode prog_6_method_32_code 146 = .ok (.iload 4, 2) := by decide +kernel
theorem d_R_least_148 : decode prog_6_method_32_code 148 = .ok (.invokevirtual 134, 3) := by decide +kernel
theorem d_R_least_151 : decode prog_6_method_32_code 151 = .ok (.ifCond .eq 41, 3) := by decide +kernel
theorem d_R_least_154 : decode prog_6_method_32_code 154 = .ok (.aload_n 0, 1) := by decide +kernel
theorem d_R_least_155 : decode prog_6_method_32_code 155 = .ok (.iload_n 2, 1) := by decide +kernel
theorem d_R_least_156 : decode prog_6_method_32_code 156 = .ok (.iload 4, 2) := by decide +kernel
theorem d_R_least_158 : decode prog_6_method_32_code 158 = .ok (.invokevirtual 134, 3) := by decide +kernel
theorem d_R_least_161 : decode prog_6_method_32_code 161 = .ok (.ifCond .eq 31, 3) := by decide +kernel
theorem d_R_least_164 : decode prog_6_method_32_code 164 = .ok (.aload_n 0, 1) := by decide +kernel
theorem d_R_least_165 : decode prog_6_method_32_code 165 = .ok (.getfield 24, 3) := by decide +kernel
theorem d_R_least_168 : decode prog_6_method_32_code 168 = .ok (.bipush 16, 2) := by decide +kernel
theorem d_R_least_170 : decode prog_6_method_32_code 170 = .ok (.iload_n 1, 1) := by decide +kernel
theorem d_R_least_171 : decode prog_6_method_32_code 171 = .ok (.imul, 1) := by decide +kernel
theorem d_R_least_172 : decode prog_6_method_32_code 172 = .ok (.iload 4, 2) := by decide +kernel
theorem d_R_least_174 : decode prog_6_method_32_code 174 = .ok (.iadd, 1) := by decide +kernel
theorem d_R_least_175 : decode prog_6_method_32_code 175 = .ok (.iaload, 1) := by decide +kernel
theorem d_R_least_176 : decode prog_6_method_32_code 176 = .ok (.aload_n 0, 1) := by decide +kernel
theorem d_R_least_177 : decode prog_6_method_32_code 177 = .ok (.getfield 24, 3) := by decide +kernel
theorem d_R_least_180 : decode prog_6_method_32_code 180 = .ok (.bipush 16, 2) := by decide +kernel
theorem d_R_least_182 : decode prog_6_method_32_code 182 = .ok (.iload_n 2, 1) := by decide +kernel
theorem d_R_least_183 : decode prog_6_method_32_code 183 = .ok (.imul, 1) := by decide +kernel
theorem d_R_least_184 : decode prog_6_method_32_code 184 = .ok (.iload 4, 2) := by decide +kernel
theorem d_R_least_186 : decode prog_6_method_32_code 186 = .ok (.iadd, 1) := by decide +kernel
theorem d_R_least_187 : decode prog_6_method_32_code 187 = .ok (.iaload, 1) := by decide +kernel
theorem d_R_least_188 : decode prog_6_method_32_code 188 = .ok (.isub, 1) := by decide +kernel
theorem d_R_least_189 : decode prog_6_method_32_code 189 = .ok (.goto 4, 3) := by decide +kernel
theorem d_R_least_192 : decode prog_6_method_32_code 192 = .ok (.iconst 0, 1) := by decide +kernel
theorem d_R_least_193 : decode prog_6_method_32_code 193 = .ok (.istore 6, 2) := by decide +kernel
theorem d_R_least_195 : decode prog_6_method_32_code 195 = .ok (.iload 5, 2) := by decide +kernel
theorem d_R_least_197 : decode prog_6_method_32_code 197 = .ok (.iload_n 3, 1) := by decide +kernel
theorem d_R_least_198 : decode prog_6_method_32_code 198 = .ok (.if_icmp .le 8, 3) := by decide +kernel
theorem d_R_least_201 : decode prog_6_method_32_code 201 = .ok (.iload 5, 2) := by decide +kernel
theorem d_R_least_203 : decode prog_6_method_32_code 203 = .ok (.goto 4, 3) := by decide +kernel
theorem d_R_least_206 : decode prog_6_method_32_code 206 = .ok (.iload_n 3, 1) := by decide +kernel
theorem d_R_least_207 : decode prog_6_method_32_code 207 = .ok (.istore_n 3, 1) := by decide +kernel
theorem d_R_least_208 : decode prog_6_method_32_code 208 = .ok (.iload 6, 2) := by decide +kernel
theorem d_R_least_210 : decode prog_6_method_32_code 210 = .ok (.iload_n 3, 1) := by decide +kernel
theorem d_R_least_211 : decode prog_6_method_32_code 211 = .ok (.if_icmp .le 8, 3) := by decide +kernel
theorem d_R_least_214 : decode prog_6_method_32_code 214 = .ok (.iload 6, 2) := by decide +kernel
theorem d_R_least_216 : decode prog_6_method_32_code 216 = .ok (.goto 4, 3) := by decide +kernel
theorem d_R_least_219 : decode prog_6_method_32_code 219 = .ok (.iload_n 3, 1) := by decide +kernel
theorem d_R_least_220 : decode prog_6_method_32_code 220 = .ok (.istore_n 3, 1) := by decide +kernel
theorem d_R_least_221 : decode prog_6_method_32_code 221 = .ok (.iinc 4 1, 3) := by decide +kernel
theorem d_R_least_224 : decode prog_6_method_32_code 224 = .ok (.goto (-192), 3) := by decide +kernel
theorem d_R_least_227 : decode prog_6_method_32_code 227 = .ok (.iload_n 3, 1) := by decide +kernel
theorem d_R_least_228 : decode prog_6_method_32_code 228 = .ok (.ireturn, 1) := by decide +kernel
theorem d_R_most_0 : decode prog_6_method_33_code 0 = .ok (.aload_n 0, 1) := by decide +kernel
theorem d_R_most_1 : decode prog_6_method_33_code 1 = .ok (.iconst 0, 1) := by decide +kernel
theorem d_R_most_2 : decode prog_6_method_33_code 2 = .ok (.putfield 1, 3) := by decide +kernel
theorem d_R_most_5 : decode prog_6_method_33_code 5 = .ok (.aload_n 0, 1) := by decide +kernel
theorem d_R_most_6 : decode prog_6_method_33_code 6 = .ok (.getfield 81, 3) := by decide +kernel
theorem d_R_most_9 : decode prog_6_method_33_code 9 = .ok (.ifCond .ne 6, 3) := by decide +kernel
theorem d_R_most_12 : decode prog_6_method_33_code 12 = .ok (.bipush (-4), 2) := by decide +kernel
theorem d_R_most_14 : decode prog_6_method_33_code 14 = .ok (.ireturn, 1) := by decide +kernel
theorem d_R_most_15 : decode prog_6_method_33_code 15 = .ok (.aload_n 0, 1) := by decide +kernel
theorem d_R_most_16 : decode prog_6_method_33_code 16 = .ok (.iload_n 1, 1) := by decide +kernel
theorem d_R_most_17 : decode prog_6_method_33_code 17 = .ok (.iload_n 2, 1) := by decide +kernel
theorem d_R_most_18 : decode prog_6_method_33_code 18 = .ok (.invokevirtual 85, 3) := by decide +kernel
theorem d_R_most_21 : decode prog_6_method_33_code 21 = .ok (.ifCond .eq 6, 3) := by decide +kernel
theorem d_R_most_24 : decode prog_6_method_33_code 24 = .ok (.bipush (-2), 2) := by decide +kernel
theorem d_R_most_26 : decode prog_6_method_33_code 26 = .ok (.ireturn, 1) := by decide +kernel
theorem d_R_most_27 : decode prog_6_method_33_code 27 = .ok (.ldc 69, 2) := by decide +kernel
theorem d_R_most_29 : decode prog_6_method_33_code 29 = .ok (.istore_n 3, 1) := by decide +kernel
theorem d_R_most_30 : decode prog_6_method_33_code 30 = .ok (.iconst 0, 1) := by decide +kernel
theorem d_R_most_31 : decode prog_6_method_33_code 31 = .ok (.istore 4, 2) := by decide +kernel
theorem d_R_most_33 : decode prog_6_method_33_code 33 = .ok (.iload 4, 2) := by decide +kernel
theorem d_R_most_35 : decode prog_6_method_33_code 35 = .ok (.aload_n 0, 1) := by decide +kernel
theorem d_R_most_36 : decode prog_6_method_33_code 36 = .ok (.getfield 70, 3) := by decide +kernel
theorem d_R_most_39 : decode prog_6_method_33_code 39 = .ok (.if_icmp .ge 59, 3) := by decide +kernel
theorem d_R_most_42 : decode prog_6_method_33_code 42 = .ok (.aload_n 0, 1) := by decide +kernel
theorem d_R_most_43 : decode prog_6_method_33_code 43 = .ok (.getfield 24, 3) := by decide +kernel
theorem d_R_most_46 : decode prog_6_method_33_code 46 = .ok (.bipush 16, 2) := by decide +kernel
theorem d_R_most_48 : decode prog_6_method_33_code 48 = .ok (.iload_n 1, 1) := by decide +kernel
theorem d_R_most_49 : decode prog_6_method_33_code 49 = .ok (.imul, 1) := by decide +kernel
theorem d_R_most_50 : decode prog_6_method_33_code 50 = .ok (.iload 4, 2) := by decide +kernel
theorem d_R_most_52 : decode prog_6_method_33_code 52 = .ok (.iadd, 1) := by decide +kernel
theorem d_R_most_53 : decode prog_6_method_33_code 53 = .ok (.iaload, 1) := by decide +kernel
theorem d_R_most_54 : decode prog_6_method_33_code 54 = .ok (.aload_n 0, 1) := by decide +kernel
theorem d_R_most_55 : decode prog_6_method_33_code 55 = .ok (.getfield 24, 3) := by decide +kernel
theorem d_R_most_58 : decode prog_6_method_33_code 58 = .ok (.bipush 16, 2) := by decide +kernel
theorem d_R_most_60 : decode prog_6_method_33_code 60 = .ok (.iload 4, 2) := by decide +kernel
theorem d_R_most_62 : decode prog_6_method_33_code 62 = .ok (.imul, 1) := by decide +kernel
theorem d_R_most_63 : decode prog_6_method_33_code 63 = .ok (.iload_n 2, 1) := by decide +kernel
theorem d_R_most_64 : decode prog_6_method_33_code 64 = .ok (.iadd, 1) := by decide +kernel
theorem d_R_most_65 : decode prog_6_method_33_code 65 = .ok (.iaload, 1) := by decide +kernel
theorem d_R_most_66 : decode prog_6_method_33_code 66 = .ok (.iadd, 1) := by decide +kernel
theorem d_R_most_67 : decode prog_6_method_33_code 67 = .ok (.istore 5, 2) := by decide +kernel
theorem d_R_most_69 : decode prog_6_method_33_code 69 = .ok (.aload_n 0, 1) := by decide +kernel
theorem d_R_most_70 : decode prog_6_method_33_code 70 = .ok (.getfield 20, 3) := by decide +kernel
theorem d_R_most_73 : decode prog_6_method_33_code 73 = .ok (.iload 4, 2) := by decide +kernel
theorem d_R_most_75 : decode prog_6_method_33_code 75 = .ok (.baload, 1) := by decide +kernel
theorem d_R_most_76 : decode prog_6_method_33_code 76 = .ok (.ifCond .eq 14, 3) := by decide +kernel
theorem d_R_most_79 : decode prog_6_method_33_code 79 = .ok (.iload 5, 2) := by decide +kernel
theorem d_R_most_81 : decode prog_6_method_33_code 81 = .ok (.iload_n 3, 1) := by decide +kernel
theorem d_R_most_82 : decode prog_6_method_33_code 82 = .ok (.if_icmp .ge 8, 3) := by decide +kernel
theorem d_R_most_85 : decode prog_6_method_33_code 85 = .ok (.iload 5, 2) := by decide +kernel
theorem d_R_most_87 : decode prog_6_method_33_code 87 = .ok (.goto 4, 3) := by decide +kernel
theorem d_R_most_90 : decode prog_6_method_33_code 90 = .ok (.iload_n 3, 1) := by decide +kernel
theorem d_R_most_91 : decode prog_6_method_33_code 91 = .ok (.istore_n 3, 1) := by decide +kernel
theorem d_R_most_92 : decode prog_6_method_33_code 92 = .ok (.iinc 4 1, 3) := by decide +kernel
theorem d_R_most_95 : decode prog_6_method_33_code 95 = .ok (.goto (-62), 3) := by decide +kernel
theorem d_R_most_98 : decode prog_6_method_33_code 98 = .ok (.iload_n 3, 1) := by decide +kernel
theorem d_R_most_99 : decode prog_6_method_33_code 99 = .ok (.ldc 69, 2) := by decide +kernel
theorem d_R_most_101 : decode prog_6_method_33_code 101 = .ok (.if_icmp .ge 7, 3) := by decide +kernel
theorem d_R_most_104 : decode prog_6_method_33_code 104 = .ok (.iload_n 3, 1) := by decide +kernel
theorem d_R_most_105 : decode prog_6_method_33_code 105 = .ok (.goto 4, 3) := by decide +kernel
theorem d_R_most_108 : decode prog_6_method_33_code 108 = .ok (.iconst (-1), 1) := by decide +kernel
theorem d_R_most_109 : decode prog_6_method_33_code 109 = .ok (.ireturn, 1) := by decide +kernel
theorem d_R_count_0 : decode prog_6_method_34_code 0 = .ok (.aload_n 0, 1) := by decide +kernel
theorem d_R_count_1 : decode prog_6_method_34_code 1 = .ok (.iconst 0, 1) := by decide +kernel
theorem d_R_count_2 : decode prog_6_method_34_code 2 = .ok (.putfield 1, 3) := by decide +kernel
theorem d_R_count_5 : decode prog_6_method_34_code 5 = .ok (.iconst 0, 1) := by decide +kernel
theorem d_R_count_6 : decode prog_6_method_34_code 6 = .ok (.istore_n 2, 1) := by decide +kernel
theorem d_R_count_7 : decode prog_6_method_34_code 7 = .ok (.iload_n 1, 1) := by decide +kernel
theorem d_R_count_8 : decode prog_6_method_34_code 8 = .ok (.tableswitch 91 0 3 #[32, 37, 73, 78], 32) := by decide +kernel
theorem d_R_count_40 : decode prog_6_method_34_code 40 = .ok (.aload_n 0, 1) := by decide +kernel
theorem d_R_count_41 : decode prog_6_method_34_code 41 = .ok (.getfield 70, 3) := by decide +kernel
theorem d_R_count_44 : decode prog_6_method_34_code 44 = .ok (.ireturn, 1) := by decide +kernel
theorem d_R_count_45 : decode prog_6_method_34_code 45 = .ok (.iconst 0, 1) := by decide +kernel
theorem d_R_count_46 : decode prog_6_method_34_code 46 = .ok (.istore_n 3, 1) := by decide +kernel
theorem d_R_count_47 : decode prog_6_method_34_code 47 = .ok (.iload_n 3, 1) := by decide +kernel
theorem d_R_count_48 : decode prog_6_method_34_code 48 = .ok (.sipush 256, 3) := by decide +kernel
theorem d_R_count_51 : decode prog_6_method_34_code 51 = .ok (.if_icmp .ge 28, 3) := by decide +kernel
theorem d_R_count_54 : decode prog_6_method_34_code 54 = .ok (.aload_n 0, 1) := by decide +kernel
theorem d_R_count_55 : decode prog_6_method_34_code 55 = .ok (.getfield 13, 3) := by decide +kernel
theorem d_R_count_58 : decode prog_6_method_34_code 58 = .ok (.iload_n 3, 1) := by decide +kernel
theorem d_R_count_59 : decode prog_6_method_34_code 59 = .ok (.iaload, 1) := by decide +kernel
theorem d_R_count_60 : decode prog_6_method_34_code 60 = .ok (.ldc 69, 2) := by decide +kernel
theorem d_R_count_62 : decode prog_6_method_34_code 62 = .ok (.if_icmp .ge 9, 3) := by decide +kernel
theorem d_R_count_65 : decode prog_6_method_34_code 65 = .ok (.iload_n 2, 1) := by decide +kernel
theorem d_R_count_66 : decode prog_6_method_34_code 66 = .ok (.iconst 1, 1) := by decide +kernel
theorem d_R_count_67 : decode prog_6_method_34_code 67 = .ok (.iadd, 1) := by decide +kernel
theorem d_R_count_68 : decode prog_6_method_34_code 68 = .ok (.goto 4, 3) := by decide +kernel
theorem d_R_count_71 : decode prog_6_method_34_code 71 = .ok (.iload_n 2, 1) := by decide +kernel
theorem d_R_count_72 : decode prog_6_method_34_code 72 = .ok (.istore_n 2, 1) := by decide +kernel
theorem d_R_count_73 : decode prog_6_method_34_code 73 = .ok (.iinc 3 1, 3) := by decide +kernel
theorem d_R_count_76 : decode prog_6_method_34_code 76 = .ok (.goto (-29), 3) := by decide +kernel
theorem d_R_count_79 : decode prog_6_method_34_code 79 = .ok (.iload_n 2, 1) := by decide +kernel
theorem d_R_count_80 : decode prog_6_method_34_code 80 = .ok (.ireturn, 1) := by decide +kernel
theorem d_R_count_81 : decode prog_6_method_34_code 81 = .ok (.aload_n 0, 1) := by decide +kernel
theorem d_R_count_82 : decode prog_6_method_34_code 82 = .ok (.invokevirtual 93, 3) := by decide +kernel
theorem d_R_count_85 : decode prog_6_method_34_code 85 = .ok (.ireturn, 1) := by decide +kernel
theorem d_R_count_86 : decode prog_6_method_34_code 86 = .ok (.aload_n 0, 1) := by decide +kernel
theorem d_R_count_87 : decode prog_6_method_34_code 87 = .ok (.getfield 81, 3) := by decide +kernel
theorem d_R_count_90 : decode prog_6_method_34_code 90 = .ok (.ifCond .eq 7, 3) := by decide +kernel
theorem d_R_count_93 : decode prog_6_method_34_code 93 = .ok (.iconst 1, 1) := by decide +kernel
theorem d_R_count_94 : decode prog_6_method_34_code 94 = .ok (.goto 4, 3) := by decide +kernel
theorem d_R_count_97 : decode prog_6_method_34_code 97 = .ok (.iconst 0, 1) := by decide +kernel
theorem d_R_count_98 : decode prog_6_method_34_code 98 = .ok (.ireturn, 1) := by decide +kernel
theorem d_R_count_99 : decode prog_6_method_34_code 99 = .ok (.bipush (-2), 2) := by decide +kernel
theorem d_R_count_101 : decode prog_6_method_34_code 101 = .ok (.ireturn, 1) := by decide +kernel
