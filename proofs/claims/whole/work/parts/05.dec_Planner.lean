/-! decode rows of Planner (by program) -/
theorem d_Planner_init_0 : decode b_Planner_init 0 = .ok (.aload_n 0, 1) := by decide +kernel
theorem d_Planner_init_1 : decode b_Planner_init 1 = .ok (.invokespecial 3, 3) := by decide +kernel
theorem d_Planner_init_4 : decode b_Planner_init 4 = .ok (.aload_n 0, 1) := by decide +kernel
theorem d_Planner_init_5 : decode b_Planner_init 5 = .ok (.bipush 18, 2) := by decide +kernel
theorem d_Planner_init_7 : decode b_Planner_init 7 = .ok (.newarray .int, 2) := by decide +kernel
theorem d_Planner_init_9 : decode b_Planner_init 9 = .ok (.putfield 11, 3) := by decide +kernel
theorem d_Planner_init_12 : decode b_Planner_init 12 = .ok (.aload_n 0, 1) := by decide +kernel
theorem d_Planner_init_13 : decode b_Planner_init 13 = .ok (.bipush 18, 2) := by decide +kernel
theorem d_Planner_init_15 : decode b_Planner_init 15 = .ok (.newarray .int, 2) := by decide +kernel
theorem d_Planner_init_17 : decode b_Planner_init 17 = .ok (.putfield 15, 3) := by decide +kernel
theorem d_Planner_init_20 : decode b_Planner_init 20 = .ok (.aload_n 0, 1) := by decide +kernel
theorem d_Planner_init_21 : decode b_Planner_init 21 = .ok (.bipush 18, 2) := by decide +kernel
theorem d_Planner_init_23 : decode b_Planner_init 23 = .ok (.newarray .int, 2) := by decide +kernel
theorem d_Planner_init_25 : decode b_Planner_init 25 = .ok (.putfield 18, 3) := by decide +kernel
theorem d_Planner_init_28 : decode b_Planner_init 28 = .ok (.aload_n 0, 1) := by decide +kernel
theorem d_Planner_init_29 : decode b_Planner_init 29 = .ok (.sipush 3000, 3) := by decide +kernel
theorem d_Planner_init_32 : decode b_Planner_init 32 = .ok (.newarray .int, 2) := by decide +kernel
theorem d_Planner_init_34 : decode b_Planner_init 34 = .ok (.putfield 21, 3) := by decide +kernel
theorem d_Planner_init_37 : decode b_Planner_init 37 = .ok (.aload_n 0, 1) := by decide +kernel
theorem d_Planner_init_38 : decode b_Planner_init 38 = .ok (.new 24, 3) := by decide +kernel
theorem d_Planner_init_41 : decode b_Planner_init 41 = .ok (.dup, 1) := by decide +kernel
theorem d_Planner_init_42 : decode b_Planner_init 42 = .ok (.invokespecial 26, 3) := by decide +kernel
theorem d_Planner_init_45 : decode b_Planner_init 45 = .ok (.putfield 27, 3) := by decide +kernel
theorem d_Planner_init_48 : decode b_Planner_init 48 = .ok (.return_, 1) := by decide +kernel
theorem d_Planner_roomFor_0 : decode b_Planner_roomFor 0 = .ok (.iconst 0, 1) := by decide +kernel
theorem d_Planner_roomFor_1 : decode b_Planner_roomFor 1 = .ok (.istore_n 3, 1) := by decide +kernel
theorem d_Planner_roomFor_2 : decode b_Planner_roomFor 2 = .ok (.iload_n 3, 1) := by decide +kernel
theorem d_Planner_roomFor_3 : decode b_Planner_roomFor 3 = .ok (.bipush 12, 2) := by decide +kernel
theorem d_Planner_roomFor_5 : decode b_Planner_roomFor 5 = .ok (.if_icmp .ge 32, 3) := by decide +kernel
theorem d_Planner_roomFor_8 : decode b_Planner_roomFor 8 = .ok (.aload_n 0, 1) := by decide +kernel
theorem d_Planner_roomFor_9 : decode b_Planner_roomFor 9 = .ok (.getfield 11, 3) := by decide +kernel
theorem d_Planner_roomFor_12 : decode b_Planner_roomFor 12 = .ok (.iload_n 3, 1) := by decide +kernel
theorem d_Planner_roomFor_13 : decode b_Planner_roomFor 13 = .ok (.aload_n 1, 1) := by decide +kernel
theorem d_Planner_roomFor_14 : decode b_Planner_roomFor 14 = .ok (.iload_n 3, 1) := by decide +kernel
theorem d_Planner_roomFor_15 : decode b_Planner_roomFor 15 = .ok (.invokevirtual 31, 3) := by decide +kernel
theorem d_Planner_roomFor_18 : decode b_Planner_roomFor 18 = .ok (.ifCond .eq 11, 3) := by decide +kernel
theorem d_Planner_roomFor_21 : decode b_Planner_roomFor 21 = .ok (.aload_n 2, 1) := by decide +kernel
theorem d_Planner_roomFor_22 : decode b_Planner_roomFor 22 = .ok (.iload_n 3, 1) := by decide +kernel
theorem d_Planner_roomFor_23 : decode b_Planner_roomFor 23 = .ok (.invokevirtual 37, 3) := by decide +kernel
theorem d_Planner_roomFor_26 : decode b_Planner_roomFor 26 = .ok (.goto 4, 3) := by decide +kernel
theorem d_Planner_roomFor_29 : decode b_Planner_roomFor 29 = .ok (.iconst 0, 1) := by decide +kernel
theorem d_Planner_roomFor_30 : decode b_Planner_roomFor 30 = .ok (.iastore, 1) := by decide +kernel
theorem d_Planner_roomFor_31 : decode b_Planner_roomFor 31 = .ok (.iinc 3 1, 3) := by decide +kernel
theorem d_Planner_roomFor_34 : decode b_Planner_roomFor 34 = .ok (.goto (-32), 3) := by decide +kernel
theorem d_Planner_roomFor_37 : decode b_Planner_roomFor 37 = .ok (.iconst 0, 1) := by decide +kernel
theorem d_Planner_roomFor_38 : decode b_Planner_roomFor 38 = .ok (.istore_n 3, 1) := by decide +kernel
theorem d_Planner_roomFor_39 : decode b_Planner_roomFor 39 = .ok (.iload_n 3, 1) := by decide +kernel
theorem d_Planner_roomFor_40 : decode b_Planner_roomFor 40 = .ok (.bipush 6, 2) := by decide +kernel
theorem d_Planner_roomFor_42 : decode b_Planner_roomFor 42 = .ok (.if_icmp .ge 43, 3) := by decide +kernel
theorem d_Planner_roomFor_45 : decode b_Planner_roomFor 45 = .ok (.aload_n 1, 1) := by decide +kernel
theorem d_Planner_roomFor_46 : decode b_Planner_roomFor 46 = .ok (.getfield 43, 3) := by decide +kernel
theorem d_Planner_roomFor_49 : decode b_Planner_roomFor 49 = .ok (.iload_n 3, 1) := by decide +kernel
theorem d_Planner_roomFor_50 : decode b_Planner_roomFor 50 = .ok (.aaload, 1) := by decide +kernel
theorem d_Planner_roomFor_51 : decode b_Planner_roomFor 51 = .ok (.astore 4, 2) := by decide +kernel
theorem d_Planner_roomFor_53 : decode b_Planner_roomFor 53 = .ok (.aload_n 0, 1) := by decide +kernel
theorem d_Planner_roomFor_54 : decode b_Planner_roomFor 54 = .ok (.getfield 11, 3) := by decide +kernel
theorem d_Planner_roomFor_57 : decode b_Planner_roomFor 57 = .ok (.bipush 12, 2) := by decide +kernel
theorem d_Planner_roomFor_59 : decode b_Planner_roomFor 59 = .ok (.iload_n 3, 1) := by decide +kernel
theorem d_Planner_roomFor_60 : decode b_Planner_roomFor 60 = .ok (.iadd, 1) := by decide +kernel
theorem d_Planner_roomFor_61 : decode b_Planner_roomFor 61 = .ok (.aload 4, 2) := by decide +kernel
theorem d_Planner_roomFor_63 : decode b_Planner_roomFor 63 = .ok (.getfield 47, 3) := by decide +kernel
theorem d_Planner_roomFor_66 : decode b_Planner_roomFor 66 = .ok (.ifCond .eq 11, 3) := by decide +kernel
theorem d_Planner_roomFor_69 : decode b_Planner_roomFor 69 = .ok (.aload 4, 2) := by decide +kernel
theorem d_Planner_roomFor_71 : decode b_Planner_roomFor 71 = .ok (.getfield 53, 3) := by decide +kernel
theorem d_Planner_roomFor_74 : decode b_Planner_roomFor 74 = .ok (.goto 4, 3) := by decide +kernel
theorem d_Planner_roomFor_77 : decode b_Planner_roomFor 77 = .ok (.iconst 0, 1) := by decide +kernel
theorem d_Planner_roomFor_78 : decode b_Planner_roomFor 78 = .ok (.iastore, 1) := by decide +kernel
theorem d_Planner_roomFor_79 : decode b_Planner_roomFor 79 = .ok (.iinc 3 1, 3) := by decide +kernel
theorem d_Planner_roomFor_82 : decode b_Planner_roomFor 82 = .ok (.goto (-43), 3) := by decide +kernel
theorem d_Planner_roomFor_85 : decode b_Planner_roomFor 85 = .ok (.iconst 1, 1) := by decide +kernel
theorem d_Planner_roomFor_86 : decode b_Planner_roomFor 86 = .ok (.istore_n 3, 1) := by decide +kernel
theorem d_Planner_roomFor_87 : decode b_Planner_roomFor 87 = .ok (.iconst 0, 1) := by decide +kernel
theorem d_Planner_roomFor_88 : decode b_Planner_roomFor 88 = .ok (.istore 4, 2) := by decide +kernel
theorem d_Planner_roomFor_90 : decode b_Planner_roomFor 90 = .ok (.iload 4, 2) := by decide +kernel
theorem d_Planner_roomFor_92 : decode b_Planner_roomFor 92 = .ok (.bipush 18, 2) := by decide +kernel
theorem d_Planner_roomFor_94 : decode b_Planner_roomFor 94 = .ok (.if_icmp .ge 29, 3) := by decide +kernel
theorem d_Planner_roomFor_97 : decode b_Planner_roomFor 97 = .ok (.aload_n 0, 1) := by decide +kernel
theorem d_Planner_roomFor_98 : decode b_Planner_roomFor 98 = .ok (.getfield 15, 3) := by decide +kernel
theorem d_Planner_roomFor_101 : decode b_Planner_roomFor 101 = .ok (.iload 4, 2) := by decide +kernel
theorem d_Planner_roomFor_103 : decode b_Planner_roomFor 103 = .ok (.iload_n 3, 1) := by decide +kernel
theorem d_Planner_roomFor_104 : decode b_Planner_roomFor 104 = .ok (.iastore, 1) := by decide +kernel
theorem d_Planner_roomFor_105 : decode b_Planner_roomFor 105 = .ok (.iload_n 3, 1) := by decide +kernel
theorem d_Planner_roomFor_106 : decode b_Planner_roomFor 106 = .ok (.aload_n 0, 1) := by decide +kernel
theorem d_Planner_roomFor_107 : decode b_Planner_roomFor 107 = .ok (.getfield 11, 3) := by decide +kernel
theorem d_Planner_roomFor_110 : decode b_Planner_roomFor 110 = .ok (.iload 4, 2) := by decide +kernel
theorem d_Planner_roomFor_112 : decode b_Planner_roomFor 112 = .ok (.iaload, 1) := by decide +kernel
theorem d_Planner_roomFor_113 : decode b_Planner_roomFor 113 = .ok (.iconst 1, 1) := by decide +kernel
theorem d_Planner_roomFor_114 : decode b_Planner_roomFor 114 = .ok (.iadd, 1) := by decide +kernel
theorem d_Planner_roomFor_115 : decode b_Planner_roomFor 115 = .ok (.imul, 1) := by decide +kernel
theorem d_Planner_roomFor_116 : decode b_Planner_roomFor 116 = .ok (.istore_n 3, 1) := by decide +kernel
theorem d_Planner_roomFor_117 : decode b_Planner_roomFor 117 = .ok (.iinc 4 1, 3) := by decide +kernel
theorem d_Planner_roomFor_120 : decode b_Planner_roomFor 120 = .ok (.goto (-30), 3) := by decide +kernel
theorem d_Planner_roomFor_123 : decode b_Planner_roomFor 123 = .ok (.iload_n 3, 1) := by decide +kernel
theorem d_Planner_roomFor_124 : decode b_Planner_roomFor 124 = .ok (.ireturn, 1) := by decide +kernel
theorem d_Planner_leastTotal_0 : decode b_Planner_leastTotal 0 = .ok (.aload_n 0, 1) := by decide +kernel
theorem d_Planner_leastTotal_1 : decode b_Planner_leastTotal 1 = .ok (.aload_n 1, 1) := by decide +kernel
theorem d_Planner_leastTotal_2 : decode b_Planner_leastTotal 2 = .ok (.aload_n 2, 1) := by decide +kernel
theorem d_Planner_leastTotal_3 : decode b_Planner_leastTotal 3 = .ok (.invokevirtual 57, 3) := by decide +kernel
theorem d_Planner_leastTotal_6 : decode b_Planner_leastTotal 6 = .ok (.aload_n 2, 1) := by decide +kernel
theorem d_Planner_leastTotal_7 : decode b_Planner_leastTotal 7 = .ok (.aload_n 1, 1) := by decide +kernel
theorem d_Planner_leastTotal_8 : decode b_Planner_leastTotal 8 = .ok (.invokevirtual 61, 3) := by decide +kernel
theorem d_Planner_leastTotal_11 : decode b_Planner_leastTotal 11 = .ok (.aload_n 0, 1) := by decide +kernel
theorem d_Planner_leastTotal_12 : decode b_Planner_leastTotal 12 = .ok (.aload_n 0, 1) := by decide +kernel
theorem d_Planner_leastTotal_13 : decode b_Planner_leastTotal 13 = .ok (.getfield 65, 3) := by decide +kernel
theorem d_Planner_leastTotal_16 : decode b_Planner_leastTotal 16 = .ok (.invokevirtual 68, 3) := by decide +kernel
theorem d_Planner_leastTotal_19 : decode b_Planner_leastTotal 19 = .ok (.isub, 1) := by decide +kernel
theorem d_Planner_leastTotal_20 : decode b_Planner_leastTotal 20 = .ok (.ireturn, 1) := by decide +kernel
theorem d_Planner_fillPlan_0 : decode b_Planner_fillPlan 0 = .ok (.aload_n 0, 1) := by decide +kernel
theorem d_Planner_fillPlan_1 : decode b_Planner_fillPlan 1 = .ok (.getfield 65, 3) := by decide +kernel
theorem d_Planner_fillPlan_4 : decode b_Planner_fillPlan 4 = .ok (.istore_n 3, 1) := by decide +kernel
theorem d_Planner_fillPlan_5 : decode b_Planner_fillPlan 5 = .ok (.aload_n 0, 1) := by decide +kernel
theorem d_Planner_fillPlan_6 : decode b_Planner_fillPlan 6 = .ok (.getfield 11, 3) := by decide +kernel
theorem d_Planner_fillPlan_9 : decode b_Planner_fillPlan 9 = .ok (.iconst 0, 1) := by decide +kernel
theorem d_Planner_fillPlan_10 : decode b_Planner_fillPlan 10 = .ok (.aload_n 0, 1) := by decide +kernel
theorem d_Planner_fillPlan_11 : decode b_Planner_fillPlan 11 = .ok (.getfield 18, 3) := by decide +kernel
theorem d_Planner_fillPlan_14 : decode b_Planner_fillPlan 14 = .ok (.iconst 0, 1) := by decide +kernel
theorem d_Planner_fillPlan_15 : decode b_Planner_fillPlan 15 = .ok (.bipush 18, 2) := by decide +kernel
theorem d_Planner_fillPlan_17 : decode b_Planner_fillPlan 17 = .ok (.invokestatic 71, 3) := by decide +kernel
theorem d_Planner_fillPlan_20 : decode b_Planner_fillPlan 20 = .ok (.iconst 0, 1) := by decide +kernel
theorem d_Planner_fillPlan_21 : decode b_Planner_fillPlan 21 = .ok (.istore 4, 2) := by decide +kernel
theorem d_Planner_fillPlan_23 : decode b_Planner_fillPlan 23 = .ok (.iload 4, 2) := by decide +kernel
theorem d_Planner_fillPlan_25 : decode b_Planner_fillPlan 25 = .ok (.aload_n 1, 1) := by decide +kernel
theorem d_Planner_fillPlan_26 : decode b_Planner_fillPlan 26 = .ok (.getfield 77, 3) := by decide +kernel
theorem d_Planner_fillPlan_29 : decode b_Planner_fillPlan 29 = .ok (.if_icmp .ge 88, 3) := by decide +kernel
theorem d_Planner_fillPlan_32 : decode b_Planner_fillPlan 32 = .ok (.aload_n 0, 1) := by decide +kernel
theorem d_Planner_fillPlan_33 : decode b_Planner_fillPlan 33 = .ok (.invokevirtual 80, 3) := by decide +kernel
theorem d_Planner_fillPlan_36 : decode b_Planner_fillPlan 36 = .ok (.istore 5, 2) := by decide +kernel
theorem d_Planner_fillPlan_38 : decode b_Planner_fillPlan 38 = .ok (.iload 5, 2) := by decide +kernel
theorem d_Planner_fillPlan_40 : decode b_Planner_fillPlan 40 = .ok (.iconst (-1), 1) := by decide +kernel
theorem d_Planner_fillPlan_41 : decode b_Planner_fillPlan 41 = .ok (.if_icmp .ne 4, 3) := by decide +kernel
theorem d_Planner_fillPlan_44 : decode b_Planner_fillPlan 44 = .ok (.return_, 1) := by decide +kernel
theorem d_Planner_fillPlan_45 : decode b_Planner_fillPlan 45 = .ok (.aload_n 0, 1) := by decide +kernel
theorem d_Planner_fillPlan_46 : decode b_Planner_fillPlan 46 = .ok (.iload_n 3, 1) := by decide +kernel
theorem d_Planner_fillPlan_47 : decode b_Planner_fillPlan 47 = .ok (.iload 5, 2) := by decide +kernel
theorem d_Planner_fillPlan_49 : decode b_Planner_fillPlan 49 = .ok (.invokevirtual 84, 3) := by decide +kernel
theorem d_Planner_fillPlan_52 : decode b_Planner_fillPlan 52 = .ok (.istore 6, 2) := by decide +kernel
theorem d_Planner_fillPlan_54 : decode b_Planner_fillPlan 54 = .ok (.iload 6, 2) := by decide +kernel
theorem d_Planner_fillPlan_56 : decode b_Planner_fillPlan 56 = .ok (.iconst (-1), 1) := by decide +kernel
theorem d_Planner_fillPlan_57 : decode b_Planner_fillPlan 57 = .ok (.if_icmp .ne 34, 3) := by decide +kernel
theorem d_Planner_fillPlan_60 : decode b_Planner_fillPlan 60 = .ok (.aload_n 2, 1) := by decide +kernel
theorem d_Planner_fillPlan_61 : decode b_Planner_fillPlan 61 = .ok (.aload_n 1, 1) := by decide +kernel
theorem d_Planner_fillPlan_62 : decode b_Planner_fillPlan 62 = .ok (.iload 5, 2) := by decide +kernel
theorem d_Planner_fillPlan_64 : decode b_Planner_fillPlan 64 = .ok (.invokevirtual 88, 3) := by decide +kernel
theorem d_Planner_fillPlan_67 : decode b_Planner_fillPlan 67 = .ok (.aload_n 0, 1) := by decide +kernel
theorem d_Planner_fillPlan_68 : decode b_Planner_fillPlan 68 = .ok (.getfield 18, 3) := by decide +kernel
theorem d_Planner_fillPlan_71 : decode b_Planner_fillPlan 71 = .ok (.iload 5, 2) := by decide +kernel
theorem d_Planner_fillPlan_73 : decode b_Planner_fillPlan 73 = .ok (.dup2, 1) := by decide +kernel
theorem d_Planner_fillPlan_74 : decode b_Planner_fillPlan 74 = .ok (.iaload, 1) := by decide +kernel
theorem d_Planner_fillPlan_75 : decode b_Planner_fillPlan 75 = .ok (.iconst 1, 1) := by decide +kernel
theorem d_Planner_fillPlan_76 : decode b_Planner_fillPlan 76 = .ok (.isub, 1) := by decide +kernel
theorem d_Planner_fillPlan_77 : decode b_Planner_fillPlan 77 = .ok (.iastore, 1) := by decide +kernel
theorem d_Planner_fillPlan_78 : decode b_Planner_fillPlan 78 = .ok (.iload_n 3, 1) := by decide +kernel
theorem d_Planner_fillPlan_79 : decode b_Planner_fillPlan 79 = .ok (.aload_n 0, 1) := by decide +kernel
theorem d_Planner_fillPlan_80 : decode b_Planner_fillPlan 80 = .ok (.getfield 15, 3) := by decide +kernel
theorem d_Planner_fillPlan_83 : decode b_Planner_fillPlan 83 = .ok (.iload 5, 2) := by decide +kernel
theorem d_Planner_fillPlan_85 : decode b_Planner_fillPlan 85 = .ok (.iaload, 1) := by decide +kernel
theorem d_Planner_fillPlan_86 : decode b_Planner_fillPlan 86 = .ok (.isub, 1) := by decide +kernel
theorem d_Planner_fillPlan_87 : decode b_Planner_fillPlan 87 = .ok (.istore_n 3, 1) := by decide +kernel
theorem d_Planner_fillPlan_88 : decode b_Planner_fillPlan 88 = .ok (.goto 23, 3) := by decide +kernel
theorem d_Planner_fillPlan_91 : decode b_Planner_fillPlan 91 = .ok (.aload_n 0, 1) := by decide +kernel
theorem d_Planner_fillPlan_92 : decode b_Planner_fillPlan 92 = .ok (.iload 6, 2) := by decide +kernel
theorem d_Planner_fillPlan_94 : decode b_Planner_fillPlan 94 = .ok (.aload_n 1, 1) := by decide +kernel
theorem d_Planner_fillPlan_95 : decode b_Planner_fillPlan 95 = .ok (.aload_n 2, 1) := by decide +kernel
theorem d_Planner_fillPlan_96 : decode b_Planner_fillPlan 96 = .ok (.invokevirtual 94, 3) := by decide +kernel
theorem d_Planner_fillPlan_99 : decode b_Planner_fillPlan 99 = .ok (.iload_n 3, 1) := by decide +kernel
theorem d_Planner_fillPlan_100 : decode b_Planner_fillPlan 100 = .ok (.aload_n 0, 1) := by decide +kernel
theorem d_Planner_fillPlan_101 : decode b_Planner_fillPlan 101 = .ok (.getfield 27, 3) := by decide +kernel
theorem d_Planner_fillPlan_104 : decode b_Planner_fillPlan 104 = .ok (.iload 6, 2) := by decide +kernel
theorem d_Planner_fillPlan_106 : decode b_Planner_fillPlan 106 = .ok (.invokevirtual 98, 3) := by decide +kernel
theorem d_Planner_fillPlan_109 : decode b_Planner_fillPlan 109 = .ok (.isub, 1) := by decide +kernel
theorem d_Planner_fillPlan_110 : decode b_Planner_fillPlan 110 = .ok (.istore_n 3, 1) := by decide +kernel
theorem d_Planner_fillPlan_111 : decode b_Planner_fillPlan 111 = .ok (.iinc 4 1, 3) := by decide +kernel
theorem d_Planner_fillPlan_114 : decode b_Planner_fillPlan 114 = .ok (.goto (-91), 3) := by decide +kernel
theorem d_Planner_fillPlan_117 : decode b_Planner_fillPlan 117 = .ok (.return_, 1) := by decide +kernel
theorem d_Planner_solve_0 : decode b_Planner_solve 0 = .ok (.aload_n 0, 1) := by decide +kernel
theorem d_Planner_solve_1 : decode b_Planner_solve 1 = .ok (.aload_n 1, 1) := by decide +kernel
theorem d_Planner_solve_2 : decode b_Planner_solve 2 = .ok (.aload_n 2, 1) := by decide +kernel
theorem d_Planner_solve_3 : decode b_Planner_solve 3 = .ok (.invokevirtual 101, 3) := by decide +kernel
theorem d_Planner_solve_6 : decode b_Planner_solve 6 = .ok (.istore_n 3, 1) := by decide +kernel
theorem d_Planner_solve_7 : decode b_Planner_solve 7 = .ok (.aload_n 2, 1) := by decide +kernel
theorem d_Planner_solve_8 : decode b_Planner_solve 8 = .ok (.getfield 77, 3) := by decide +kernel
theorem d_Planner_solve_11 : decode b_Planner_solve 11 = .ok (.ifCond .eq 10, 3) := by decide +kernel
theorem d_Planner_solve_14 : decode b_Planner_solve 14 = .ok (.iload_n 3, 1) := by decide +kernel
theorem d_Planner_solve_15 : decode b_Planner_solve 15 = .ok (.sipush 3000, 3) := by decide +kernel
theorem d_Planner_solve_18 : decode b_Planner_solve 18 = .ok (.if_icmp .le 13, 3) := by decide +kernel
theorem d_Planner_solve_21 : decode b_Planner_solve 21 = .ok (.aload_n 0, 1) := by decide +kernel
theorem d_Planner_solve_22 : decode b_Planner_solve 22 = .ok (.getfield 11, 3) := by decide +kernel
theorem d_Planner_solve_25 : decode b_Planner_solve 25 = .ok (.iconst 0, 1) := by decide +kernel
theorem d_Planner_solve_26 : decode b_Planner_solve 26 = .ok (.invokestatic 105, 3) := by decide +kernel
theorem d_Planner_solve_29 : decode b_Planner_solve 29 = .ok (.iconst 1, 1) := by decide +kernel
theorem d_Planner_solve_30 : decode b_Planner_solve 30 = .ok (.istore_n 3, 1) := by decide +kernel
theorem d_Planner_solve_31 : decode b_Planner_solve 31 = .ok (.aload_n 0, 1) := by decide +kernel
theorem d_Planner_solve_32 : decode b_Planner_solve 32 = .ok (.getfield 27, 3) := by decide +kernel
theorem d_Planner_solve_35 : decode b_Planner_solve 35 = .ok (.aload_n 1, 1) := by decide +kernel
theorem d_Planner_solve_36 : decode b_Planner_solve 36 = .ok (.aload_n 0, 1) := by decide +kernel
theorem d_Planner_solve_37 : decode b_Planner_solve 37 = .ok (.getfield 11, 3) := by decide +kernel
theorem d_Planner_solve_40 : decode b_Planner_solve 40 = .ok (.aload_n 0, 1) := by decide +kernel
theorem d_Planner_solve_41 : decode b_Planner_solve 41 = .ok (.getfield 15, 3) := by decide +kernel
theorem d_Planner_solve_44 : decode b_Planner_solve 44 = .ok (.invokevirtual 111, 3) := by decide +kernel
theorem d_Planner_solve_47 : decode b_Planner_solve 47 = .ok (.aload_n 0, 1) := by decide +kernel
theorem d_Planner_solve_48 : decode b_Planner_solve 48 = .ok (.getfield 18, 3) := by decide +kernel
theorem d_Planner_solve_51 : decode b_Planner_solve 51 = .ok (.iconst 0, 1) := by decide +kernel
theorem d_Planner_solve_52 : decode b_Planner_solve 52 = .ok (.invokestatic 105, 3) := by decide +kernel
theorem d_Planner_solve_55 : decode b_Planner_solve 55 = .ok (.aload_n 0, 1) := by decide +kernel
theorem d_Planner_solve_56 : decode b_Planner_solve 56 = .ok (.getfield 21, 3) := by decide +kernel
theorem d_Planner_solve_59 : decode b_Planner_solve 59 = .ok (.iconst 0, 1) := by decide +kernel
theorem d_Planner_solve_60 : decode b_Planner_solve 60 = .ok (.iconst 0, 1) := by decide +kernel
theorem d_Planner_solve_61 : decode b_Planner_solve 61 = .ok (.iastore, 1) := by decide +kernel
theorem d_Planner_solve_62 : decode b_Planner_solve 62 = .ok (.iconst 1, 1) := by decide +kernel
theorem d_Planner_solve_63 : decode b_Planner_solve 63 = .ok (.istore 4, 2) := by decide +kernel
theorem d_Planner_solve_65 : decode b_Planner_solve 65 = .ok (.iload 4, 2) := by decide +kernel
theorem d_Planner_solve_67 : decode b_Planner_solve 67 = .ok (.iload_n 3, 1) := by decide +kernel
theorem d_Planner_solve_68 : decode b_Planner_solve 68 = .ok (.if_icmp .ge 34, 3) := by decide +kernel
theorem d_Planner_solve_71 : decode b_Planner_solve 71 = .ok (.iload 4, 2) := by decide +kernel
theorem d_Planner_solve_73 : decode b_Planner_solve 73 = .ok (.sipush 3000, 3) := by decide +kernel
theorem d_Planner_solve_76 : decode b_Planner_solve 76 = .ok (.if_icmp .ge 26, 3) := by decide +kernel
theorem d_Planner_solve_79 : decode b_Planner_solve 79 = .ok (.aload_n 0, 1) := by decide +kernel
theorem d_Planner_solve_80 : decode b_Planner_solve 80 = .ok (.invokevirtual 115, 3) := by decide +kernel
theorem d_Planner_solve_83 : decode b_Planner_solve 83 = .ok (.aload_n 0, 1) := by decide +kernel
theorem d_Planner_solve_84 : decode b_Planner_solve 84 = .ok (.getfield 21, 3) := by decide +kernel
theorem d_Planner_solve_87 : decode b_Planner_solve 87 = .ok (.iload 4, 2) := by decide +kernel
theorem d_Planner_solve_89 : decode b_Planner_solve 89 = .ok (.aload_n 0, 1) := by decide +kernel
theorem d_Planner_solve_90 : decode b_Planner_solve 90 = .ok (.iload 4, 2) := by decide +kernel
theorem d_Planner_solve_92 : decode b_Planner_solve 92 = .ok (.invokevirtual 118, 3) := by decide +kernel
theorem d_Planner_solve_95 : decode b_Planner_solve 95 = .ok (.iastore, 1) := by decide +kernel
theorem d_Planner_solve_96 : decode b_Planner_solve 96 = .ok (.iinc 4 1, 3) := by decide +kernel
theorem d_Planner_solve_99 : decode b_Planner_solve 99 = .ok (.goto (-34), 3) := by decide +kernel
theorem d_Planner_solve_102 : decode b_Planner_solve 102 = .ok (.aload_n 0, 1) := by decide +kernel
theorem d_Planner_solve_103 : decode b_Planner_solve 103 = .ok (.iload_n 3, 1) := by decide +kernel
theorem d_Planner_solve_104 : decode b_Planner_solve 104 = .ok (.iconst 1, 1) := by decide +kernel
theorem d_Planner_solve_105 : decode b_Planner_solve 105 = .ok (.isub, 1) := by decide +kernel
theorem d_Planner_solve_106 : decode b_Planner_solve 106 = .ok (.putfield 65, 3) := by decide +kernel
theorem d_Planner_solve_109 : decode b_Planner_solve 109 = .ok (.return_, 1) := by decide +kernel
theorem d_Planner_countUp_0 : decode b_Planner_countUp 0 = .ok (.iconst 0, 1) := by decide +kernel
theorem d_Planner_countUp_1 : decode b_Planner_countUp 1 = .ok (.istore_n 1, 1) := by decide +kernel
theorem d_Planner_countUp_2 : decode b_Planner_countUp 2 = .ok (.iload_n 1, 1) := by decide +kernel
theorem d_Planner_countUp_3 : decode b_Planner_countUp 3 = .ok (.bipush 18, 2) := by decide +kernel
theorem d_Planner_countUp_5 : decode b_Planner_countUp 5 = .ok (.if_icmp .ge 42, 3) := by decide +kernel
theorem d_Planner_countUp_8 : decode b_Planner_countUp 8 = .ok (.aload_n 0, 1) := by decide +kernel
theorem d_Planner_countUp_9 : decode b_Planner_countUp 9 = .ok (.getfield 18, 3) := by decide +kernel
theorem d_Planner_countUp_12 : decode b_Planner_countUp 12 = .ok (.iload_n 1, 1) := by decide +kernel
theorem d_Planner_countUp_13 : decode b_Planner_countUp 13 = .ok (.iaload, 1) := by decide +kernel
theorem d_Planner_countUp_14 : decode b_Planner_countUp 14 = .ok (.aload_n 0, 1) := by decide +kernel
theorem d_Planner_countUp_15 : decode b_Planner_countUp 15 = .ok (.getfield 11, 3) := by decide +kernel
theorem d_Planner_countUp_18 : decode b_Planner_countUp 18 = .ok (.iload_n 1, 1) := by decide +kernel
theorem d_Planner_countUp_19 : decode b_Planner_countUp 19 = .ok (.iaload, 1) := by decide +kernel
theorem d_Planner_countUp_20 : decode b_Planner_countUp 20 = .ok (.if_icmp .ge 14, 3) := by decide +kernel
theorem d_Planner_countUp_23 : decode b_Planner_countUp 23 = .ok (.aload_n 0, 1) := by decide +kernel
theorem d_Planner_countUp_24 : decode b_Planner_countUp 24 = .ok (.getfield 18, 3) := by decide +kernel
theorem d_Planner_countUp_27 : decode b_Planner_countUp 27 = .ok (.iload_n 1, 1) := by decide +kernel
theorem d_Planner_countUp_28 : decode b_Planner_countUp 28 = .ok (.dup2, 1) := by decide +kernel
theorem d_Planner_countUp_29 : decode b_Planner_countUp 29 = .ok (.iaload, 1) := by decide +kernel
theorem d_Planner_countUp_30 : decode b_Planner_countUp 30 = .ok (.iconst 1, 1) := by decide +kernel
theorem d_Planner_countUp_31 : decode b_Planner_countUp 31 = .ok (.iadd, 1) := by decide +kernel
theorem d_Planner_countUp_32 : decode b_Planner_countUp 32 = .ok (.iastore, 1) := by decide +kernel
theorem d_Planner_countUp_33 : decode b_Planner_countUp 33 = .ok (.return_, 1) := by decide +kernel
theorem d_Planner_countUp_34 : decode b_Planner_countUp 34 = .ok (.aload_n 0, 1) := by decide +kernel
theorem d_Planner_countUp_35 : decode b_Planner_countUp 35 = .ok (.getfield 18, 3) := by decide +kernel
theorem d_Planner_countUp_38 : decode b_Planner_countUp 38 = .ok (.iload_n 1, 1) := by decide +kernel
theorem d_Planner_countUp_39 : decode b_Planner_countUp 39 = .ok (.iconst 0, 1) := by decide +kernel
theorem d_Planner_countUp_40 : decode b_Planner_countUp 40 = .ok (.iastore, 1) := by decide +kernel
theorem d_Planner_countUp_41 : decode b_Planner_countUp 41 = .ok (.iinc 1 1, 3) := by decide +kernel
theorem d_Planner_countUp_44 : decode b_Planner_countUp 44 = .ok (.goto (-42), 3) := by decide +kernel
theorem d_Planner_countUp_47 : decode b_Planner_countUp 47 = .ok (.return_, 1) := by decide +kernel
theorem d_Planner_bestSaving_0 : decode b_Planner_bestSaving 0 = .ok (.aload_n 0, 1) := by decide +kernel
theorem d_Planner_bestSaving_1 : decode b_Planner_bestSaving 1 = .ok (.invokevirtual 80, 3) := by decide +kernel
theorem d_Planner_bestSaving_4 : decode b_Planner_bestSaving 4 = .ok (.istore_n 2, 1) := by decide +kernel
theorem d_Planner_bestSaving_5 : decode b_Planner_bestSaving 5 = .ok (.iload_n 2, 1) := by decide +kernel
theorem d_Planner_bestSaving_6 : decode b_Planner_bestSaving 6 = .ok (.iconst (-1), 1) := by decide +kernel
theorem d_Planner_bestSaving_7 : decode b_Planner_bestSaving 7 = .ok (.if_icmp .ne 5, 3) := by decide +kernel
theorem d_Planner_bestSaving_10 : decode b_Planner_bestSaving 10 = .ok (.iconst 0, 1) := by decide +kernel
theorem d_Planner_bestSaving_11 : decode b_Planner_bestSaving 11 = .ok (.ireturn, 1) := by decide +kernel
theorem d_Planner_bestSaving_12 : decode b_Planner_bestSaving 12 = .ok (.aload_n 0, 1) := by decide +kernel
theorem d_Planner_bestSaving_13 : decode b_Planner_bestSaving 13 = .ok (.iload_n 1, 1) := by decide +kernel
theorem d_Planner_bestSaving_14 : decode b_Planner_bestSaving 14 = .ok (.aload_n 0, 1) := by decide +kernel
theorem d_Planner_bestSaving_15 : decode b_Planner_bestSaving 15 = .ok (.getfield 15, 3) := by decide +kernel
theorem d_Planner_bestSaving_18 : decode b_Planner_bestSaving 18 = .ok (.iload_n 2, 1) := by decide +kernel
theorem d_Planner_bestSaving_19 : decode b_Planner_bestSaving 19 = .ok (.iaload, 1) := by decide +kernel
theorem d_Planner_bestSaving_20 : decode b_Planner_bestSaving 20 = .ok (.isub, 1) := by decide +kernel
theorem d_Planner_bestSaving_21 : decode b_Planner_bestSaving 21 = .ok (.invokevirtual 68, 3) := by decide +kernel
theorem d_Planner_bestSaving_24 : decode b_Planner_bestSaving 24 = .ok (.istore_n 3, 1) := by decide +kernel
theorem d_Planner_bestSaving_25 : decode b_Planner_bestSaving 25 = .ok (.aload_n 0, 1) := by decide +kernel
theorem d_Planner_bestSaving_26 : decode b_Planner_bestSaving 26 = .ok (.getfield 27, 3) := by decide +kernel
theorem d_Planner_bestSaving_29 : decode b_Planner_bestSaving 29 = .ok (.iload_n 2, 1) := by decide +kernel
theorem d_Planner_bestSaving_30 : decode b_Planner_bestSaving 30 = .ok (.invokevirtual 121, 3) := by decide +kernel
theorem d_Planner_bestSaving_33 : decode b_Planner_bestSaving 33 = .ok (.istore 4, 2) := by decide +kernel
theorem d_Planner_bestSaving_35 : decode b_Planner_bestSaving 35 = .ok (.iconst 0, 1) := by decide +kernel
theorem d_Planner_bestSaving_36 : decode b_Planner_bestSaving 36 = .ok (.istore 5, 2) := by decide +kernel
theorem d_Planner_bestSaving_38 : decode b_Planner_bestSaving 38 = .ok (.iload 5, 2) := by decide +kernel
theorem d_Planner_bestSaving_40 : decode b_Planner_bestSaving 40 = .ok (.sipush 1260, 3) := by decide +kernel
theorem d_Planner_bestSaving_43 : decode b_Planner_bestSaving 43 = .ok (.if_icmp .ge 59, 3) := by decide +kernel
theorem d_Planner_bestSaving_46 : decode b_Planner_bestSaving 46 = .ok (.aload_n 0, 1) := by decide +kernel
theorem d_Planner_bestSaving_47 : decode b_Planner_bestSaving 47 = .ok (.getfield 27, 3) := by decide +kernel
theorem d_Planner_bestSaving_50 : decode b_Planner_bestSaving 50 = .ok (.iload 4, 2) := by decide +kernel
theorem d_Planner_bestSaving_52 : decode b_Planner_bestSaving 52 = .ok (.invokevirtual 124, 3) := by decide +kernel
theorem d_Planner_bestSaving_55 : decode b_Planner_bestSaving 55 = .ok (.ifCond .eq 47, 3) := by decide +kernel
theorem d_Planner_bestSaving_58 : decode b_Planner_bestSaving 58 = .ok (.aload_n 0, 1) := by decide +kernel
theorem d_Planner_bestSaving_59 : decode b_Planner_bestSaving 59 = .ok (.iload_n 1, 1) := by decide +kernel
theorem d_Planner_bestSaving_60 : decode b_Planner_bestSaving 60 = .ok (.iload 4, 2) := by decide +kernel
theorem d_Planner_bestSaving_62 : decode b_Planner_bestSaving 62 = .ok (.invokevirtual 127, 3) := by decide +kernel
theorem d_Planner_bestSaving_65 : decode b_Planner_bestSaving 65 = .ok (.istore 6, 2) := by decide +kernel
theorem d_Planner_bestSaving_67 : decode b_Planner_bestSaving 67 = .ok (.iload 6, 2) := by decide +kernel
theorem d_Planner_bestSaving_69 : decode b_Planner_bestSaving 69 = .ok (.iload_n 3, 1) := by decide +kernel
theorem d_Planner_bestSaving_70 : decode b_Planner_bestSaving 70 = .ok (.if_icmp .le 15, 3) := by decide +kernel
theorem d_Planner_bestSaving_73 : decode b_Planner_bestSaving 73 = .ok (.aload_n 0, 1) := by decide +kernel
theorem d_Planner_bestSaving_74 : decode b_Planner_bestSaving 74 = .ok (.iload 4, 2) := by decide +kernel
theorem d_Planner_bestSaving_76 : decode b_Planner_bestSaving 76 = .ok (.invokevirtual 130, 3) := by decide +kernel
theorem d_Planner_bestSaving_79 : decode b_Planner_bestSaving 79 = .ok (.ifCond .eq 6, 3) := by decide +kernel
theorem d_Planner_bestSaving_82 : decode b_Planner_bestSaving 82 = .ok (.iload 6, 2) := by decide +kernel
theorem d_Planner_bestSaving_84 : decode b_Planner_bestSaving 84 = .ok (.istore_n 3, 1) := by decide +kernel
theorem d_Planner_bestSaving_85 : decode b_Planner_bestSaving 85 = .ok (.aload_n 0, 1) := by decide +kernel
theorem d_Planner_bestSaving_86 : decode b_Planner_bestSaving 86 = .ok (.getfield 27, 3) := by decide +kernel
theorem d_Planner_bestSaving_89 : decode b_Planner_bestSaving 89 = .ok (.iload 4, 2) := by decide +kernel
theorem d_Planner_bestSaving_91 : decode b_Planner_bestSaving 91 = .ok (.invokevirtual 133, 3) := by decide +kernel
theorem d_Planner_bestSaving_94 : decode b_Planner_bestSaving 94 = .ok (.istore 4, 2) := by decide +kernel
theorem d_Planner_bestSaving_96 : decode b_Planner_bestSaving 96 = .ok (.iinc 5 1, 3) := by decide +kernel
theorem d_Planner_bestSaving_99 : decode b_Planner_bestSaving 99 = .ok (.goto (-61), 3) := by decide +kernel
theorem d_Planner_bestSaving_102 : decode b_Planner_bestSaving 102 = .ok (.iload_n 3, 1) := by decide +kernel
theorem d_Planner_bestSaving_103 : decode b_Planner_bestSaving 103 = .ok (.ireturn, 1) := by decide +kernel
theorem d_Planner_firstBestUse_0 : decode b_Planner_firstBestUse 0 = .ok (.aload_n 0, 1) := by decide +kernel
theorem d_Planner_firstBestUse_1 : decode b_Planner_firstBestUse 1 = .ok (.iload_n 1, 1) := by decide +kernel
theorem d_Planner_firstBestUse_2 : decode b_Planner_firstBestUse 2 = .ok (.invokevirtual 68, 3) := by decide +kernel
theorem d_Planner_firstBestUse_5 : decode b_Planner_firstBestUse 5 = .ok (.istore_n 3, 1) := by decide +kernel
theorem d_Planner_firstBestUse_6 : decode b_Planner_firstBestUse 6 = .ok (.aload_n 0, 1) := by decide +kernel
theorem d_Planner_firstBestUse_7 : decode b_Planner_firstBestUse 7 = .ok (.iload_n 1, 1) := by decide +kernel
theorem d_Planner_firstBestUse_8 : decode b_Planner_firstBestUse 8 = .ok (.aload_n 0, 1) := by decide +kernel
theorem d_Planner_firstBestUse_9 : decode b_Planner_firstBestUse 9 = .ok (.getfield 15, 3) := by decide +kernel
theorem d_Planner_firstBestUse_12 : decode b_Planner_firstBestUse 12 = .ok (.iload_n 2, 1) := by decide +kernel
theorem d_Planner_firstBestUse_13 : decode b_Planner_firstBestUse 13 = .ok (.iaload, 1) := by decide +kernel
theorem d_Planner_firstBestUse_14 : decode b_Planner_firstBestUse 14 = .ok (.isub, 1) := by decide +kernel
theorem d_Planner_firstBestUse_15 : decode b_Planner_firstBestUse 15 = .ok (.invokevirtual 68, 3) := by decide +kernel
theorem d_Planner_firstBestUse_18 : decode b_Planner_firstBestUse 18 = .ok (.iload_n 3, 1) := by decide +kernel
theorem d_Planner_firstBestUse_19 : decode b_Planner_firstBestUse 19 = .ok (.if_icmp .ne 5, 3) := by decide +kernel
theorem d_Planner_firstBestUse_22 : decode b_Planner_firstBestUse 22 = .ok (.iconst (-1), 1) := by decide +kernel
theorem d_Planner_firstBestUse_23 : decode b_Planner_firstBestUse 23 = .ok (.ireturn, 1) := by decide +kernel
theorem d_Planner_firstBestUse_24 : decode b_Planner_firstBestUse 24 = .ok (.aload_n 0, 1) := by decide +kernel
theorem d_Planner_firstBestUse_25 : decode b_Planner_firstBestUse 25 = .ok (.getfield 27, 3) := by decide +kernel
theorem d_Planner_firstBestUse_28 : decode b_Planner_firstBestUse 28 = .ok (.iload_n 2, 1) := by decide +kernel
theorem d_Planner_firstBestUse_29 : decode b_Planner_firstBestUse 29 = .ok (.invokevirtual 121, 3) := by decide +kernel
theorem d_Planner_firstBestUse_32 : decode b_Planner_firstBestUse 32 = .ok (.istore 4, 2) := by decide +kernel
theorem d_Planner_firstBestUse_34 : decode b_Planner_firstBestUse 34 = .ok (.iconst 0, 1) := by decide +kernel
theorem d_Planner_firstBestUse_35 : decode b_Planner_firstBestUse 35 = .ok (.istore 5, 2) := by decide +kernel
theorem d_Planner_firstBestUse_37 : decode b_Planner_firstBestUse 37 = .ok (.iload 5, 2) := by decide +kernel
theorem d_Planner_firstBestUse_39 : decode b_Planner_firstBestUse 39 = .ok (.sipush 1260, 3) := by decide +kernel
theorem d_Planner_firstBestUse_42 : decode b_Planner_firstBestUse 42 = .ok (.if_icmp .ge 55, 3) := by decide +kernel
theorem d_Planner_firstBestUse_45 : decode b_Planner_firstBestUse 45 = .ok (.aload_n 0, 1) := by decide +kernel
theorem d_Planner_firstBestUse_46 : decode b_Planner_firstBestUse 46 = .ok (.getfield 27, 3) := by decide +kernel
theorem d_Planner_firstBestUse_49 : decode b_Planner_firstBestUse 49 = .ok (.iload 4, 2) := by decide +kernel
theorem d_Planner_firstBestUse_51 : decode b_Planner_firstBestUse 51 = .ok (.invokevirtual 124, 3) := by decide +kernel
theorem d_Planner_firstBestUse_54 : decode b_Planner_firstBestUse 54 = .ok (.ifCond .eq 43, 3) := by decide +kernel
theorem d_Planner_firstBestUse_57 : decode b_Planner_firstBestUse 57 = .ok (.aload_n 0, 1) := by decide +kernel
theorem d_Planner_firstBestUse_58 : decode b_Planner_firstBestUse 58 = .ok (.iload_n 1, 1) := by decide +kernel
theorem d_Planner_firstBestUse_59 : decode b_Planner_firstBestUse 59 = .ok (.iload 4, 2) := by decide +kernel
theorem d_Planner_firstBestUse_61 : decode b_Planner_firstBestUse 61 = .ok (.invokevirtual 127, 3) := by decide +kernel
theorem d_Planner_firstBestUse_64 : decode b_Planner_firstBestUse 64 = .ok (.iload_n 3, 1) := by decide +kernel
theorem d_Planner_firstBestUse_65 : decode b_Planner_firstBestUse 65 = .ok (.if_icmp .ne 15, 3) := by decide +kernel
theorem d_Planner_firstBestUse_68 : decode b_Planner_firstBestUse 68 = .ok (.aload_n 0, 1) := by decide +kernel
theorem d_Planner_firstBestUse_69 : decode b_Planner_firstBestUse 69 = .ok (.iload 4, 2) := by decide +kernel
theorem d_Planner_firstBestUse_71 : decode b_Planner_firstBestUse 71 = .ok (.invokevirtual 130, 3) := by decide +kernel
theorem d_Planner_firstBestUse_74 : decode b_Planner_firstBestUse 74 = .ok (.ifCond .eq 6, 3) := by decide +kernel
theorem d_Planner_firstBestUse_77 : decode b_Planner_firstBestUse 77 = .ok (.iload 4, 2) := by decide +kernel
theorem d_Planner_firstBestUse_79 : decode b_Planner_firstBestUse 79 = .ok (.ireturn, 1) := by decide +kernel
theorem d_Planner_firstBestUse_80 : decode b_Planner_firstBestUse 80 = .ok (.aload_n 0, 1) := by decide +kernel
theorem d_Planner_firstBestUse_81 : decode b_Planner_firstBestUse 81 = .ok (.getfield 27, 3) := by decide +kernel
theorem d_Planner_firstBestUse_84 : decode b_Planner_firstBestUse 84 = .ok (.iload 4, 2) := by decide +kernel
theorem d_Planner_firstBestUse_86 : decode b_Planner_firstBestUse 86 = .ok (.invokevirtual 133, 3) := by decide +kernel
theorem d_Planner_firstBestUse_89 : decode b_Planner_firstBestUse 89 = .ok (.istore 4, 2) := by decide +kernel
theorem d_Planner_firstBestUse_91 : decode b_Planner_firstBestUse 91 = .ok (.iinc 5 1, 3) := by decide +kernel
theorem d_Planner_firstBestUse_94 : decode b_Planner_firstBestUse 94 = .ok (.goto (-57), 3) := by decide +kernel
theorem d_Planner_firstBestUse_97 : decode b_Planner_firstBestUse 97 = .ok (.iconst (-1), 1) := by decide +kernel
theorem d_Planner_firstBestUse_98 : decode b_Planner_firstBestUse 98 = .ok (.ireturn, 1) := by decide +kernel
theorem d_Planner_savingBehind_0 : decode b_Planner_savingBehind 0 = .ok (.aload_n 0, 1) := by decide +kernel
theorem d_Planner_savingBehind_1 : decode b_Planner_savingBehind 1 = .ok (.getfield 27, 3) := by decide +kernel
theorem d_Planner_savingBehind_4 : decode b_Planner_savingBehind 4 = .ok (.iload_n 2, 1) := by decide +kernel
theorem d_Planner_savingBehind_5 : decode b_Planner_savingBehind 5 = .ok (.invokevirtual 136, 3) := by decide +kernel
theorem d_Planner_savingBehind_8 : decode b_Planner_savingBehind 8 = .ok (.aload_n 0, 1) := by decide +kernel
theorem d_Planner_savingBehind_9 : decode b_Planner_savingBehind 9 = .ok (.iload_n 1, 1) := by decide +kernel
theorem d_Planner_savingBehind_10 : decode b_Planner_savingBehind 10 = .ok (.aload_n 0, 1) := by decide +kernel
theorem d_Planner_savingBehind_11 : decode b_Planner_savingBehind 11 = .ok (.getfield 27, 3) := by decide +kernel
theorem d_Planner_savingBehind_14 : decode b_Planner_savingBehind 14 = .ok (.iload_n 2, 1) := by decide +kernel
theorem d_Planner_savingBehind_15 : decode b_Planner_savingBehind 15 = .ok (.invokevirtual 98, 3) := by decide +kernel
theorem d_Planner_savingBehind_18 : decode b_Planner_savingBehind 18 = .ok (.isub, 1) := by decide +kernel
theorem d_Planner_savingBehind_19 : decode b_Planner_savingBehind 19 = .ok (.invokevirtual 68, 3) := by decide +kernel
theorem d_Planner_savingBehind_22 : decode b_Planner_savingBehind 22 = .ok (.iadd, 1) := by decide +kernel
theorem d_Planner_savingBehind_23 : decode b_Planner_savingBehind 23 = .ok (.ireturn, 1) := by decide +kernel
theorem d_Planner_savedAt_0 : decode b_Planner_savedAt 0 = .ok (.iload_n 1, 1) := by decide +kernel
theorem d_Planner_savedAt_1 : decode b_Planner_savedAt 1 = .ok (.ifCond .lt 19, 3) := by decide +kernel
theorem d_Planner_savedAt_4 : decode b_Planner_savedAt 4 = .ok (.iload_n 1, 1) := by decide +kernel
theorem d_Planner_savedAt_5 : decode b_Planner_savedAt 5 = .ok (.sipush 3000, 3) := by decide +kernel
theorem d_Planner_savedAt_8 : decode b_Planner_savedAt 8 = .ok (.if_icmp .ge 12, 3) := by decide +kernel
theorem d_Planner_savedAt_11 : decode b_Planner_savedAt 11 = .ok (.aload_n 0, 1) := by decide +kernel
theorem d_Planner_savedAt_12 : decode b_Planner_savedAt 12 = .ok (.getfield 21, 3) := by decide +kernel
theorem d_Planner_savedAt_15 : decode b_Planner_savedAt 15 = .ok (.iload_n 1, 1) := by decide +kernel
theorem d_Planner_savedAt_16 : decode b_Planner_savedAt 16 = .ok (.iaload, 1) := by decide +kernel
theorem d_Planner_savedAt_17 : decode b_Planner_savedAt 17 = .ok (.goto 4, 3) := by decide +kernel
theorem d_Planner_savedAt_20 : decode b_Planner_savedAt 20 = .ok (.iconst 0, 1) := by decide +kernel
theorem d_Planner_savedAt_21 : decode b_Planner_savedAt 21 = .ok (.ireturn, 1) := by decide +kernel
theorem d_Planner_leastLeft_0 : decode b_Planner_leastLeft 0 = .ok (.iconst 0, 1) := by decide +kernel
theorem d_Planner_leastLeft_1 : decode b_Planner_leastLeft 1 = .ok (.istore_n 1, 1) := by decide +kernel
theorem d_Planner_leastLeft_2 : decode b_Planner_leastLeft 2 = .ok (.iload_n 1, 1) := by decide +kernel
theorem d_Planner_leastLeft_3 : decode b_Planner_leastLeft 3 = .ok (.bipush 12, 2) := by decide +kernel
theorem d_Planner_leastLeft_5 : decode b_Planner_leastLeft 5 = .ok (.if_icmp .ge 20, 3) := by decide +kernel
theorem d_Planner_leastLeft_8 : decode b_Planner_leastLeft 8 = .ok (.aload_n 0, 1) := by decide +kernel
theorem d_Planner_leastLeft_9 : decode b_Planner_leastLeft 9 = .ok (.getfield 18, 3) := by decide +kernel
theorem d_Planner_leastLeft_12 : decode b_Planner_leastLeft 12 = .ok (.iload_n 1, 1) := by decide +kernel
theorem d_Planner_leastLeft_13 : decode b_Planner_leastLeft 13 = .ok (.iaload, 1) := by decide +kernel
theorem d_Planner_leastLeft_14 : decode b_Planner_leastLeft 14 = .ok (.ifCond .le 5, 3) := by decide +kernel
theorem d_Planner_leastLeft_17 : decode b_Planner_leastLeft 17 = .ok (.iload_n 1, 1) := by decide +kernel
theorem d_Planner_leastLeft_18 : decode b_Planner_leastLeft 18 = .ok (.ireturn, 1) := by decide +kernel
theorem d_Planner_leastLeft_19 : decode b_Planner_leastLeft 19 = .ok (.iinc 1 1, 3) := by decide +kernel
theorem d_Planner_leastLeft_22 : decode b_Planner_leastLeft 22 = .ok (.goto (-20), 3) := by decide +kernel
theorem d_Planner_leastLeft_25 : decode b_Planner_leastLeft 25 = .ok (.iconst (-1), 1) := by decide +kernel
theorem d_Planner_leastLeft_26 : decode b_Planner_leastLeft 26 = .ok (.ireturn, 1) := by decide +kernel
theorem d_Planner_isLimited_0 : decode b_Planner_isLimited 0 = .ok (.aload_n 0, 1) := by decide +kernel
theorem d_Planner_isLimited_1 : decode b_Planner_isLimited 1 = .ok (.getfield 11, 3) := by decide +kernel
theorem d_Planner_isLimited_4 : decode b_Planner_isLimited 4 = .ok (.bipush 12, 2) := by decide +kernel
theorem d_Planner_isLimited_6 : decode b_Planner_isLimited 6 = .ok (.iload_n 1, 1) := by decide +kernel
theorem d_Planner_isLimited_7 : decode b_Planner_isLimited 7 = .ok (.iadd, 1) := by decide +kernel
theorem d_Planner_isLimited_8 : decode b_Planner_isLimited 8 = .ok (.iaload, 1) := by decide +kernel
theorem d_Planner_isLimited_9 : decode b_Planner_isLimited 9 = .ok (.ifCond .le 7, 3) := by decide +kernel
theorem d_Planner_isLimited_12 : decode b_Planner_isLimited 12 = .ok (.iconst 1, 1) := by decide +kernel
theorem d_Planner_isLimited_13 : decode b_Planner_isLimited 13 = .ok (.goto 4, 3) := by decide +kernel
theorem d_Planner_isLimited_16 : decode b_Planner_isLimited 16 = .ok (.iconst 0, 1) := by decide +kernel
theorem d_Planner_isLimited_17 : decode b_Planner_isLimited 17 = .ok (.ireturn, 1) := by decide +kernel
theorem d_Planner_fits_0 : decode b_Planner_fits 0 = .ok (.aload_n 0, 1) := by decide +kernel
theorem d_Planner_fits_1 : decode b_Planner_fits 1 = .ok (.getfield 27, 3) := by decide +kernel
theorem d_Planner_fits_4 : decode b_Planner_fits 4 = .ok (.iload_n 1, 1) := by decide +kernel
theorem d_Planner_fits_5 : decode b_Planner_fits 5 = .ok (.invokevirtual 139, 3) := by decide +kernel
theorem d_Planner_fits_8 : decode b_Planner_fits 8 = .ok (.istore_n 2, 1) := by decide +kernel
theorem d_Planner_fits_9 : decode b_Planner_fits 9 = .ok (.aload_n 0, 1) := by decide +kernel
theorem d_Planner_fits_10 : decode b_Planner_fits 10 = .ok (.iload_n 2, 1) := by decide +kernel
theorem d_Planner_fits_11 : decode b_Planner_fits 11 = .ok (.invokevirtual 142, 3) := by decide +kernel
theorem d_Planner_fits_14 : decode b_Planner_fits 14 = .ok (.ifCond .eq 17, 3) := by decide +kernel
theorem d_Planner_fits_17 : decode b_Planner_fits 17 = .ok (.aload_n 0, 1) := by decide +kernel
theorem d_Planner_fits_18 : decode b_Planner_fits 18 = .ok (.getfield 18, 3) := by decide +kernel
theorem d_Planner_fits_21 : decode b_Planner_fits 21 = .ok (.bipush 12, 2) := by decide +kernel
theorem d_Planner_fits_23 : decode b_Planner_fits 23 = .ok (.iload_n 2, 1) := by decide +kernel
theorem d_Planner_fits_24 : decode b_Planner_fits 24 = .ok (.iadd, 1) := by decide +kernel
theorem d_Planner_fits_25 : decode b_Planner_fits 25 = .ok (.iaload, 1) := by decide +kernel
theorem d_Planner_fits_26 : decode b_Planner_fits 26 = .ok (.ifCond .ne 5, 3) := by decide +kernel
theorem d_Planner_fits_29 : decode b_Planner_fits 29 = .ok (.iconst 0, 1) := by decide +kernel
theorem d_Planner_fits_30 : decode b_Planner_fits 30 = .ok (.ireturn, 1) := by decide +kernel
theorem d_Planner_fits_31 : decode b_Planner_fits 31 = .ok (.iconst (-1), 1) := by decide +kernel
theorem d_Planner_fits_32 : decode b_Planner_fits 32 = .ok (.istore_n 3, 1) := by decide +kernel
theorem d_Planner_fits_33 : decode b_Planner_fits 33 = .ok (.iconst 0, 1) := by decide +kernel
theorem d_Planner_fits_34 : decode b_Planner_fits 34 = .ok (.istore 4, 2) := by decide +kernel
theorem d_Planner_fits_36 : decode b_Planner_fits 36 = .ok (.iconst 0, 1) := by decide +kernel
theorem d_Planner_fits_37 : decode b_Planner_fits 37 = .ok (.istore 5, 2) := by decide +kernel
theorem d_Planner_fits_39 : decode b_Planner_fits 39 = .ok (.iload 5, 2) := by decide +kernel
theorem d_Planner_fits_41 : decode b_Planner_fits 41 = .ok (.aload_n 0, 1) := by decide +kernel
theorem d_Planner_fits_42 : decode b_Planner_fits 42 = .ok (.getfield 27, 3) := by decide +kernel
theorem d_Planner_fits_45 : decode b_Planner_fits 45 = .ok (.iload_n 1, 1) := by decide +kernel
theorem d_Planner_fits_46 : decode b_Planner_fits 46 = .ok (.invokevirtual 145, 3) := by decide +kernel
theorem d_Planner_fits_49 : decode b_Planner_fits 49 = .ok (.if_icmp .ge 54, 3) := by decide +kernel
theorem d_Planner_fits_52 : decode b_Planner_fits 52 = .ok (.aload_n 0, 1) := by decide +kernel
theorem d_Planner_fits_53 : decode b_Planner_fits 53 = .ok (.getfield 27, 3) := by decide +kernel
theorem d_Planner_fits_56 : decode b_Planner_fits 56 = .ok (.iload_n 1, 1) := by decide +kernel
theorem d_Planner_fits_57 : decode b_Planner_fits 57 = .ok (.iload 5, 2) := by decide +kernel
theorem d_Planner_fits_59 : decode b_Planner_fits 59 = .ok (.invokevirtual 148, 3) := by decide +kernel
theorem d_Planner_fits_62 : decode b_Planner_fits 62 = .ok (.istore 6, 2) := by decide +kernel
theorem d_Planner_fits_64 : decode b_Planner_fits 64 = .ok (.iload 6, 2) := by decide +kernel
theorem d_Planner_fits_66 : decode b_Planner_fits 66 = .ok (.iload_n 3, 1) := by decide +kernel
theorem d_Planner_fits_67 : decode b_Planner_fits 67 = .ok (.if_icmp .ne 10, 3) := by decide +kernel
theorem d_Planner_fits_70 : decode b_Planner_fits 70 = .ok (.iload 4, 2) := by decide +kernel
theorem d_Planner_fits_72 : decode b_Planner_fits 72 = .ok (.iconst 1, 1) := by decide +kernel
theorem d_Planner_fits_73 : decode b_Planner_fits 73 = .ok (.iadd, 1) := by decide +kernel
theorem d_Planner_fits_74 : decode b_Planner_fits 74 = .ok (.goto 4, 3) := by decide +kernel
theorem d_Planner_fits_77 : decode b_Planner_fits 77 = .ok (.iconst 1, 1) := by decide +kernel
theorem d_Planner_fits_78 : decode b_Planner_fits 78 = .ok (.istore 4, 2) := by decide +kernel
theorem d_Planner_fits_80 : decode b_Planner_fits 80 = .ok (.aload_n 0, 1) := by decide +kernel
theorem d_Planner_fits_81 : decode b_Planner_fits 81 = .ok (.getfield 18, 3) := by decide +kernel
theorem d_Planner_fits_84 : decode b_Planner_fits 84 = .ok (.iload 6, 2) := by decide +kernel
theorem d_Planner_fits_86 : decode b_Planner_fits 86 = .ok (.iaload, 1) := by decide +kernel
theorem d_Planner_fits_87 : decode b_Planner_fits 87 = .ok (.iload 4, 2) := by decide +kernel
theorem d_Planner_fits_89 : decode b_Planner_fits 89 = .ok (.if_icmp .ge 5, 3) := by decide +kernel
theorem d_Planner_fits_92 : decode b_Planner_fits 92 = .ok (.iconst 0, 1) := by decide +kernel
theorem d_Planner_fits_93 : decode b_Planner_fits 93 = .ok (.ireturn, 1) := by decide +kernel
theorem d_Planner_fits_94 : decode b_Planner_fits 94 = .ok (.iload 6, 2) := by decide +kernel
theorem d_Planner_fits_96 : decode b_Planner_fits 96 = .ok (.istore_n 3, 1) := by decide +kernel
theorem d_Planner_fits_97 : decode b_Planner_fits 97 = .ok (.iinc 5 1, 3) := by decide +kernel
theorem d_Planner_fits_100 : decode b_Planner_fits 100 = .ok (.goto (-61), 3) := by decide +kernel
theorem d_Planner_fits_103 : decode b_Planner_fits 103 = .ok (.iconst 1, 1) := by decide +kernel
theorem d_Planner_fits_104 : decode b_Planner_fits 104 = .ok (.ireturn, 1) := by decide +kernel
theorem d_Planner_takeUse_0 : decode b_Planner_takeUse 0 = .ok (.aload_n 0, 1) := by decide +kernel
theorem d_Planner_takeUse_1 : decode b_Planner_takeUse 1 = .ok (.getfield 27, 3) := by decide +kernel
theorem d_Planner_takeUse_4 : decode b_Planner_takeUse 4 = .ok (.iload_n 1, 1) := by decide +kernel
theorem d_Planner_takeUse_5 : decode b_Planner_takeUse 5 = .ok (.invokevirtual 139, 3) := by decide +kernel
theorem d_Planner_takeUse_8 : decode b_Planner_takeUse 8 = .ok (.istore 4, 2) := by decide +kernel
theorem d_Planner_takeUse_10 : decode b_Planner_takeUse 10 = .ok (.iconst 0, 1) := by decide +kernel
theorem d_Planner_takeUse_11 : decode b_Planner_takeUse 11 = .ok (.istore 5, 2) := by decide +kernel
theorem d_Planner_takeUse_13 : decode b_Planner_takeUse 13 = .ok (.iload 5, 2) := by decide +kernel
theorem d_Planner_takeUse_15 : decode b_Planner_takeUse 15 = .ok (.aload_n 0, 1) := by decide +kernel
theorem d_Planner_takeUse_16 : decode b_Planner_takeUse 16 = .ok (.getfield 27, 3) := by decide +kernel
theorem d_Planner_takeUse_19 : decode b_Planner_takeUse 19 = .ok (.iload_n 1, 1) := by decide +kernel
theorem d_Planner_takeUse_20 : decode b_Planner_takeUse 20 = .ok (.invokevirtual 145, 3) := by decide +kernel
theorem d_Planner_takeUse_23 : decode b_Planner_takeUse 23 = .ok (.if_icmp .ge 41, 3) := by decide +kernel
theorem d_Planner_takeUse_26 : decode b_Planner_takeUse 26 = .ok (.aload_n 0, 1) := by decide +kernel
theorem d_Planner_takeUse_27 : decode b_Planner_takeUse 27 = .ok (.getfield 27, 3) := by decide +kernel
theorem d_Planner_takeUse_30 : decode b_Planner_takeUse 30 = .ok (.iload_n 1, 1) := by decide +kernel
theorem d_Planner_takeUse_31 : decode b_Planner_takeUse 31 = .ok (.iload 5, 2) := by decide +kernel
theorem d_Planner_takeUse_33 : decode b_Planner_takeUse 33 = .ok (.invokevirtual 148, 3) := by decide +kernel
theorem d_Planner_takeUse_36 : decode b_Planner_takeUse 36 = .ok (.istore 6, 2) := by decide +kernel
theorem d_Planner_takeUse_38 : decode b_Planner_takeUse 38 = .ok (.aload_n 3, 1) := by decide +kernel
theorem d_Planner_takeUse_39 : decode b_Planner_takeUse 39 = .ok (.aload_n 2, 1) := by decide +kernel
theorem d_Planner_takeUse_40 : decode b_Planner_takeUse 40 = .ok (.iload 6, 2) := by decide +kernel
theorem d_Planner_takeUse_42 : decode b_Planner_takeUse 42 = .ok (.iload 4, 2) := by decide +kernel
theorem d_Planner_takeUse_44 : decode b_Planner_takeUse 44 = .ok (.invokevirtual 151, 3) := by decide +kernel
theorem d_Planner_takeUse_47 : decode b_Planner_takeUse 47 = .ok (.aload_n 0, 1) := by decide +kernel
theorem d_Planner_takeUse_48 : decode b_Planner_takeUse 48 = .ok (.getfield 18, 3) := by decide +kernel
theorem d_Planner_takeUse_51 : decode b_Planner_takeUse 51 = .ok (.iload 6, 2) := by decide +kernel
theorem d_Planner_takeUse_53 : decode b_Planner_takeUse 53 = .ok (.dup2, 1) := by decide +kernel
theorem d_Planner_takeUse_54 : decode b_Planner_takeUse 54 = .ok (.iaload, 1) := by decide +kernel
theorem d_Planner_takeUse_55 : decode b_Planner_takeUse 55 = .ok (.iconst 1, 1) := by decide +kernel
theorem d_Planner_takeUse_56 : decode b_Planner_takeUse 56 = .ok (.isub, 1) := by decide +kernel
theorem d_Planner_takeUse_57 : decode b_Planner_takeUse 57 = .ok (.iastore, 1) := by decide +kernel
theorem d_Planner_takeUse_58 : decode b_Planner_takeUse 58 = .ok (.iinc 5 1, 3) := by decide +kernel
theorem d_Planner_takeUse_61 : decode b_Planner_takeUse 61 = .ok (.goto (-48), 3) := by decide +kernel
theorem d_Planner_takeUse_64 : decode b_Planner_takeUse 64 = .ok (.aload_n 0, 1) := by decide +kernel
theorem d_Planner_takeUse_65 : decode b_Planner_takeUse 65 = .ok (.iload 4, 2) := by decide +kernel
theorem d_Planner_takeUse_67 : decode b_Planner_takeUse 67 = .ok (.invokevirtual 142, 3) := by decide +kernel
theorem d_Planner_takeUse_70 : decode b_Planner_takeUse 70 = .ok (.ifCond .eq 17, 3) := by decide +kernel
theorem d_Planner_takeUse_73 : decode b_Planner_takeUse 73 = .ok (.aload_n 0, 1) := by decide +kernel
theorem d_Planner_takeUse_74 : decode b_Planner_takeUse 74 = .ok (.getfield 18, 3) := by decide +kernel
theorem d_Planner_takeUse_77 : decode b_Planner_takeUse 77 = .ok (.bipush 12, 2) := by decide +kernel
theorem d_Planner_takeUse_79 : decode b_Planner_takeUse 79 = .ok (.iload 4, 2) := by decide +kernel
theorem d_Planner_takeUse_81 : decode b_Planner_takeUse 81 = .ok (.iadd, 1) := by decide +kernel
theorem d_Planner_takeUse_82 : decode b_Planner_takeUse 82 = .ok (.dup2, 1) := by decide +kernel
theorem d_Planner_takeUse_83 : decode b_Planner_takeUse 83 = .ok (.iaload, 1) := by decide +kernel
theorem d_Planner_takeUse_84 : decode b_Planner_takeUse 84 = .ok (.iconst 1, 1) := by decide +kernel
theorem d_Planner_takeUse_85 : decode b_Planner_takeUse 85 = .ok (.isub, 1) := by decide +kernel
theorem d_Planner_takeUse_86 : decode b_Planner_takeUse 86 = .ok (.iastore, 1) := by decide +kernel
theorem d_Planner_takeUse_87 : decode b_Planner_takeUse 87 = .ok (.aload_n 3, 1) := by decide +kernel
theorem d_Planner_takeUse_88 : decode b_Planner_takeUse 88 = .ok (.aload_n 2, 1) := by decide +kernel
theorem d_Planner_takeUse_89 : decode b_Planner_takeUse 89 = .ok (.aload_n 0, 1) := by decide +kernel
theorem d_Planner_takeUse_90 : decode b_Planner_takeUse 90 = .ok (.getfield 27, 3) := by decide +kernel
theorem d_Planner_takeUse_93 : decode b_Planner_takeUse 93 = .ok (.iload_n 1, 1) := by decide +kernel
theorem d_Planner_takeUse_94 : decode b_Planner_takeUse 94 = .ok (.invokevirtual 136, 3) := by decide +kernel
theorem d_Planner_takeUse_97 : decode b_Planner_takeUse 97 = .ok (.invokevirtual 155, 3) := by decide +kernel
theorem d_Planner_takeUse_100 : decode b_Planner_takeUse 100 = .ok (.return_, 1) := by decide +kernel
