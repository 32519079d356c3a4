/-! decode rows of Model (by program) -/
theorem d_Model_nextUse_292 : decode b_Model_nextUse 292 = .ok (.iconst 1, 1) := by decide +kernel
theorem d_Model_nextUse_293 : decode b_Model_nextUse 293 = .ok (.goto 4, 3) := by decide +kernel
theorem d_Model_nextUse_296 : decode b_Model_nextUse 296 = .ok (.iconst 0, 1) := by decide +kernel
theorem d_Model_nextUse_297 : decode b_Model_nextUse 297 = .ok (.ireturn, 1) := by decide +kernel
theorem d_Model_priceOfList_0 : decode b_Model_priceOfList 0 = .ok (.iconst 0, 1) := by decide +kernel
theorem d_Model_priceOfList_1 : decode b_Model_priceOfList 1 = .ok (.istore_n 1, 1) := by decide +kernel
theorem d_Model_priceOfList_2 : decode b_Model_priceOfList 2 = .ok (.iconst 0, 1) := by decide +kernel
theorem d_Model_priceOfList_3 : decode b_Model_priceOfList 3 = .ok (.istore_n 2, 1) := by decide +kernel
theorem d_Model_priceOfList_4 : decode b_Model_priceOfList 4 = .ok (.iload_n 2, 1) := by decide +kernel
theorem d_Model_priceOfList_5 : decode b_Model_priceOfList 5 = .ok (.aload_n 0, 1) := by decide +kernel
theorem d_Model_priceOfList_6 : decode b_Model_priceOfList 6 = .ok (.getfield 131, 3) := by decide +kernel
theorem d_Model_priceOfList_9 : decode b_Model_priceOfList 9 = .ok (.if_icmp .ge 23, 3) := by decide +kernel
theorem d_Model_priceOfList_12 : decode b_Model_priceOfList 12 = .ok (.iload_n 1, 1) := by decide +kernel
theorem d_Model_priceOfList_13 : decode b_Model_priceOfList 13 = .ok (.aload_n 0, 1) := by decide +kernel
theorem d_Model_priceOfList_14 : decode b_Model_priceOfList 14 = .ok (.getfield 80, 3) := by decide +kernel
theorem d_Model_priceOfList_17 : decode b_Model_priceOfList 17 = .ok (.aload_n 0, 1) := by decide +kernel
theorem d_Model_priceOfList_18 : decode b_Model_priceOfList 18 = .ok (.getfield 86, 3) := by decide +kernel
theorem d_Model_priceOfList_21 : decode b_Model_priceOfList 21 = .ok (.iload_n 2, 1) := by decide +kernel
theorem d_Model_priceOfList_22 : decode b_Model_priceOfList 22 = .ok (.iaload, 1) := by decide +kernel
theorem d_Model_priceOfList_23 : decode b_Model_priceOfList 23 = .ok (.iaload, 1) := by decide +kernel
theorem d_Model_priceOfList_24 : decode b_Model_priceOfList 24 = .ok (.iadd, 1) := by decide +kernel
theorem d_Model_priceOfList_25 : decode b_Model_priceOfList 25 = .ok (.istore_n 1, 1) := by decide +kernel
theorem d_Model_priceOfList_26 : decode b_Model_priceOfList 26 = .ok (.iinc 2 1, 3) := by decide +kernel
theorem d_Model_priceOfList_29 : decode b_Model_priceOfList 29 = .ok (.goto (-25), 3) := by decide +kernel
theorem d_Model_priceOfList_32 : decode b_Model_priceOfList 32 = .ok (.iload_n 1, 1) := by decide +kernel
theorem d_Model_priceOfList_33 : decode b_Model_priceOfList 33 = .ok (.ireturn, 1) := by decide +kernel
theorem d_Model_costOfUse_0 : decode b_Model_costOfUse 0 = .ok (.aload_n 0, 1) := by decide +kernel
theorem d_Model_costOfUse_1 : decode b_Model_costOfUse 1 = .ok (.getfield 16, 3) := by decide +kernel
theorem d_Model_costOfUse_4 : decode b_Model_costOfUse 4 = .ok (.iload_n 1, 1) := by decide +kernel
theorem d_Model_costOfUse_5 : decode b_Model_costOfUse 5 = .ok (.iaload, 1) := by decide +kernel
theorem d_Model_costOfUse_6 : decode b_Model_costOfUse 6 = .ok (.ifCond .eq 13, 3) := by decide +kernel
theorem d_Model_costOfUse_9 : decode b_Model_costOfUse 9 = .ok (.aload_n 0, 1) := by decide +kernel
theorem d_Model_costOfUse_10 : decode b_Model_costOfUse 10 = .ok (.getfield 16, 3) := by decide +kernel
theorem d_Model_costOfUse_13 : decode b_Model_costOfUse 13 = .ok (.iload_n 1, 1) := by decide +kernel
theorem d_Model_costOfUse_14 : decode b_Model_costOfUse 14 = .ok (.iaload, 1) := by decide +kernel
theorem d_Model_costOfUse_15 : decode b_Model_costOfUse 15 = .ok (.iconst 2, 1) := by decide +kernel
theorem d_Model_costOfUse_16 : decode b_Model_costOfUse 16 = .ok (.if_icmp .ne 10, 3) := by decide +kernel
theorem d_Model_costOfUse_19 : decode b_Model_costOfUse 19 = .ok (.aload_n 0, 1) := by decide +kernel
theorem d_Model_costOfUse_20 : decode b_Model_costOfUse 20 = .ok (.getfield 22, 3) := by decide +kernel
theorem d_Model_costOfUse_23 : decode b_Model_costOfUse 23 = .ok (.iload_n 1, 1) := by decide +kernel
theorem d_Model_costOfUse_24 : decode b_Model_costOfUse 24 = .ok (.iaload, 1) := by decide +kernel
theorem d_Model_costOfUse_25 : decode b_Model_costOfUse 25 = .ok (.ireturn, 1) := by decide +kernel
theorem d_Model_costOfUse_26 : decode b_Model_costOfUse 26 = .ok (.aload_n 0, 1) := by decide +kernel
theorem d_Model_costOfUse_27 : decode b_Model_costOfUse 27 = .ok (.getfield 80, 3) := by decide +kernel
theorem d_Model_costOfUse_30 : decode b_Model_costOfUse 30 = .ok (.aload_n 0, 1) := by decide +kernel
theorem d_Model_costOfUse_31 : decode b_Model_costOfUse 31 = .ok (.getfield 86, 3) := by decide +kernel
theorem d_Model_costOfUse_34 : decode b_Model_costOfUse 34 = .ok (.iconst 0, 1) := by decide +kernel
theorem d_Model_costOfUse_35 : decode b_Model_costOfUse 35 = .ok (.iaload, 1) := by decide +kernel
theorem d_Model_costOfUse_36 : decode b_Model_costOfUse 36 = .ok (.iaload, 1) := by decide +kernel
theorem d_Model_costOfUse_37 : decode b_Model_costOfUse 37 = .ok (.istore_n 2, 1) := by decide +kernel
theorem d_Model_costOfUse_38 : decode b_Model_costOfUse 38 = .ok (.iconst 1, 1) := by decide +kernel
theorem d_Model_costOfUse_39 : decode b_Model_costOfUse 39 = .ok (.istore_n 3, 1) := by decide +kernel
theorem d_Model_costOfUse_40 : decode b_Model_costOfUse 40 = .ok (.iload_n 3, 1) := by decide +kernel
theorem d_Model_costOfUse_41 : decode b_Model_costOfUse 41 = .ok (.aload_n 0, 1) := by decide +kernel
theorem d_Model_costOfUse_42 : decode b_Model_costOfUse 42 = .ok (.getfield 131, 3) := by decide +kernel
theorem d_Model_costOfUse_45 : decode b_Model_costOfUse 45 = .ok (.if_icmp .ge 36, 3) := by decide +kernel
theorem d_Model_costOfUse_48 : decode b_Model_costOfUse 48 = .ok (.aload_n 0, 1) := by decide +kernel
theorem d_Model_costOfUse_49 : decode b_Model_costOfUse 49 = .ok (.getfield 80, 3) := by decide +kernel
theorem d_Model_costOfUse_52 : decode b_Model_costOfUse 52 = .ok (.aload_n 0, 1) := by decide +kernel
theorem d_Model_costOfUse_53 : decode b_Model_costOfUse 53 = .ok (.getfield 86, 3) := by decide +kernel
theorem d_Model_costOfUse_56 : decode b_Model_costOfUse 56 = .ok (.iload_n 3, 1) := by decide +kernel
theorem d_Model_costOfUse_57 : decode b_Model_costOfUse 57 = .ok (.iaload, 1) := by decide +kernel
theorem d_Model_costOfUse_58 : decode b_Model_costOfUse 58 = .ok (.iaload, 1) := by decide +kernel
theorem d_Model_costOfUse_59 : decode b_Model_costOfUse 59 = .ok (.iload_n 2, 1) := by decide +kernel
theorem d_Model_costOfUse_60 : decode b_Model_costOfUse 60 = .ok (.if_icmp .ge 15, 3) := by decide +kernel
theorem d_Model_costOfUse_63 : decode b_Model_costOfUse 63 = .ok (.aload_n 0, 1) := by decide +kernel
theorem d_Model_costOfUse_64 : decode b_Model_costOfUse 64 = .ok (.getfield 80, 3) := by decide +kernel
theorem d_Model_costOfUse_67 : decode b_Model_costOfUse 67 = .ok (.aload_n 0, 1) := by decide +kernel
theorem d_Model_costOfUse_68 : decode b_Model_costOfUse 68 = .ok (.getfield 86, 3) := by decide +kernel
theorem d_Model_costOfUse_71 : decode b_Model_costOfUse 71 = .ok (.iload_n 3, 1) := by decide +kernel
theorem d_Model_costOfUse_72 : decode b_Model_costOfUse 72 = .ok (.iaload, 1) := by decide +kernel
theorem d_Model_costOfUse_73 : decode b_Model_costOfUse 73 = .ok (.iaload, 1) := by decide +kernel
theorem d_Model_costOfUse_74 : decode b_Model_costOfUse 74 = .ok (.istore_n 2, 1) := by decide +kernel
theorem d_Model_costOfUse_75 : decode b_Model_costOfUse 75 = .ok (.iinc 3 1, 3) := by decide +kernel
theorem d_Model_costOfUse_78 : decode b_Model_costOfUse 78 = .ok (.goto (-38), 3) := by decide +kernel
theorem d_Model_costOfUse_81 : decode b_Model_costOfUse 81 = .ok (.aload_n 0, 1) := by decide +kernel
theorem d_Model_costOfUse_82 : decode b_Model_costOfUse 82 = .ok (.getfield 16, 3) := by decide +kernel
theorem d_Model_costOfUse_85 : decode b_Model_costOfUse 85 = .ok (.iload_n 1, 1) := by decide +kernel
theorem d_Model_costOfUse_86 : decode b_Model_costOfUse 86 = .ok (.iaload, 1) := by decide +kernel
theorem d_Model_costOfUse_87 : decode b_Model_costOfUse 87 = .ok (.iconst 1, 1) := by decide +kernel
theorem d_Model_costOfUse_88 : decode b_Model_costOfUse 88 = .ok (.if_icmp .ne 10, 3) := by decide +kernel
theorem d_Model_costOfUse_91 : decode b_Model_costOfUse 91 = .ok (.aload_n 0, 1) := by decide +kernel
theorem d_Model_costOfUse_92 : decode b_Model_costOfUse 92 = .ok (.invokevirtual 134, 3) := by decide +kernel
theorem d_Model_costOfUse_95 : decode b_Model_costOfUse 95 = .ok (.iload_n 2, 1) := by decide +kernel
theorem d_Model_costOfUse_96 : decode b_Model_costOfUse 96 = .ok (.isub, 1) := by decide +kernel
theorem d_Model_costOfUse_97 : decode b_Model_costOfUse 97 = .ok (.ireturn, 1) := by decide +kernel
theorem d_Model_costOfUse_98 : decode b_Model_costOfUse 98 = .ok (.aload_n 0, 1) := by decide +kernel
theorem d_Model_costOfUse_99 : decode b_Model_costOfUse 99 = .ok (.getfield 22, 3) := by decide +kernel
theorem d_Model_costOfUse_102 : decode b_Model_costOfUse 102 = .ok (.iload_n 1, 1) := by decide +kernel
theorem d_Model_costOfUse_103 : decode b_Model_costOfUse 103 = .ok (.iaload, 1) := by decide +kernel
theorem d_Model_costOfUse_104 : decode b_Model_costOfUse 104 = .ok (.bipush 100, 2) := by decide +kernel
theorem d_Model_costOfUse_106 : decode b_Model_costOfUse 106 = .ok (.if_icmp .le 8, 3) := by decide +kernel
theorem d_Model_costOfUse_109 : decode b_Model_costOfUse 109 = .ok (.bipush 100, 2) := by decide +kernel
theorem d_Model_costOfUse_111 : decode b_Model_costOfUse 111 = .ok (.goto 9, 3) := by decide +kernel
theorem d_Model_costOfUse_114 : decode b_Model_costOfUse 114 = .ok (.aload_n 0, 1) := by decide +kernel
theorem d_Model_costOfUse_115 : decode b_Model_costOfUse 115 = .ok (.getfield 22, 3) := by decide +kernel
theorem d_Model_costOfUse_118 : decode b_Model_costOfUse 118 = .ok (.iload_n 1, 1) := by decide +kernel
theorem d_Model_costOfUse_119 : decode b_Model_costOfUse 119 = .ok (.iaload, 1) := by decide +kernel
theorem d_Model_costOfUse_120 : decode b_Model_costOfUse 120 = .ok (.istore_n 3, 1) := by decide +kernel
theorem d_Model_costOfUse_121 : decode b_Model_costOfUse 121 = .ok (.aload_n 0, 1) := by decide +kernel
theorem d_Model_costOfUse_122 : decode b_Model_costOfUse 122 = .ok (.invokevirtual 134, 3) := by decide +kernel
theorem d_Model_costOfUse_125 : decode b_Model_costOfUse 125 = .ok (.iload_n 2, 1) := by decide +kernel
theorem d_Model_costOfUse_126 : decode b_Model_costOfUse 126 = .ok (.isub, 1) := by decide +kernel
theorem d_Model_costOfUse_127 : decode b_Model_costOfUse 127 = .ok (.iload_n 2, 1) := by decide +kernel
theorem d_Model_costOfUse_128 : decode b_Model_costOfUse 128 = .ok (.iload_n 3, 1) := by decide +kernel
theorem d_Model_costOfUse_129 : decode b_Model_costOfUse 129 = .ok (.imul, 1) := by decide +kernel
theorem d_Model_costOfUse_130 : decode b_Model_costOfUse 130 = .ok (.bipush 50, 2) := by decide +kernel
theorem d_Model_costOfUse_132 : decode b_Model_costOfUse 132 = .ok (.iadd, 1) := by decide +kernel
theorem d_Model_costOfUse_133 : decode b_Model_costOfUse 133 = .ok (.bipush 100, 2) := by decide +kernel
theorem d_Model_costOfUse_135 : decode b_Model_costOfUse 135 = .ok (.idiv, 1) := by decide +kernel
theorem d_Model_costOfUse_136 : decode b_Model_costOfUse 136 = .ok (.iadd, 1) := by decide +kernel
theorem d_Model_costOfUse_137 : decode b_Model_costOfUse 137 = .ok (.ireturn, 1) := by decide +kernel
theorem d_Model_behindUse_0 : decode b_Model_behindUse 0 = .ok (.iload_n 1, 1) := by decide +kernel
theorem d_Model_behindUse_1 : decode b_Model_behindUse 1 = .ok (.aload_n 0, 1) := by decide +kernel
theorem d_Model_behindUse_2 : decode b_Model_behindUse 2 = .ok (.getfield 77, 3) := by decide +kernel
theorem d_Model_behindUse_5 : decode b_Model_behindUse 5 = .ok (.iload_n 2, 1) := by decide +kernel
theorem d_Model_behindUse_6 : decode b_Model_behindUse 6 = .ok (.iaload, 1) := by decide +kernel
theorem d_Model_behindUse_7 : decode b_Model_behindUse 7 = .ok (.isub, 1) := by decide +kernel
theorem d_Model_behindUse_8 : decode b_Model_behindUse 8 = .ok (.istore_n 3, 1) := by decide +kernel
theorem d_Model_behindUse_9 : decode b_Model_behindUse 9 = .ok (.iconst 0, 1) := by decide +kernel
theorem d_Model_behindUse_10 : decode b_Model_behindUse 10 = .ok (.istore 4, 2) := by decide +kernel
theorem d_Model_behindUse_12 : decode b_Model_behindUse 12 = .ok (.iload 4, 2) := by decide +kernel
theorem d_Model_behindUse_14 : decode b_Model_behindUse 14 = .ok (.aload_n 0, 1) := by decide +kernel
theorem d_Model_behindUse_15 : decode b_Model_behindUse 15 = .ok (.getfield 131, 3) := by decide +kernel
theorem d_Model_behindUse_18 : decode b_Model_behindUse 18 = .ok (.if_icmp .ge 24, 3) := by decide +kernel
theorem d_Model_behindUse_21 : decode b_Model_behindUse 21 = .ok (.iload_n 3, 1) := by decide +kernel
theorem d_Model_behindUse_22 : decode b_Model_behindUse 22 = .ok (.aload_n 0, 1) := by decide +kernel
theorem d_Model_behindUse_23 : decode b_Model_behindUse 23 = .ok (.getfield 74, 3) := by decide +kernel
theorem d_Model_behindUse_26 : decode b_Model_behindUse 26 = .ok (.aload_n 0, 1) := by decide +kernel
theorem d_Model_behindUse_27 : decode b_Model_behindUse 27 = .ok (.getfield 86, 3) := by decide +kernel
theorem d_Model_behindUse_30 : decode b_Model_behindUse 30 = .ok (.iload 4, 2) := by decide +kernel
theorem d_Model_behindUse_32 : decode b_Model_behindUse 32 = .ok (.iaload, 1) := by decide +kernel
theorem d_Model_behindUse_33 : decode b_Model_behindUse 33 = .ok (.iaload, 1) := by decide +kernel
theorem d_Model_behindUse_34 : decode b_Model_behindUse 34 = .ok (.isub, 1) := by decide +kernel
theorem d_Model_behindUse_35 : decode b_Model_behindUse 35 = .ok (.istore_n 3, 1) := by decide +kernel
theorem d_Model_behindUse_36 : decode b_Model_behindUse 36 = .ok (.iinc 4 1, 3) := by decide +kernel
theorem d_Model_behindUse_39 : decode b_Model_behindUse 39 = .ok (.goto (-27), 3) := by decide +kernel
theorem d_Model_behindUse_42 : decode b_Model_behindUse 42 = .ok (.iload_n 3, 1) := by decide +kernel
theorem d_Model_behindUse_43 : decode b_Model_behindUse 43 = .ok (.ireturn, 1) := by decide +kernel
theorem d_Model_numberAll_0 : decode b_Model_numberAll 0 = .ok (.aload_n 0, 1) := by decide +kernel
theorem d_Model_numberAll_1 : decode b_Model_numberAll 1 = .ok (.iconst 1, 1) := by decide +kernel
theorem d_Model_numberAll_2 : decode b_Model_numberAll 2 = .ok (.putfield 138, 3) := by decide +kernel
theorem d_Model_numberAll_5 : decode b_Model_numberAll 5 = .ok (.iconst 0, 1) := by decide +kernel
theorem d_Model_numberAll_6 : decode b_Model_numberAll 6 = .ok (.istore_n 1, 1) := by decide +kernel
theorem d_Model_numberAll_7 : decode b_Model_numberAll 7 = .ok (.iload_n 1, 1) := by decide +kernel
theorem d_Model_numberAll_8 : decode b_Model_numberAll 8 = .ok (.bipush 12, 2) := by decide +kernel
theorem d_Model_numberAll_10 : decode b_Model_numberAll 10 = .ok (.if_icmp .ge 115, 3) := by decide +kernel
theorem d_Model_numberAll_13 : decode b_Model_numberAll 13 = .ok (.aload_n 0, 1) := by decide +kernel
theorem d_Model_numberAll_14 : decode b_Model_numberAll 14 = .ok (.getfield 68, 3) := by decide +kernel
theorem d_Model_numberAll_17 : decode b_Model_numberAll 17 = .ok (.iload_n 1, 1) := by decide +kernel
theorem d_Model_numberAll_18 : decode b_Model_numberAll 18 = .ok (.iconst 0, 1) := by decide +kernel
theorem d_Model_numberAll_19 : decode b_Model_numberAll 19 = .ok (.iastore, 1) := by decide +kernel
theorem d_Model_numberAll_20 : decode b_Model_numberAll 20 = .ok (.aload_n 0, 1) := by decide +kernel
theorem d_Model_numberAll_21 : decode b_Model_numberAll 21 = .ok (.getfield 74, 3) := by decide +kernel
theorem d_Model_numberAll_24 : decode b_Model_numberAll 24 = .ok (.iload_n 1, 1) := by decide +kernel
theorem d_Model_numberAll_25 : decode b_Model_numberAll 25 = .ok (.iconst 0, 1) := by decide +kernel
theorem d_Model_numberAll_26 : decode b_Model_numberAll 26 = .ok (.iastore, 1) := by decide +kernel
theorem d_Model_numberAll_27 : decode b_Model_numberAll 27 = .ok (.iconst 0, 1) := by decide +kernel
theorem d_Model_numberAll_28 : decode b_Model_numberAll 28 = .ok (.istore_n 2, 1) := by decide +kernel
theorem d_Model_numberAll_29 : decode b_Model_numberAll 29 = .ok (.iload_n 2, 1) := by decide +kernel
theorem d_Model_numberAll_30 : decode b_Model_numberAll 30 = .ok (.aload_n 0, 1) := by decide +kernel
theorem d_Model_numberAll_31 : decode b_Model_numberAll 31 = .ok (.getfield 141, 3) := by decide +kernel
theorem d_Model_numberAll_34 : decode b_Model_numberAll 34 = .ok (.if_icmp .ge 41, 3) := by decide +kernel
theorem d_Model_numberAll_37 : decode b_Model_numberAll 37 = .ok (.aload_n 0, 1) := by decide +kernel
theorem d_Model_numberAll_38 : decode b_Model_numberAll 38 = .ok (.getfield 62, 3) := by decide +kernel
theorem d_Model_numberAll_41 : decode b_Model_numberAll 41 = .ok (.iload_n 2, 1) := by decide +kernel
theorem d_Model_numberAll_42 : decode b_Model_numberAll 42 = .ok (.iaload, 1) := by decide +kernel
theorem d_Model_numberAll_43 : decode b_Model_numberAll 43 = .ok (.iload_n 1, 1) := by decide +kernel
theorem d_Model_numberAll_44 : decode b_Model_numberAll 44 = .ok (.if_icmp .ne 25, 3) := by decide +kernel
theorem d_Model_numberAll_47 : decode b_Model_numberAll 47 = .ok (.aload_n 0, 1) := by decide +kernel
theorem d_Model_numberAll_48 : decode b_Model_numberAll 48 = .ok (.getfield 68, 3) := by decide +kernel
theorem d_Model_numberAll_51 : decode b_Model_numberAll 51 = .ok (.iload_n 1, 1) := by decide +kernel
theorem d_Model_numberAll_52 : decode b_Model_numberAll 52 = .ok (.dup2, 1) := by decide +kernel
theorem d_Model_numberAll_53 : decode b_Model_numberAll 53 = .ok (.iaload, 1) := by decide +kernel
theorem d_Model_numberAll_54 : decode b_Model_numberAll 54 = .ok (.iconst 1, 1) := by decide +kernel
theorem d_Model_numberAll_55 : decode b_Model_numberAll 55 = .ok (.iadd, 1) := by decide +kernel
theorem d_Model_numberAll_56 : decode b_Model_numberAll 56 = .ok (.iastore, 1) := by decide +kernel
theorem d_Model_numberAll_57 : decode b_Model_numberAll 57 = .ok (.aload_n 0, 1) := by decide +kernel
theorem d_Model_numberAll_58 : decode b_Model_numberAll 58 = .ok (.getfield 80, 3) := by decide +kernel
theorem d_Model_numberAll_61 : decode b_Model_numberAll 61 = .ok (.iload_n 1, 1) := by decide +kernel
theorem d_Model_numberAll_62 : decode b_Model_numberAll 62 = .ok (.aload_n 0, 1) := by decide +kernel
theorem d_Model_numberAll_63 : decode b_Model_numberAll 63 = .ok (.getfield 65, 3) := by decide +kernel
theorem d_Model_numberAll_66 : decode b_Model_numberAll 66 = .ok (.iload_n 2, 1) := by decide +kernel
theorem d_Model_numberAll_67 : decode b_Model_numberAll 67 = .ok (.iaload, 1) := by decide +kernel
theorem d_Model_numberAll_68 : decode b_Model_numberAll 68 = .ok (.iastore, 1) := by decide +kernel
theorem d_Model_numberAll_69 : decode b_Model_numberAll 69 = .ok (.iinc 2 1, 3) := by decide +kernel
theorem d_Model_numberAll_72 : decode b_Model_numberAll 72 = .ok (.goto (-43), 3) := by decide +kernel
theorem d_Model_numberAll_75 : decode b_Model_numberAll 75 = .ok (.aload_n 0, 1) := by decide +kernel
theorem d_Model_numberAll_76 : decode b_Model_numberAll 76 = .ok (.getfield 68, 3) := by decide +kernel
theorem d_Model_numberAll_79 : decode b_Model_numberAll 79 = .ok (.iload_n 1, 1) := by decide +kernel
theorem d_Model_numberAll_80 : decode b_Model_numberAll 80 = .ok (.iaload, 1) := by decide +kernel
theorem d_Model_numberAll_81 : decode b_Model_numberAll 81 = .ok (.ifCond .le 38, 3) := by decide +kernel
theorem d_Model_numberAll_84 : decode b_Model_numberAll 84 = .ok (.aload_n 0, 1) := by decide +kernel
theorem d_Model_numberAll_85 : decode b_Model_numberAll 85 = .ok (.iload_n 1, 1) := by decide +kernel
theorem d_Model_numberAll_86 : decode b_Model_numberAll 86 = .ok (.invokevirtual 144, 3) := by decide +kernel
theorem d_Model_numberAll_89 : decode b_Model_numberAll 89 = .ok (.ifCond .eq 30, 3) := by decide +kernel
theorem d_Model_numberAll_92 : decode b_Model_numberAll 92 = .ok (.aload_n 0, 1) := by decide +kernel
theorem d_Model_numberAll_93 : decode b_Model_numberAll 93 = .ok (.getfield 74, 3) := by decide +kernel
theorem d_Model_numberAll_96 : decode b_Model_numberAll 96 = .ok (.iload_n 1, 1) := by decide +kernel
theorem d_Model_numberAll_97 : decode b_Model_numberAll 97 = .ok (.aload_n 0, 1) := by decide +kernel
theorem d_Model_numberAll_98 : decode b_Model_numberAll 98 = .ok (.getfield 138, 3) := by decide +kernel
theorem d_Model_numberAll_101 : decode b_Model_numberAll 101 = .ok (.iastore, 1) := by decide +kernel
theorem d_Model_numberAll_102 : decode b_Model_numberAll 102 = .ok (.aload_n 0, 1) := by decide +kernel
theorem d_Model_numberAll_103 : decode b_Model_numberAll 103 = .ok (.dup, 1) := by decide +kernel
theorem d_Model_numberAll_104 : decode b_Model_numberAll 104 = .ok (.getfield 138, 3) := by decide +kernel
theorem d_Model_numberAll_107 : decode b_Model_numberAll 107 = .ok (.aload_n 0, 1) := by decide +kernel
theorem d_Model_numberAll_108 : decode b_Model_numberAll 108 = .ok (.getfield 68, 3) := by decide +kernel
theorem d_Model_numberAll_111 : decode b_Model_numberAll 111 = .ok (.iload_n 1, 1) := by decide +kernel
theorem d_Model_numberAll_112 : decode b_Model_numberAll 112 = .ok (.iaload, 1) := by decide +kernel
theorem d_Model_numberAll_113 : decode b_Model_numberAll 113 = .ok (.iconst 1, 1) := by decide +kernel
theorem d_Model_numberAll_114 : decode b_Model_numberAll 114 = .ok (.iadd, 1) := by decide +kernel
theorem d_Model_numberAll_115 : decode b_Model_numberAll 115 = .ok (.imul, 1) := by decide +kernel
theorem d_Model_numberAll_116 : decode b_Model_numberAll 116 = .ok (.putfield 138, 3) := by decide +kernel
theorem d_Model_numberAll_119 : decode b_Model_numberAll 119 = .ok (.iinc 1 1, 3) := by decide +kernel
theorem d_Model_numberAll_122 : decode b_Model_numberAll 122 = .ok (.goto (-115), 3) := by decide +kernel
theorem d_Model_numberAll_125 : decode b_Model_numberAll 125 = .ok (.iconst 0, 1) := by decide +kernel
theorem d_Model_numberAll_126 : decode b_Model_numberAll 126 = .ok (.istore_n 1, 1) := by decide +kernel
theorem d_Model_numberAll_127 : decode b_Model_numberAll 127 = .ok (.iload_n 1, 1) := by decide +kernel
theorem d_Model_numberAll_128 : decode b_Model_numberAll 128 = .ok (.bipush 6, 2) := by decide +kernel
theorem d_Model_numberAll_130 : decode b_Model_numberAll 130 = .ok (.if_icmp .ge 78, 3) := by decide +kernel
theorem d_Model_numberAll_133 : decode b_Model_numberAll 133 = .ok (.bipush 6, 2) := by decide +kernel
theorem d_Model_numberAll_135 : decode b_Model_numberAll 135 = .ok (.aload_n 0, 1) := by decide +kernel
theorem d_Model_numberAll_136 : decode b_Model_numberAll 136 = .ok (.getfield 122, 3) := by decide +kernel
theorem d_Model_numberAll_139 : decode b_Model_numberAll 139 = .ok (.imul, 1) := by decide +kernel
theorem d_Model_numberAll_140 : decode b_Model_numberAll 140 = .ok (.iload_n 1, 1) := by decide +kernel
theorem d_Model_numberAll_141 : decode b_Model_numberAll 141 = .ok (.iadd, 1) := by decide +kernel
theorem d_Model_numberAll_142 : decode b_Model_numberAll 142 = .ok (.istore_n 2, 1) := by decide +kernel
theorem d_Model_numberAll_143 : decode b_Model_numberAll 143 = .ok (.aload_n 0, 1) := by decide +kernel
theorem d_Model_numberAll_144 : decode b_Model_numberAll 144 = .ok (.getfield 77, 3) := by decide +kernel
theorem d_Model_numberAll_147 : decode b_Model_numberAll 147 = .ok (.iload_n 1, 1) := by decide +kernel
theorem d_Model_numberAll_148 : decode b_Model_numberAll 148 = .ok (.iconst 0, 1) := by decide +kernel
theorem d_Model_numberAll_149 : decode b_Model_numberAll 149 = .ok (.iastore, 1) := by decide +kernel
theorem d_Model_numberAll_150 : decode b_Model_numberAll 150 = .ok (.aload_n 0, 1) := by decide +kernel
theorem d_Model_numberAll_151 : decode b_Model_numberAll 151 = .ok (.getfield 141, 3) := by decide +kernel
theorem d_Model_numberAll_154 : decode b_Model_numberAll 154 = .ok (.ifCond .le 48, 3) := by decide +kernel
theorem d_Model_numberAll_157 : decode b_Model_numberAll 157 = .ok (.aload_n 0, 1) := by decide +kernel
theorem d_Model_numberAll_158 : decode b_Model_numberAll 158 = .ok (.getfield 28, 3) := by decide +kernel
theorem d_Model_numberAll_161 : decode b_Model_numberAll 161 = .ok (.iload_n 2, 1) := by decide +kernel
theorem d_Model_numberAll_162 : decode b_Model_numberAll 162 = .ok (.baload, 1) := by decide +kernel
theorem d_Model_numberAll_163 : decode b_Model_numberAll 163 = .ok (.ifCond .eq 39, 3) := by decide +kernel
theorem d_Model_numberAll_166 : decode b_Model_numberAll 166 = .ok (.aload_n 0, 1) := by decide +kernel
theorem d_Model_numberAll_167 : decode b_Model_numberAll 167 = .ok (.getfield 25, 3) := by decide +kernel
theorem d_Model_numberAll_170 : decode b_Model_numberAll 170 = .ok (.iload_n 2, 1) := by decide +kernel
theorem d_Model_numberAll_171 : decode b_Model_numberAll 171 = .ok (.iaload, 1) := by decide +kernel
theorem d_Model_numberAll_172 : decode b_Model_numberAll 172 = .ok (.ifCond .le 30, 3) := by decide +kernel
theorem d_Model_numberAll_175 : decode b_Model_numberAll 175 = .ok (.aload_n 0, 1) := by decide +kernel
theorem d_Model_numberAll_176 : decode b_Model_numberAll 176 = .ok (.getfield 77, 3) := by decide +kernel
theorem d_Model_numberAll_179 : decode b_Model_numberAll 179 = .ok (.iload_n 1, 1) := by decide +kernel
theorem d_Model_numberAll_180 : decode b_Model_numberAll 180 = .ok (.aload_n 0, 1) := by decide +kernel
theorem d_Model_numberAll_181 : decode b_Model_numberAll 181 = .ok (.getfield 138, 3) := by decide +kernel
theorem d_Model_numberAll_184 : decode b_Model_numberAll 184 = .ok (.iastore, 1) := by decide +kernel
theorem d_Model_numberAll_185 : decode b_Model_numberAll 185 = .ok (.aload_n 0, 1) := by decide +kernel
theorem d_Model_numberAll_186 : decode b_Model_numberAll 186 = .ok (.dup, 1) := by decide +kernel
theorem d_Model_numberAll_187 : decode b_Model_numberAll 187 = .ok (.getfield 138, 3) := by decide +kernel
theorem d_Model_numberAll_190 : decode b_Model_numberAll 190 = .ok (.aload_n 0, 1) := by decide +kernel
theorem d_Model_numberAll_191 : decode b_Model_numberAll 191 = .ok (.getfield 25, 3) := by decide +kernel
theorem d_Model_numberAll_194 : decode b_Model_numberAll 194 = .ok (.iload_n 2, 1) := by decide +kernel
theorem d_Model_numberAll_195 : decode b_Model_numberAll 195 = .ok (.iaload, 1) := by decide +kernel
theorem d_Model_numberAll_196 : decode b_Model_numberAll 196 = .ok (.iconst 1, 1) := by decide +kernel
theorem d_Model_numberAll_197 : decode b_Model_numberAll 197 = .ok (.iadd, 1) := by decide +kernel
theorem d_Model_numberAll_198 : decode b_Model_numberAll 198 = .ok (.imul, 1) := by decide +kernel
theorem d_Model_numberAll_199 : decode b_Model_numberAll 199 = .ok (.putfield 138, 3) := by decide +kernel
theorem d_Model_numberAll_202 : decode b_Model_numberAll 202 = .ok (.iinc 1 1, 3) := by decide +kernel
theorem d_Model_numberAll_205 : decode b_Model_numberAll 205 = .ok (.goto (-78), 3) := by decide +kernel
theorem d_Model_numberAll_208 : decode b_Model_numberAll 208 = .ok (.return_, 1) := by decide +kernel
theorem d_Model_unfold_0 : decode b_Model_unfold 0 = .ok (.iload_n 1, 1) := by decide +kernel
theorem d_Model_unfold_1 : decode b_Model_unfold 1 = .ok (.istore_n 2, 1) := by decide +kernel
theorem d_Model_unfold_2 : decode b_Model_unfold 2 = .ok (.iconst 0, 1) := by decide +kernel
theorem d_Model_unfold_3 : decode b_Model_unfold 3 = .ok (.istore_n 3, 1) := by decide +kernel
theorem d_Model_unfold_4 : decode b_Model_unfold 4 = .ok (.iload_n 3, 1) := by decide +kernel
theorem d_Model_unfold_5 : decode b_Model_unfold 5 = .ok (.bipush 12, 2) := by decide +kernel
theorem d_Model_unfold_7 : decode b_Model_unfold 7 = .ok (.if_icmp .ge 82, 3) := by decide +kernel
theorem d_Model_unfold_10 : decode b_Model_unfold 10 = .ok (.aload_n 0, 1) := by decide +kernel
theorem d_Model_unfold_11 : decode b_Model_unfold 11 = .ok (.getfield 74, 3) := by decide +kernel
theorem d_Model_unfold_14 : decode b_Model_unfold 14 = .ok (.iload_n 3, 1) := by decide +kernel
theorem d_Model_unfold_15 : decode b_Model_unfold 15 = .ok (.iaload, 1) := by decide +kernel
theorem d_Model_unfold_16 : decode b_Model_unfold 16 = .ok (.ifCond .le 60, 3) := by decide +kernel
theorem d_Model_unfold_19 : decode b_Model_unfold 19 = .ok (.iconst 0, 1) := by decide +kernel
theorem d_Model_unfold_20 : decode b_Model_unfold 20 = .ok (.istore 4, 2) := by decide +kernel
theorem d_Model_unfold_22 : decode b_Model_unfold 22 = .ok (.iconst 0, 1) := by decide +kernel
theorem d_Model_unfold_23 : decode b_Model_unfold 23 = .ok (.istore 5, 2) := by decide +kernel
theorem d_Model_unfold_25 : decode b_Model_unfold 25 = .ok (.iload 5, 2) := by decide +kernel
theorem d_Model_unfold_27 : decode b_Model_unfold 27 = .ok (.aload_n 0, 1) := by decide +kernel
theorem d_Model_unfold_28 : decode b_Model_unfold 28 = .ok (.getfield 141, 3) := by decide +kernel
theorem d_Model_unfold_31 : decode b_Model_unfold 31 = .ok (.if_icmp .ge 23, 3) := by decide +kernel
theorem d_Model_unfold_34 : decode b_Model_unfold 34 = .ok (.aload_n 0, 1) := by decide +kernel
theorem d_Model_unfold_35 : decode b_Model_unfold 35 = .ok (.getfield 62, 3) := by decide +kernel
theorem d_Model_unfold_38 : decode b_Model_unfold 38 = .ok (.iload 5, 2) := by decide +kernel
theorem d_Model_unfold_40 : decode b_Model_unfold 40 = .ok (.iaload, 1) := by decide +kernel
theorem d_Model_unfold_41 : decode b_Model_unfold 41 = .ok (.iload_n 3, 1) := by decide +kernel
theorem d_Model_unfold_42 : decode b_Model_unfold 42 = .ok (.if_icmp .ne 6, 3) := by decide +kernel
theorem d_Model_unfold_45 : decode b_Model_unfold 45 = .ok (.iinc 4 1, 3) := by decide +kernel
theorem d_Model_unfold_48 : decode b_Model_unfold 48 = .ok (.iinc 5 1, 3) := by decide +kernel
theorem d_Model_unfold_51 : decode b_Model_unfold 51 = .ok (.goto (-26), 3) := by decide +kernel
theorem d_Model_unfold_54 : decode b_Model_unfold 54 = .ok (.aload_n 0, 1) := by decide +kernel
theorem d_Model_unfold_55 : decode b_Model_unfold 55 = .ok (.getfield 68, 3) := by decide +kernel
theorem d_Model_unfold_58 : decode b_Model_unfold 58 = .ok (.iload_n 3, 1) := by decide +kernel
theorem d_Model_unfold_59 : decode b_Model_unfold 59 = .ok (.iload_n 2, 1) := by decide +kernel
theorem d_Model_unfold_60 : decode b_Model_unfold 60 = .ok (.iload 4, 2) := by decide +kernel
theorem d_Model_unfold_62 : decode b_Model_unfold 62 = .ok (.iconst 1, 1) := by decide +kernel
theorem d_Model_unfold_63 : decode b_Model_unfold 63 = .ok (.iadd, 1) := by decide +kernel
theorem d_Model_unfold_64 : decode b_Model_unfold 64 = .ok (.irem, 1) := by decide +kernel
theorem d_Model_unfold_65 : decode b_Model_unfold 65 = .ok (.iastore, 1) := by decide +kernel
theorem d_Model_unfold_66 : decode b_Model_unfold 66 = .ok (.iload_n 2, 1) := by decide +kernel
theorem d_Model_unfold_67 : decode b_Model_unfold 67 = .ok (.iload 4, 2) := by decide +kernel
theorem d_Model_unfold_69 : decode b_Model_unfold 69 = .ok (.iconst 1, 1) := by decide +kernel
theorem d_Model_unfold_70 : decode b_Model_unfold 70 = .ok (.iadd, 1) := by decide +kernel
theorem d_Model_unfold_71 : decode b_Model_unfold 71 = .ok (.idiv, 1) := by decide +kernel
theorem d_Model_unfold_72 : decode b_Model_unfold 72 = .ok (.istore_n 2, 1) := by decide +kernel
theorem d_Model_unfold_73 : decode b_Model_unfold 73 = .ok (.goto 10, 3) := by decide +kernel
theorem d_Model_unfold_76 : decode b_Model_unfold 76 = .ok (.aload_n 0, 1) := by decide +kernel
theorem d_Model_unfold_77 : decode b_Model_unfold 77 = .ok (.getfield 68, 3) := by decide +kernel
theorem d_Model_unfold_80 : decode b_Model_unfold 80 = .ok (.iload_n 3, 1) := by decide +kernel
theorem d_Model_unfold_81 : decode b_Model_unfold 81 = .ok (.iconst 0, 1) := by decide +kernel
theorem d_Model_unfold_82 : decode b_Model_unfold 82 = .ok (.iastore, 1) := by decide +kernel
theorem d_Model_unfold_83 : decode b_Model_unfold 83 = .ok (.iinc 3 1, 3) := by decide +kernel
theorem d_Model_unfold_86 : decode b_Model_unfold 86 = .ok (.goto (-82), 3) := by decide +kernel
theorem d_Model_unfold_89 : decode b_Model_unfold 89 = .ok (.iconst 0, 1) := by decide +kernel
theorem d_Model_unfold_90 : decode b_Model_unfold 90 = .ok (.istore_n 3, 1) := by decide +kernel
theorem d_Model_unfold_91 : decode b_Model_unfold 91 = .ok (.iload_n 3, 1) := by decide +kernel
theorem d_Model_unfold_92 : decode b_Model_unfold 92 = .ok (.bipush 6, 2) := by decide +kernel
theorem d_Model_unfold_94 : decode b_Model_unfold 94 = .ok (.if_icmp .ge 68, 3) := by decide +kernel
theorem d_Model_unfold_97 : decode b_Model_unfold 97 = .ok (.aload_n 0, 1) := by decide +kernel
theorem d_Model_unfold_98 : decode b_Model_unfold 98 = .ok (.getfield 71, 3) := by decide +kernel
theorem d_Model_unfold_101 : decode b_Model_unfold 101 = .ok (.iload_n 3, 1) := by decide +kernel
theorem d_Model_unfold_102 : decode b_Model_unfold 102 = .ok (.iconst 0, 1) := by decide +kernel
theorem d_Model_unfold_103 : decode b_Model_unfold 103 = .ok (.iastore, 1) := by decide +kernel
theorem d_Model_unfold_104 : decode b_Model_unfold 104 = .ok (.aload_n 0, 1) := by decide +kernel
theorem d_Model_unfold_105 : decode b_Model_unfold 105 = .ok (.getfield 77, 3) := by decide +kernel
theorem d_Model_unfold_108 : decode b_Model_unfold 108 = .ok (.iload_n 3, 1) := by decide +kernel
theorem d_Model_unfold_109 : decode b_Model_unfold 109 = .ok (.iaload, 1) := by decide +kernel
theorem d_Model_unfold_110 : decode b_Model_unfold 110 = .ok (.ifCond .le 46, 3) := by decide +kernel
theorem d_Model_unfold_113 : decode b_Model_unfold 113 = .ok (.aload_n 0, 1) := by decide +kernel
theorem d_Model_unfold_114 : decode b_Model_unfold 114 = .ok (.getfield 71, 3) := by decide +kernel
theorem d_Model_unfold_117 : decode b_Model_unfold 117 = .ok (.iload_n 3, 1) := by decide +kernel
theorem d_Model_unfold_118 : decode b_Model_unfold 118 = .ok (.iload_n 2, 1) := by decide +kernel
theorem d_Model_unfold_119 : decode b_Model_unfold 119 = .ok (.aload_n 0, 1) := by decide +kernel
theorem d_Model_unfold_120 : decode b_Model_unfold 120 = .ok (.getfield 25, 3) := by decide +kernel
theorem d_Model_unfold_123 : decode b_Model_unfold 123 = .ok (.bipush 6, 2) := by decide +kernel
theorem d_Model_unfold_125 : decode b_Model_unfold 125 = .ok (.aload_n 0, 1) := by decide +kernel
theorem d_Model_unfold_126 : decode b_Model_unfold 126 = .ok (.getfield 122, 3) := by decide +kernel
theorem d_Model_unfold_129 : decode b_Model_unfold 129 = .ok (.imul, 1) := by decide +kernel
theorem d_Model_unfold_130 : decode b_Model_unfold 130 = .ok (.iload_n 3, 1) := by decide +kernel
theorem d_Model_unfold_131 : decode b_Model_unfold 131 = .ok (.iadd, 1) := by decide +kernel
theorem d_Model_unfold_132 : decode b_Model_unfold 132 = .ok (.iaload, 1) := by decide +kernel
theorem d_Model_unfold_133 : decode b_Model_unfold 133 = .ok (.iconst 1, 1) := by decide +kernel
theorem d_Model_unfold_134 : decode b_Model_unfold 134 = .ok (.iadd, 1) := by decide +kernel
theorem d_Model_unfold_135 : decode b_Model_unfold 135 = .ok (.irem, 1) := by decide +kernel
theorem d_Model_unfold_136 : decode b_Model_unfold 136 = .ok (.iastore, 1) := by decide +kernel
theorem d_Model_unfold_137 : decode b_Model_unfold 137 = .ok (.iload_n 2, 1) := by decide +kernel
theorem d_Model_unfold_138 : decode b_Model_unfold 138 = .ok (.aload_n 0, 1) := by decide +kernel
theorem d_Model_unfold_139 : decode b_Model_unfold 139 = .ok (.getfield 25, 3) := by decide +kernel
theorem d_Model_unfold_142 : decode b_Model_unfold 142 = .ok (.bipush 6, 2) := by decide +kernel
theorem d_Model_unfold_144 : decode b_Model_unfold 144 = .ok (.aload_n 0, 1) := by decide +kernel
theorem d_Model_unfold_145 : decode b_Model_unfold 145 = .ok (.getfield 122, 3) := by decide +kernel
theorem d_Model_unfold_148 : decode b_Model_unfold 148 = .ok (.imul, 1) := by decide +kernel
theorem d_Model_unfold_149 : decode b_Model_unfold 149 = .ok (.iload_n 3, 1) := by decide +kernel
theorem d_Model_unfold_150 : decode b_Model_unfold 150 = .ok (.iadd, 1) := by decide +kernel
theorem d_Model_unfold_151 : decode b_Model_unfold 151 = .ok (.iaload, 1) := by decide +kernel
theorem d_Model_unfold_152 : decode b_Model_unfold 152 = .ok (.iconst 1, 1) := by decide +kernel
theorem d_Model_unfold_153 : decode b_Model_unfold 153 = .ok (.iadd, 1) := by decide +kernel
theorem d_Model_unfold_154 : decode b_Model_unfold 154 = .ok (.idiv, 1) := by decide +kernel
theorem d_Model_unfold_155 : decode b_Model_unfold 155 = .ok (.istore_n 2, 1) := by decide +kernel
theorem d_Model_unfold_156 : decode b_Model_unfold 156 = .ok (.iinc 3 1, 3) := by decide +kernel
theorem d_Model_unfold_159 : decode b_Model_unfold 159 = .ok (.goto (-68), 3) := by decide +kernel
theorem d_Model_unfold_162 : decode b_Model_unfold 162 = .ok (.return_, 1) := by decide +kernel
theorem d_Model_reckonAll_0 : decode b_Model_reckonAll 0 = .ok (.aload_n 0, 1) := by decide +kernel
theorem d_Model_reckonAll_1 : decode b_Model_reckonAll 1 = .ok (.invokevirtual 148, 3) := by decide +kernel
theorem d_Model_reckonAll_4 : decode b_Model_reckonAll 4 = .ok (.iconst 0, 1) := by decide +kernel
theorem d_Model_reckonAll_5 : decode b_Model_reckonAll 5 = .ok (.istore_n 1, 1) := by decide +kernel
theorem d_Model_reckonAll_6 : decode b_Model_reckonAll 6 = .ok (.iload_n 1, 1) := by decide +kernel
theorem d_Model_reckonAll_7 : decode b_Model_reckonAll 7 = .ok (.aload_n 0, 1) := by decide +kernel
theorem d_Model_reckonAll_8 : decode b_Model_reckonAll 8 = .ok (.getfield 138, 3) := by decide +kernel
theorem d_Model_reckonAll_11 : decode b_Model_reckonAll 11 = .ok (.if_icmp .ge 131, 3) := by decide +kernel
theorem d_Model_reckonAll_14 : decode b_Model_reckonAll 14 = .ok (.aload_n 0, 1) := by decide +kernel
theorem d_Model_reckonAll_15 : decode b_Model_reckonAll 15 = .ok (.iload_n 1, 1) := by decide +kernel
theorem d_Model_reckonAll_16 : decode b_Model_reckonAll 16 = .ok (.invokevirtual 151, 3) := by decide +kernel
theorem d_Model_reckonAll_19 : decode b_Model_reckonAll 19 = .ok (.iconst 0, 1) := by decide +kernel
theorem d_Model_reckonAll_20 : decode b_Model_reckonAll 20 = .ok (.istore_n 2, 1) := by decide +kernel
theorem d_Model_reckonAll_21 : decode b_Model_reckonAll 21 = .ok (.iconst 0, 1) := by decide +kernel
theorem d_Model_reckonAll_22 : decode b_Model_reckonAll 22 = .ok (.istore_n 3, 1) := by decide +kernel
theorem d_Model_reckonAll_23 : decode b_Model_reckonAll 23 = .ok (.iload_n 3, 1) := by decide +kernel
theorem d_Model_reckonAll_24 : decode b_Model_reckonAll 24 = .ok (.bipush 12, 2) := by decide +kernel
theorem d_Model_reckonAll_26 : decode b_Model_reckonAll 26 = .ok (.if_icmp .ge 25, 3) := by decide +kernel
theorem d_Model_reckonAll_29 : decode b_Model_reckonAll 29 = .ok (.iload_n 2, 1) := by decide +kernel
theorem d_Model_reckonAll_30 : decode b_Model_reckonAll 30 = .ok (.aload_n 0, 1) := by decide +kernel
theorem d_Model_reckonAll_31 : decode b_Model_reckonAll 31 = .ok (.getfield 68, 3) := by decide +kernel
theorem d_Model_reckonAll_34 : decode b_Model_reckonAll 34 = .ok (.iload_n 3, 1) := by decide +kernel
theorem d_Model_reckonAll_35 : decode b_Model_reckonAll 35 = .ok (.iaload, 1) := by decide +kernel
theorem d_Model_reckonAll_36 : decode b_Model_reckonAll 36 = .ok (.aload_n 0, 1) := by decide +kernel
theorem d_Model_reckonAll_37 : decode b_Model_reckonAll 37 = .ok (.getfield 80, 3) := by decide +kernel
theorem d_Model_reckonAll_40 : decode b_Model_reckonAll 40 = .ok (.iload_n 3, 1) := by decide +kernel
theorem d_Model_reckonAll_41 : decode b_Model_reckonAll 41 = .ok (.iaload, 1) := by decide +kernel
theorem d_Model_reckonAll_42 : decode b_Model_reckonAll 42 = .ok (.imul, 1) := by decide +kernel
theorem d_Model_reckonAll_43 : decode b_Model_reckonAll 43 = .ok (.iadd, 1) := by decide +kernel
theorem d_Model_reckonAll_44 : decode b_Model_reckonAll 44 = .ok (.istore_n 2, 1) := by decide +kernel
theorem d_Model_reckonAll_45 : decode b_Model_reckonAll 45 = .ok (.iinc 3 1, 3) := by decide +kernel
theorem d_Model_reckonAll_48 : decode b_Model_reckonAll 48 = .ok (.goto (-25), 3) := by decide +kernel
theorem d_Model_reckonAll_51 : decode b_Model_reckonAll 51 = .ok (.iconst 0, 1) := by decide +kernel
theorem d_Model_reckonAll_52 : decode b_Model_reckonAll 52 = .ok (.istore_n 3, 1) := by decide +kernel
theorem d_Model_reckonAll_53 : decode b_Model_reckonAll 53 = .ok (.iload_n 3, 1) := by decide +kernel
theorem d_Model_reckonAll_54 : decode b_Model_reckonAll 54 = .ok (.bipush 6, 2) := by decide +kernel
theorem d_Model_reckonAll_56 : decode b_Model_reckonAll 56 = .ok (.if_icmp .ge 73, 3) := by decide +kernel
theorem d_Model_reckonAll_59 : decode b_Model_reckonAll 59 = .ok (.aload_n 0, 1) := by decide +kernel
theorem d_Model_reckonAll_60 : decode b_Model_reckonAll 60 = .ok (.bipush 6, 2) := by decide +kernel
theorem d_Model_reckonAll_62 : decode b_Model_reckonAll 62 = .ok (.aload_n 0, 1) := by decide +kernel
theorem d_Model_reckonAll_63 : decode b_Model_reckonAll 63 = .ok (.getfield 122, 3) := by decide +kernel
theorem d_Model_reckonAll_66 : decode b_Model_reckonAll 66 = .ok (.imul, 1) := by decide +kernel
theorem d_Model_reckonAll_67 : decode b_Model_reckonAll 67 = .ok (.iload_n 3, 1) := by decide +kernel
theorem d_Model_reckonAll_68 : decode b_Model_reckonAll 68 = .ok (.iadd, 1) := by decide +kernel
theorem d_Model_reckonAll_69 : decode b_Model_reckonAll 69 = .ok (.invokevirtual 155, 3) := by decide +kernel
theorem d_Model_reckonAll_72 : decode b_Model_reckonAll 72 = .ok (.aload_n 0, 1) := by decide +kernel
theorem d_Model_reckonAll_73 : decode b_Model_reckonAll 73 = .ok (.iload_n 3, 1) := by decide +kernel
theorem d_Model_reckonAll_74 : decode b_Model_reckonAll 74 = .ok (.invokevirtual 158, 3) := by decide +kernel
theorem d_Model_reckonAll_77 : decode b_Model_reckonAll 77 = .ok (.ifCond .eq 46, 3) := by decide +kernel
theorem d_Model_reckonAll_80 : decode b_Model_reckonAll 80 = .ok (.aload_n 0, 1) := by decide +kernel
theorem d_Model_reckonAll_81 : decode b_Model_reckonAll 81 = .ok (.iload_n 1, 1) := by decide +kernel
theorem d_Model_reckonAll_82 : decode b_Model_reckonAll 82 = .ok (.iload_n 3, 1) := by decide +kernel
theorem d_Model_reckonAll_83 : decode b_Model_reckonAll 83 = .ok (.invokevirtual 161, 3) := by decide +kernel
theorem d_Model_reckonAll_86 : decode b_Model_reckonAll 86 = .ok (.istore 4, 2) := by decide +kernel
theorem d_Model_reckonAll_88 : decode b_Model_reckonAll 88 = .ok (.aload_n 0, 1) := by decide +kernel
theorem d_Model_reckonAll_89 : decode b_Model_reckonAll 89 = .ok (.bipush 6, 2) := by decide +kernel
theorem d_Model_reckonAll_91 : decode b_Model_reckonAll 91 = .ok (.aload_n 0, 1) := by decide +kernel
theorem d_Model_reckonAll_92 : decode b_Model_reckonAll 92 = .ok (.getfield 122, 3) := by decide +kernel
theorem d_Model_reckonAll_95 : decode b_Model_reckonAll 95 = .ok (.imul, 1) := by decide +kernel
theorem d_Model_reckonAll_96 : decode b_Model_reckonAll 96 = .ok (.iload_n 3, 1) := by decide +kernel
theorem d_Model_reckonAll_97 : decode b_Model_reckonAll 97 = .ok (.iadd, 1) := by decide +kernel
theorem d_Model_reckonAll_98 : decode b_Model_reckonAll 98 = .ok (.invokevirtual 164, 3) := by decide +kernel
theorem d_Model_reckonAll_101 : decode b_Model_reckonAll 101 = .ok (.aload_n 0, 1) := by decide +kernel
theorem d_Model_reckonAll_102 : decode b_Model_reckonAll 102 = .ok (.iload 4, 2) := by decide +kernel
theorem d_Model_reckonAll_104 : decode b_Model_reckonAll 104 = .ok (.iload_n 1, 1) := by decide +kernel
theorem d_Model_reckonAll_105 : decode b_Model_reckonAll 105 = .ok (.invokevirtual 167, 3) := by decide +kernel
theorem d_Model_reckonAll_108 : decode b_Model_reckonAll 108 = .ok (.iadd, 1) := by decide +kernel
theorem d_Model_reckonAll_109 : decode b_Model_reckonAll 109 = .ok (.istore 5, 2) := by decide +kernel
theorem d_Model_reckonAll_111 : decode b_Model_reckonAll 111 = .ok (.iload 5, 2) := by decide +kernel
theorem d_Model_reckonAll_113 : decode b_Model_reckonAll 113 = .ok (.iload_n 2, 1) := by decide +kernel
theorem d_Model_reckonAll_114 : decode b_Model_reckonAll 114 = .ok (.if_icmp .ge 6, 3) := by decide +kernel
theorem d_Model_reckonAll_117 : decode b_Model_reckonAll 117 = .ok (.iload 5, 2) := by decide +kernel
theorem d_Model_reckonAll_119 : decode b_Model_reckonAll 119 = .ok (.istore_n 2, 1) := by decide +kernel
theorem d_Model_reckonAll_120 : decode b_Model_reckonAll 120 = .ok (.goto (-48), 3) := by decide +kernel
theorem d_Model_reckonAll_123 : decode b_Model_reckonAll 123 = .ok (.iinc 3 1, 3) := by decide +kernel
theorem d_Model_reckonAll_126 : decode b_Model_reckonAll 126 = .ok (.goto (-73), 3) := by decide +kernel
theorem d_Model_reckonAll_129 : decode b_Model_reckonAll 129 = .ok (.aload_n 0, 1) := by decide +kernel
theorem d_Model_reckonAll_130 : decode b_Model_reckonAll 130 = .ok (.getfield 83, 3) := by decide +kernel
theorem d_Model_reckonAll_133 : decode b_Model_reckonAll 133 = .ok (.iload_n 1, 1) := by decide +kernel
theorem d_Model_reckonAll_134 : decode b_Model_reckonAll 134 = .ok (.iload_n 2, 1) := by decide +kernel
theorem d_Model_reckonAll_135 : decode b_Model_reckonAll 135 = .ok (.iastore, 1) := by decide +kernel
theorem d_Model_reckonAll_136 : decode b_Model_reckonAll 136 = .ok (.iinc 1 1, 3) := by decide +kernel
theorem d_Model_reckonAll_139 : decode b_Model_reckonAll 139 = .ok (.goto (-133), 3) := by decide +kernel
theorem d_Model_reckonAll_142 : decode b_Model_reckonAll 142 = .ok (.return_, 1) := by decide +kernel
theorem d_Model_alone_0 : decode b_Model_alone 0 = .ok (.iload_n 1, 1) := by decide +kernel
theorem d_Model_alone_1 : decode b_Model_alone 1 = .ok (.iload_n 2, 1) := by decide +kernel
theorem d_Model_alone_2 : decode b_Model_alone 2 = .ok (.if_icmp .ge 12, 3) := by decide +kernel
theorem d_Model_alone_5 : decode b_Model_alone 5 = .ok (.aload_n 0, 1) := by decide +kernel
theorem d_Model_alone_6 : decode b_Model_alone 6 = .ok (.getfield 83, 3) := by decide +kernel
theorem d_Model_alone_9 : decode b_Model_alone 9 = .ok (.iload_n 1, 1) := by decide +kernel
theorem d_Model_alone_10 : decode b_Model_alone 10 = .ok (.iaload, 1) := by decide +kernel
theorem d_Model_alone_11 : decode b_Model_alone 11 = .ok (.goto 4, 3) := by decide +kernel
theorem d_Model_alone_14 : decode b_Model_alone 14 = .ok (.iconst 0, 1) := by decide +kernel
theorem d_Model_alone_15 : decode b_Model_alone 15 = .ok (.ireturn, 1) := by decide +kernel
theorem d_Model_others_0 : decode b_Model_others 0 = .ok (.iconst 0, 1) := by decide +kernel
theorem d_Model_others_1 : decode b_Model_others 1 = .ok (.istore_n 1, 1) := by decide +kernel
theorem d_Model_others_2 : decode b_Model_others 2 = .ok (.iconst 0, 1) := by decide +kernel
theorem d_Model_others_3 : decode b_Model_others 3 = .ok (.istore_n 2, 1) := by decide +kernel
theorem d_Model_others_4 : decode b_Model_others 4 = .ok (.iload_n 2, 1) := by decide +kernel
theorem d_Model_others_5 : decode b_Model_others 5 = .ok (.aload_n 0, 1) := by decide +kernel
theorem d_Model_others_6 : decode b_Model_others 6 = .ok (.getfield 141, 3) := by decide +kernel
theorem d_Model_others_9 : decode b_Model_others 9 = .ok (.if_icmp .ge 32, 3) := by decide +kernel
theorem d_Model_others_12 : decode b_Model_others 12 = .ok (.aload_n 0, 1) := by decide +kernel
theorem d_Model_others_13 : decode b_Model_others 13 = .ok (.getfield 74, 3) := by decide +kernel
theorem d_Model_others_16 : decode b_Model_others 16 = .ok (.aload_n 0, 1) := by decide +kernel
theorem d_Model_others_17 : decode b_Model_others 17 = .ok (.getfield 62, 3) := by decide +kernel
theorem d_Model_others_20 : decode b_Model_others 20 = .ok (.iload_n 2, 1) := by decide +kernel
theorem d_Model_others_21 : decode b_Model_others 21 = .ok (.iaload, 1) := by decide +kernel
theorem d_Model_others_22 : decode b_Model_others 22 = .ok (.iaload, 1) := by decide +kernel
theorem d_Model_others_23 : decode b_Model_others 23 = .ok (.ifCond .ne 12, 3) := by decide +kernel
theorem d_Model_others_26 : decode b_Model_others 26 = .ok (.iload_n 1, 1) := by decide +kernel
theorem d_Model_others_27 : decode b_Model_others 27 = .ok (.aload_n 0, 1) := by decide +kernel
theorem d_Model_others_28 : decode b_Model_others 28 = .ok (.getfield 65, 3) := by decide +kernel
theorem d_Model_others_31 : decode b_Model_others 31 = .ok (.iload_n 2, 1) := by decide +kernel
theorem d_Model_others_32 : decode b_Model_others 32 = .ok (.iaload, 1) := by decide +kernel
theorem d_Model_others_33 : decode b_Model_others 33 = .ok (.iadd, 1) := by decide +kernel
theorem d_Model_others_34 : decode b_Model_others 34 = .ok (.istore_n 1, 1) := by decide +kernel
theorem d_Model_others_35 : decode b_Model_others 35 = .ok (.iinc 2 1, 3) := by decide +kernel
theorem d_Model_others_38 : decode b_Model_others 38 = .ok (.goto (-34), 3) := by decide +kernel
theorem d_Model_others_41 : decode b_Model_others 41 = .ok (.iload_n 1, 1) := by decide +kernel
theorem d_Model_others_42 : decode b_Model_others 42 = .ok (.ireturn, 1) := by decide +kernel
theorem d_Model_takeBasket_0 : decode b_Model_takeBasket 0 = .ok (.aload_n 0, 1) := by decide +kernel
theorem d_Model_takeBasket_1 : decode b_Model_takeBasket 1 = .ok (.bipush 12, 2) := by decide +kernel
theorem d_Model_takeBasket_3 : decode b_Model_takeBasket 3 = .ok (.putfield 122, 3) := by decide +kernel
theorem d_Model_takeBasket_6 : decode b_Model_takeBasket 6 = .ok (.aload_n 0, 1) := by decide +kernel
theorem d_Model_takeBasket_7 : decode b_Model_takeBasket 7 = .ok (.aload_n 0, 1) := by decide +kernel
theorem d_Model_takeBasket_8 : decode b_Model_takeBasket 8 = .ok (.getfield 110, 3) := by decide +kernel
theorem d_Model_takeBasket_11 : decode b_Model_takeBasket 11 = .ok (.putfield 141, 3) := by decide +kernel
theorem d_Model_takeBasket_14 : decode b_Model_takeBasket 14 = .ok (.iconst 0, 1) := by decide +kernel
theorem d_Model_takeBasket_15 : decode b_Model_takeBasket 15 = .ok (.istore_n 1, 1) := by decide +kernel
theorem d_Model_takeBasket_16 : decode b_Model_takeBasket 16 = .ok (.iload_n 1, 1) := by decide +kernel
theorem d_Model_takeBasket_17 : decode b_Model_takeBasket 17 = .ok (.aload_n 0, 1) := by decide +kernel
theorem d_Model_takeBasket_18 : decode b_Model_takeBasket 18 = .ok (.getfield 110, 3) := by decide +kernel
theorem d_Model_takeBasket_21 : decode b_Model_takeBasket 21 = .ok (.if_icmp .ge 38, 3) := by decide +kernel
theorem d_Model_takeBasket_24 : decode b_Model_takeBasket 24 = .ok (.aload_n 0, 1) := by decide +kernel
theorem d_Model_takeBasket_25 : decode b_Model_takeBasket 25 = .ok (.getfield 62, 3) := by decide +kernel
theorem d_Model_takeBasket_28 : decode b_Model_takeBasket 28 = .ok (.iload_n 1, 1) := by decide +kernel
theorem d_Model_takeBasket_29 : decode b_Model_takeBasket 29 = .ok (.aload_n 0, 1) := by decide +kernel
theorem d_Model_takeBasket_30 : decode b_Model_takeBasket 30 = .ok (.getfield 35, 3) := by decide +kernel
theorem d_Model_takeBasket_33 : decode b_Model_takeBasket 33 = .ok (.iload_n 1, 1) := by decide +kernel
theorem d_Model_takeBasket_34 : decode b_Model_takeBasket 34 = .ok (.iaload, 1) := by decide +kernel
theorem d_Model_takeBasket_35 : decode b_Model_takeBasket 35 = .ok (.iastore, 1) := by decide +kernel
theorem d_Model_takeBasket_36 : decode b_Model_takeBasket 36 = .ok (.aload_n 0, 1) := by decide +kernel
theorem d_Model_takeBasket_37 : decode b_Model_takeBasket 37 = .ok (.getfield 65, 3) := by decide +kernel
theorem d_Model_takeBasket_40 : decode b_Model_takeBasket 40 = .ok (.iload_n 1, 1) := by decide +kernel
theorem d_Model_takeBasket_41 : decode b_Model_takeBasket 41 = .ok (.aload_n 0, 1) := by decide +kernel
theorem d_Model_takeBasket_42 : decode b_Model_takeBasket 42 = .ok (.getfield 7, 3) := by decide +kernel
theorem d_Model_takeBasket_45 : decode b_Model_takeBasket 45 = .ok (.aload_n 0, 1) := by decide +kernel
theorem d_Model_takeBasket_46 : decode b_Model_takeBasket 46 = .ok (.getfield 35, 3) := by decide +kernel
theorem d_Model_takeBasket_49 : decode b_Model_takeBasket 49 = .ok (.iload_n 1, 1) := by decide +kernel
theorem d_Model_takeBasket_50 : decode b_Model_takeBasket 50 = .ok (.iaload, 1) := by decide +kernel
theorem d_Model_takeBasket_51 : decode b_Model_takeBasket 51 = .ok (.iaload, 1) := by decide +kernel
theorem d_Model_takeBasket_52 : decode b_Model_takeBasket 52 = .ok (.iastore, 1) := by decide +kernel
theorem d_Model_takeBasket_53 : decode b_Model_takeBasket 53 = .ok (.iinc 1 1, 3) := by decide +kernel
theorem d_Model_takeBasket_56 : decode b_Model_takeBasket 56 = .ok (.goto (-40), 3) := by decide +kernel
theorem d_Model_takeBasket_59 : decode b_Model_takeBasket 59 = .ok (.return_, 1) := by decide +kernel
theorem d_Model_leastTotal_0 : decode b_Model_leastTotal 0 = .ok (.aload_n 0, 1) := by decide +kernel
theorem d_Model_leastTotal_1 : decode b_Model_leastTotal 1 = .ok (.invokevirtual 170, 3) := by decide +kernel
theorem d_Model_leastTotal_4 : decode b_Model_leastTotal 4 = .ok (.aload_n 0, 1) := by decide +kernel
theorem d_Model_leastTotal_5 : decode b_Model_leastTotal 5 = .ok (.getfield 83, 3) := by decide +kernel
theorem d_Model_leastTotal_8 : decode b_Model_leastTotal 8 = .ok (.aload_n 0, 1) := by decide +kernel
theorem d_Model_leastTotal_9 : decode b_Model_leastTotal 9 = .ok (.getfield 138, 3) := by decide +kernel
theorem d_Model_leastTotal_12 : decode b_Model_leastTotal 12 = .ok (.iconst 1, 1) := by decide +kernel
theorem d_Model_leastTotal_13 : decode b_Model_leastTotal 13 = .ok (.isub, 1) := by decide +kernel
theorem d_Model_leastTotal_14 : decode b_Model_leastTotal 14 = .ok (.iaload, 1) := by decide +kernel
theorem d_Model_leastTotal_15 : decode b_Model_leastTotal 15 = .ok (.aload_n 0, 1) := by decide +kernel
theorem d_Model_leastTotal_16 : decode b_Model_leastTotal 16 = .ok (.invokevirtual 173, 3) := by decide +kernel
theorem d_Model_leastTotal_19 : decode b_Model_leastTotal 19 = .ok (.iadd, 1) := by decide +kernel
theorem d_Model_leastTotal_20 : decode b_Model_leastTotal 20 = .ok (.ireturn, 1) := by decide +kernel
theorem d_Model_firstOf_0 : decode b_Model_firstOf 0 = .ok (.iconst 0, 1) := by decide +kernel
theorem d_Model_firstOf_1 : decode b_Model_firstOf 1 = .ok (.istore_n 2, 1) := by decide +kernel
theorem d_Model_firstOf_2 : decode b_Model_firstOf 2 = .ok (.iload_n 2, 1) := by decide +kernel
theorem d_Model_firstOf_3 : decode b_Model_firstOf 3 = .ok (.aload_n 0, 1) := by decide +kernel
theorem d_Model_firstOf_4 : decode b_Model_firstOf 4 = .ok (.getfield 141, 3) := by decide +kernel
theorem d_Model_firstOf_7 : decode b_Model_firstOf 7 = .ok (.if_icmp .ge 28, 3) := by decide +kernel
theorem d_Model_firstOf_10 : decode b_Model_firstOf 10 = .ok (.aload_n 0, 1) := by decide +kernel
theorem d_Model_firstOf_11 : decode b_Model_firstOf 11 = .ok (.getfield 98, 3) := by decide +kernel
theorem d_Model_firstOf_14 : decode b_Model_firstOf 14 = .ok (.iload_n 2, 1) := by decide +kernel
theorem d_Model_firstOf_15 : decode b_Model_firstOf 15 = .ok (.baload, 1) := by decide +kernel
theorem d_Model_firstOf_16 : decode b_Model_firstOf 16 = .ok (.ifCond .ne 13, 3) := by decide +kernel
theorem d_Model_firstOf_19 : decode b_Model_firstOf 19 = .ok (.aload_n 0, 1) := by decide +kernel
theorem d_Model_firstOf_20 : decode b_Model_firstOf 20 = .ok (.getfield 62, 3) := by decide +kernel
theorem d_Model_firstOf_23 : decode b_Model_firstOf 23 = .ok (.iload_n 2, 1) := by decide +kernel
theorem d_Model_firstOf_24 : decode b_Model_firstOf 24 = .ok (.iaload, 1) := by decide +kernel
theorem d_Model_firstOf_25 : decode b_Model_firstOf 25 = .ok (.iload_n 1, 1) := by decide +kernel
theorem d_Model_firstOf_26 : decode b_Model_firstOf 26 = .ok (.if_icmp .eq 9, 3) := by decide +kernel
theorem d_Model_firstOf_29 : decode b_Model_firstOf 29 = .ok (.iinc 2 1, 3) := by decide +kernel
theorem d_Model_firstOf_32 : decode b_Model_firstOf 32 = .ok (.goto (-30), 3) := by decide +kernel
theorem d_Model_firstOf_35 : decode b_Model_firstOf 35 = .ok (.iload_n 2, 1) := by decide +kernel
theorem d_Model_firstOf_36 : decode b_Model_firstOf 36 = .ok (.ireturn, 1) := by decide +kernel
theorem d_Model_listHas_0 : decode b_Model_listHas 0 = .ok (.iconst 0, 1) := by decide +kernel
theorem d_Model_listHas_1 : decode b_Model_listHas 1 = .ok (.istore_n 2, 1) := by decide +kernel
theorem d_Model_listHas_2 : decode b_Model_listHas 2 = .ok (.iload_n 2, 1) := by decide +kernel
theorem d_Model_listHas_3 : decode b_Model_listHas 3 = .ok (.aload_n 0, 1) := by decide +kernel
theorem d_Model_listHas_4 : decode b_Model_listHas 4 = .ok (.getfield 131, 3) := by decide +kernel
theorem d_Model_listHas_7 : decode b_Model_listHas 7 = .ok (.if_icmp .ge 21, 3) := by decide +kernel
theorem d_Model_listHas_10 : decode b_Model_listHas 10 = .ok (.aload_n 0, 1) := by decide +kernel
theorem d_Model_listHas_11 : decode b_Model_listHas 11 = .ok (.getfield 86, 3) := by decide +kernel
theorem d_Model_listHas_14 : decode b_Model_listHas 14 = .ok (.iload_n 2, 1) := by decide +kernel
theorem d_Model_listHas_15 : decode b_Model_listHas 15 = .ok (.iaload, 1) := by decide +kernel
theorem d_Model_listHas_16 : decode b_Model_listHas 16 = .ok (.iload_n 1, 1) := by decide +kernel
theorem d_Model_listHas_17 : decode b_Model_listHas 17 = .ok (.if_icmp .ne 5, 3) := by decide +kernel
theorem d_Model_listHas_20 : decode b_Model_listHas 20 = .ok (.iconst 1, 1) := by decide +kernel
theorem d_Model_listHas_21 : decode b_Model_listHas 21 = .ok (.ireturn, 1) := by decide +kernel
theorem d_Model_listHas_22 : decode b_Model_listHas 22 = .ok (.iinc 2 1, 3) := by decide +kernel
theorem d_Model_listHas_25 : decode b_Model_listHas 25 = .ok (.goto (-23), 3) := by decide +kernel
theorem d_Model_listHas_28 : decode b_Model_listHas 28 = .ok (.iconst 0, 1) := by decide +kernel
theorem d_Model_listHas_29 : decode b_Model_listHas 29 = .ok (.ireturn, 1) := by decide +kernel
theorem d_Model_takeUse_0 : decode b_Model_takeUse 0 = .ok (.iconst 0, 1) := by decide +kernel
theorem d_Model_takeUse_1 : decode b_Model_takeUse 1 = .ok (.istore_n 2, 1) := by decide +kernel
theorem d_Model_takeUse_2 : decode b_Model_takeUse 2 = .ok (.iload_n 2, 1) := by decide +kernel
theorem d_Model_takeUse_3 : decode b_Model_takeUse 3 = .ok (.aload_n 0, 1) := by decide +kernel
theorem d_Model_takeUse_4 : decode b_Model_takeUse 4 = .ok (.getfield 131, 3) := by decide +kernel
theorem d_Model_takeUse_7 : decode b_Model_takeUse 7 = .ok (.if_icmp .ge 44, 3) := by decide +kernel
theorem d_Model_takeUse_10 : decode b_Model_takeUse 10 = .ok (.aload_n 0, 1) := by decide +kernel
theorem d_Model_takeUse_11 : decode b_Model_takeUse 11 = .ok (.aload_n 0, 1) := by decide +kernel
theorem d_Model_takeUse_12 : decode b_Model_takeUse 12 = .ok (.getfield 86, 3) := by decide +kernel
theorem d_Model_takeUse_15 : decode b_Model_takeUse 15 = .ok (.iload_n 2, 1) := by decide +kernel
theorem d_Model_takeUse_16 : decode b_Model_takeUse 16 = .ok (.iaload, 1) := by decide +kernel
theorem d_Model_takeUse_17 : decode b_Model_takeUse 17 = .ok (.invokevirtual 176, 3) := by decide +kernel
theorem d_Model_takeUse_20 : decode b_Model_takeUse 20 = .ok (.istore_n 3, 1) := by decide +kernel
theorem d_Model_takeUse_21 : decode b_Model_takeUse 21 = .ok (.aload_n 0, 1) := by decide +kernel
theorem d_Model_takeUse_22 : decode b_Model_takeUse 22 = .ok (.getfield 98, 3) := by decide +kernel
theorem d_Model_takeUse_25 : decode b_Model_takeUse 25 = .ok (.iload_n 3, 1) := by decide +kernel
theorem d_Model_takeUse_26 : decode b_Model_takeUse 26 = .ok (.iconst 1, 1) := by decide +kernel
theorem d_Model_takeUse_27 : decode b_Model_takeUse 27 = .ok (.bastore, 1) := by decide +kernel
theorem d_Model_takeUse_28 : decode b_Model_takeUse 28 = .ok (.aload_n 0, 1) := by decide +kernel
theorem d_Model_takeUse_29 : decode b_Model_takeUse 29 = .ok (.getfield 89, 3) := by decide +kernel
theorem d_Model_takeUse_32 : decode b_Model_takeUse 32 = .ok (.iload_n 3, 1) := by decide +kernel
theorem d_Model_takeUse_33 : decode b_Model_takeUse 33 = .ok (.iload_n 1, 1) := by decide +kernel
theorem d_Model_takeUse_34 : decode b_Model_takeUse 34 = .ok (.iastore, 1) := by decide +kernel
theorem d_Model_takeUse_35 : decode b_Model_takeUse 35 = .ok (.aload_n 0, 1) := by decide +kernel
theorem d_Model_takeUse_36 : decode b_Model_takeUse 36 = .ok (.getfield 92, 3) := by decide +kernel
theorem d_Model_takeUse_39 : decode b_Model_takeUse 39 = .ok (.iload_n 3, 1) := by decide +kernel
theorem d_Model_takeUse_40 : decode b_Model_takeUse 40 = .ok (.aload_n 0, 1) := by decide +kernel
theorem d_Model_takeUse_41 : decode b_Model_takeUse 41 = .ok (.getfield 179, 3) := by decide +kernel
theorem d_Model_takeUse_44 : decode b_Model_takeUse 44 = .ok (.iastore, 1) := by decide +kernel
theorem d_Model_takeUse_45 : decode b_Model_takeUse 45 = .ok (.iinc 2 1, 3) := by decide +kernel
theorem d_Model_takeUse_48 : decode b_Model_takeUse 48 = .ok (.goto (-46), 3) := by decide +kernel
theorem d_Model_takeUse_51 : decode b_Model_takeUse 51 = .ok (.aload_n 0, 1) := by decide +kernel
theorem d_Model_takeUse_52 : decode b_Model_takeUse 52 = .ok (.aload_n 0, 1) := by decide +kernel
theorem d_Model_takeUse_53 : decode b_Model_takeUse 53 = .ok (.bipush 6, 2) := by decide +kernel
theorem d_Model_takeUse_55 : decode b_Model_takeUse 55 = .ok (.aload_n 0, 1) := by decide +kernel
theorem d_Model_takeUse_56 : decode b_Model_takeUse 56 = .ok (.getfield 122, 3) := by decide +kernel
theorem d_Model_takeUse_59 : decode b_Model_takeUse 59 = .ok (.imul, 1) := by decide +kernel
theorem d_Model_takeUse_60 : decode b_Model_takeUse 60 = .ok (.iload_n 1, 1) := by decide +kernel
theorem d_Model_takeUse_61 : decode b_Model_takeUse 61 = .ok (.iadd, 1) := by decide +kernel
theorem d_Model_takeUse_62 : decode b_Model_takeUse 62 = .ok (.invokevirtual 164, 3) := by decide +kernel
theorem d_Model_takeUse_65 : decode b_Model_takeUse 65 = .ok (.invokevirtual 182, 3) := by decide +kernel
theorem d_Model_takeUse_68 : decode b_Model_takeUse 68 = .ok (.aload_n 0, 1) := by decide +kernel
theorem d_Model_takeUse_69 : decode b_Model_takeUse 69 = .ok (.dup, 1) := by decide +kernel
theorem d_Model_takeUse_70 : decode b_Model_takeUse 70 = .ok (.getfield 179, 3) := by decide +kernel
theorem d_Model_takeUse_73 : decode b_Model_takeUse 73 = .ok (.iconst 1, 1) := by decide +kernel
theorem d_Model_takeUse_74 : decode b_Model_takeUse 74 = .ok (.iadd, 1) := by decide +kernel
theorem d_Model_takeUse_75 : decode b_Model_takeUse 75 = .ok (.putfield 179, 3) := by decide +kernel
theorem d_Model_takeUse_78 : decode b_Model_takeUse 78 = .ok (.return_, 1) := by decide +kernel
theorem d_Model_spread_0 : decode b_Model_spread 0 = .ok (.aload_n 0, 1) := by decide +kernel
theorem d_Model_spread_1 : decode b_Model_spread 1 = .ok (.invokevirtual 134, 3) := by decide +kernel
theorem d_Model_spread_4 : decode b_Model_spread 4 = .ok (.istore_n 2, 1) := by decide +kernel
theorem d_Model_spread_5 : decode b_Model_spread 5 = .ok (.iload_n 2, 1) := by decide +kernel
theorem d_Model_spread_6 : decode b_Model_spread 6 = .ok (.iload_n 1, 1) := by decide +kernel
theorem d_Model_spread_7 : decode b_Model_spread 7 = .ok (.isub, 1) := by decide +kernel
theorem d_Model_spread_8 : decode b_Model_spread 8 = .ok (.istore_n 3, 1) := by decide +kernel
theorem d_Model_spread_9 : decode b_Model_spread 9 = .ok (.iload_n 3, 1) := by decide +kernel
theorem d_Model_spread_10 : decode b_Model_spread 10 = .ok (.istore 4, 2) := by decide +kernel
theorem d_Model_spread_12 : decode b_Model_spread 12 = .ok (.iconst 0, 1) := by decide +kernel
theorem d_Model_spread_13 : decode b_Model_spread 13 = .ok (.istore 5, 2) := by decide +kernel
theorem d_Model_spread_15 : decode b_Model_spread 15 = .ok (.iload 5, 2) := by decide +kernel
theorem d_Model_spread_17 : decode b_Model_spread 17 = .ok (.aload_n 0, 1) := by decide +kernel
theorem d_Model_spread_18 : decode b_Model_spread 18 = .ok (.getfield 141, 3) := by decide +kernel
theorem d_Model_spread_21 : decode b_Model_spread 21 = .ok (.if_icmp .ge 64, 3) := by decide +kernel
theorem d_Model_spread_24 : decode b_Model_spread 24 = .ok (.aload_n 0, 1) := by decide +kernel
theorem d_Model_spread_25 : decode b_Model_spread 25 = .ok (.getfield 92, 3) := by decide +kernel
theorem d_Model_spread_28 : decode b_Model_spread 28 = .ok (.iload 5, 2) := by decide +kernel
