/-! decode rows of Rec (by program) -/
theorem d_Rec_init_0 : decode b_Rec_init 0 = .ok (.aload_n 0, 1) := by decide +kernel
theorem d_Rec_init_1 : decode b_Rec_init 1 = .ok (.invokespecial 3, 3) := by decide +kernel
theorem d_Rec_init_4 : decode b_Rec_init 4 = .ok (.aload_n 0, 1) := by decide +kernel
theorem d_Rec_init_5 : decode b_Rec_init 5 = .ok (.new 9, 3) := by decide +kernel
theorem d_Rec_init_8 : decode b_Rec_init 8 = .ok (.dup, 1) := by decide +kernel
theorem d_Rec_init_9 : decode b_Rec_init 9 = .ok (.invokespecial 11, 3) := by decide +kernel
theorem d_Rec_init_12 : decode b_Rec_init 12 = .ok (.putfield 12, 3) := by decide +kernel
theorem d_Rec_init_15 : decode b_Rec_init 15 = .ok (.aload_n 0, 1) := by decide +kernel
theorem d_Rec_init_16 : decode b_Rec_init 16 = .ok (.bipush 10, 2) := by decide +kernel
theorem d_Rec_init_18 : decode b_Rec_init 18 = .ok (.newarray .int, 2) := by decide +kernel
theorem d_Rec_init_20 : decode b_Rec_init 20 = .ok (.putfield 18, 3) := by decide +kernel
theorem d_Rec_init_23 : decode b_Rec_init 23 = .ok (.aload_n 0, 1) := by decide +kernel
theorem d_Rec_init_24 : decode b_Rec_init 24 = .ok (.bipush 10, 2) := by decide +kernel
theorem d_Rec_init_26 : decode b_Rec_init 26 = .ok (.newarray .int, 2) := by decide +kernel
theorem d_Rec_init_28 : decode b_Rec_init 28 = .ok (.putfield 22, 3) := by decide +kernel
theorem d_Rec_init_31 : decode b_Rec_init 31 = .ok (.aload_n 0, 1) := by decide +kernel
theorem d_Rec_init_32 : decode b_Rec_init 32 = .ok (.bipush 10, 2) := by decide +kernel
theorem d_Rec_init_34 : decode b_Rec_init 34 = .ok (.newarray .boolean, 2) := by decide +kernel
theorem d_Rec_init_36 : decode b_Rec_init 36 = .ok (.putfield 25, 3) := by decide +kernel
theorem d_Rec_init_39 : decode b_Rec_init 39 = .ok (.aload_n 0, 1) := by decide +kernel
theorem d_Rec_init_40 : decode b_Rec_init 40 = .ok (.aload_n 1, 1) := by decide +kernel
theorem d_Rec_init_41 : decode b_Rec_init 41 = .ok (.invokevirtual 29, 3) := by decide +kernel
theorem d_Rec_init_44 : decode b_Rec_init 44 = .ok (.putfield 35, 3) := by decide +kernel
theorem d_Rec_init_47 : decode b_Rec_init 47 = .ok (.iconst 0, 1) := by decide +kernel
theorem d_Rec_init_48 : decode b_Rec_init 48 = .ok (.istore 4, 2) := by decide +kernel
theorem d_Rec_init_50 : decode b_Rec_init 50 = .ok (.iload 4, 2) := by decide +kernel
theorem d_Rec_init_52 : decode b_Rec_init 52 = .ok (.aload_n 2, 1) := by decide +kernel
theorem d_Rec_init_53 : decode b_Rec_init 53 = .ok (.getfield 39, 3) := by decide +kernel
theorem d_Rec_init_56 : decode b_Rec_init 56 = .ok (.if_icmp .ge 59, 3) := by decide +kernel
theorem d_Rec_init_59 : decode b_Rec_init 59 = .ok (.aload_n 0, 1) := by decide +kernel
theorem d_Rec_init_60 : decode b_Rec_init 60 = .ok (.getfield 12, 3) := by decide +kernel
theorem d_Rec_init_63 : decode b_Rec_init 63 = .ok (.aload_n 2, 1) := by decide +kernel
theorem d_Rec_init_64 : decode b_Rec_init 64 = .ok (.getfield 43, 3) := by decide +kernel
theorem d_Rec_init_67 : decode b_Rec_init 67 = .ok (.iload 4, 2) := by decide +kernel
theorem d_Rec_init_69 : decode b_Rec_init 69 = .ok (.iaload, 1) := by decide +kernel
theorem d_Rec_init_70 : decode b_Rec_init 70 = .ok (.invokevirtual 46, 3) := by decide +kernel
theorem d_Rec_init_73 : decode b_Rec_init 73 = .ok (.aload_n 0, 1) := by decide +kernel
theorem d_Rec_init_74 : decode b_Rec_init 74 = .ok (.getfield 18, 3) := by decide +kernel
theorem d_Rec_init_77 : decode b_Rec_init 77 = .ok (.iload 4, 2) := by decide +kernel
theorem d_Rec_init_79 : decode b_Rec_init 79 = .ok (.aload_n 3, 1) := by decide +kernel
theorem d_Rec_init_80 : decode b_Rec_init 80 = .ok (.getfield 50, 3) := by decide +kernel
theorem d_Rec_init_83 : decode b_Rec_init 83 = .ok (.iload 4, 2) := by decide +kernel
theorem d_Rec_init_85 : decode b_Rec_init 85 = .ok (.iaload, 1) := by decide +kernel
theorem d_Rec_init_86 : decode b_Rec_init 86 = .ok (.iastore, 1) := by decide +kernel
theorem d_Rec_init_87 : decode b_Rec_init 87 = .ok (.aload_n 0, 1) := by decide +kernel
theorem d_Rec_init_88 : decode b_Rec_init 88 = .ok (.getfield 22, 3) := by decide +kernel
theorem d_Rec_init_91 : decode b_Rec_init 91 = .ok (.iload 4, 2) := by decide +kernel
theorem d_Rec_init_93 : decode b_Rec_init 93 = .ok (.aload_n 3, 1) := by decide +kernel
theorem d_Rec_init_94 : decode b_Rec_init 94 = .ok (.getfield 53, 3) := by decide +kernel
theorem d_Rec_init_97 : decode b_Rec_init 97 = .ok (.iload 4, 2) := by decide +kernel
theorem d_Rec_init_99 : decode b_Rec_init 99 = .ok (.iaload, 1) := by decide +kernel
theorem d_Rec_init_100 : decode b_Rec_init 100 = .ok (.iastore, 1) := by decide +kernel
theorem d_Rec_init_101 : decode b_Rec_init 101 = .ok (.aload_n 0, 1) := by decide +kernel
theorem d_Rec_init_102 : decode b_Rec_init 102 = .ok (.getfield 25, 3) := by decide +kernel
theorem d_Rec_init_105 : decode b_Rec_init 105 = .ok (.iload 4, 2) := by decide +kernel
theorem d_Rec_init_107 : decode b_Rec_init 107 = .ok (.iconst 1, 1) := by decide +kernel
theorem d_Rec_init_108 : decode b_Rec_init 108 = .ok (.bastore, 1) := by decide +kernel
theorem d_Rec_init_109 : decode b_Rec_init 109 = .ok (.iinc 4 1, 3) := by decide +kernel
theorem d_Rec_init_112 : decode b_Rec_init 112 = .ok (.goto (-62), 3) := by decide +kernel
theorem d_Rec_init_115 : decode b_Rec_init 115 = .ok (.aload_n 0, 1) := by decide +kernel
theorem d_Rec_init_116 : decode b_Rec_init 116 = .ok (.aload_n 3, 1) := by decide +kernel
theorem d_Rec_init_117 : decode b_Rec_init 117 = .ok (.aload_n 2, 1) := by decide +kernel
theorem d_Rec_init_118 : decode b_Rec_init 118 = .ok (.invokevirtual 56, 3) := by decide +kernel
theorem d_Rec_init_121 : decode b_Rec_init 121 = .ok (.putfield 60, 3) := by decide +kernel
theorem d_Rec_init_124 : decode b_Rec_init 124 = .ok (.return_, 1) := by decide +kernel
theorem d_Rec_keptCount_0 : decode b_Rec_keptCount 0 = .ok (.iconst 0, 1) := by decide +kernel
theorem d_Rec_keptCount_1 : decode b_Rec_keptCount 1 = .ok (.istore_n 1, 1) := by decide +kernel
theorem d_Rec_keptCount_2 : decode b_Rec_keptCount 2 = .ok (.iconst 0, 1) := by decide +kernel
theorem d_Rec_keptCount_3 : decode b_Rec_keptCount 3 = .ok (.istore_n 2, 1) := by decide +kernel
theorem d_Rec_keptCount_4 : decode b_Rec_keptCount 4 = .ok (.iload_n 2, 1) := by decide +kernel
theorem d_Rec_keptCount_5 : decode b_Rec_keptCount 5 = .ok (.aload_n 0, 1) := by decide +kernel
theorem d_Rec_keptCount_6 : decode b_Rec_keptCount 6 = .ok (.getfield 12, 3) := by decide +kernel
theorem d_Rec_keptCount_9 : decode b_Rec_keptCount 9 = .ok (.getfield 39, 3) := by decide +kernel
theorem d_Rec_keptCount_12 : decode b_Rec_keptCount 12 = .ok (.if_icmp .ge 21, 3) := by decide +kernel
theorem d_Rec_keptCount_15 : decode b_Rec_keptCount 15 = .ok (.aload_n 0, 1) := by decide +kernel
theorem d_Rec_keptCount_16 : decode b_Rec_keptCount 16 = .ok (.getfield 25, 3) := by decide +kernel
theorem d_Rec_keptCount_19 : decode b_Rec_keptCount 19 = .ok (.iload_n 2, 1) := by decide +kernel
theorem d_Rec_keptCount_20 : decode b_Rec_keptCount 20 = .ok (.baload, 1) := by decide +kernel
theorem d_Rec_keptCount_21 : decode b_Rec_keptCount 21 = .ok (.ifCond .eq 6, 3) := by decide +kernel
theorem d_Rec_keptCount_24 : decode b_Rec_keptCount 24 = .ok (.iinc 1 1, 3) := by decide +kernel
theorem d_Rec_keptCount_27 : decode b_Rec_keptCount 27 = .ok (.iinc 2 1, 3) := by decide +kernel
theorem d_Rec_keptCount_30 : decode b_Rec_keptCount 30 = .ok (.goto (-26), 3) := by decide +kernel
theorem d_Rec_keptCount_33 : decode b_Rec_keptCount 33 = .ok (.iload_n 1, 1) := by decide +kernel
theorem d_Rec_keptCount_34 : decode b_Rec_keptCount 34 = .ok (.ireturn, 1) := by decide +kernel
theorem d_Rec_copyKeptTo_0 : decode b_Rec_copyKeptTo 0 = .ok (.aload_n 1, 1) := by decide +kernel
theorem d_Rec_copyKeptTo_1 : decode b_Rec_copyKeptTo 1 = .ok (.iconst 0, 1) := by decide +kernel
theorem d_Rec_copyKeptTo_2 : decode b_Rec_copyKeptTo 2 = .ok (.putfield 39, 3) := by decide +kernel
theorem d_Rec_copyKeptTo_5 : decode b_Rec_copyKeptTo 5 = .ok (.iconst 0, 1) := by decide +kernel
theorem d_Rec_copyKeptTo_6 : decode b_Rec_copyKeptTo 6 = .ok (.istore_n 2, 1) := by decide +kernel
theorem d_Rec_copyKeptTo_7 : decode b_Rec_copyKeptTo 7 = .ok (.iload_n 2, 1) := by decide +kernel
theorem d_Rec_copyKeptTo_8 : decode b_Rec_copyKeptTo 8 = .ok (.aload_n 0, 1) := by decide +kernel
theorem d_Rec_copyKeptTo_9 : decode b_Rec_copyKeptTo 9 = .ok (.getfield 12, 3) := by decide +kernel
theorem d_Rec_copyKeptTo_12 : decode b_Rec_copyKeptTo 12 = .ok (.getfield 39, 3) := by decide +kernel
theorem d_Rec_copyKeptTo_15 : decode b_Rec_copyKeptTo 15 = .ok (.if_icmp .ge 31, 3) := by decide +kernel
theorem d_Rec_copyKeptTo_18 : decode b_Rec_copyKeptTo 18 = .ok (.aload_n 0, 1) := by decide +kernel
theorem d_Rec_copyKeptTo_19 : decode b_Rec_copyKeptTo 19 = .ok (.getfield 25, 3) := by decide +kernel
theorem d_Rec_copyKeptTo_22 : decode b_Rec_copyKeptTo 22 = .ok (.iload_n 2, 1) := by decide +kernel
theorem d_Rec_copyKeptTo_23 : decode b_Rec_copyKeptTo 23 = .ok (.baload, 1) := by decide +kernel
theorem d_Rec_copyKeptTo_24 : decode b_Rec_copyKeptTo 24 = .ok (.ifCond .eq 16, 3) := by decide +kernel
theorem d_Rec_copyKeptTo_27 : decode b_Rec_copyKeptTo 27 = .ok (.aload_n 1, 1) := by decide +kernel
theorem d_Rec_copyKeptTo_28 : decode b_Rec_copyKeptTo 28 = .ok (.aload_n 0, 1) := by decide +kernel
theorem d_Rec_copyKeptTo_29 : decode b_Rec_copyKeptTo 29 = .ok (.getfield 12, 3) := by decide +kernel
theorem d_Rec_copyKeptTo_32 : decode b_Rec_copyKeptTo 32 = .ok (.getfield 43, 3) := by decide +kernel
theorem d_Rec_copyKeptTo_35 : decode b_Rec_copyKeptTo 35 = .ok (.iload_n 2, 1) := by decide +kernel
theorem d_Rec_copyKeptTo_36 : decode b_Rec_copyKeptTo 36 = .ok (.iaload, 1) := by decide +kernel
theorem d_Rec_copyKeptTo_37 : decode b_Rec_copyKeptTo 37 = .ok (.invokevirtual 46, 3) := by decide +kernel
theorem d_Rec_copyKeptTo_40 : decode b_Rec_copyKeptTo 40 = .ok (.iinc 2 1, 3) := by decide +kernel
theorem d_Rec_copyKeptTo_43 : decode b_Rec_copyKeptTo 43 = .ok (.goto (-36), 3) := by decide +kernel
theorem d_Rec_copyKeptTo_46 : decode b_Rec_copyKeptTo 46 = .ok (.return_, 1) := by decide +kernel
theorem d_Rec_raiseRefund_0 : decode b_Rec_raiseRefund 0 = .ok (.aload_n 0, 1) := by decide +kernel
theorem d_Rec_raiseRefund_1 : decode b_Rec_raiseRefund 1 = .ok (.getfield 63, 3) := by decide +kernel
theorem d_Rec_raiseRefund_4 : decode b_Rec_raiseRefund 4 = .ok (.istore_n 2, 1) := by decide +kernel
theorem d_Rec_raiseRefund_5 : decode b_Rec_raiseRefund 5 = .ok (.aload_n 0, 1) := by decide +kernel
theorem d_Rec_raiseRefund_6 : decode b_Rec_raiseRefund 6 = .ok (.iload_n 2, 1) := by decide +kernel
theorem d_Rec_raiseRefund_7 : decode b_Rec_raiseRefund 7 = .ok (.aload_n 0, 1) := by decide +kernel
theorem d_Rec_raiseRefund_8 : decode b_Rec_raiseRefund 8 = .ok (.getfield 60, 3) := by decide +kernel
theorem d_Rec_raiseRefund_11 : decode b_Rec_raiseRefund 11 = .ok (.iload_n 1, 1) := by decide +kernel
theorem d_Rec_raiseRefund_12 : decode b_Rec_raiseRefund 12 = .ok (.isub, 1) := by decide +kernel
theorem d_Rec_raiseRefund_13 : decode b_Rec_raiseRefund 13 = .ok (.invokestatic 66, 3) := by decide +kernel
theorem d_Rec_raiseRefund_16 : decode b_Rec_raiseRefund 16 = .ok (.putfield 63, 3) := by decide +kernel
theorem d_Rec_raiseRefund_19 : decode b_Rec_raiseRefund 19 = .ok (.aload_n 0, 1) := by decide +kernel
theorem d_Rec_raiseRefund_20 : decode b_Rec_raiseRefund 20 = .ok (.getfield 63, 3) := by decide +kernel
theorem d_Rec_raiseRefund_23 : decode b_Rec_raiseRefund 23 = .ok (.iload_n 2, 1) := by decide +kernel
theorem d_Rec_raiseRefund_24 : decode b_Rec_raiseRefund 24 = .ok (.isub, 1) := by decide +kernel
theorem d_Rec_raiseRefund_25 : decode b_Rec_raiseRefund 25 = .ok (.ireturn, 1) := by decide +kernel
