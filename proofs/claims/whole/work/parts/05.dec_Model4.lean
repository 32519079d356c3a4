/-! decode rows of Model (by program) -/
theorem d_Model_tax_129 : decode b_Model_tax 129 = .ok (.i2l, 1) := by decide +kernel
theorem d_Model_tax_130 : decode b_Model_tax 130 = .ok (.ladd, 1) := by decide +kernel
theorem d_Model_tax_131 : decode b_Model_tax 131 = .ok (.iconst 2, 1) := by decide +kernel
theorem d_Model_tax_132 : decode b_Model_tax 132 = .ok (.bipush 100, 2) := by decide +kernel
theorem d_Model_tax_134 : decode b_Model_tax 134 = .ok (.iload 4, 2) := by decide +kernel
theorem d_Model_tax_136 : decode b_Model_tax 136 = .ok (.iadd, 1) := by decide +kernel
theorem d_Model_tax_137 : decode b_Model_tax 137 = .ok (.imul, 1) := by decide +kernel
theorem d_Model_tax_138 : decode b_Model_tax 138 = .ok (.i2l, 1) := by decide +kernel
theorem d_Model_tax_139 : decode b_Model_tax 139 = .ok (.ldiv, 1) := by decide +kernel
theorem d_Model_tax_140 : decode b_Model_tax 140 = .ok (.l2i, 1) := by decide +kernel
theorem d_Model_tax_141 : decode b_Model_tax 141 = .ok (.ireturn, 1) := by decide +kernel
theorem d_Model_tryOffer_0 : decode b_Model_tryOffer 0 = .ok (.aload_n 0, 1) := by decide +kernel
theorem d_Model_tryOffer_1 : decode b_Model_tryOffer 1 = .ok (.iload_n 1, 1) := by decide +kernel
theorem d_Model_tryOffer_2 : decode b_Model_tryOffer 2 = .ok (.iconst 0, 1) := by decide +kernel
theorem d_Model_tryOffer_3 : decode b_Model_tryOffer 3 = .ok (.iconst 5, 1) := by decide +kernel
theorem d_Model_tryOffer_4 : decode b_Model_tryOffer 4 = .ok (.invokestatic 105, 3) := by decide +kernel
theorem d_Model_tryOffer_7 : decode b_Model_tryOffer 7 = .ok (.ifCond .eq 7, 3) := by decide +kernel
theorem d_Model_tryOffer_10 : decode b_Model_tryOffer 10 = .ok (.iconst 0, 1) := by decide +kernel
theorem d_Model_tryOffer_11 : decode b_Model_tryOffer 11 = .ok (.goto 4, 3) := by decide +kernel
theorem d_Model_tryOffer_14 : decode b_Model_tryOffer 14 = .ok (.iconst 1, 1) := by decide +kernel
theorem d_Model_tryOffer_15 : decode b_Model_tryOffer 15 = .ok (.putfield 101, 3) := by decide +kernel
theorem d_Model_tryOffer_18 : decode b_Model_tryOffer 18 = .ok (.aload_n 0, 1) := by decide +kernel
theorem d_Model_tryOffer_19 : decode b_Model_tryOffer 19 = .ok (.getfield 101, 3) := by decide +kernel
theorem d_Model_tryOffer_22 : decode b_Model_tryOffer 22 = .ok (.ifCond .eq 5, 3) := by decide +kernel
theorem d_Model_tryOffer_25 : decode b_Model_tryOffer 25 = .ok (.iconst 0, 1) := by decide +kernel
theorem d_Model_tryOffer_26 : decode b_Model_tryOffer 26 = .ok (.ireturn, 1) := by decide +kernel
theorem d_Model_tryOffer_27 : decode b_Model_tryOffer 27 = .ok (.bipush 72, 2) := by decide +kernel
theorem d_Model_tryOffer_29 : decode b_Model_tryOffer 29 = .ok (.iload_n 1, 1) := by decide +kernel
theorem d_Model_tryOffer_30 : decode b_Model_tryOffer 30 = .ok (.iadd, 1) := by decide +kernel
theorem d_Model_tryOffer_31 : decode b_Model_tryOffer 31 = .ok (.istore_n 2, 1) := by decide +kernel
theorem d_Model_tryOffer_32 : decode b_Model_tryOffer 32 = .ok (.aload_n 0, 1) := by decide +kernel
theorem d_Model_tryOffer_33 : decode b_Model_tryOffer 33 = .ok (.getfield 28, 3) := by decide +kernel
theorem d_Model_tryOffer_36 : decode b_Model_tryOffer 36 = .ok (.iload_n 2, 1) := by decide +kernel
theorem d_Model_tryOffer_37 : decode b_Model_tryOffer 37 = .ok (.aload_n 0, 1) := by decide +kernel
theorem d_Model_tryOffer_38 : decode b_Model_tryOffer 38 = .ok (.getfield 28, 3) := by decide +kernel
theorem d_Model_tryOffer_41 : decode b_Model_tryOffer 41 = .ok (.iload_n 2, 1) := by decide +kernel
theorem d_Model_tryOffer_42 : decode b_Model_tryOffer 42 = .ok (.baload, 1) := by decide +kernel
theorem d_Model_tryOffer_43 : decode b_Model_tryOffer 43 = .ok (.ifCond .ne 7, 3) := by decide +kernel
theorem d_Model_tryOffer_46 : decode b_Model_tryOffer 46 = .ok (.iconst 1, 1) := by decide +kernel
theorem d_Model_tryOffer_47 : decode b_Model_tryOffer 47 = .ok (.goto 4, 3) := by decide +kernel
theorem d_Model_tryOffer_50 : decode b_Model_tryOffer 50 = .ok (.iconst 0, 1) := by decide +kernel
theorem d_Model_tryOffer_51 : decode b_Model_tryOffer 51 = .ok (.bastore, 1) := by decide +kernel
theorem d_Model_tryOffer_52 : decode b_Model_tryOffer 52 = .ok (.aload_n 0, 1) := by decide +kernel
theorem d_Model_tryOffer_53 : decode b_Model_tryOffer 53 = .ok (.invokevirtual 196, 3) := by decide +kernel
theorem d_Model_tryOffer_56 : decode b_Model_tryOffer 56 = .ok (.aload_n 0, 1) := by decide +kernel
theorem d_Model_tryOffer_57 : decode b_Model_tryOffer 57 = .ok (.aload_n 0, 1) := by decide +kernel
theorem d_Model_tryOffer_58 : decode b_Model_tryOffer 58 = .ok (.invokevirtual 199, 3) := by decide +kernel
theorem d_Model_tryOffer_61 : decode b_Model_tryOffer 61 = .ok (.ifCond .eq 7, 3) := by decide +kernel
theorem d_Model_tryOffer_64 : decode b_Model_tryOffer 64 = .ok (.iconst 0, 1) := by decide +kernel
theorem d_Model_tryOffer_65 : decode b_Model_tryOffer 65 = .ok (.goto 4, 3) := by decide +kernel
theorem d_Model_tryOffer_68 : decode b_Model_tryOffer 68 = .ok (.iconst 2, 1) := by decide +kernel
theorem d_Model_tryOffer_69 : decode b_Model_tryOffer 69 = .ok (.putfield 101, 3) := by decide +kernel
theorem d_Model_tryOffer_72 : decode b_Model_tryOffer 72 = .ok (.aload_n 0, 1) := by decide +kernel
theorem d_Model_tryOffer_73 : decode b_Model_tryOffer 73 = .ok (.getfield 101, 3) := by decide +kernel
theorem d_Model_tryOffer_76 : decode b_Model_tryOffer 76 = .ok (.ifCond .ne 10, 3) := by decide +kernel
theorem d_Model_tryOffer_79 : decode b_Model_tryOffer 79 = .ok (.aload_n 0, 1) := by decide +kernel
theorem d_Model_tryOffer_80 : decode b_Model_tryOffer 80 = .ok (.invokevirtual 203, 3) := by decide +kernel
theorem d_Model_tryOffer_83 : decode b_Model_tryOffer 83 = .ok (.goto 4, 3) := by decide +kernel
theorem d_Model_tryOffer_86 : decode b_Model_tryOffer 86 = .ok (.iconst 0, 1) := by decide +kernel
theorem d_Model_tryOffer_87 : decode b_Model_tryOffer 87 = .ok (.istore_n 3, 1) := by decide +kernel
theorem d_Model_tryOffer_88 : decode b_Model_tryOffer 88 = .ok (.aload_n 0, 1) := by decide +kernel
theorem d_Model_tryOffer_89 : decode b_Model_tryOffer 89 = .ok (.getfield 28, 3) := by decide +kernel
theorem d_Model_tryOffer_92 : decode b_Model_tryOffer 92 = .ok (.iload_n 2, 1) := by decide +kernel
theorem d_Model_tryOffer_93 : decode b_Model_tryOffer 93 = .ok (.aload_n 0, 1) := by decide +kernel
theorem d_Model_tryOffer_94 : decode b_Model_tryOffer 94 = .ok (.getfield 28, 3) := by decide +kernel
theorem d_Model_tryOffer_97 : decode b_Model_tryOffer 97 = .ok (.iload_n 2, 1) := by decide +kernel
theorem d_Model_tryOffer_98 : decode b_Model_tryOffer 98 = .ok (.baload, 1) := by decide +kernel
theorem d_Model_tryOffer_99 : decode b_Model_tryOffer 99 = .ok (.ifCond .ne 7, 3) := by decide +kernel
theorem d_Model_tryOffer_102 : decode b_Model_tryOffer 102 = .ok (.iconst 1, 1) := by decide +kernel
theorem d_Model_tryOffer_103 : decode b_Model_tryOffer 103 = .ok (.goto 4, 3) := by decide +kernel
theorem d_Model_tryOffer_106 : decode b_Model_tryOffer 106 = .ok (.iconst 0, 1) := by decide +kernel
theorem d_Model_tryOffer_107 : decode b_Model_tryOffer 107 = .ok (.bastore, 1) := by decide +kernel
theorem d_Model_tryOffer_108 : decode b_Model_tryOffer 108 = .ok (.iload_n 3, 1) := by decide +kernel
theorem d_Model_tryOffer_109 : decode b_Model_tryOffer 109 = .ok (.ireturn, 1) := by decide +kernel
theorem d_Model_copyOffers_0 : decode b_Model_copyOffers 0 = .ok (.iconst 0, 1) := by decide +kernel
theorem d_Model_copyOffers_1 : decode b_Model_copyOffers 1 = .ok (.istore_n 2, 1) := by decide +kernel
theorem d_Model_copyOffers_2 : decode b_Model_copyOffers 2 = .ok (.iload_n 2, 1) := by decide +kernel
theorem d_Model_copyOffers_3 : decode b_Model_copyOffers 3 = .ok (.bipush 6, 2) := by decide +kernel
theorem d_Model_copyOffers_5 : decode b_Model_copyOffers 5 = .ok (.if_icmp .ge 125, 3) := by decide +kernel
theorem d_Model_copyOffers_8 : decode b_Model_copyOffers 8 = .ok (.bipush 72, 2) := by decide +kernel
theorem d_Model_copyOffers_10 : decode b_Model_copyOffers 10 = .ok (.iload_n 2, 1) := by decide +kernel
theorem d_Model_copyOffers_11 : decode b_Model_copyOffers 11 = .ok (.iadd, 1) := by decide +kernel
theorem d_Model_copyOffers_12 : decode b_Model_copyOffers 12 = .ok (.istore_n 3, 1) := by decide +kernel
theorem d_Model_copyOffers_13 : decode b_Model_copyOffers 13 = .ok (.bipush 6, 2) := by decide +kernel
theorem d_Model_copyOffers_15 : decode b_Model_copyOffers 15 = .ok (.iload_n 1, 1) := by decide +kernel
theorem d_Model_copyOffers_16 : decode b_Model_copyOffers 16 = .ok (.imul, 1) := by decide +kernel
theorem d_Model_copyOffers_17 : decode b_Model_copyOffers 17 = .ok (.iload_n 2, 1) := by decide +kernel
theorem d_Model_copyOffers_18 : decode b_Model_copyOffers 18 = .ok (.iadd, 1) := by decide +kernel
theorem d_Model_copyOffers_19 : decode b_Model_copyOffers 19 = .ok (.istore 4, 2) := by decide +kernel
theorem d_Model_copyOffers_21 : decode b_Model_copyOffers 21 = .ok (.aload_n 0, 1) := by decide +kernel
theorem d_Model_copyOffers_22 : decode b_Model_copyOffers 22 = .ok (.getfield 16, 3) := by decide +kernel
theorem d_Model_copyOffers_25 : decode b_Model_copyOffers 25 = .ok (.iload 4, 2) := by decide +kernel
theorem d_Model_copyOffers_27 : decode b_Model_copyOffers 27 = .ok (.aload_n 0, 1) := by decide +kernel
theorem d_Model_copyOffers_28 : decode b_Model_copyOffers 28 = .ok (.getfield 16, 3) := by decide +kernel
theorem d_Model_copyOffers_31 : decode b_Model_copyOffers 31 = .ok (.iload_n 3, 1) := by decide +kernel
theorem d_Model_copyOffers_32 : decode b_Model_copyOffers 32 = .ok (.iaload, 1) := by decide +kernel
theorem d_Model_copyOffers_33 : decode b_Model_copyOffers 33 = .ok (.iastore, 1) := by decide +kernel
theorem d_Model_copyOffers_34 : decode b_Model_copyOffers 34 = .ok (.aload_n 0, 1) := by decide +kernel
theorem d_Model_copyOffers_35 : decode b_Model_copyOffers 35 = .ok (.getfield 19, 3) := by decide +kernel
theorem d_Model_copyOffers_38 : decode b_Model_copyOffers 38 = .ok (.iload 4, 2) := by decide +kernel
theorem d_Model_copyOffers_40 : decode b_Model_copyOffers 40 = .ok (.aload_n 0, 1) := by decide +kernel
theorem d_Model_copyOffers_41 : decode b_Model_copyOffers 41 = .ok (.getfield 19, 3) := by decide +kernel
theorem d_Model_copyOffers_44 : decode b_Model_copyOffers 44 = .ok (.iload_n 3, 1) := by decide +kernel
theorem d_Model_copyOffers_45 : decode b_Model_copyOffers 45 = .ok (.iaload, 1) := by decide +kernel
theorem d_Model_copyOffers_46 : decode b_Model_copyOffers 46 = .ok (.iastore, 1) := by decide +kernel
theorem d_Model_copyOffers_47 : decode b_Model_copyOffers 47 = .ok (.aload_n 0, 1) := by decide +kernel
theorem d_Model_copyOffers_48 : decode b_Model_copyOffers 48 = .ok (.getfield 22, 3) := by decide +kernel
theorem d_Model_copyOffers_51 : decode b_Model_copyOffers 51 = .ok (.iload 4, 2) := by decide +kernel
theorem d_Model_copyOffers_53 : decode b_Model_copyOffers 53 = .ok (.aload_n 0, 1) := by decide +kernel
theorem d_Model_copyOffers_54 : decode b_Model_copyOffers 54 = .ok (.getfield 22, 3) := by decide +kernel
theorem d_Model_copyOffers_57 : decode b_Model_copyOffers 57 = .ok (.iload_n 3, 1) := by decide +kernel
theorem d_Model_copyOffers_58 : decode b_Model_copyOffers 58 = .ok (.iaload, 1) := by decide +kernel
theorem d_Model_copyOffers_59 : decode b_Model_copyOffers 59 = .ok (.iastore, 1) := by decide +kernel
theorem d_Model_copyOffers_60 : decode b_Model_copyOffers 60 = .ok (.aload_n 0, 1) := by decide +kernel
theorem d_Model_copyOffers_61 : decode b_Model_copyOffers 61 = .ok (.getfield 25, 3) := by decide +kernel
theorem d_Model_copyOffers_64 : decode b_Model_copyOffers 64 = .ok (.iload 4, 2) := by decide +kernel
theorem d_Model_copyOffers_66 : decode b_Model_copyOffers 66 = .ok (.aload_n 0, 1) := by decide +kernel
theorem d_Model_copyOffers_67 : decode b_Model_copyOffers 67 = .ok (.getfield 25, 3) := by decide +kernel
theorem d_Model_copyOffers_70 : decode b_Model_copyOffers 70 = .ok (.iload_n 3, 1) := by decide +kernel
theorem d_Model_copyOffers_71 : decode b_Model_copyOffers 71 = .ok (.iaload, 1) := by decide +kernel
theorem d_Model_copyOffers_72 : decode b_Model_copyOffers 72 = .ok (.iastore, 1) := by decide +kernel
theorem d_Model_copyOffers_73 : decode b_Model_copyOffers 73 = .ok (.aload_n 0, 1) := by decide +kernel
theorem d_Model_copyOffers_74 : decode b_Model_copyOffers 74 = .ok (.getfield 28, 3) := by decide +kernel
theorem d_Model_copyOffers_77 : decode b_Model_copyOffers 77 = .ok (.iload 4, 2) := by decide +kernel
theorem d_Model_copyOffers_79 : decode b_Model_copyOffers 79 = .ok (.aload_n 0, 1) := by decide +kernel
theorem d_Model_copyOffers_80 : decode b_Model_copyOffers 80 = .ok (.getfield 28, 3) := by decide +kernel
theorem d_Model_copyOffers_83 : decode b_Model_copyOffers 83 = .ok (.iload_n 3, 1) := by decide +kernel
theorem d_Model_copyOffers_84 : decode b_Model_copyOffers 84 = .ok (.baload, 1) := by decide +kernel
theorem d_Model_copyOffers_85 : decode b_Model_copyOffers 85 = .ok (.bastore, 1) := by decide +kernel
theorem d_Model_copyOffers_86 : decode b_Model_copyOffers 86 = .ok (.iconst 0, 1) := by decide +kernel
theorem d_Model_copyOffers_87 : decode b_Model_copyOffers 87 = .ok (.istore 5, 2) := by decide +kernel
theorem d_Model_copyOffers_89 : decode b_Model_copyOffers 89 = .ok (.iload 5, 2) := by decide +kernel
theorem d_Model_copyOffers_91 : decode b_Model_copyOffers 91 = .ok (.iconst 4, 1) := by decide +kernel
theorem d_Model_copyOffers_92 : decode b_Model_copyOffers 92 = .ok (.if_icmp .ge 32, 3) := by decide +kernel
theorem d_Model_copyOffers_95 : decode b_Model_copyOffers 95 = .ok (.aload_n 0, 1) := by decide +kernel
theorem d_Model_copyOffers_96 : decode b_Model_copyOffers 96 = .ok (.getfield 32, 3) := by decide +kernel
theorem d_Model_copyOffers_99 : decode b_Model_copyOffers 99 = .ok (.iconst 4, 1) := by decide +kernel
theorem d_Model_copyOffers_100 : decode b_Model_copyOffers 100 = .ok (.iload 4, 2) := by decide +kernel
theorem d_Model_copyOffers_102 : decode b_Model_copyOffers 102 = .ok (.imul, 1) := by decide +kernel
theorem d_Model_copyOffers_103 : decode b_Model_copyOffers 103 = .ok (.iload 5, 2) := by decide +kernel
theorem d_Model_copyOffers_105 : decode b_Model_copyOffers 105 = .ok (.iadd, 1) := by decide +kernel
theorem d_Model_copyOffers_106 : decode b_Model_copyOffers 106 = .ok (.aload_n 0, 1) := by decide +kernel
theorem d_Model_copyOffers_107 : decode b_Model_copyOffers 107 = .ok (.getfield 32, 3) := by decide +kernel
theorem d_Model_copyOffers_110 : decode b_Model_copyOffers 110 = .ok (.iconst 4, 1) := by decide +kernel
theorem d_Model_copyOffers_111 : decode b_Model_copyOffers 111 = .ok (.iload_n 3, 1) := by decide +kernel
theorem d_Model_copyOffers_112 : decode b_Model_copyOffers 112 = .ok (.imul, 1) := by decide +kernel
theorem d_Model_copyOffers_113 : decode b_Model_copyOffers 113 = .ok (.iload 5, 2) := by decide +kernel
theorem d_Model_copyOffers_115 : decode b_Model_copyOffers 115 = .ok (.iadd, 1) := by decide +kernel
theorem d_Model_copyOffers_116 : decode b_Model_copyOffers 116 = .ok (.iaload, 1) := by decide +kernel
theorem d_Model_copyOffers_117 : decode b_Model_copyOffers 117 = .ok (.iastore, 1) := by decide +kernel
theorem d_Model_copyOffers_118 : decode b_Model_copyOffers 118 = .ok (.iinc 5 1, 3) := by decide +kernel
theorem d_Model_copyOffers_121 : decode b_Model_copyOffers 121 = .ok (.goto (-32), 3) := by decide +kernel
theorem d_Model_copyOffers_124 : decode b_Model_copyOffers 124 = .ok (.iinc 2 1, 3) := by decide +kernel
theorem d_Model_copyOffers_127 : decode b_Model_copyOffers 127 = .ok (.goto (-125), 3) := by decide +kernel
theorem d_Model_copyOffers_130 : decode b_Model_copyOffers 130 = .ok (.return_, 1) := by decide +kernel
theorem d_Model_finish_0 : decode b_Model_finish 0 = .ok (.aload_n 0, 1) := by decide +kernel
theorem d_Model_finish_1 : decode b_Model_finish 1 = .ok (.aload_n 0, 1) := by decide +kernel
theorem d_Model_finish_2 : decode b_Model_finish 2 = .ok (.getfield 110, 3) := by decide +kernel
theorem d_Model_finish_5 : decode b_Model_finish 5 = .ok (.ifCond .ne 7, 3) := by decide +kernel
theorem d_Model_finish_8 : decode b_Model_finish 8 = .ok (.iconst 1, 1) := by decide +kernel
theorem d_Model_finish_9 : decode b_Model_finish 9 = .ok (.goto 4, 3) := by decide +kernel
theorem d_Model_finish_12 : decode b_Model_finish 12 = .ok (.iconst 0, 1) := by decide +kernel
theorem d_Model_finish_13 : decode b_Model_finish 13 = .ok (.putfield 101, 3) := by decide +kernel
theorem d_Model_finish_16 : decode b_Model_finish 16 = .ok (.aload_n 0, 1) := by decide +kernel
theorem d_Model_finish_17 : decode b_Model_finish 17 = .ok (.getfield 101, 3) := by decide +kernel
theorem d_Model_finish_20 : decode b_Model_finish 20 = .ok (.ifCond .eq 5, 3) := by decide +kernel
theorem d_Model_finish_23 : decode b_Model_finish 23 = .ok (.iconst 0, 1) := by decide +kernel
theorem d_Model_finish_24 : decode b_Model_finish 24 = .ok (.ireturn, 1) := by decide +kernel
theorem d_Model_finish_25 : decode b_Model_finish 25 = .ok (.aload_n 0, 1) := by decide +kernel
theorem d_Model_finish_26 : decode b_Model_finish 26 = .ok (.invokevirtual 196, 3) := by decide +kernel
theorem d_Model_finish_29 : decode b_Model_finish 29 = .ok (.aload_n 0, 1) := by decide +kernel
theorem d_Model_finish_30 : decode b_Model_finish 30 = .ok (.invokevirtual 203, 3) := by decide +kernel
theorem d_Model_finish_33 : decode b_Model_finish 33 = .ok (.istore_n 2, 1) := by decide +kernel
theorem d_Model_finish_34 : decode b_Model_finish 34 = .ok (.aload_n 0, 1) := by decide +kernel
theorem d_Model_finish_35 : decode b_Model_finish 35 = .ok (.iload_n 1, 1) := by decide +kernel
theorem d_Model_finish_36 : decode b_Model_finish 36 = .ok (.iload_n 2, 1) := by decide +kernel
theorem d_Model_finish_37 : decode b_Model_finish 37 = .ok (.if_icmp .ge 7, 3) := by decide +kernel
theorem d_Model_finish_40 : decode b_Model_finish 40 = .ok (.iconst 2, 1) := by decide +kernel
theorem d_Model_finish_41 : decode b_Model_finish 41 = .ok (.goto 17, 3) := by decide +kernel
theorem d_Model_finish_44 : decode b_Model_finish 44 = .ok (.aload_n 0, 1) := by decide +kernel
theorem d_Model_finish_45 : decode b_Model_finish 45 = .ok (.getfield 213, 3) := by decide +kernel
theorem d_Model_finish_48 : decode b_Model_finish 48 = .ok (.bipush 12, 2) := by decide +kernel
theorem d_Model_finish_50 : decode b_Model_finish 50 = .ok (.if_icmp .ne 7, 3) := by decide +kernel
theorem d_Model_finish_53 : decode b_Model_finish 53 = .ok (.iconst 3, 1) := by decide +kernel
theorem d_Model_finish_54 : decode b_Model_finish 54 = .ok (.goto 4, 3) := by decide +kernel
theorem d_Model_finish_57 : decode b_Model_finish 57 = .ok (.iconst 0, 1) := by decide +kernel
theorem d_Model_finish_58 : decode b_Model_finish 58 = .ok (.putfield 101, 3) := by decide +kernel
theorem d_Model_finish_61 : decode b_Model_finish 61 = .ok (.aload_n 0, 1) := by decide +kernel
theorem d_Model_finish_62 : decode b_Model_finish 62 = .ok (.getfield 101, 3) := by decide +kernel
theorem d_Model_finish_65 : decode b_Model_finish 65 = .ok (.ifCond .eq 5, 3) := by decide +kernel
theorem d_Model_finish_68 : decode b_Model_finish 68 = .ok (.iconst 0, 1) := by decide +kernel
theorem d_Model_finish_69 : decode b_Model_finish 69 = .ok (.ireturn, 1) := by decide +kernel
theorem d_Model_finish_70 : decode b_Model_finish 70 = .ok (.aload_n 0, 1) := by decide +kernel
theorem d_Model_finish_71 : decode b_Model_finish 71 = .ok (.invokevirtual 206, 3) := by decide +kernel
theorem d_Model_finish_74 : decode b_Model_finish 74 = .ok (.aload_n 0, 1) := by decide +kernel
theorem d_Model_finish_75 : decode b_Model_finish 75 = .ok (.getfield 213, 3) := by decide +kernel
theorem d_Model_finish_78 : decode b_Model_finish 78 = .ok (.istore_n 3, 1) := by decide +kernel
theorem d_Model_finish_79 : decode b_Model_finish 79 = .ok (.aload_n 0, 1) := by decide +kernel
theorem d_Model_finish_80 : decode b_Model_finish 80 = .ok (.dup, 1) := by decide +kernel
theorem d_Model_finish_81 : decode b_Model_finish 81 = .ok (.getfield 213, 3) := by decide +kernel
theorem d_Model_finish_84 : decode b_Model_finish 84 = .ok (.iconst 1, 1) := by decide +kernel
theorem d_Model_finish_85 : decode b_Model_finish 85 = .ok (.iadd, 1) := by decide +kernel
theorem d_Model_finish_86 : decode b_Model_finish 86 = .ok (.putfield 213, 3) := by decide +kernel
theorem d_Model_finish_89 : decode b_Model_finish 89 = .ok (.aload_n 0, 1) := by decide +kernel
theorem d_Model_finish_90 : decode b_Model_finish 90 = .ok (.iload_n 3, 1) := by decide +kernel
theorem d_Model_finish_91 : decode b_Model_finish 91 = .ok (.invokevirtual 216, 3) := by decide +kernel
theorem d_Model_finish_94 : decode b_Model_finish 94 = .ok (.aload_n 0, 1) := by decide +kernel
theorem d_Model_finish_95 : decode b_Model_finish 95 = .ok (.getfield 38, 3) := by decide +kernel
theorem d_Model_finish_98 : decode b_Model_finish 98 = .ok (.iload_n 3, 1) := by decide +kernel
theorem d_Model_finish_99 : decode b_Model_finish 99 = .ok (.aload_n 0, 1) := by decide +kernel
theorem d_Model_finish_100 : decode b_Model_finish 100 = .ok (.getfield 110, 3) := by decide +kernel
theorem d_Model_finish_103 : decode b_Model_finish 103 = .ok (.iastore, 1) := by decide +kernel
theorem d_Model_finish_104 : decode b_Model_finish 104 = .ok (.aload_n 0, 1) := by decide +kernel
theorem d_Model_finish_105 : decode b_Model_finish 105 = .ok (.getfield 41, 3) := by decide +kernel
theorem d_Model_finish_108 : decode b_Model_finish 108 = .ok (.iload_n 3, 1) := by decide +kernel
theorem d_Model_finish_109 : decode b_Model_finish 109 = .ok (.iload_n 2, 1) := by decide +kernel
theorem d_Model_finish_110 : decode b_Model_finish 110 = .ok (.iastore, 1) := by decide +kernel
theorem d_Model_finish_111 : decode b_Model_finish 111 = .ok (.aload_n 0, 1) := by decide +kernel
theorem d_Model_finish_112 : decode b_Model_finish 112 = .ok (.dup, 1) := by decide +kernel
theorem d_Model_finish_113 : decode b_Model_finish 113 = .ok (.getfield 219, 3) := by decide +kernel
theorem d_Model_finish_116 : decode b_Model_finish 116 = .ok (.iload_n 2, 1) := by decide +kernel
theorem d_Model_finish_117 : decode b_Model_finish 117 = .ok (.iadd, 1) := by decide +kernel
theorem d_Model_finish_118 : decode b_Model_finish 118 = .ok (.putfield 219, 3) := by decide +kernel
theorem d_Model_finish_121 : decode b_Model_finish 121 = .ok (.iconst 0, 1) := by decide +kernel
theorem d_Model_finish_122 : decode b_Model_finish 122 = .ok (.istore 4, 2) := by decide +kernel
theorem d_Model_finish_124 : decode b_Model_finish 124 = .ok (.iload 4, 2) := by decide +kernel
theorem d_Model_finish_126 : decode b_Model_finish 126 = .ok (.aload_n 0, 1) := by decide +kernel
theorem d_Model_finish_127 : decode b_Model_finish 127 = .ok (.getfield 110, 3) := by decide +kernel
theorem d_Model_finish_130 : decode b_Model_finish 130 = .ok (.if_icmp .ge 85, 3) := by decide +kernel
theorem d_Model_finish_133 : decode b_Model_finish 133 = .ok (.aload_n 0, 1) := by decide +kernel
theorem d_Model_finish_134 : decode b_Model_finish 134 = .ok (.getfield 47, 3) := by decide +kernel
theorem d_Model_finish_137 : decode b_Model_finish 137 = .ok (.bipush 10, 2) := by decide +kernel
theorem d_Model_finish_139 : decode b_Model_finish 139 = .ok (.iload_n 3, 1) := by decide +kernel
theorem d_Model_finish_140 : decode b_Model_finish 140 = .ok (.imul, 1) := by decide +kernel
theorem d_Model_finish_141 : decode b_Model_finish 141 = .ok (.iload 4, 2) := by decide +kernel
theorem d_Model_finish_143 : decode b_Model_finish 143 = .ok (.iadd, 1) := by decide +kernel
theorem d_Model_finish_144 : decode b_Model_finish 144 = .ok (.aload_n 0, 1) := by decide +kernel
theorem d_Model_finish_145 : decode b_Model_finish 145 = .ok (.getfield 35, 3) := by decide +kernel
theorem d_Model_finish_148 : decode b_Model_finish 148 = .ok (.iload 4, 2) := by decide +kernel
theorem d_Model_finish_150 : decode b_Model_finish 150 = .ok (.iaload, 1) := by decide +kernel
theorem d_Model_finish_151 : decode b_Model_finish 151 = .ok (.iastore, 1) := by decide +kernel
theorem d_Model_finish_152 : decode b_Model_finish 152 = .ok (.aload_n 0, 1) := by decide +kernel
theorem d_Model_finish_153 : decode b_Model_finish 153 = .ok (.getfield 50, 3) := by decide +kernel
theorem d_Model_finish_156 : decode b_Model_finish 156 = .ok (.bipush 10, 2) := by decide +kernel
theorem d_Model_finish_158 : decode b_Model_finish 158 = .ok (.iload_n 3, 1) := by decide +kernel
theorem d_Model_finish_159 : decode b_Model_finish 159 = .ok (.imul, 1) := by decide +kernel
theorem d_Model_finish_160 : decode b_Model_finish 160 = .ok (.iload 4, 2) := by decide +kernel
theorem d_Model_finish_162 : decode b_Model_finish 162 = .ok (.iadd, 1) := by decide +kernel
theorem d_Model_finish_163 : decode b_Model_finish 163 = .ok (.aload_n 0, 1) := by decide +kernel
theorem d_Model_finish_164 : decode b_Model_finish 164 = .ok (.getfield 65, 3) := by decide +kernel
theorem d_Model_finish_167 : decode b_Model_finish 167 = .ok (.iload 4, 2) := by decide +kernel
theorem d_Model_finish_169 : decode b_Model_finish 169 = .ok (.iaload, 1) := by decide +kernel
theorem d_Model_finish_170 : decode b_Model_finish 170 = .ok (.iastore, 1) := by decide +kernel
theorem d_Model_finish_171 : decode b_Model_finish 171 = .ok (.aload_n 0, 1) := by decide +kernel
theorem d_Model_finish_172 : decode b_Model_finish 172 = .ok (.getfield 53, 3) := by decide +kernel
theorem d_Model_finish_175 : decode b_Model_finish 175 = .ok (.bipush 10, 2) := by decide +kernel
theorem d_Model_finish_177 : decode b_Model_finish 177 = .ok (.iload_n 3, 1) := by decide +kernel
theorem d_Model_finish_178 : decode b_Model_finish 178 = .ok (.imul, 1) := by decide +kernel
theorem d_Model_finish_179 : decode b_Model_finish 179 = .ok (.iload 4, 2) := by decide +kernel
theorem d_Model_finish_181 : decode b_Model_finish 181 = .ok (.iadd, 1) := by decide +kernel
theorem d_Model_finish_182 : decode b_Model_finish 182 = .ok (.aload_n 0, 1) := by decide +kernel
theorem d_Model_finish_183 : decode b_Model_finish 183 = .ok (.getfield 89, 3) := by decide +kernel
theorem d_Model_finish_186 : decode b_Model_finish 186 = .ok (.iload 4, 2) := by decide +kernel
theorem d_Model_finish_188 : decode b_Model_finish 188 = .ok (.iaload, 1) := by decide +kernel
theorem d_Model_finish_189 : decode b_Model_finish 189 = .ok (.iastore, 1) := by decide +kernel
theorem d_Model_finish_190 : decode b_Model_finish 190 = .ok (.aload_n 0, 1) := by decide +kernel
theorem d_Model_finish_191 : decode b_Model_finish 191 = .ok (.getfield 56, 3) := by decide +kernel
theorem d_Model_finish_194 : decode b_Model_finish 194 = .ok (.bipush 10, 2) := by decide +kernel
theorem d_Model_finish_196 : decode b_Model_finish 196 = .ok (.iload_n 3, 1) := by decide +kernel
theorem d_Model_finish_197 : decode b_Model_finish 197 = .ok (.imul, 1) := by decide +kernel
theorem d_Model_finish_198 : decode b_Model_finish 198 = .ok (.iload 4, 2) := by decide +kernel
theorem d_Model_finish_200 : decode b_Model_finish 200 = .ok (.iadd, 1) := by decide +kernel
theorem d_Model_finish_201 : decode b_Model_finish 201 = .ok (.aload_n 0, 1) := by decide +kernel
theorem d_Model_finish_202 : decode b_Model_finish 202 = .ok (.getfield 95, 3) := by decide +kernel
theorem d_Model_finish_205 : decode b_Model_finish 205 = .ok (.iload 4, 2) := by decide +kernel
theorem d_Model_finish_207 : decode b_Model_finish 207 = .ok (.iaload, 1) := by decide +kernel
theorem d_Model_finish_208 : decode b_Model_finish 208 = .ok (.iastore, 1) := by decide +kernel
theorem d_Model_finish_209 : decode b_Model_finish 209 = .ok (.iinc 4 1, 3) := by decide +kernel
theorem d_Model_finish_212 : decode b_Model_finish 212 = .ok (.goto (-88), 3) := by decide +kernel
theorem d_Model_finish_215 : decode b_Model_finish 215 = .ok (.aload_n 0, 1) := by decide +kernel
theorem d_Model_finish_216 : decode b_Model_finish 216 = .ok (.iconst 0, 1) := by decide +kernel
theorem d_Model_finish_217 : decode b_Model_finish 217 = .ok (.putfield 110, 3) := by decide +kernel
theorem d_Model_finish_220 : decode b_Model_finish 220 = .ok (.iload_n 1, 1) := by decide +kernel
theorem d_Model_finish_221 : decode b_Model_finish 221 = .ok (.iload_n 2, 1) := by decide +kernel
theorem d_Model_finish_222 : decode b_Model_finish 222 = .ok (.isub, 1) := by decide +kernel
theorem d_Model_finish_223 : decode b_Model_finish 223 = .ok (.ireturn, 1) := by decide +kernel
theorem d_Model_isLine_0 : decode b_Model_isLine 0 = .ok (.iload_n 1, 1) := by decide +kernel
theorem d_Model_isLine_1 : decode b_Model_isLine 1 = .ok (.iconst 0, 1) := by decide +kernel
theorem d_Model_isLine_2 : decode b_Model_isLine 2 = .ok (.aload_n 0, 1) := by decide +kernel
theorem d_Model_isLine_3 : decode b_Model_isLine 3 = .ok (.getfield 213, 3) := by decide +kernel
theorem d_Model_isLine_6 : decode b_Model_isLine 6 = .ok (.iconst 1, 1) := by decide +kernel
theorem d_Model_isLine_7 : decode b_Model_isLine 7 = .ok (.isub, 1) := by decide +kernel
theorem d_Model_isLine_8 : decode b_Model_isLine 8 = .ok (.invokestatic 105, 3) := by decide +kernel
theorem d_Model_isLine_11 : decode b_Model_isLine 11 = .ok (.ifCond .eq 23, 3) := by decide +kernel
theorem d_Model_isLine_14 : decode b_Model_isLine 14 = .ok (.iload_n 2, 1) := by decide +kernel
theorem d_Model_isLine_15 : decode b_Model_isLine 15 = .ok (.iconst 0, 1) := by decide +kernel
theorem d_Model_isLine_16 : decode b_Model_isLine 16 = .ok (.aload_n 0, 1) := by decide +kernel
theorem d_Model_isLine_17 : decode b_Model_isLine 17 = .ok (.getfield 38, 3) := by decide +kernel
theorem d_Model_isLine_20 : decode b_Model_isLine 20 = .ok (.iload_n 1, 1) := by decide +kernel
theorem d_Model_isLine_21 : decode b_Model_isLine 21 = .ok (.iaload, 1) := by decide +kernel
theorem d_Model_isLine_22 : decode b_Model_isLine 22 = .ok (.iconst 1, 1) := by decide +kernel
theorem d_Model_isLine_23 : decode b_Model_isLine 23 = .ok (.isub, 1) := by decide +kernel
theorem d_Model_isLine_24 : decode b_Model_isLine 24 = .ok (.invokestatic 105, 3) := by decide +kernel
theorem d_Model_isLine_27 : decode b_Model_isLine 27 = .ok (.ifCond .eq 7, 3) := by decide +kernel
theorem d_Model_isLine_30 : decode b_Model_isLine 30 = .ok (.iconst 1, 1) := by decide +kernel
theorem d_Model_isLine_31 : decode b_Model_isLine 31 = .ok (.goto 4, 3) := by decide +kernel
theorem d_Model_isLine_34 : decode b_Model_isLine 34 = .ok (.iconst 0, 1) := by decide +kernel
theorem d_Model_isLine_35 : decode b_Model_isLine 35 = .ok (.ireturn, 1) := by decide +kernel
theorem d_Model_giveBack_0 : decode b_Model_giveBack 0 = .ok (.aload_n 0, 1) := by decide +kernel
theorem d_Model_giveBack_1 : decode b_Model_giveBack 1 = .ok (.aload_n 0, 1) := by decide +kernel
theorem d_Model_giveBack_2 : decode b_Model_giveBack 2 = .ok (.iload_n 1, 1) := by decide +kernel
theorem d_Model_giveBack_3 : decode b_Model_giveBack 3 = .ok (.iload_n 2, 1) := by decide +kernel
theorem d_Model_giveBack_4 : decode b_Model_giveBack 4 = .ok (.invokevirtual 222, 3) := by decide +kernel
theorem d_Model_giveBack_7 : decode b_Model_giveBack 7 = .ok (.ifCond .ne 7, 3) := by decide +kernel
theorem d_Model_giveBack_10 : decode b_Model_giveBack 10 = .ok (.iconst 1, 1) := by decide +kernel
theorem d_Model_giveBack_11 : decode b_Model_giveBack 11 = .ok (.goto 22, 3) := by decide +kernel
theorem d_Model_giveBack_14 : decode b_Model_giveBack 14 = .ok (.aload_n 0, 1) := by decide +kernel
theorem d_Model_giveBack_15 : decode b_Model_giveBack 15 = .ok (.getfield 59, 3) := by decide +kernel
theorem d_Model_giveBack_18 : decode b_Model_giveBack 18 = .ok (.bipush 10, 2) := by decide +kernel
theorem d_Model_giveBack_20 : decode b_Model_giveBack 20 = .ok (.iload_n 1, 1) := by decide +kernel
theorem d_Model_giveBack_21 : decode b_Model_giveBack 21 = .ok (.imul, 1) := by decide +kernel
theorem d_Model_giveBack_22 : decode b_Model_giveBack 22 = .ok (.iload_n 2, 1) := by decide +kernel
theorem d_Model_giveBack_23 : decode b_Model_giveBack 23 = .ok (.iadd, 1) := by decide +kernel
theorem d_Model_giveBack_24 : decode b_Model_giveBack 24 = .ok (.baload, 1) := by decide +kernel
theorem d_Model_giveBack_25 : decode b_Model_giveBack 25 = .ok (.ifCond .eq 7, 3) := by decide +kernel
theorem d_Model_giveBack_28 : decode b_Model_giveBack 28 = .ok (.iconst 2, 1) := by decide +kernel
theorem d_Model_giveBack_29 : decode b_Model_giveBack 29 = .ok (.goto 4, 3) := by decide +kernel
theorem d_Model_giveBack_32 : decode b_Model_giveBack 32 = .ok (.iconst 0, 1) := by decide +kernel
theorem d_Model_giveBack_33 : decode b_Model_giveBack 33 = .ok (.putfield 101, 3) := by decide +kernel
theorem d_Model_giveBack_36 : decode b_Model_giveBack 36 = .ok (.aload_n 0, 1) := by decide +kernel
theorem d_Model_giveBack_37 : decode b_Model_giveBack 37 = .ok (.getfield 101, 3) := by decide +kernel
theorem d_Model_giveBack_40 : decode b_Model_giveBack 40 = .ok (.ifCond .eq 5, 3) := by decide +kernel
theorem d_Model_giveBack_43 : decode b_Model_giveBack 43 = .ok (.iconst 0, 1) := by decide +kernel
theorem d_Model_giveBack_44 : decode b_Model_giveBack 44 = .ok (.ireturn, 1) := by decide +kernel
theorem d_Model_giveBack_45 : decode b_Model_giveBack 45 = .ok (.aload_n 0, 1) := by decide +kernel
theorem d_Model_giveBack_46 : decode b_Model_giveBack 46 = .ok (.getfield 59, 3) := by decide +kernel
theorem d_Model_giveBack_49 : decode b_Model_giveBack 49 = .ok (.bipush 10, 2) := by decide +kernel
theorem d_Model_giveBack_51 : decode b_Model_giveBack 51 = .ok (.iload_n 1, 1) := by decide +kernel
theorem d_Model_giveBack_52 : decode b_Model_giveBack 52 = .ok (.imul, 1) := by decide +kernel
theorem d_Model_giveBack_53 : decode b_Model_giveBack 53 = .ok (.iload_n 2, 1) := by decide +kernel
theorem d_Model_giveBack_54 : decode b_Model_giveBack 54 = .ok (.iadd, 1) := by decide +kernel
theorem d_Model_giveBack_55 : decode b_Model_giveBack 55 = .ok (.iconst 1, 1) := by decide +kernel
theorem d_Model_giveBack_56 : decode b_Model_giveBack 56 = .ok (.bastore, 1) := by decide +kernel
theorem d_Model_giveBack_57 : decode b_Model_giveBack 57 = .ok (.aload_n 0, 1) := by decide +kernel
theorem d_Model_giveBack_58 : decode b_Model_giveBack 58 = .ok (.iload_n 1, 1) := by decide +kernel
theorem d_Model_giveBack_59 : decode b_Model_giveBack 59 = .ok (.putfield 122, 3) := by decide +kernel
theorem d_Model_giveBack_62 : decode b_Model_giveBack 62 = .ok (.aload_n 0, 1) := by decide +kernel
theorem d_Model_giveBack_63 : decode b_Model_giveBack 63 = .ok (.iconst 0, 1) := by decide +kernel
theorem d_Model_giveBack_64 : decode b_Model_giveBack 64 = .ok (.putfield 141, 3) := by decide +kernel
theorem d_Model_giveBack_67 : decode b_Model_giveBack 67 = .ok (.iconst 0, 1) := by decide +kernel
theorem d_Model_giveBack_68 : decode b_Model_giveBack 68 = .ok (.istore_n 3, 1) := by decide +kernel
theorem d_Model_giveBack_69 : decode b_Model_giveBack 69 = .ok (.iload_n 3, 1) := by decide +kernel
theorem d_Model_giveBack_70 : decode b_Model_giveBack 70 = .ok (.aload_n 0, 1) := by decide +kernel
theorem d_Model_giveBack_71 : decode b_Model_giveBack 71 = .ok (.getfield 38, 3) := by decide +kernel
theorem d_Model_giveBack_74 : decode b_Model_giveBack 74 = .ok (.iload_n 1, 1) := by decide +kernel
theorem d_Model_giveBack_75 : decode b_Model_giveBack 75 = .ok (.iaload, 1) := by decide +kernel
theorem d_Model_giveBack_76 : decode b_Model_giveBack 76 = .ok (.if_icmp .ge 73, 3) := by decide +kernel
theorem d_Model_giveBack_79 : decode b_Model_giveBack 79 = .ok (.aload_n 0, 1) := by decide +kernel
theorem d_Model_giveBack_80 : decode b_Model_giveBack 80 = .ok (.getfield 59, 3) := by decide +kernel
theorem d_Model_giveBack_83 : decode b_Model_giveBack 83 = .ok (.bipush 10, 2) := by decide +kernel
theorem d_Model_giveBack_85 : decode b_Model_giveBack 85 = .ok (.iload_n 1, 1) := by decide +kernel
theorem d_Model_giveBack_86 : decode b_Model_giveBack 86 = .ok (.imul, 1) := by decide +kernel
theorem d_Model_giveBack_87 : decode b_Model_giveBack 87 = .ok (.iload_n 3, 1) := by decide +kernel
theorem d_Model_giveBack_88 : decode b_Model_giveBack 88 = .ok (.iadd, 1) := by decide +kernel
theorem d_Model_giveBack_89 : decode b_Model_giveBack 89 = .ok (.baload, 1) := by decide +kernel
theorem d_Model_giveBack_90 : decode b_Model_giveBack 90 = .ok (.ifCond .ne 53, 3) := by decide +kernel
theorem d_Model_giveBack_93 : decode b_Model_giveBack 93 = .ok (.aload_n 0, 1) := by decide +kernel
theorem d_Model_giveBack_94 : decode b_Model_giveBack 94 = .ok (.getfield 62, 3) := by decide +kernel
theorem d_Model_giveBack_97 : decode b_Model_giveBack 97 = .ok (.aload_n 0, 1) := by decide +kernel
theorem d_Model_giveBack_98 : decode b_Model_giveBack 98 = .ok (.getfield 141, 3) := by decide +kernel
theorem d_Model_giveBack_101 : decode b_Model_giveBack 101 = .ok (.aload_n 0, 1) := by decide +kernel
theorem d_Model_giveBack_102 : decode b_Model_giveBack 102 = .ok (.getfield 47, 3) := by decide +kernel
theorem d_Model_giveBack_105 : decode b_Model_giveBack 105 = .ok (.bipush 10, 2) := by decide +kernel
theorem d_Model_giveBack_107 : decode b_Model_giveBack 107 = .ok (.iload_n 1, 1) := by decide +kernel
theorem d_Model_giveBack_108 : decode b_Model_giveBack 108 = .ok (.imul, 1) := by decide +kernel
theorem d_Model_giveBack_109 : decode b_Model_giveBack 109 = .ok (.iload_n 3, 1) := by decide +kernel
theorem d_Model_giveBack_110 : decode b_Model_giveBack 110 = .ok (.iadd, 1) := by decide +kernel
theorem d_Model_giveBack_111 : decode b_Model_giveBack 111 = .ok (.iaload, 1) := by decide +kernel
theorem d_Model_giveBack_112 : decode b_Model_giveBack 112 = .ok (.iastore, 1) := by decide +kernel
theorem d_Model_giveBack_113 : decode b_Model_giveBack 113 = .ok (.aload_n 0, 1) := by decide +kernel
theorem d_Model_giveBack_114 : decode b_Model_giveBack 114 = .ok (.getfield 65, 3) := by decide +kernel
theorem d_Model_giveBack_117 : decode b_Model_giveBack 117 = .ok (.aload_n 0, 1) := by decide +kernel
theorem d_Model_giveBack_118 : decode b_Model_giveBack 118 = .ok (.getfield 141, 3) := by decide +kernel
theorem d_Model_giveBack_121 : decode b_Model_giveBack 121 = .ok (.aload_n 0, 1) := by decide +kernel
theorem d_Model_giveBack_122 : decode b_Model_giveBack 122 = .ok (.getfield 50, 3) := by decide +kernel
theorem d_Model_giveBack_125 : decode b_Model_giveBack 125 = .ok (.bipush 10, 2) := by decide +kernel
theorem d_Model_giveBack_127 : decode b_Model_giveBack 127 = .ok (.iload_n 1, 1) := by decide +kernel
theorem d_Model_giveBack_128 : decode b_Model_giveBack 128 = .ok (.imul, 1) := by decide +kernel
theorem d_Model_giveBack_129 : decode b_Model_giveBack 129 = .ok (.iload_n 3, 1) := by decide +kernel
theorem d_Model_giveBack_130 : decode b_Model_giveBack 130 = .ok (.iadd, 1) := by decide +kernel
theorem d_Model_giveBack_131 : decode b_Model_giveBack 131 = .ok (.iaload, 1) := by decide +kernel
theorem d_Model_giveBack_132 : decode b_Model_giveBack 132 = .ok (.iastore, 1) := by decide +kernel
theorem d_Model_giveBack_133 : decode b_Model_giveBack 133 = .ok (.aload_n 0, 1) := by decide +kernel
theorem d_Model_giveBack_134 : decode b_Model_giveBack 134 = .ok (.dup, 1) := by decide +kernel
theorem d_Model_giveBack_135 : decode b_Model_giveBack 135 = .ok (.getfield 141, 3) := by decide +kernel
theorem d_Model_giveBack_138 : decode b_Model_giveBack 138 = .ok (.iconst 1, 1) := by decide +kernel
theorem d_Model_giveBack_139 : decode b_Model_giveBack 139 = .ok (.iadd, 1) := by decide +kernel
theorem d_Model_giveBack_140 : decode b_Model_giveBack 140 = .ok (.putfield 141, 3) := by decide +kernel
theorem d_Model_giveBack_143 : decode b_Model_giveBack 143 = .ok (.iinc 3 1, 3) := by decide +kernel
theorem d_Model_giveBack_146 : decode b_Model_giveBack 146 = .ok (.goto (-77), 3) := by decide +kernel
theorem d_Model_giveBack_149 : decode b_Model_giveBack 149 = .ok (.aload_n 0, 1) := by decide +kernel
theorem d_Model_giveBack_150 : decode b_Model_giveBack 150 = .ok (.getfield 41, 3) := by decide +kernel
theorem d_Model_giveBack_153 : decode b_Model_giveBack 153 = .ok (.iload_n 1, 1) := by decide +kernel
theorem d_Model_giveBack_154 : decode b_Model_giveBack 154 = .ok (.iaload, 1) := by decide +kernel
theorem d_Model_giveBack_155 : decode b_Model_giveBack 155 = .ok (.aload_n 0, 1) := by decide +kernel
theorem d_Model_giveBack_156 : decode b_Model_giveBack 156 = .ok (.invokevirtual 203, 3) := by decide +kernel
theorem d_Model_giveBack_159 : decode b_Model_giveBack 159 = .ok (.isub, 1) := by decide +kernel
theorem d_Model_giveBack_160 : decode b_Model_giveBack 160 = .ok (.istore_n 3, 1) := by decide +kernel
theorem d_Model_giveBack_161 : decode b_Model_giveBack 161 = .ok (.iload_n 3, 1) := by decide +kernel
theorem d_Model_giveBack_162 : decode b_Model_giveBack 162 = .ok (.aload_n 0, 1) := by decide +kernel
theorem d_Model_giveBack_163 : decode b_Model_giveBack 163 = .ok (.getfield 44, 3) := by decide +kernel
theorem d_Model_giveBack_166 : decode b_Model_giveBack 166 = .ok (.iload_n 1, 1) := by decide +kernel
theorem d_Model_giveBack_167 : decode b_Model_giveBack 167 = .ok (.iaload, 1) := by decide +kernel
theorem d_Model_giveBack_168 : decode b_Model_giveBack 168 = .ok (.if_icmp .le 14, 3) := by decide +kernel
theorem d_Model_giveBack_171 : decode b_Model_giveBack 171 = .ok (.iload_n 3, 1) := by decide +kernel
theorem d_Model_giveBack_172 : decode b_Model_giveBack 172 = .ok (.aload_n 0, 1) := by decide +kernel
theorem d_Model_giveBack_173 : decode b_Model_giveBack 173 = .ok (.getfield 44, 3) := by decide +kernel
theorem d_Model_giveBack_176 : decode b_Model_giveBack 176 = .ok (.iload_n 1, 1) := by decide +kernel
theorem d_Model_giveBack_177 : decode b_Model_giveBack 177 = .ok (.iaload, 1) := by decide +kernel
theorem d_Model_giveBack_178 : decode b_Model_giveBack 178 = .ok (.isub, 1) := by decide +kernel
theorem d_Model_giveBack_179 : decode b_Model_giveBack 179 = .ok (.goto 4, 3) := by decide +kernel
theorem d_Model_giveBack_182 : decode b_Model_giveBack 182 = .ok (.iconst 0, 1) := by decide +kernel
theorem d_Model_giveBack_183 : decode b_Model_giveBack 183 = .ok (.istore 4, 2) := by decide +kernel
theorem d_Model_giveBack_185 : decode b_Model_giveBack 185 = .ok (.aload_n 0, 1) := by decide +kernel
theorem d_Model_giveBack_186 : decode b_Model_giveBack 186 = .ok (.getfield 44, 3) := by decide +kernel
theorem d_Model_giveBack_189 : decode b_Model_giveBack 189 = .ok (.iload_n 1, 1) := by decide +kernel
theorem d_Model_giveBack_190 : decode b_Model_giveBack 190 = .ok (.dup2, 1) := by decide +kernel
theorem d_Model_giveBack_191 : decode b_Model_giveBack 191 = .ok (.iaload, 1) := by decide +kernel
theorem d_Model_giveBack_192 : decode b_Model_giveBack 192 = .ok (.iload 4, 2) := by decide +kernel
theorem d_Model_giveBack_194 : decode b_Model_giveBack 194 = .ok (.iadd, 1) := by decide +kernel
theorem d_Model_giveBack_195 : decode b_Model_giveBack 195 = .ok (.iastore, 1) := by decide +kernel
theorem d_Model_giveBack_196 : decode b_Model_giveBack 196 = .ok (.aload_n 0, 1) := by decide +kernel
theorem d_Model_giveBack_197 : decode b_Model_giveBack 197 = .ok (.dup, 1) := by decide +kernel
theorem d_Model_giveBack_198 : decode b_Model_giveBack 198 = .ok (.getfield 219, 3) := by decide +kernel
theorem d_Model_giveBack_201 : decode b_Model_giveBack 201 = .ok (.iload 4, 2) := by decide +kernel
theorem d_Model_giveBack_203 : decode b_Model_giveBack 203 = .ok (.isub, 1) := by decide +kernel
theorem d_Model_giveBack_204 : decode b_Model_giveBack 204 = .ok (.putfield 219, 3) := by decide +kernel
theorem d_Model_giveBack_207 : decode b_Model_giveBack 207 = .ok (.iload 4, 2) := by decide +kernel
theorem d_Model_giveBack_209 : decode b_Model_giveBack 209 = .ok (.ireturn, 1) := by decide +kernel
theorem d_Model_receipt_0 : decode b_Model_receipt 0 = .ok (.aload_n 0, 1) := by decide +kernel
theorem d_Model_receipt_1 : decode b_Model_receipt 1 = .ok (.iload_n 2, 1) := by decide +kernel
theorem d_Model_receipt_2 : decode b_Model_receipt 2 = .ok (.iconst 0, 1) := by decide +kernel
theorem d_Model_receipt_3 : decode b_Model_receipt 3 = .ok (.iconst 5, 1) := by decide +kernel
theorem d_Model_receipt_4 : decode b_Model_receipt 4 = .ok (.invokestatic 105, 3) := by decide +kernel
theorem d_Model_receipt_7 : decode b_Model_receipt 7 = .ok (.ifCond .ne 7, 3) := by decide +kernel
theorem d_Model_receipt_10 : decode b_Model_receipt 10 = .ok (.iconst 1, 1) := by decide +kernel
theorem d_Model_receipt_11 : decode b_Model_receipt 11 = .ok (.goto 27, 3) := by decide +kernel
theorem d_Model_receipt_14 : decode b_Model_receipt 14 = .ok (.iload_n 2, 1) := by decide +kernel
theorem d_Model_receipt_15 : decode b_Model_receipt 15 = .ok (.iconst 4, 1) := by decide +kernel
theorem d_Model_receipt_16 : decode b_Model_receipt 16 = .ok (.if_icmp .ge 21, 3) := by decide +kernel
theorem d_Model_receipt_19 : decode b_Model_receipt 19 = .ok (.iload_n 1, 1) := by decide +kernel
theorem d_Model_receipt_20 : decode b_Model_receipt 20 = .ok (.iconst 0, 1) := by decide +kernel
theorem d_Model_receipt_21 : decode b_Model_receipt 21 = .ok (.aload_n 0, 1) := by decide +kernel
theorem d_Model_receipt_22 : decode b_Model_receipt 22 = .ok (.getfield 213, 3) := by decide +kernel
theorem d_Model_receipt_25 : decode b_Model_receipt 25 = .ok (.iconst 1, 1) := by decide +kernel
theorem d_Model_receipt_26 : decode b_Model_receipt 26 = .ok (.isub, 1) := by decide +kernel
theorem d_Model_receipt_27 : decode b_Model_receipt 27 = .ok (.invokestatic 105, 3) := by decide +kernel
theorem d_Model_receipt_30 : decode b_Model_receipt 30 = .ok (.ifCond .ne 7, 3) := by decide +kernel
theorem d_Model_receipt_33 : decode b_Model_receipt 33 = .ok (.iconst 2, 1) := by decide +kernel
theorem d_Model_receipt_34 : decode b_Model_receipt 34 = .ok (.goto 4, 3) := by decide +kernel
theorem d_Model_receipt_37 : decode b_Model_receipt 37 = .ok (.iconst 0, 1) := by decide +kernel
theorem d_Model_receipt_38 : decode b_Model_receipt 38 = .ok (.putfield 101, 3) := by decide +kernel
theorem d_Model_receipt_41 : decode b_Model_receipt 41 = .ok (.aload_n 0, 1) := by decide +kernel
theorem d_Model_receipt_42 : decode b_Model_receipt 42 = .ok (.getfield 101, 3) := by decide +kernel
theorem d_Model_receipt_45 : decode b_Model_receipt 45 = .ok (.ifCond .eq 5, 3) := by decide +kernel
theorem d_Model_receipt_48 : decode b_Model_receipt 48 = .ok (.iconst 0, 1) := by decide +kernel
theorem d_Model_receipt_49 : decode b_Model_receipt 49 = .ok (.ireturn, 1) := by decide +kernel
theorem d_Model_receipt_50 : decode b_Model_receipt 50 = .ok (.iload_n 2, 1) := by decide +kernel
theorem d_Model_receipt_51 : decode b_Model_receipt 51 = .ok (.iconst 4, 1) := by decide +kernel
theorem d_Model_receipt_52 : decode b_Model_receipt 52 = .ok (.if_icmp .ne 8, 3) := by decide +kernel
theorem d_Model_receipt_55 : decode b_Model_receipt 55 = .ok (.aload_n 0, 1) := by decide +kernel
theorem d_Model_receipt_56 : decode b_Model_receipt 56 = .ok (.getfield 213, 3) := by decide +kernel
theorem d_Model_receipt_59 : decode b_Model_receipt 59 = .ok (.ireturn, 1) := by decide +kernel
theorem d_Model_receipt_60 : decode b_Model_receipt 60 = .ok (.iload_n 2, 1) := by decide +kernel
theorem d_Model_receipt_61 : decode b_Model_receipt 61 = .ok (.iconst 5, 1) := by decide +kernel
theorem d_Model_receipt_62 : decode b_Model_receipt 62 = .ok (.if_icmp .ne 8, 3) := by decide +kernel
theorem d_Model_receipt_65 : decode b_Model_receipt 65 = .ok (.aload_n 0, 1) := by decide +kernel
theorem d_Model_receipt_66 : decode b_Model_receipt 66 = .ok (.getfield 219, 3) := by decide +kernel
theorem d_Model_receipt_69 : decode b_Model_receipt 69 = .ok (.ireturn, 1) := by decide +kernel
theorem d_Model_receipt_70 : decode b_Model_receipt 70 = .ok (.iconst 0, 1) := by decide +kernel
theorem d_Model_receipt_71 : decode b_Model_receipt 71 = .ok (.istore_n 3, 1) := by decide +kernel
theorem d_Model_receipt_72 : decode b_Model_receipt 72 = .ok (.iconst 0, 1) := by decide +kernel
theorem d_Model_receipt_73 : decode b_Model_receipt 73 = .ok (.istore 4, 2) := by decide +kernel
theorem d_Model_receipt_75 : decode b_Model_receipt 75 = .ok (.iload 4, 2) := by decide +kernel
theorem d_Model_receipt_77 : decode b_Model_receipt 77 = .ok (.aload_n 0, 1) := by decide +kernel
theorem d_Model_receipt_78 : decode b_Model_receipt 78 = .ok (.getfield 38, 3) := by decide +kernel
theorem d_Model_receipt_81 : decode b_Model_receipt 81 = .ok (.iload_n 1, 1) := by decide +kernel
theorem d_Model_receipt_82 : decode b_Model_receipt 82 = .ok (.iaload, 1) := by decide +kernel
theorem d_Model_receipt_83 : decode b_Model_receipt 83 = .ok (.if_icmp .ge 27, 3) := by decide +kernel
theorem d_Model_receipt_86 : decode b_Model_receipt 86 = .ok (.aload_n 0, 1) := by decide +kernel
theorem d_Model_receipt_87 : decode b_Model_receipt 87 = .ok (.getfield 59, 3) := by decide +kernel
theorem d_Model_receipt_90 : decode b_Model_receipt 90 = .ok (.bipush 10, 2) := by decide +kernel
theorem d_Model_receipt_92 : decode b_Model_receipt 92 = .ok (.iload_n 1, 1) := by decide +kernel
theorem d_Model_receipt_93 : decode b_Model_receipt 93 = .ok (.imul, 1) := by decide +kernel
theorem d_Model_receipt_94 : decode b_Model_receipt 94 = .ok (.iload 4, 2) := by decide +kernel
theorem d_Model_receipt_96 : decode b_Model_receipt 96 = .ok (.iadd, 1) := by decide +kernel
theorem d_Model_receipt_97 : decode b_Model_receipt 97 = .ok (.baload, 1) := by decide +kernel
theorem d_Model_receipt_98 : decode b_Model_receipt 98 = .ok (.ifCond .ne 6, 3) := by decide +kernel
theorem d_Model_receipt_101 : decode b_Model_receipt 101 = .ok (.iinc 3 1, 3) := by decide +kernel
theorem d_Model_receipt_104 : decode b_Model_receipt 104 = .ok (.iinc 4 1, 3) := by decide +kernel
theorem d_Model_receipt_107 : decode b_Model_receipt 107 = .ok (.goto (-32), 3) := by decide +kernel
theorem d_Model_receipt_110 : decode b_Model_receipt 110 = .ok (.iload_n 2, 1) := by decide +kernel
theorem d_Model_receipt_111 : decode b_Model_receipt 111 = .ok (.ifCond .ne 12, 3) := by decide +kernel
theorem d_Model_receipt_114 : decode b_Model_receipt 114 = .ok (.aload_n 0, 1) := by decide +kernel
theorem d_Model_receipt_115 : decode b_Model_receipt 115 = .ok (.getfield 41, 3) := by decide +kernel
theorem d_Model_receipt_118 : decode b_Model_receipt 118 = .ok (.iload_n 1, 1) := by decide +kernel
theorem d_Model_receipt_119 : decode b_Model_receipt 119 = .ok (.iaload, 1) := by decide +kernel
theorem d_Model_receipt_120 : decode b_Model_receipt 120 = .ok (.goto 32, 3) := by decide +kernel
theorem d_Model_receipt_123 : decode b_Model_receipt 123 = .ok (.iload_n 2, 1) := by decide +kernel
theorem d_Model_receipt_124 : decode b_Model_receipt 124 = .ok (.iconst 1, 1) := by decide +kernel
theorem d_Model_receipt_125 : decode b_Model_receipt 125 = .ok (.if_icmp .ne 12, 3) := by decide +kernel
theorem d_Model_receipt_128 : decode b_Model_receipt 128 = .ok (.aload_n 0, 1) := by decide +kernel
theorem d_Model_receipt_129 : decode b_Model_receipt 129 = .ok (.getfield 44, 3) := by decide +kernel
theorem d_Model_receipt_132 : decode b_Model_receipt 132 = .ok (.iload_n 1, 1) := by decide +kernel
theorem d_Model_receipt_133 : decode b_Model_receipt 133 = .ok (.iaload, 1) := by decide +kernel
theorem d_Model_receipt_134 : decode b_Model_receipt 134 = .ok (.goto 18, 3) := by decide +kernel
theorem d_Model_receipt_137 : decode b_Model_receipt 137 = .ok (.iload_n 2, 1) := by decide +kernel
theorem d_Model_receipt_138 : decode b_Model_receipt 138 = .ok (.iconst 2, 1) := by decide +kernel
theorem d_Model_receipt_139 : decode b_Model_receipt 139 = .ok (.if_icmp .ne 12, 3) := by decide +kernel
theorem d_Model_receipt_142 : decode b_Model_receipt 142 = .ok (.aload_n 0, 1) := by decide +kernel
theorem d_Model_receipt_143 : decode b_Model_receipt 143 = .ok (.getfield 38, 3) := by decide +kernel
theorem d_Model_receipt_146 : decode b_Model_receipt 146 = .ok (.iload_n 1, 1) := by decide +kernel
theorem d_Model_receipt_147 : decode b_Model_receipt 147 = .ok (.iaload, 1) := by decide +kernel
theorem d_Model_receipt_148 : decode b_Model_receipt 148 = .ok (.goto 4, 3) := by decide +kernel
theorem d_Model_receipt_151 : decode b_Model_receipt 151 = .ok (.iload_n 3, 1) := by decide +kernel
theorem d_Model_receipt_152 : decode b_Model_receipt 152 = .ok (.ireturn, 1) := by decide +kernel
theorem d_Model_line_0 : decode b_Model_line 0 = .ok (.aload_n 0, 1) := by decide +kernel
theorem d_Model_line_1 : decode b_Model_line 1 = .ok (.aload_n 0, 1) := by decide +kernel
theorem d_Model_line_2 : decode b_Model_line 2 = .ok (.iload_n 1, 1) := by decide +kernel
theorem d_Model_line_3 : decode b_Model_line 3 = .ok (.iload_n 2, 1) := by decide +kernel
theorem d_Model_line_4 : decode b_Model_line 4 = .ok (.invokevirtual 222, 3) := by decide +kernel
theorem d_Model_line_7 : decode b_Model_line 7 = .ok (.ifCond .ne 7, 3) := by decide +kernel
theorem d_Model_line_10 : decode b_Model_line 10 = .ok (.iconst 1, 1) := by decide +kernel
theorem d_Model_line_11 : decode b_Model_line 11 = .ok (.goto 17, 3) := by decide +kernel
theorem d_Model_line_14 : decode b_Model_line 14 = .ok (.iload_n 3, 1) := by decide +kernel
theorem d_Model_line_15 : decode b_Model_line 15 = .ok (.iconst 0, 1) := by decide +kernel
theorem d_Model_line_16 : decode b_Model_line 16 = .ok (.iconst 3, 1) := by decide +kernel
theorem d_Model_line_17 : decode b_Model_line 17 = .ok (.invokestatic 105, 3) := by decide +kernel
theorem d_Model_line_20 : decode b_Model_line 20 = .ok (.ifCond .ne 7, 3) := by decide +kernel
theorem d_Model_line_23 : decode b_Model_line 23 = .ok (.iconst 2, 1) := by decide +kernel
theorem d_Model_line_24 : decode b_Model_line 24 = .ok (.goto 4, 3) := by decide +kernel
theorem d_Model_line_27 : decode b_Model_line 27 = .ok (.iconst 0, 1) := by decide +kernel
theorem d_Model_line_28 : decode b_Model_line 28 = .ok (.putfield 101, 3) := by decide +kernel
theorem d_Model_line_31 : decode b_Model_line 31 = .ok (.aload_n 0, 1) := by decide +kernel
theorem d_Model_line_32 : decode b_Model_line 32 = .ok (.getfield 101, 3) := by decide +kernel
theorem d_Model_line_35 : decode b_Model_line 35 = .ok (.ifCond .eq 5, 3) := by decide +kernel
theorem d_Model_line_38 : decode b_Model_line 38 = .ok (.iconst 0, 1) := by decide +kernel
theorem d_Model_line_39 : decode b_Model_line 39 = .ok (.ireturn, 1) := by decide +kernel
theorem d_Model_line_40 : decode b_Model_line 40 = .ok (.bipush 10, 2) := by decide +kernel
theorem d_Model_line_42 : decode b_Model_line 42 = .ok (.iload_n 1, 1) := by decide +kernel
theorem d_Model_line_43 : decode b_Model_line 43 = .ok (.imul, 1) := by decide +kernel
theorem d_Model_line_44 : decode b_Model_line 44 = .ok (.iload_n 2, 1) := by decide +kernel
theorem d_Model_line_45 : decode b_Model_line 45 = .ok (.iadd, 1) := by decide +kernel
theorem d_Model_line_46 : decode b_Model_line 46 = .ok (.istore 4, 2) := by decide +kernel
theorem d_Model_line_48 : decode b_Model_line 48 = .ok (.iload_n 3, 1) := by decide +kernel
theorem d_Model_line_49 : decode b_Model_line 49 = .ok (.ifCond .ne 13, 3) := by decide +kernel
theorem d_Model_line_52 : decode b_Model_line 52 = .ok (.aload_n 0, 1) := by decide +kernel
theorem d_Model_line_53 : decode b_Model_line 53 = .ok (.getfield 47, 3) := by decide +kernel
theorem d_Model_line_56 : decode b_Model_line 56 = .ok (.iload 4, 2) := by decide +kernel
theorem d_Model_line_58 : decode b_Model_line 58 = .ok (.iaload, 1) := by decide +kernel
theorem d_Model_line_59 : decode b_Model_line 59 = .ok (.goto 48, 3) := by decide +kernel
theorem d_Model_line_62 : decode b_Model_line 62 = .ok (.iload_n 3, 1) := by decide +kernel
theorem d_Model_line_63 : decode b_Model_line 63 = .ok (.iconst 1, 1) := by decide +kernel
theorem d_Model_line_64 : decode b_Model_line 64 = .ok (.if_icmp .ne 13, 3) := by decide +kernel
theorem d_Model_line_67 : decode b_Model_line 67 = .ok (.aload_n 0, 1) := by decide +kernel
theorem d_Model_line_68 : decode b_Model_line 68 = .ok (.getfield 53, 3) := by decide +kernel
theorem d_Model_line_71 : decode b_Model_line 71 = .ok (.iload 4, 2) := by decide +kernel
theorem d_Model_line_73 : decode b_Model_line 73 = .ok (.iaload, 1) := by decide +kernel
theorem d_Model_line_74 : decode b_Model_line 74 = .ok (.goto 33, 3) := by decide +kernel
theorem d_Model_line_77 : decode b_Model_line 77 = .ok (.iload_n 3, 1) := by decide +kernel
theorem d_Model_line_78 : decode b_Model_line 78 = .ok (.iconst 2, 1) := by decide +kernel
theorem d_Model_line_79 : decode b_Model_line 79 = .ok (.if_icmp .ne 13, 3) := by decide +kernel
theorem d_Model_line_82 : decode b_Model_line 82 = .ok (.aload_n 0, 1) := by decide +kernel
theorem d_Model_line_83 : decode b_Model_line 83 = .ok (.getfield 56, 3) := by decide +kernel
theorem d_Model_line_86 : decode b_Model_line 86 = .ok (.iload 4, 2) := by decide +kernel
theorem d_Model_line_88 : decode b_Model_line 88 = .ok (.iaload, 1) := by decide +kernel
theorem d_Model_line_89 : decode b_Model_line 89 = .ok (.goto 18, 3) := by decide +kernel
theorem d_Model_line_92 : decode b_Model_line 92 = .ok (.aload_n 0, 1) := by decide +kernel
theorem d_Model_line_93 : decode b_Model_line 93 = .ok (.getfield 59, 3) := by decide +kernel
theorem d_Model_line_96 : decode b_Model_line 96 = .ok (.iload 4, 2) := by decide +kernel
theorem d_Model_line_98 : decode b_Model_line 98 = .ok (.baload, 1) := by decide +kernel
theorem d_Model_line_99 : decode b_Model_line 99 = .ok (.ifCond .eq 7, 3) := by decide +kernel
theorem d_Model_line_102 : decode b_Model_line 102 = .ok (.iconst 0, 1) := by decide +kernel
theorem d_Model_line_103 : decode b_Model_line 103 = .ok (.goto 4, 3) := by decide +kernel
theorem d_Model_line_106 : decode b_Model_line 106 = .ok (.iconst 1, 1) := by decide +kernel
theorem d_Model_line_107 : decode b_Model_line 107 = .ok (.ireturn, 1) := by decide +kernel
