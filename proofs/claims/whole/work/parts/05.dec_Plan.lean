/-! decode rows of Plan (by program) -/
theorem d_Plan_init_0 : decode b_Plan_init 0 = .ok (.aload_n 0, 1) := by decide +kernel
theorem d_Plan_init_1 : decode b_Plan_init 1 = .ok (.invokespecial 3, 3) := by decide +kernel
theorem d_Plan_init_4 : decode b_Plan_init 4 = .ok (.aload_n 0, 1) := by decide +kernel
theorem d_Plan_init_5 : decode b_Plan_init 5 = .ok (.bipush 10, 2) := by decide +kernel
theorem d_Plan_init_7 : decode b_Plan_init 7 = .ok (.newarray .int, 2) := by decide +kernel
theorem d_Plan_init_9 : decode b_Plan_init 9 = .ok (.putfield 9, 3) := by decide +kernel
theorem d_Plan_init_12 : decode b_Plan_init 12 = .ok (.aload_n 0, 1) := by decide +kernel
theorem d_Plan_init_13 : decode b_Plan_init 13 = .ok (.bipush 10, 2) := by decide +kernel
theorem d_Plan_init_15 : decode b_Plan_init 15 = .ok (.newarray .int, 2) := by decide +kernel
theorem d_Plan_init_17 : decode b_Plan_init 17 = .ok (.putfield 15, 3) := by decide +kernel
theorem d_Plan_init_20 : decode b_Plan_init 20 = .ok (.aload_n 0, 1) := by decide +kernel
theorem d_Plan_init_21 : decode b_Plan_init 21 = .ok (.bipush 10, 2) := by decide +kernel
theorem d_Plan_init_23 : decode b_Plan_init 23 = .ok (.newarray .int, 2) := by decide +kernel
theorem d_Plan_init_25 : decode b_Plan_init 25 = .ok (.putfield 18, 3) := by decide +kernel
theorem d_Plan_init_28 : decode b_Plan_init 28 = .ok (.aload_n 0, 1) := by decide +kernel
theorem d_Plan_init_29 : decode b_Plan_init 29 = .ok (.bipush 10, 2) := by decide +kernel
theorem d_Plan_init_31 : decode b_Plan_init 31 = .ok (.newarray .boolean, 2) := by decide +kernel
theorem d_Plan_init_33 : decode b_Plan_init 33 = .ok (.putfield 21, 3) := by decide +kernel
theorem d_Plan_init_36 : decode b_Plan_init 36 = .ok (.aload_n 0, 1) := by decide +kernel
theorem d_Plan_init_37 : decode b_Plan_init 37 = .ok (.bipush 10, 2) := by decide +kernel
theorem d_Plan_init_39 : decode b_Plan_init 39 = .ok (.newarray .long, 2) := by decide +kernel
theorem d_Plan_init_41 : decode b_Plan_init 41 = .ok (.putfield 25, 3) := by decide +kernel
theorem d_Plan_init_44 : decode b_Plan_init 44 = .ok (.return_, 1) := by decide +kernel
theorem d_Plan_leaveAllAlone_0 : decode b_Plan_leaveAllAlone 0 = .ok (.aload_n 0, 1) := by decide +kernel
theorem d_Plan_leaveAllAlone_1 : decode b_Plan_leaveAllAlone 1 = .ok (.iconst 0, 1) := by decide +kernel
theorem d_Plan_leaveAllAlone_2 : decode b_Plan_leaveAllAlone 2 = .ok (.putfield 29, 3) := by decide +kernel
theorem d_Plan_leaveAllAlone_5 : decode b_Plan_leaveAllAlone 5 = .ok (.iconst 0, 1) := by decide +kernel
theorem d_Plan_leaveAllAlone_6 : decode b_Plan_leaveAllAlone 6 = .ok (.istore_n 3, 1) := by decide +kernel
theorem d_Plan_leaveAllAlone_7 : decode b_Plan_leaveAllAlone 7 = .ok (.iload_n 3, 1) := by decide +kernel
theorem d_Plan_leaveAllAlone_8 : decode b_Plan_leaveAllAlone 8 = .ok (.aload_n 2, 1) := by decide +kernel
theorem d_Plan_leaveAllAlone_9 : decode b_Plan_leaveAllAlone 9 = .ok (.getfield 33, 3) := by decide +kernel
theorem d_Plan_leaveAllAlone_12 : decode b_Plan_leaveAllAlone 12 = .ok (.if_icmp .ge 47, 3) := by decide +kernel
theorem d_Plan_leaveAllAlone_15 : decode b_Plan_leaveAllAlone 15 = .ok (.aload_n 0, 1) := by decide +kernel
theorem d_Plan_leaveAllAlone_16 : decode b_Plan_leaveAllAlone 16 = .ok (.getfield 9, 3) := by decide +kernel
theorem d_Plan_leaveAllAlone_19 : decode b_Plan_leaveAllAlone 19 = .ok (.iload_n 3, 1) := by decide +kernel
theorem d_Plan_leaveAllAlone_20 : decode b_Plan_leaveAllAlone 20 = .ok (.iconst (-1), 1) := by decide +kernel
theorem d_Plan_leaveAllAlone_21 : decode b_Plan_leaveAllAlone 21 = .ok (.iastore, 1) := by decide +kernel
theorem d_Plan_leaveAllAlone_22 : decode b_Plan_leaveAllAlone 22 = .ok (.aload_n 0, 1) := by decide +kernel
theorem d_Plan_leaveAllAlone_23 : decode b_Plan_leaveAllAlone 23 = .ok (.getfield 15, 3) := by decide +kernel
theorem d_Plan_leaveAllAlone_26 : decode b_Plan_leaveAllAlone 26 = .ok (.iload_n 3, 1) := by decide +kernel
theorem d_Plan_leaveAllAlone_27 : decode b_Plan_leaveAllAlone 27 = .ok (.iconst (-1), 1) := by decide +kernel
theorem d_Plan_leaveAllAlone_28 : decode b_Plan_leaveAllAlone 28 = .ok (.iastore, 1) := by decide +kernel
theorem d_Plan_leaveAllAlone_29 : decode b_Plan_leaveAllAlone 29 = .ok (.aload_n 0, 1) := by decide +kernel
theorem d_Plan_leaveAllAlone_30 : decode b_Plan_leaveAllAlone 30 = .ok (.getfield 18, 3) := by decide +kernel
theorem d_Plan_leaveAllAlone_33 : decode b_Plan_leaveAllAlone 33 = .ok (.iload_n 3, 1) := by decide +kernel
theorem d_Plan_leaveAllAlone_34 : decode b_Plan_leaveAllAlone 34 = .ok (.aload_n 1, 1) := by decide +kernel
theorem d_Plan_leaveAllAlone_35 : decode b_Plan_leaveAllAlone 35 = .ok (.getfield 38, 3) := by decide +kernel
theorem d_Plan_leaveAllAlone_38 : decode b_Plan_leaveAllAlone 38 = .ok (.aload_n 2, 1) := by decide +kernel
theorem d_Plan_leaveAllAlone_39 : decode b_Plan_leaveAllAlone 39 = .ok (.getfield 43, 3) := by decide +kernel
theorem d_Plan_leaveAllAlone_42 : decode b_Plan_leaveAllAlone 42 = .ok (.iload_n 3, 1) := by decide +kernel
theorem d_Plan_leaveAllAlone_43 : decode b_Plan_leaveAllAlone 43 = .ok (.iaload, 1) := by decide +kernel
theorem d_Plan_leaveAllAlone_44 : decode b_Plan_leaveAllAlone 44 = .ok (.iaload, 1) := by decide +kernel
theorem d_Plan_leaveAllAlone_45 : decode b_Plan_leaveAllAlone 45 = .ok (.iastore, 1) := by decide +kernel
theorem d_Plan_leaveAllAlone_46 : decode b_Plan_leaveAllAlone 46 = .ok (.aload_n 0, 1) := by decide +kernel
theorem d_Plan_leaveAllAlone_47 : decode b_Plan_leaveAllAlone 47 = .ok (.getfield 21, 3) := by decide +kernel
theorem d_Plan_leaveAllAlone_50 : decode b_Plan_leaveAllAlone 50 = .ok (.iload_n 3, 1) := by decide +kernel
theorem d_Plan_leaveAllAlone_51 : decode b_Plan_leaveAllAlone 51 = .ok (.iconst 0, 1) := by decide +kernel
theorem d_Plan_leaveAllAlone_52 : decode b_Plan_leaveAllAlone 52 = .ok (.bastore, 1) := by decide +kernel
theorem d_Plan_leaveAllAlone_53 : decode b_Plan_leaveAllAlone 53 = .ok (.iinc 3 1, 3) := by decide +kernel
theorem d_Plan_leaveAllAlone_56 : decode b_Plan_leaveAllAlone 56 = .ok (.goto (-49), 3) := by decide +kernel
theorem d_Plan_leaveAllAlone_59 : decode b_Plan_leaveAllAlone 59 = .ok (.return_, 1) := by decide +kernel
theorem d_Plan_paidIn_0 : decode b_Plan_paidIn 0 = .ok (.iconst 0, 1) := by decide +kernel
theorem d_Plan_paidIn_1 : decode b_Plan_paidIn 1 = .ok (.istore_n 2, 1) := by decide +kernel
theorem d_Plan_paidIn_2 : decode b_Plan_paidIn 2 = .ok (.iconst 0, 1) := by decide +kernel
theorem d_Plan_paidIn_3 : decode b_Plan_paidIn 3 = .ok (.istore_n 3, 1) := by decide +kernel
theorem d_Plan_paidIn_4 : decode b_Plan_paidIn 4 = .ok (.iload_n 3, 1) := by decide +kernel
theorem d_Plan_paidIn_5 : decode b_Plan_paidIn 5 = .ok (.aload_n 1, 1) := by decide +kernel
theorem d_Plan_paidIn_6 : decode b_Plan_paidIn 6 = .ok (.getfield 33, 3) := by decide +kernel
theorem d_Plan_paidIn_9 : decode b_Plan_paidIn 9 = .ok (.if_icmp .ge 18, 3) := by decide +kernel
theorem d_Plan_paidIn_12 : decode b_Plan_paidIn 12 = .ok (.iload_n 2, 1) := by decide +kernel
theorem d_Plan_paidIn_13 : decode b_Plan_paidIn 13 = .ok (.aload_n 0, 1) := by decide +kernel
theorem d_Plan_paidIn_14 : decode b_Plan_paidIn 14 = .ok (.getfield 18, 3) := by decide +kernel
theorem d_Plan_paidIn_17 : decode b_Plan_paidIn 17 = .ok (.iload_n 3, 1) := by decide +kernel
theorem d_Plan_paidIn_18 : decode b_Plan_paidIn 18 = .ok (.iaload, 1) := by decide +kernel
theorem d_Plan_paidIn_19 : decode b_Plan_paidIn 19 = .ok (.iadd, 1) := by decide +kernel
theorem d_Plan_paidIn_20 : decode b_Plan_paidIn 20 = .ok (.istore_n 2, 1) := by decide +kernel
theorem d_Plan_paidIn_21 : decode b_Plan_paidIn 21 = .ok (.iinc 3 1, 3) := by decide +kernel
theorem d_Plan_paidIn_24 : decode b_Plan_paidIn 24 = .ok (.goto (-20), 3) := by decide +kernel
theorem d_Plan_paidIn_27 : decode b_Plan_paidIn 27 = .ok (.iload_n 2, 1) := by decide +kernel
theorem d_Plan_paidIn_28 : decode b_Plan_paidIn 28 = .ok (.ireturn, 1) := by decide +kernel
theorem d_Plan_takeAlone_0 : decode b_Plan_takeAlone 0 = .ok (.aload_n 0, 1) := by decide +kernel
theorem d_Plan_takeAlone_1 : decode b_Plan_takeAlone 1 = .ok (.aload_n 1, 1) := by decide +kernel
theorem d_Plan_takeAlone_2 : decode b_Plan_takeAlone 2 = .ok (.iload_n 2, 1) := by decide +kernel
theorem d_Plan_takeAlone_3 : decode b_Plan_takeAlone 3 = .ok (.invokevirtual 46, 3) := by decide +kernel
theorem d_Plan_takeAlone_6 : decode b_Plan_takeAlone 6 = .ok (.pop, 1) := by decide +kernel
theorem d_Plan_takeAlone_7 : decode b_Plan_takeAlone 7 = .ok (.return_, 1) := by decide +kernel
theorem d_Plan_takeIntoUse_0 : decode b_Plan_takeIntoUse 0 = .ok (.aload_n 0, 1) := by decide +kernel
theorem d_Plan_takeIntoUse_1 : decode b_Plan_takeIntoUse 1 = .ok (.aload_n 1, 1) := by decide +kernel
theorem d_Plan_takeIntoUse_2 : decode b_Plan_takeIntoUse 2 = .ok (.iload_n 2, 1) := by decide +kernel
theorem d_Plan_takeIntoUse_3 : decode b_Plan_takeIntoUse 3 = .ok (.invokevirtual 46, 3) := by decide +kernel
theorem d_Plan_takeIntoUse_6 : decode b_Plan_takeIntoUse 6 = .ok (.istore 4, 2) := by decide +kernel
theorem d_Plan_takeIntoUse_8 : decode b_Plan_takeIntoUse 8 = .ok (.iload 4, 2) := by decide +kernel
theorem d_Plan_takeIntoUse_10 : decode b_Plan_takeIntoUse 10 = .ok (.iconst (-1), 1) := by decide +kernel
theorem d_Plan_takeIntoUse_11 : decode b_Plan_takeIntoUse 11 = .ok (.if_icmp .eq 22, 3) := by decide +kernel
theorem d_Plan_takeIntoUse_14 : decode b_Plan_takeIntoUse 14 = .ok (.aload_n 0, 1) := by decide +kernel
theorem d_Plan_takeIntoUse_15 : decode b_Plan_takeIntoUse 15 = .ok (.getfield 9, 3) := by decide +kernel
theorem d_Plan_takeIntoUse_18 : decode b_Plan_takeIntoUse 18 = .ok (.iload 4, 2) := by decide +kernel
theorem d_Plan_takeIntoUse_20 : decode b_Plan_takeIntoUse 20 = .ok (.iload_n 3, 1) := by decide +kernel
theorem d_Plan_takeIntoUse_21 : decode b_Plan_takeIntoUse 21 = .ok (.iastore, 1) := by decide +kernel
theorem d_Plan_takeIntoUse_22 : decode b_Plan_takeIntoUse 22 = .ok (.aload_n 0, 1) := by decide +kernel
theorem d_Plan_takeIntoUse_23 : decode b_Plan_takeIntoUse 23 = .ok (.getfield 15, 3) := by decide +kernel
theorem d_Plan_takeIntoUse_26 : decode b_Plan_takeIntoUse 26 = .ok (.iload 4, 2) := by decide +kernel
theorem d_Plan_takeIntoUse_28 : decode b_Plan_takeIntoUse 28 = .ok (.aload_n 0, 1) := by decide +kernel
theorem d_Plan_takeIntoUse_29 : decode b_Plan_takeIntoUse 29 = .ok (.getfield 29, 3) := by decide +kernel
theorem d_Plan_takeIntoUse_32 : decode b_Plan_takeIntoUse 32 = .ok (.iastore, 1) := by decide +kernel
theorem d_Plan_takeIntoUse_33 : decode b_Plan_takeIntoUse 33 = .ok (.return_, 1) := by decide +kernel
theorem d_Plan_takeFirst_0 : decode b_Plan_takeFirst 0 = .ok (.iconst 0, 1) := by decide +kernel
theorem d_Plan_takeFirst_1 : decode b_Plan_takeFirst 1 = .ok (.istore_n 3, 1) := by decide +kernel
theorem d_Plan_takeFirst_2 : decode b_Plan_takeFirst 2 = .ok (.iload_n 3, 1) := by decide +kernel
theorem d_Plan_takeFirst_3 : decode b_Plan_takeFirst 3 = .ok (.aload_n 1, 1) := by decide +kernel
theorem d_Plan_takeFirst_4 : decode b_Plan_takeFirst 4 = .ok (.getfield 33, 3) := by decide +kernel
theorem d_Plan_takeFirst_7 : decode b_Plan_takeFirst 7 = .ok (.if_icmp .ge 37, 3) := by decide +kernel
theorem d_Plan_takeFirst_10 : decode b_Plan_takeFirst 10 = .ok (.aload_n 0, 1) := by decide +kernel
theorem d_Plan_takeFirst_11 : decode b_Plan_takeFirst 11 = .ok (.getfield 21, 3) := by decide +kernel
theorem d_Plan_takeFirst_14 : decode b_Plan_takeFirst 14 = .ok (.iload_n 3, 1) := by decide +kernel
theorem d_Plan_takeFirst_15 : decode b_Plan_takeFirst 15 = .ok (.baload, 1) := by decide +kernel
theorem d_Plan_takeFirst_16 : decode b_Plan_takeFirst 16 = .ok (.ifCond .ne 22, 3) := by decide +kernel
theorem d_Plan_takeFirst_19 : decode b_Plan_takeFirst 19 = .ok (.aload_n 1, 1) := by decide +kernel
theorem d_Plan_takeFirst_20 : decode b_Plan_takeFirst 20 = .ok (.getfield 43, 3) := by decide +kernel
theorem d_Plan_takeFirst_23 : decode b_Plan_takeFirst 23 = .ok (.iload_n 3, 1) := by decide +kernel
theorem d_Plan_takeFirst_24 : decode b_Plan_takeFirst 24 = .ok (.iaload, 1) := by decide +kernel
theorem d_Plan_takeFirst_25 : decode b_Plan_takeFirst 25 = .ok (.iload_n 2, 1) := by decide +kernel
theorem d_Plan_takeFirst_26 : decode b_Plan_takeFirst 26 = .ok (.if_icmp .ne 12, 3) := by decide +kernel
theorem d_Plan_takeFirst_29 : decode b_Plan_takeFirst 29 = .ok (.aload_n 0, 1) := by decide +kernel
theorem d_Plan_takeFirst_30 : decode b_Plan_takeFirst 30 = .ok (.getfield 21, 3) := by decide +kernel
theorem d_Plan_takeFirst_33 : decode b_Plan_takeFirst 33 = .ok (.iload_n 3, 1) := by decide +kernel
theorem d_Plan_takeFirst_34 : decode b_Plan_takeFirst 34 = .ok (.iconst 1, 1) := by decide +kernel
theorem d_Plan_takeFirst_35 : decode b_Plan_takeFirst 35 = .ok (.bastore, 1) := by decide +kernel
theorem d_Plan_takeFirst_36 : decode b_Plan_takeFirst 36 = .ok (.iload_n 3, 1) := by decide +kernel
theorem d_Plan_takeFirst_37 : decode b_Plan_takeFirst 37 = .ok (.ireturn, 1) := by decide +kernel
theorem d_Plan_takeFirst_38 : decode b_Plan_takeFirst 38 = .ok (.iinc 3 1, 3) := by decide +kernel
theorem d_Plan_takeFirst_41 : decode b_Plan_takeFirst 41 = .ok (.goto (-39), 3) := by decide +kernel
theorem d_Plan_takeFirst_44 : decode b_Plan_takeFirst 44 = .ok (.iconst (-1), 1) := by decide +kernel
theorem d_Plan_takeFirst_45 : decode b_Plan_takeFirst 45 = .ok (.ireturn, 1) := by decide +kernel
theorem d_Plan_endUse_0 : decode b_Plan_endUse 0 = .ok (.iconst 0, 1) := by decide +kernel
theorem d_Plan_endUse_1 : decode b_Plan_endUse 1 = .ok (.istore_n 3, 1) := by decide +kernel
theorem d_Plan_endUse_2 : decode b_Plan_endUse 2 = .ok (.iconst 0, 1) := by decide +kernel
theorem d_Plan_endUse_3 : decode b_Plan_endUse 3 = .ok (.istore 4, 2) := by decide +kernel
theorem d_Plan_endUse_5 : decode b_Plan_endUse 5 = .ok (.iload 4, 2) := by decide +kernel
theorem d_Plan_endUse_7 : decode b_Plan_endUse 7 = .ok (.aload_n 1, 1) := by decide +kernel
theorem d_Plan_endUse_8 : decode b_Plan_endUse 8 = .ok (.getfield 33, 3) := by decide +kernel
theorem d_Plan_endUse_11 : decode b_Plan_endUse 11 = .ok (.if_icmp .ge 33, 3) := by decide +kernel
theorem d_Plan_endUse_14 : decode b_Plan_endUse 14 = .ok (.aload_n 0, 1) := by decide +kernel
theorem d_Plan_endUse_15 : decode b_Plan_endUse 15 = .ok (.getfield 15, 3) := by decide +kernel
theorem d_Plan_endUse_18 : decode b_Plan_endUse 18 = .ok (.iload 4, 2) := by decide +kernel
theorem d_Plan_endUse_20 : decode b_Plan_endUse 20 = .ok (.iaload, 1) := by decide +kernel
theorem d_Plan_endUse_21 : decode b_Plan_endUse 21 = .ok (.aload_n 0, 1) := by decide +kernel
theorem d_Plan_endUse_22 : decode b_Plan_endUse 22 = .ok (.getfield 29, 3) := by decide +kernel
theorem d_Plan_endUse_25 : decode b_Plan_endUse 25 = .ok (.if_icmp .ne 13, 3) := by decide +kernel
theorem d_Plan_endUse_28 : decode b_Plan_endUse 28 = .ok (.iload_n 3, 1) := by decide +kernel
theorem d_Plan_endUse_29 : decode b_Plan_endUse 29 = .ok (.aload_n 0, 1) := by decide +kernel
theorem d_Plan_endUse_30 : decode b_Plan_endUse 30 = .ok (.getfield 18, 3) := by decide +kernel
theorem d_Plan_endUse_33 : decode b_Plan_endUse 33 = .ok (.iload 4, 2) := by decide +kernel
theorem d_Plan_endUse_35 : decode b_Plan_endUse 35 = .ok (.iaload, 1) := by decide +kernel
theorem d_Plan_endUse_36 : decode b_Plan_endUse 36 = .ok (.iadd, 1) := by decide +kernel
theorem d_Plan_endUse_37 : decode b_Plan_endUse 37 = .ok (.istore_n 3, 1) := by decide +kernel
theorem d_Plan_endUse_38 : decode b_Plan_endUse 38 = .ok (.iinc 4 1, 3) := by decide +kernel
theorem d_Plan_endUse_41 : decode b_Plan_endUse 41 = .ok (.goto (-36), 3) := by decide +kernel
theorem d_Plan_endUse_44 : decode b_Plan_endUse 44 = .ok (.iload_n 3, 1) := by decide +kernel
theorem d_Plan_endUse_45 : decode b_Plan_endUse 45 = .ok (.ifCond .le 21, 3) := by decide +kernel
theorem d_Plan_endUse_48 : decode b_Plan_endUse 48 = .ok (.iload_n 2, 1) := by decide +kernel
theorem d_Plan_endUse_49 : decode b_Plan_endUse 49 = .ok (.aload_n 0, 1) := by decide +kernel
theorem d_Plan_endUse_50 : decode b_Plan_endUse 50 = .ok (.aload_n 1, 1) := by decide +kernel
theorem d_Plan_endUse_51 : decode b_Plan_endUse 51 = .ok (.iload_n 2, 1) := by decide +kernel
theorem d_Plan_endUse_52 : decode b_Plan_endUse 52 = .ok (.iload_n 3, 1) := by decide +kernel
theorem d_Plan_endUse_53 : decode b_Plan_endUse 53 = .ok (.invokevirtual 50, 3) := by decide +kernel
theorem d_Plan_endUse_56 : decode b_Plan_endUse 56 = .ok (.isub, 1) := by decide +kernel
theorem d_Plan_endUse_57 : decode b_Plan_endUse 57 = .ok (.istore 4, 2) := by decide +kernel
theorem d_Plan_endUse_59 : decode b_Plan_endUse 59 = .ok (.aload_n 0, 1) := by decide +kernel
theorem d_Plan_endUse_60 : decode b_Plan_endUse 60 = .ok (.aload_n 1, 1) := by decide +kernel
theorem d_Plan_endUse_61 : decode b_Plan_endUse 61 = .ok (.iload 4, 2) := by decide +kernel
theorem d_Plan_endUse_63 : decode b_Plan_endUse 63 = .ok (.invokevirtual 54, 3) := by decide +kernel
theorem d_Plan_endUse_66 : decode b_Plan_endUse 66 = .ok (.aload_n 0, 1) := by decide +kernel
theorem d_Plan_endUse_67 : decode b_Plan_endUse 67 = .ok (.dup, 1) := by decide +kernel
theorem d_Plan_endUse_68 : decode b_Plan_endUse 68 = .ok (.getfield 29, 3) := by decide +kernel
theorem d_Plan_endUse_71 : decode b_Plan_endUse 71 = .ok (.iconst 1, 1) := by decide +kernel
theorem d_Plan_endUse_72 : decode b_Plan_endUse 72 = .ok (.iadd, 1) := by decide +kernel
theorem d_Plan_endUse_73 : decode b_Plan_endUse 73 = .ok (.putfield 29, 3) := by decide +kernel
theorem d_Plan_endUse_76 : decode b_Plan_endUse 76 = .ok (.return_, 1) := by decide +kernel
theorem d_Plan_spreadWholeShares_0 : decode b_Plan_spreadWholeShares 0 = .ok (.iconst 0, 1) := by decide +kernel
theorem d_Plan_spreadWholeShares_1 : decode b_Plan_spreadWholeShares 1 = .ok (.istore 4, 2) := by decide +kernel
theorem d_Plan_spreadWholeShares_3 : decode b_Plan_spreadWholeShares 3 = .ok (.iconst 0, 1) := by decide +kernel
theorem d_Plan_spreadWholeShares_4 : decode b_Plan_spreadWholeShares 4 = .ok (.istore 5, 2) := by decide +kernel
theorem d_Plan_spreadWholeShares_6 : decode b_Plan_spreadWholeShares 6 = .ok (.iload 5, 2) := by decide +kernel
theorem d_Plan_spreadWholeShares_8 : decode b_Plan_spreadWholeShares 8 = .ok (.aload_n 1, 1) := by decide +kernel
theorem d_Plan_spreadWholeShares_9 : decode b_Plan_spreadWholeShares 9 = .ok (.getfield 33, 3) := by decide +kernel
theorem d_Plan_spreadWholeShares_12 : decode b_Plan_spreadWholeShares 12 = .ok (.if_icmp .ge 89, 3) := by decide +kernel
theorem d_Plan_spreadWholeShares_15 : decode b_Plan_spreadWholeShares 15 = .ok (.aload_n 0, 1) := by decide +kernel
theorem d_Plan_spreadWholeShares_16 : decode b_Plan_spreadWholeShares 16 = .ok (.getfield 25, 3) := by decide +kernel
theorem d_Plan_spreadWholeShares_19 : decode b_Plan_spreadWholeShares 19 = .ok (.iload 5, 2) := by decide +kernel
theorem d_Plan_spreadWholeShares_21 : decode b_Plan_spreadWholeShares 21 = .ok (.ldc2_w 58, 3) := by decide +kernel
theorem d_Plan_spreadWholeShares_24 : decode b_Plan_spreadWholeShares 24 = .ok (.lastore, 1) := by decide +kernel
theorem d_Plan_spreadWholeShares_25 : decode b_Plan_spreadWholeShares 25 = .ok (.aload_n 0, 1) := by decide +kernel
theorem d_Plan_spreadWholeShares_26 : decode b_Plan_spreadWholeShares 26 = .ok (.getfield 15, 3) := by decide +kernel
theorem d_Plan_spreadWholeShares_29 : decode b_Plan_spreadWholeShares 29 = .ok (.iload 5, 2) := by decide +kernel
theorem d_Plan_spreadWholeShares_31 : decode b_Plan_spreadWholeShares 31 = .ok (.iaload, 1) := by decide +kernel
theorem d_Plan_spreadWholeShares_32 : decode b_Plan_spreadWholeShares 32 = .ok (.aload_n 0, 1) := by decide +kernel
theorem d_Plan_spreadWholeShares_33 : decode b_Plan_spreadWholeShares 33 = .ok (.getfield 29, 3) := by decide +kernel
theorem d_Plan_spreadWholeShares_36 : decode b_Plan_spreadWholeShares 36 = .ok (.if_icmp .ne 59, 3) := by decide +kernel
theorem d_Plan_spreadWholeShares_39 : decode b_Plan_spreadWholeShares 39 = .ok (.iload_n 3, 1) := by decide +kernel
theorem d_Plan_spreadWholeShares_40 : decode b_Plan_spreadWholeShares 40 = .ok (.ifCond .le 55, 3) := by decide +kernel
theorem d_Plan_spreadWholeShares_43 : decode b_Plan_spreadWholeShares 43 = .ok (.iload_n 2, 1) := by decide +kernel
theorem d_Plan_spreadWholeShares_44 : decode b_Plan_spreadWholeShares 44 = .ok (.i2l, 1) := by decide +kernel
theorem d_Plan_spreadWholeShares_45 : decode b_Plan_spreadWholeShares 45 = .ok (.aload_n 0, 1) := by decide +kernel
theorem d_Plan_spreadWholeShares_46 : decode b_Plan_spreadWholeShares 46 = .ok (.getfield 18, 3) := by decide +kernel
theorem d_Plan_spreadWholeShares_49 : decode b_Plan_spreadWholeShares 49 = .ok (.iload 5, 2) := by decide +kernel
theorem d_Plan_spreadWholeShares_51 : decode b_Plan_spreadWholeShares 51 = .ok (.iaload, 1) := by decide +kernel
theorem d_Plan_spreadWholeShares_52 : decode b_Plan_spreadWholeShares 52 = .ok (.i2l, 1) := by decide +kernel
theorem d_Plan_spreadWholeShares_53 : decode b_Plan_spreadWholeShares 53 = .ok (.lmul, 1) := by decide +kernel
theorem d_Plan_spreadWholeShares_54 : decode b_Plan_spreadWholeShares 54 = .ok (.lstore 6, 2) := by decide +kernel
theorem d_Plan_spreadWholeShares_56 : decode b_Plan_spreadWholeShares 56 = .ok (.lload 6, 2) := by decide +kernel
theorem d_Plan_spreadWholeShares_58 : decode b_Plan_spreadWholeShares 58 = .ok (.iload_n 3, 1) := by decide +kernel
theorem d_Plan_spreadWholeShares_59 : decode b_Plan_spreadWholeShares 59 = .ok (.i2l, 1) := by decide +kernel
theorem d_Plan_spreadWholeShares_60 : decode b_Plan_spreadWholeShares 60 = .ok (.ldiv, 1) := by decide +kernel
theorem d_Plan_spreadWholeShares_61 : decode b_Plan_spreadWholeShares 61 = .ok (.l2i, 1) := by decide +kernel
theorem d_Plan_spreadWholeShares_62 : decode b_Plan_spreadWholeShares 62 = .ok (.istore 8, 2) := by decide +kernel
theorem d_Plan_spreadWholeShares_64 : decode b_Plan_spreadWholeShares 64 = .ok (.aload_n 0, 1) := by decide +kernel
theorem d_Plan_spreadWholeShares_65 : decode b_Plan_spreadWholeShares 65 = .ok (.getfield 25, 3) := by decide +kernel
theorem d_Plan_spreadWholeShares_68 : decode b_Plan_spreadWholeShares 68 = .ok (.iload 5, 2) := by decide +kernel
theorem d_Plan_spreadWholeShares_70 : decode b_Plan_spreadWholeShares 70 = .ok (.lload 6, 2) := by decide +kernel
theorem d_Plan_spreadWholeShares_72 : decode b_Plan_spreadWholeShares 72 = .ok (.iload_n 3, 1) := by decide +kernel
theorem d_Plan_spreadWholeShares_73 : decode b_Plan_spreadWholeShares 73 = .ok (.i2l, 1) := by decide +kernel
theorem d_Plan_spreadWholeShares_74 : decode b_Plan_spreadWholeShares 74 = .ok (.lrem, 1) := by decide +kernel
theorem d_Plan_spreadWholeShares_75 : decode b_Plan_spreadWholeShares 75 = .ok (.lastore, 1) := by decide +kernel
theorem d_Plan_spreadWholeShares_76 : decode b_Plan_spreadWholeShares 76 = .ok (.aload_n 0, 1) := by decide +kernel
theorem d_Plan_spreadWholeShares_77 : decode b_Plan_spreadWholeShares 77 = .ok (.getfield 18, 3) := by decide +kernel
theorem d_Plan_spreadWholeShares_80 : decode b_Plan_spreadWholeShares 80 = .ok (.iload 5, 2) := by decide +kernel
theorem d_Plan_spreadWholeShares_82 : decode b_Plan_spreadWholeShares 82 = .ok (.dup2, 1) := by decide +kernel
theorem d_Plan_spreadWholeShares_83 : decode b_Plan_spreadWholeShares 83 = .ok (.iaload, 1) := by decide +kernel
theorem d_Plan_spreadWholeShares_84 : decode b_Plan_spreadWholeShares 84 = .ok (.iload 8, 2) := by decide +kernel
theorem d_Plan_spreadWholeShares_86 : decode b_Plan_spreadWholeShares 86 = .ok (.isub, 1) := by decide +kernel
theorem d_Plan_spreadWholeShares_87 : decode b_Plan_spreadWholeShares 87 = .ok (.iastore, 1) := by decide +kernel
theorem d_Plan_spreadWholeShares_88 : decode b_Plan_spreadWholeShares 88 = .ok (.iload 4, 2) := by decide +kernel
theorem d_Plan_spreadWholeShares_90 : decode b_Plan_spreadWholeShares 90 = .ok (.iload 8, 2) := by decide +kernel
theorem d_Plan_spreadWholeShares_92 : decode b_Plan_spreadWholeShares 92 = .ok (.iadd, 1) := by decide +kernel
theorem d_Plan_spreadWholeShares_93 : decode b_Plan_spreadWholeShares 93 = .ok (.istore 4, 2) := by decide +kernel
theorem d_Plan_spreadWholeShares_95 : decode b_Plan_spreadWholeShares 95 = .ok (.iinc 5 1, 3) := by decide +kernel
theorem d_Plan_spreadWholeShares_98 : decode b_Plan_spreadWholeShares 98 = .ok (.goto (-92), 3) := by decide +kernel
theorem d_Plan_spreadWholeShares_101 : decode b_Plan_spreadWholeShares 101 = .ok (.iload 4, 2) := by decide +kernel
theorem d_Plan_spreadWholeShares_103 : decode b_Plan_spreadWholeShares 103 = .ok (.ireturn, 1) := by decide +kernel
theorem d_Plan_spreadRest_0 : decode b_Plan_spreadRest 0 = .ok (.iconst 0, 1) := by decide +kernel
theorem d_Plan_spreadRest_1 : decode b_Plan_spreadRest 1 = .ok (.istore_n 3, 1) := by decide +kernel
theorem d_Plan_spreadRest_2 : decode b_Plan_spreadRest 2 = .ok (.iload_n 3, 1) := by decide +kernel
theorem d_Plan_spreadRest_3 : decode b_Plan_spreadRest 3 = .ok (.iload_n 2, 1) := by decide +kernel
theorem d_Plan_spreadRest_4 : decode b_Plan_spreadRest 4 = .ok (.if_icmp .ge 79, 3) := by decide +kernel
theorem d_Plan_spreadRest_7 : decode b_Plan_spreadRest 7 = .ok (.iload_n 3, 1) := by decide +kernel
theorem d_Plan_spreadRest_8 : decode b_Plan_spreadRest 8 = .ok (.bipush 10, 2) := by decide +kernel
theorem d_Plan_spreadRest_10 : decode b_Plan_spreadRest 10 = .ok (.if_icmp .ge 73, 3) := by decide +kernel
theorem d_Plan_spreadRest_13 : decode b_Plan_spreadRest 13 = .ok (.iconst 0, 1) := by decide +kernel
theorem d_Plan_spreadRest_14 : decode b_Plan_spreadRest 14 = .ok (.istore 4, 2) := by decide +kernel
theorem d_Plan_spreadRest_16 : decode b_Plan_spreadRest 16 = .ok (.iconst 1, 1) := by decide +kernel
theorem d_Plan_spreadRest_17 : decode b_Plan_spreadRest 17 = .ok (.istore 5, 2) := by decide +kernel
theorem d_Plan_spreadRest_19 : decode b_Plan_spreadRest 19 = .ok (.iload 5, 2) := by decide +kernel
theorem d_Plan_spreadRest_21 : decode b_Plan_spreadRest 21 = .ok (.aload_n 1, 1) := by decide +kernel
theorem d_Plan_spreadRest_22 : decode b_Plan_spreadRest 22 = .ok (.getfield 33, 3) := by decide +kernel
theorem d_Plan_spreadRest_25 : decode b_Plan_spreadRest 25 = .ok (.if_icmp .ge 31, 3) := by decide +kernel
theorem d_Plan_spreadRest_28 : decode b_Plan_spreadRest 28 = .ok (.aload_n 0, 1) := by decide +kernel
theorem d_Plan_spreadRest_29 : decode b_Plan_spreadRest 29 = .ok (.getfield 25, 3) := by decide +kernel
theorem d_Plan_spreadRest_32 : decode b_Plan_spreadRest 32 = .ok (.iload 5, 2) := by decide +kernel
theorem d_Plan_spreadRest_34 : decode b_Plan_spreadRest 34 = .ok (.laload, 1) := by decide +kernel
theorem d_Plan_spreadRest_35 : decode b_Plan_spreadRest 35 = .ok (.aload_n 0, 1) := by decide +kernel
theorem d_Plan_spreadRest_36 : decode b_Plan_spreadRest 36 = .ok (.getfield 25, 3) := by decide +kernel
theorem d_Plan_spreadRest_39 : decode b_Plan_spreadRest 39 = .ok (.iload 4, 2) := by decide +kernel
theorem d_Plan_spreadRest_41 : decode b_Plan_spreadRest 41 = .ok (.laload, 1) := by decide +kernel
theorem d_Plan_spreadRest_42 : decode b_Plan_spreadRest 42 = .ok (.lcmp, 1) := by decide +kernel
theorem d_Plan_spreadRest_43 : decode b_Plan_spreadRest 43 = .ok (.ifCond .le 7, 3) := by decide +kernel
theorem d_Plan_spreadRest_46 : decode b_Plan_spreadRest 46 = .ok (.iload 5, 2) := by decide +kernel
theorem d_Plan_spreadRest_48 : decode b_Plan_spreadRest 48 = .ok (.istore 4, 2) := by decide +kernel
theorem d_Plan_spreadRest_50 : decode b_Plan_spreadRest 50 = .ok (.iinc 5 1, 3) := by decide +kernel
theorem d_Plan_spreadRest_53 : decode b_Plan_spreadRest 53 = .ok (.goto (-34), 3) := by decide +kernel
theorem d_Plan_spreadRest_56 : decode b_Plan_spreadRest 56 = .ok (.aload_n 0, 1) := by decide +kernel
theorem d_Plan_spreadRest_57 : decode b_Plan_spreadRest 57 = .ok (.getfield 18, 3) := by decide +kernel
theorem d_Plan_spreadRest_60 : decode b_Plan_spreadRest 60 = .ok (.iload 4, 2) := by decide +kernel
theorem d_Plan_spreadRest_62 : decode b_Plan_spreadRest 62 = .ok (.dup2, 1) := by decide +kernel
theorem d_Plan_spreadRest_63 : decode b_Plan_spreadRest 63 = .ok (.iaload, 1) := by decide +kernel
theorem d_Plan_spreadRest_64 : decode b_Plan_spreadRest 64 = .ok (.iconst 1, 1) := by decide +kernel
theorem d_Plan_spreadRest_65 : decode b_Plan_spreadRest 65 = .ok (.isub, 1) := by decide +kernel
theorem d_Plan_spreadRest_66 : decode b_Plan_spreadRest 66 = .ok (.iastore, 1) := by decide +kernel
theorem d_Plan_spreadRest_67 : decode b_Plan_spreadRest 67 = .ok (.aload_n 0, 1) := by decide +kernel
theorem d_Plan_spreadRest_68 : decode b_Plan_spreadRest 68 = .ok (.getfield 25, 3) := by decide +kernel
theorem d_Plan_spreadRest_71 : decode b_Plan_spreadRest 71 = .ok (.iload 4, 2) := by decide +kernel
theorem d_Plan_spreadRest_73 : decode b_Plan_spreadRest 73 = .ok (.ldc2_w 58, 3) := by decide +kernel
theorem d_Plan_spreadRest_76 : decode b_Plan_spreadRest 76 = .ok (.lastore, 1) := by decide +kernel
theorem d_Plan_spreadRest_77 : decode b_Plan_spreadRest 77 = .ok (.iinc 3 1, 3) := by decide +kernel
theorem d_Plan_spreadRest_80 : decode b_Plan_spreadRest 80 = .ok (.goto (-78), 3) := by decide +kernel
theorem d_Plan_spreadRest_83 : decode b_Plan_spreadRest 83 = .ok (.return_, 1) := by decide +kernel
