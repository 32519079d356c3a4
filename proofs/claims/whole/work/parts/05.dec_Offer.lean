/-! decode rows of Offer (by program) -/
theorem d_Offer_init_0 : decode b_Offer_init 0 = .ok (.aload_n 0, 1) := by decide +kernel
theorem d_Offer_init_1 : decode b_Offer_init 1 = .ok (.invokespecial 3, 3) := by decide +kernel
theorem d_Offer_init_4 : decode b_Offer_init 4 = .ok (.aload_n 0, 1) := by decide +kernel
theorem d_Offer_init_5 : decode b_Offer_init 5 = .ok (.iconst 2, 1) := by decide +kernel
theorem d_Offer_init_6 : decode b_Offer_init 6 = .ok (.putfield 9, 3) := by decide +kernel
theorem d_Offer_init_9 : decode b_Offer_init 9 = .ok (.aload_n 0, 1) := by decide +kernel
theorem d_Offer_init_10 : decode b_Offer_init 10 = .ok (.iconst 4, 1) := by decide +kernel
theorem d_Offer_init_11 : decode b_Offer_init 11 = .ok (.newarray .int, 2) := by decide +kernel
theorem d_Offer_init_13 : decode b_Offer_init 13 = .ok (.putfield 15, 3) := by decide +kernel
theorem d_Offer_init_16 : decode b_Offer_init 16 = .ok (.return_, 1) := by decide +kernel
theorem d_Offer_put_0 : decode b_Offer_put 0 = .ok (.iconst 1, 1) := by decide +kernel
theorem d_Offer_put_1 : decode b_Offer_put 1 = .ok (.iload_n 2, 1) := by decide +kernel
theorem d_Offer_put_2 : decode b_Offer_put 2 = .ok (.ishl, 1) := by decide +kernel
theorem d_Offer_put_3 : decode b_Offer_put 3 = .ok (.istore 4, 2) := by decide +kernel
theorem d_Offer_put_5 : decode b_Offer_put 5 = .ok (.aload_n 0, 1) := by decide +kernel
theorem d_Offer_put_6 : decode b_Offer_put 6 = .ok (.getfield 15, 3) := by decide +kernel
theorem d_Offer_put_9 : decode b_Offer_put 9 = .ok (.iload_n 1, 1) := by decide +kernel
theorem d_Offer_put_10 : decode b_Offer_put 10 = .ok (.iload_n 3, 1) := by decide +kernel
theorem d_Offer_put_11 : decode b_Offer_put 11 = .ok (.ifCond .eq 15, 3) := by decide +kernel
theorem d_Offer_put_14 : decode b_Offer_put 14 = .ok (.aload_n 0, 1) := by decide +kernel
theorem d_Offer_put_15 : decode b_Offer_put 15 = .ok (.getfield 15, 3) := by decide +kernel
theorem d_Offer_put_18 : decode b_Offer_put 18 = .ok (.iload_n 1, 1) := by decide +kernel
theorem d_Offer_put_19 : decode b_Offer_put 19 = .ok (.iaload, 1) := by decide +kernel
theorem d_Offer_put_20 : decode b_Offer_put 20 = .ok (.iload 4, 2) := by decide +kernel
theorem d_Offer_put_22 : decode b_Offer_put 22 = .ok (.ior, 1) := by decide +kernel
theorem d_Offer_put_23 : decode b_Offer_put 23 = .ok (.goto 14, 3) := by decide +kernel
theorem d_Offer_put_26 : decode b_Offer_put 26 = .ok (.aload_n 0, 1) := by decide +kernel
theorem d_Offer_put_27 : decode b_Offer_put 27 = .ok (.getfield 15, 3) := by decide +kernel
theorem d_Offer_put_30 : decode b_Offer_put 30 = .ok (.iload_n 1, 1) := by decide +kernel
theorem d_Offer_put_31 : decode b_Offer_put 31 = .ok (.iaload, 1) := by decide +kernel
theorem d_Offer_put_32 : decode b_Offer_put 32 = .ok (.iload 4, 2) := by decide +kernel
theorem d_Offer_put_34 : decode b_Offer_put 34 = .ok (.iconst (-1), 1) := by decide +kernel
theorem d_Offer_put_35 : decode b_Offer_put 35 = .ok (.ixor, 1) := by decide +kernel
theorem d_Offer_put_36 : decode b_Offer_put 36 = .ok (.iand, 1) := by decide +kernel
theorem d_Offer_put_37 : decode b_Offer_put 37 = .ok (.iastore, 1) := by decide +kernel
theorem d_Offer_put_38 : decode b_Offer_put 38 = .ok (.return_, 1) := by decide +kernel
theorem d_Offer_unitsOfUse_0 : decode b_Offer_unitsOfUse 0 = .ok (.aload_n 0, 1) := by decide +kernel
theorem d_Offer_unitsOfUse_1 : decode b_Offer_unitsOfUse 1 = .ok (.getfield 19, 3) := by decide +kernel
theorem d_Offer_unitsOfUse_4 : decode b_Offer_unitsOfUse 4 = .ok (.iconst 3, 1) := by decide +kernel
theorem d_Offer_unitsOfUse_5 : decode b_Offer_unitsOfUse 5 = .ok (.if_icmp .ne 7, 3) := by decide +kernel
theorem d_Offer_unitsOfUse_8 : decode b_Offer_unitsOfUse 8 = .ok (.iconst 2, 1) := by decide +kernel
theorem d_Offer_unitsOfUse_9 : decode b_Offer_unitsOfUse 9 = .ok (.goto 7, 3) := by decide +kernel
theorem d_Offer_unitsOfUse_12 : decode b_Offer_unitsOfUse 12 = .ok (.aload_n 0, 1) := by decide +kernel
theorem d_Offer_unitsOfUse_13 : decode b_Offer_unitsOfUse 13 = .ok (.getfield 9, 3) := by decide +kernel
theorem d_Offer_unitsOfUse_16 : decode b_Offer_unitsOfUse 16 = .ok (.ireturn, 1) := by decide +kernel
theorem d_Offer_takesAt_0 : decode b_Offer_takesAt 0 = .ok (.aload_n 0, 1) := by decide +kernel
theorem d_Offer_takesAt_1 : decode b_Offer_takesAt 1 = .ok (.getfield 19, 3) := by decide +kernel
theorem d_Offer_takesAt_4 : decode b_Offer_takesAt 4 = .ok (.iconst 2, 1) := by decide +kernel
theorem d_Offer_takesAt_5 : decode b_Offer_takesAt 5 = .ok (.if_icmp .ne 7, 3) := by decide +kernel
theorem d_Offer_takesAt_8 : decode b_Offer_takesAt 8 = .ok (.iload_n 1, 1) := by decide +kernel
theorem d_Offer_takesAt_9 : decode b_Offer_takesAt 9 = .ok (.goto 4, 3) := by decide +kernel
theorem d_Offer_takesAt_12 : decode b_Offer_takesAt 12 = .ok (.iconst 0, 1) := by decide +kernel
theorem d_Offer_takesAt_13 : decode b_Offer_takesAt 13 = .ok (.istore_n 3, 1) := by decide +kernel
theorem d_Offer_takesAt_14 : decode b_Offer_takesAt 14 = .ok (.iload_n 3, 1) := by decide +kernel
theorem d_Offer_takesAt_15 : decode b_Offer_takesAt 15 = .ok (.ifCond .lt 30, 3) := by decide +kernel
theorem d_Offer_takesAt_18 : decode b_Offer_takesAt 18 = .ok (.iload_n 3, 1) := by decide +kernel
theorem d_Offer_takesAt_19 : decode b_Offer_takesAt 19 = .ok (.aload_n 0, 1) := by decide +kernel
theorem d_Offer_takesAt_20 : decode b_Offer_takesAt 20 = .ok (.getfield 15, 3) := by decide +kernel
theorem d_Offer_takesAt_23 : decode b_Offer_takesAt 23 = .ok (.arraylength, 1) := by decide +kernel
theorem d_Offer_takesAt_24 : decode b_Offer_takesAt 24 = .ok (.if_icmp .ge 21, 3) := by decide +kernel
theorem d_Offer_takesAt_27 : decode b_Offer_takesAt 27 = .ok (.aload_n 0, 1) := by decide +kernel
theorem d_Offer_takesAt_28 : decode b_Offer_takesAt 28 = .ok (.getfield 15, 3) := by decide +kernel
theorem d_Offer_takesAt_31 : decode b_Offer_takesAt 31 = .ok (.iload_n 3, 1) := by decide +kernel
theorem d_Offer_takesAt_32 : decode b_Offer_takesAt 32 = .ok (.iaload, 1) := by decide +kernel
theorem d_Offer_takesAt_33 : decode b_Offer_takesAt 33 = .ok (.iload_n 2, 1) := by decide +kernel
theorem d_Offer_takesAt_34 : decode b_Offer_takesAt 34 = .ok (.ishr, 1) := by decide +kernel
theorem d_Offer_takesAt_35 : decode b_Offer_takesAt 35 = .ok (.iconst 1, 1) := by decide +kernel
theorem d_Offer_takesAt_36 : decode b_Offer_takesAt 36 = .ok (.iand, 1) := by decide +kernel
theorem d_Offer_takesAt_37 : decode b_Offer_takesAt 37 = .ok (.iconst 1, 1) := by decide +kernel
theorem d_Offer_takesAt_38 : decode b_Offer_takesAt 38 = .ok (.if_icmp .ne 7, 3) := by decide +kernel
theorem d_Offer_takesAt_41 : decode b_Offer_takesAt 41 = .ok (.iconst 1, 1) := by decide +kernel
theorem d_Offer_takesAt_42 : decode b_Offer_takesAt 42 = .ok (.goto 4, 3) := by decide +kernel
theorem d_Offer_takesAt_45 : decode b_Offer_takesAt 45 = .ok (.iconst 0, 1) := by decide +kernel
theorem d_Offer_takesAt_46 : decode b_Offer_takesAt 46 = .ok (.ireturn, 1) := by decide +kernel
theorem d_Offer_looksAt_0 : decode b_Offer_looksAt 0 = .ok (.iconst 0, 1) := by decide +kernel
theorem d_Offer_looksAt_1 : decode b_Offer_looksAt 1 = .ok (.istore_n 2, 1) := by decide +kernel
theorem d_Offer_looksAt_2 : decode b_Offer_looksAt 2 = .ok (.iload_n 2, 1) := by decide +kernel
theorem d_Offer_looksAt_3 : decode b_Offer_looksAt 3 = .ok (.aload_n 0, 1) := by decide +kernel
theorem d_Offer_looksAt_4 : decode b_Offer_looksAt 4 = .ok (.invokevirtual 22, 3) := by decide +kernel
theorem d_Offer_looksAt_7 : decode b_Offer_looksAt 7 = .ok (.if_icmp .ge 20, 3) := by decide +kernel
theorem d_Offer_looksAt_10 : decode b_Offer_looksAt 10 = .ok (.aload_n 0, 1) := by decide +kernel
theorem d_Offer_looksAt_11 : decode b_Offer_looksAt 11 = .ok (.iload_n 2, 1) := by decide +kernel
theorem d_Offer_looksAt_12 : decode b_Offer_looksAt 12 = .ok (.iload_n 1, 1) := by decide +kernel
theorem d_Offer_looksAt_13 : decode b_Offer_looksAt 13 = .ok (.invokevirtual 26, 3) := by decide +kernel
theorem d_Offer_looksAt_16 : decode b_Offer_looksAt 16 = .ok (.ifCond .eq 5, 3) := by decide +kernel
theorem d_Offer_looksAt_19 : decode b_Offer_looksAt 19 = .ok (.iconst 1, 1) := by decide +kernel
theorem d_Offer_looksAt_20 : decode b_Offer_looksAt 20 = .ok (.ireturn, 1) := by decide +kernel
theorem d_Offer_looksAt_21 : decode b_Offer_looksAt 21 = .ok (.iinc 2 1, 3) := by decide +kernel
theorem d_Offer_looksAt_24 : decode b_Offer_looksAt 24 = .ok (.goto (-22), 3) := by decide +kernel
theorem d_Offer_looksAt_27 : decode b_Offer_looksAt 27 = .ok (.iconst 0, 1) := by decide +kernel
theorem d_Offer_looksAt_28 : decode b_Offer_looksAt 28 = .ok (.ireturn, 1) := by decide +kernel
theorem d_Offer_savingOn_0 : decode b_Offer_savingOn 0 = .ok (.aload_n 0, 1) := by decide +kernel
theorem d_Offer_savingOn_1 : decode b_Offer_savingOn 1 = .ok (.getfield 19, 3) := by decide +kernel
theorem d_Offer_savingOn_4 : decode b_Offer_savingOn 4 = .ok (.lookupswitch 61 #[(1, 28), (3, 30)], 28) := by decide +kernel
theorem d_Offer_savingOn_32 : decode b_Offer_savingOn 32 = .ok (.iload_n 2, 1) := by decide +kernel
theorem d_Offer_savingOn_33 : decode b_Offer_savingOn 33 = .ok (.ireturn, 1) := by decide +kernel
theorem d_Offer_savingOn_34 : decode b_Offer_savingOn 34 = .ok (.aload_n 0, 1) := by decide +kernel
theorem d_Offer_savingOn_35 : decode b_Offer_savingOn 35 = .ok (.getfield 30, 3) := by decide +kernel
theorem d_Offer_savingOn_38 : decode b_Offer_savingOn 38 = .ok (.bipush 100, 2) := by decide +kernel
theorem d_Offer_savingOn_40 : decode b_Offer_savingOn 40 = .ok (.if_icmp .ge 10, 3) := by decide +kernel
theorem d_Offer_savingOn_43 : decode b_Offer_savingOn 43 = .ok (.aload_n 0, 1) := by decide +kernel
theorem d_Offer_savingOn_44 : decode b_Offer_savingOn 44 = .ok (.getfield 30, 3) := by decide +kernel
theorem d_Offer_savingOn_47 : decode b_Offer_savingOn 47 = .ok (.goto 5, 3) := by decide +kernel
theorem d_Offer_savingOn_50 : decode b_Offer_savingOn 50 = .ok (.bipush 100, 2) := by decide +kernel
theorem d_Offer_savingOn_52 : decode b_Offer_savingOn 52 = .ok (.istore_n 3, 1) := by decide +kernel
theorem d_Offer_savingOn_53 : decode b_Offer_savingOn 53 = .ok (.iload_n 2, 1) := by decide +kernel
theorem d_Offer_savingOn_54 : decode b_Offer_savingOn 54 = .ok (.iload_n 2, 1) := by decide +kernel
theorem d_Offer_savingOn_55 : decode b_Offer_savingOn 55 = .ok (.iload_n 3, 1) := by decide +kernel
theorem d_Offer_savingOn_56 : decode b_Offer_savingOn 56 = .ok (.imul, 1) := by decide +kernel
theorem d_Offer_savingOn_57 : decode b_Offer_savingOn 57 = .ok (.bipush 50, 2) := by decide +kernel
theorem d_Offer_savingOn_59 : decode b_Offer_savingOn 59 = .ok (.iadd, 1) := by decide +kernel
theorem d_Offer_savingOn_60 : decode b_Offer_savingOn 60 = .ok (.bipush 100, 2) := by decide +kernel
theorem d_Offer_savingOn_62 : decode b_Offer_savingOn 62 = .ok (.idiv, 1) := by decide +kernel
theorem d_Offer_savingOn_63 : decode b_Offer_savingOn 63 = .ok (.isub, 1) := by decide +kernel
theorem d_Offer_savingOn_64 : decode b_Offer_savingOn 64 = .ok (.ireturn, 1) := by decide +kernel
theorem d_Offer_savingOn_65 : decode b_Offer_savingOn 65 = .ok (.iload_n 1, 1) := by decide +kernel
theorem d_Offer_savingOn_66 : decode b_Offer_savingOn 66 = .ok (.aload_n 0, 1) := by decide +kernel
theorem d_Offer_savingOn_67 : decode b_Offer_savingOn 67 = .ok (.getfield 30, 3) := by decide +kernel
theorem d_Offer_savingOn_70 : decode b_Offer_savingOn 70 = .ok (.isub, 1) := by decide +kernel
theorem d_Offer_savingOn_71 : decode b_Offer_savingOn 71 = .ok (.ireturn, 1) := by decide +kernel
theorem d_Offer_copyTo_0 : decode b_Offer_copyTo 0 = .ok (.aload_n 1, 1) := by decide +kernel
theorem d_Offer_copyTo_1 : decode b_Offer_copyTo 1 = .ok (.aload_n 0, 1) := by decide +kernel
theorem d_Offer_copyTo_2 : decode b_Offer_copyTo 2 = .ok (.getfield 19, 3) := by decide +kernel
theorem d_Offer_copyTo_5 : decode b_Offer_copyTo 5 = .ok (.putfield 19, 3) := by decide +kernel
theorem d_Offer_copyTo_8 : decode b_Offer_copyTo 8 = .ok (.aload_n 1, 1) := by decide +kernel
theorem d_Offer_copyTo_9 : decode b_Offer_copyTo 9 = .ok (.aload_n 0, 1) := by decide +kernel
theorem d_Offer_copyTo_10 : decode b_Offer_copyTo 10 = .ok (.getfield 9, 3) := by decide +kernel
theorem d_Offer_copyTo_13 : decode b_Offer_copyTo 13 = .ok (.putfield 9, 3) := by decide +kernel
theorem d_Offer_copyTo_16 : decode b_Offer_copyTo 16 = .ok (.aload_n 1, 1) := by decide +kernel
theorem d_Offer_copyTo_17 : decode b_Offer_copyTo 17 = .ok (.aload_n 0, 1) := by decide +kernel
theorem d_Offer_copyTo_18 : decode b_Offer_copyTo 18 = .ok (.getfield 30, 3) := by decide +kernel
theorem d_Offer_copyTo_21 : decode b_Offer_copyTo 21 = .ok (.putfield 30, 3) := by decide +kernel
theorem d_Offer_copyTo_24 : decode b_Offer_copyTo 24 = .ok (.aload_n 1, 1) := by decide +kernel
theorem d_Offer_copyTo_25 : decode b_Offer_copyTo 25 = .ok (.aload_n 0, 1) := by decide +kernel
theorem d_Offer_copyTo_26 : decode b_Offer_copyTo 26 = .ok (.getfield 33, 3) := by decide +kernel
theorem d_Offer_copyTo_29 : decode b_Offer_copyTo 29 = .ok (.putfield 33, 3) := by decide +kernel
theorem d_Offer_copyTo_32 : decode b_Offer_copyTo 32 = .ok (.aload_n 1, 1) := by decide +kernel
theorem d_Offer_copyTo_33 : decode b_Offer_copyTo 33 = .ok (.aload_n 0, 1) := by decide +kernel
theorem d_Offer_copyTo_34 : decode b_Offer_copyTo 34 = .ok (.getfield 36, 3) := by decide +kernel
theorem d_Offer_copyTo_37 : decode b_Offer_copyTo 37 = .ok (.putfield 36, 3) := by decide +kernel
theorem d_Offer_copyTo_40 : decode b_Offer_copyTo 40 = .ok (.aload_n 0, 1) := by decide +kernel
theorem d_Offer_copyTo_41 : decode b_Offer_copyTo 41 = .ok (.getfield 15, 3) := by decide +kernel
theorem d_Offer_copyTo_44 : decode b_Offer_copyTo 44 = .ok (.iconst 0, 1) := by decide +kernel
theorem d_Offer_copyTo_45 : decode b_Offer_copyTo 45 = .ok (.aload_n 1, 1) := by decide +kernel
theorem d_Offer_copyTo_46 : decode b_Offer_copyTo 46 = .ok (.getfield 15, 3) := by decide +kernel
theorem d_Offer_copyTo_49 : decode b_Offer_copyTo 49 = .ok (.iconst 0, 1) := by decide +kernel
theorem d_Offer_copyTo_50 : decode b_Offer_copyTo 50 = .ok (.iconst 4, 1) := by decide +kernel
theorem d_Offer_copyTo_51 : decode b_Offer_copyTo 51 = .ok (.invokestatic 40, 3) := by decide +kernel
theorem d_Offer_copyTo_54 : decode b_Offer_copyTo 54 = .ok (.return_, 1) := by decide +kernel
