/-! decode rows of Tariff (by program) -/
theorem d_Tariff_init_0 : decode b_Tariff_init 0 = .ok (.aload_n 0, 1) := by decide +kernel
theorem d_Tariff_init_1 : decode b_Tariff_init 1 = .ok (.invokespecial 3, 3) := by decide +kernel
theorem d_Tariff_init_4 : decode b_Tariff_init 4 = .ok (.aload_n 0, 1) := by decide +kernel
theorem d_Tariff_init_5 : decode b_Tariff_init 5 = .ok (.bipush 12, 2) := by decide +kernel
theorem d_Tariff_init_7 : decode b_Tariff_init 7 = .ok (.newarray .int, 2) := by decide +kernel
theorem d_Tariff_init_9 : decode b_Tariff_init 9 = .ok (.putfield 9, 3) := by decide +kernel
theorem d_Tariff_init_12 : decode b_Tariff_init 12 = .ok (.aload_n 0, 1) := by decide +kernel
theorem d_Tariff_init_13 : decode b_Tariff_init 13 = .ok (.bipush 6, 2) := by decide +kernel
theorem d_Tariff_init_15 : decode b_Tariff_init 15 = .ok (.anewarray 15, 3) := by decide +kernel
theorem d_Tariff_init_18 : decode b_Tariff_init 18 = .ok (.putfield 17, 3) := by decide +kernel
theorem d_Tariff_init_21 : decode b_Tariff_init 21 = .ok (.aload_n 0, 1) := by decide +kernel
theorem d_Tariff_init_22 : decode b_Tariff_init 22 = .ok (.getfield 9, 3) := by decide +kernel
theorem d_Tariff_init_25 : decode b_Tariff_init 25 = .ok (.bipush 100, 2) := by decide +kernel
theorem d_Tariff_init_27 : decode b_Tariff_init 27 = .ok (.invokestatic 21, 3) := by decide +kernel
theorem d_Tariff_init_30 : decode b_Tariff_init 30 = .ok (.iconst 0, 1) := by decide +kernel
theorem d_Tariff_init_31 : decode b_Tariff_init 31 = .ok (.istore_n 1, 1) := by decide +kernel
theorem d_Tariff_init_32 : decode b_Tariff_init 32 = .ok (.iload_n 1, 1) := by decide +kernel
theorem d_Tariff_init_33 : decode b_Tariff_init 33 = .ok (.bipush 6, 2) := by decide +kernel
theorem d_Tariff_init_35 : decode b_Tariff_init 35 = .ok (.if_icmp .ge 22, 3) := by decide +kernel
theorem d_Tariff_init_38 : decode b_Tariff_init 38 = .ok (.aload_n 0, 1) := by decide +kernel
theorem d_Tariff_init_39 : decode b_Tariff_init 39 = .ok (.getfield 17, 3) := by decide +kernel
theorem d_Tariff_init_42 : decode b_Tariff_init 42 = .ok (.iload_n 1, 1) := by decide +kernel
theorem d_Tariff_init_43 : decode b_Tariff_init 43 = .ok (.new 15, 3) := by decide +kernel
theorem d_Tariff_init_46 : decode b_Tariff_init 46 = .ok (.dup, 1) := by decide +kernel
theorem d_Tariff_init_47 : decode b_Tariff_init 47 = .ok (.invokespecial 27, 3) := by decide +kernel
theorem d_Tariff_init_50 : decode b_Tariff_init 50 = .ok (.aastore, 1) := by decide +kernel
theorem d_Tariff_init_51 : decode b_Tariff_init 51 = .ok (.iinc 1 1, 3) := by decide +kernel
theorem d_Tariff_init_54 : decode b_Tariff_init 54 = .ok (.goto (-22), 3) := by decide +kernel
theorem d_Tariff_init_57 : decode b_Tariff_init 57 = .ok (.return_, 1) := by decide +kernel
theorem d_Tariff_looksAt_0 : decode b_Tariff_looksAt 0 = .ok (.iconst 0, 1) := by decide +kernel
theorem d_Tariff_looksAt_1 : decode b_Tariff_looksAt 1 = .ok (.istore_n 2, 1) := by decide +kernel
theorem d_Tariff_looksAt_2 : decode b_Tariff_looksAt 2 = .ok (.iload_n 2, 1) := by decide +kernel
theorem d_Tariff_looksAt_3 : decode b_Tariff_looksAt 3 = .ok (.bipush 6, 2) := by decide +kernel
theorem d_Tariff_looksAt_5 : decode b_Tariff_looksAt 5 = .ok (.if_icmp .ge 36, 3) := by decide +kernel
theorem d_Tariff_looksAt_8 : decode b_Tariff_looksAt 8 = .ok (.aload_n 0, 1) := by decide +kernel
theorem d_Tariff_looksAt_9 : decode b_Tariff_looksAt 9 = .ok (.getfield 17, 3) := by decide +kernel
theorem d_Tariff_looksAt_12 : decode b_Tariff_looksAt 12 = .ok (.iload_n 2, 1) := by decide +kernel
theorem d_Tariff_looksAt_13 : decode b_Tariff_looksAt 13 = .ok (.aaload, 1) := by decide +kernel
theorem d_Tariff_looksAt_14 : decode b_Tariff_looksAt 14 = .ok (.getfield 28, 3) := by decide +kernel
theorem d_Tariff_looksAt_17 : decode b_Tariff_looksAt 17 = .ok (.ifCond .eq 18, 3) := by decide +kernel
theorem d_Tariff_looksAt_20 : decode b_Tariff_looksAt 20 = .ok (.aload_n 0, 1) := by decide +kernel
theorem d_Tariff_looksAt_21 : decode b_Tariff_looksAt 21 = .ok (.getfield 17, 3) := by decide +kernel
theorem d_Tariff_looksAt_24 : decode b_Tariff_looksAt 24 = .ok (.iload_n 2, 1) := by decide +kernel
theorem d_Tariff_looksAt_25 : decode b_Tariff_looksAt 25 = .ok (.aaload, 1) := by decide +kernel
theorem d_Tariff_looksAt_26 : decode b_Tariff_looksAt 26 = .ok (.iload_n 1, 1) := by decide +kernel
theorem d_Tariff_looksAt_27 : decode b_Tariff_looksAt 27 = .ok (.invokevirtual 32, 3) := by decide +kernel
theorem d_Tariff_looksAt_30 : decode b_Tariff_looksAt 30 = .ok (.ifCond .eq 5, 3) := by decide +kernel
theorem d_Tariff_looksAt_33 : decode b_Tariff_looksAt 33 = .ok (.iconst 1, 1) := by decide +kernel
theorem d_Tariff_looksAt_34 : decode b_Tariff_looksAt 34 = .ok (.ireturn, 1) := by decide +kernel
theorem d_Tariff_looksAt_35 : decode b_Tariff_looksAt 35 = .ok (.iinc 2 1, 3) := by decide +kernel
theorem d_Tariff_looksAt_38 : decode b_Tariff_looksAt 38 = .ok (.goto (-36), 3) := by decide +kernel
theorem d_Tariff_looksAt_41 : decode b_Tariff_looksAt 41 = .ok (.iconst 0, 1) := by decide +kernel
theorem d_Tariff_looksAt_42 : decode b_Tariff_looksAt 42 = .ok (.ireturn, 1) := by decide +kernel
theorem d_Tariff_copy_0 : decode b_Tariff_copy 0 = .ok (.new 10, 3) := by decide +kernel
theorem d_Tariff_copy_3 : decode b_Tariff_copy 3 = .ok (.dup, 1) := by decide +kernel
theorem d_Tariff_copy_4 : decode b_Tariff_copy 4 = .ok (.invokespecial 36, 3) := by decide +kernel
theorem d_Tariff_copy_7 : decode b_Tariff_copy 7 = .ok (.astore_n 1, 1) := by decide +kernel
theorem d_Tariff_copy_8 : decode b_Tariff_copy 8 = .ok (.aload_n 0, 1) := by decide +kernel
theorem d_Tariff_copy_9 : decode b_Tariff_copy 9 = .ok (.getfield 9, 3) := by decide +kernel
theorem d_Tariff_copy_12 : decode b_Tariff_copy 12 = .ok (.iconst 0, 1) := by decide +kernel
theorem d_Tariff_copy_13 : decode b_Tariff_copy 13 = .ok (.aload_n 1, 1) := by decide +kernel
theorem d_Tariff_copy_14 : decode b_Tariff_copy 14 = .ok (.getfield 9, 3) := by decide +kernel
theorem d_Tariff_copy_17 : decode b_Tariff_copy 17 = .ok (.iconst 0, 1) := by decide +kernel
theorem d_Tariff_copy_18 : decode b_Tariff_copy 18 = .ok (.bipush 12, 2) := by decide +kernel
theorem d_Tariff_copy_20 : decode b_Tariff_copy 20 = .ok (.invokestatic 37, 3) := by decide +kernel
theorem d_Tariff_copy_23 : decode b_Tariff_copy 23 = .ok (.iconst 0, 1) := by decide +kernel
theorem d_Tariff_copy_24 : decode b_Tariff_copy 24 = .ok (.istore_n 2, 1) := by decide +kernel
theorem d_Tariff_copy_25 : decode b_Tariff_copy 25 = .ok (.iload_n 2, 1) := by decide +kernel
theorem d_Tariff_copy_26 : decode b_Tariff_copy 26 = .ok (.bipush 6, 2) := by decide +kernel
theorem d_Tariff_copy_28 : decode b_Tariff_copy 28 = .ok (.if_icmp .ge 24, 3) := by decide +kernel
theorem d_Tariff_copy_31 : decode b_Tariff_copy 31 = .ok (.aload_n 0, 1) := by decide +kernel
theorem d_Tariff_copy_32 : decode b_Tariff_copy 32 = .ok (.getfield 17, 3) := by decide +kernel
theorem d_Tariff_copy_35 : decode b_Tariff_copy 35 = .ok (.iload_n 2, 1) := by decide +kernel
theorem d_Tariff_copy_36 : decode b_Tariff_copy 36 = .ok (.aaload, 1) := by decide +kernel
theorem d_Tariff_copy_37 : decode b_Tariff_copy 37 = .ok (.aload_n 1, 1) := by decide +kernel
theorem d_Tariff_copy_38 : decode b_Tariff_copy 38 = .ok (.getfield 17, 3) := by decide +kernel
theorem d_Tariff_copy_41 : decode b_Tariff_copy 41 = .ok (.iload_n 2, 1) := by decide +kernel
theorem d_Tariff_copy_42 : decode b_Tariff_copy 42 = .ok (.aaload, 1) := by decide +kernel
theorem d_Tariff_copy_43 : decode b_Tariff_copy 43 = .ok (.invokevirtual 43, 3) := by decide +kernel
theorem d_Tariff_copy_46 : decode b_Tariff_copy 46 = .ok (.iinc 2 1, 3) := by decide +kernel
theorem d_Tariff_copy_49 : decode b_Tariff_copy 49 = .ok (.goto (-24), 3) := by decide +kernel
theorem d_Tariff_copy_52 : decode b_Tariff_copy 52 = .ok (.aload_n 1, 1) := by decide +kernel
theorem d_Tariff_copy_53 : decode b_Tariff_copy 53 = .ok (.areturn, 1) := by decide +kernel
