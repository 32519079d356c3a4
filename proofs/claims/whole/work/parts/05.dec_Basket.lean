/-! decode rows of Basket (by program) -/
theorem d_Basket_init_0 : decode b_Basket_init 0 = .ok (.aload_n 0, 1) := by decide +kernel
theorem d_Basket_init_1 : decode b_Basket_init 1 = .ok (.invokespecial 3, 3) := by decide +kernel
theorem d_Basket_init_4 : decode b_Basket_init 4 = .ok (.aload_n 0, 1) := by decide +kernel
theorem d_Basket_init_5 : decode b_Basket_init 5 = .ok (.bipush 10, 2) := by decide +kernel
theorem d_Basket_init_7 : decode b_Basket_init 7 = .ok (.newarray .int, 2) := by decide +kernel
theorem d_Basket_init_9 : decode b_Basket_init 9 = .ok (.putfield 9, 3) := by decide +kernel
theorem d_Basket_init_12 : decode b_Basket_init 12 = .ok (.return_, 1) := by decide +kernel
theorem d_Basket_add_0 : decode b_Basket_add 0 = .ok (.aload_n 0, 1) := by decide +kernel
theorem d_Basket_add_1 : decode b_Basket_add 1 = .ok (.getfield 15, 3) := by decide +kernel
theorem d_Basket_add_4 : decode b_Basket_add 4 = .ok (.aload_n 0, 1) := by decide +kernel
theorem d_Basket_add_5 : decode b_Basket_add 5 = .ok (.getfield 9, 3) := by decide +kernel
theorem d_Basket_add_8 : decode b_Basket_add 8 = .ok (.arraylength, 1) := by decide +kernel
theorem d_Basket_add_9 : decode b_Basket_add 9 = .ok (.if_icmp .ge 23, 3) := by decide +kernel
theorem d_Basket_add_12 : decode b_Basket_add 12 = .ok (.aload_n 0, 1) := by decide +kernel
theorem d_Basket_add_13 : decode b_Basket_add 13 = .ok (.getfield 9, 3) := by decide +kernel
theorem d_Basket_add_16 : decode b_Basket_add 16 = .ok (.aload_n 0, 1) := by decide +kernel
theorem d_Basket_add_17 : decode b_Basket_add 17 = .ok (.getfield 15, 3) := by decide +kernel
theorem d_Basket_add_20 : decode b_Basket_add 20 = .ok (.iload_n 1, 1) := by decide +kernel
theorem d_Basket_add_21 : decode b_Basket_add 21 = .ok (.iastore, 1) := by decide +kernel
theorem d_Basket_add_22 : decode b_Basket_add 22 = .ok (.aload_n 0, 1) := by decide +kernel
theorem d_Basket_add_23 : decode b_Basket_add 23 = .ok (.dup, 1) := by decide +kernel
theorem d_Basket_add_24 : decode b_Basket_add 24 = .ok (.getfield 15, 3) := by decide +kernel
theorem d_Basket_add_27 : decode b_Basket_add 27 = .ok (.iconst 1, 1) := by decide +kernel
theorem d_Basket_add_28 : decode b_Basket_add 28 = .ok (.iadd, 1) := by decide +kernel
theorem d_Basket_add_29 : decode b_Basket_add 29 = .ok (.putfield 15, 3) := by decide +kernel
theorem d_Basket_add_32 : decode b_Basket_add 32 = .ok (.return_, 1) := by decide +kernel
theorem d_Basket_remove_0 : decode b_Basket_remove 0 = .ok (.iload_n 1, 1) := by decide +kernel
theorem d_Basket_remove_1 : decode b_Basket_remove 1 = .ok (.ifCond .lt 11, 3) := by decide +kernel
theorem d_Basket_remove_4 : decode b_Basket_remove 4 = .ok (.iload_n 1, 1) := by decide +kernel
theorem d_Basket_remove_5 : decode b_Basket_remove 5 = .ok (.aload_n 0, 1) := by decide +kernel
theorem d_Basket_remove_6 : decode b_Basket_remove 6 = .ok (.getfield 15, 3) := by decide +kernel
theorem d_Basket_remove_9 : decode b_Basket_remove 9 = .ok (.if_icmp .lt 4, 3) := by decide +kernel
theorem d_Basket_remove_12 : decode b_Basket_remove 12 = .ok (.return_, 1) := by decide +kernel
theorem d_Basket_remove_13 : decode b_Basket_remove 13 = .ok (.iload_n 1, 1) := by decide +kernel
theorem d_Basket_remove_14 : decode b_Basket_remove 14 = .ok (.istore_n 2, 1) := by decide +kernel
theorem d_Basket_remove_15 : decode b_Basket_remove 15 = .ok (.iload_n 2, 1) := by decide +kernel
theorem d_Basket_remove_16 : decode b_Basket_remove 16 = .ok (.aload_n 0, 1) := by decide +kernel
theorem d_Basket_remove_17 : decode b_Basket_remove 17 = .ok (.getfield 15, 3) := by decide +kernel
theorem d_Basket_remove_20 : decode b_Basket_remove 20 = .ok (.iconst 1, 1) := by decide +kernel
theorem d_Basket_remove_21 : decode b_Basket_remove 21 = .ok (.isub, 1) := by decide +kernel
theorem d_Basket_remove_22 : decode b_Basket_remove 22 = .ok (.if_icmp .ge 23, 3) := by decide +kernel
theorem d_Basket_remove_25 : decode b_Basket_remove 25 = .ok (.aload_n 0, 1) := by decide +kernel
theorem d_Basket_remove_26 : decode b_Basket_remove 26 = .ok (.getfield 9, 3) := by decide +kernel
theorem d_Basket_remove_29 : decode b_Basket_remove 29 = .ok (.iload_n 2, 1) := by decide +kernel
theorem d_Basket_remove_30 : decode b_Basket_remove 30 = .ok (.aload_n 0, 1) := by decide +kernel
theorem d_Basket_remove_31 : decode b_Basket_remove 31 = .ok (.getfield 9, 3) := by decide +kernel
theorem d_Basket_remove_34 : decode b_Basket_remove 34 = .ok (.iload_n 2, 1) := by decide +kernel
theorem d_Basket_remove_35 : decode b_Basket_remove 35 = .ok (.iconst 1, 1) := by decide +kernel
theorem d_Basket_remove_36 : decode b_Basket_remove 36 = .ok (.iadd, 1) := by decide +kernel
theorem d_Basket_remove_37 : decode b_Basket_remove 37 = .ok (.iaload, 1) := by decide +kernel
theorem d_Basket_remove_38 : decode b_Basket_remove 38 = .ok (.iastore, 1) := by decide +kernel
theorem d_Basket_remove_39 : decode b_Basket_remove 39 = .ok (.iinc 2 1, 3) := by decide +kernel
theorem d_Basket_remove_42 : decode b_Basket_remove 42 = .ok (.goto (-27), 3) := by decide +kernel
theorem d_Basket_remove_45 : decode b_Basket_remove 45 = .ok (.aload_n 0, 1) := by decide +kernel
theorem d_Basket_remove_46 : decode b_Basket_remove 46 = .ok (.dup, 1) := by decide +kernel
theorem d_Basket_remove_47 : decode b_Basket_remove 47 = .ok (.getfield 15, 3) := by decide +kernel
theorem d_Basket_remove_50 : decode b_Basket_remove 50 = .ok (.iconst 1, 1) := by decide +kernel
theorem d_Basket_remove_51 : decode b_Basket_remove 51 = .ok (.isub, 1) := by decide +kernel
theorem d_Basket_remove_52 : decode b_Basket_remove 52 = .ok (.putfield 15, 3) := by decide +kernel
theorem d_Basket_remove_55 : decode b_Basket_remove 55 = .ok (.return_, 1) := by decide +kernel
theorem d_Basket_countOf_0 : decode b_Basket_countOf 0 = .ok (.iconst 0, 1) := by decide +kernel
theorem d_Basket_countOf_1 : decode b_Basket_countOf 1 = .ok (.istore_n 2, 1) := by decide +kernel
theorem d_Basket_countOf_2 : decode b_Basket_countOf 2 = .ok (.iconst 0, 1) := by decide +kernel
theorem d_Basket_countOf_3 : decode b_Basket_countOf 3 = .ok (.istore_n 3, 1) := by decide +kernel
theorem d_Basket_countOf_4 : decode b_Basket_countOf 4 = .ok (.iload_n 3, 1) := by decide +kernel
theorem d_Basket_countOf_5 : decode b_Basket_countOf 5 = .ok (.aload_n 0, 1) := by decide +kernel
theorem d_Basket_countOf_6 : decode b_Basket_countOf 6 = .ok (.getfield 15, 3) := by decide +kernel
theorem d_Basket_countOf_9 : decode b_Basket_countOf 9 = .ok (.if_icmp .ge 22, 3) := by decide +kernel
theorem d_Basket_countOf_12 : decode b_Basket_countOf 12 = .ok (.aload_n 0, 1) := by decide +kernel
theorem d_Basket_countOf_13 : decode b_Basket_countOf 13 = .ok (.getfield 9, 3) := by decide +kernel
theorem d_Basket_countOf_16 : decode b_Basket_countOf 16 = .ok (.iload_n 3, 1) := by decide +kernel
theorem d_Basket_countOf_17 : decode b_Basket_countOf 17 = .ok (.iaload, 1) := by decide +kernel
theorem d_Basket_countOf_18 : decode b_Basket_countOf 18 = .ok (.iload_n 1, 1) := by decide +kernel
theorem d_Basket_countOf_19 : decode b_Basket_countOf 19 = .ok (.if_icmp .ne 6, 3) := by decide +kernel
theorem d_Basket_countOf_22 : decode b_Basket_countOf 22 = .ok (.iinc 2 1, 3) := by decide +kernel
theorem d_Basket_countOf_25 : decode b_Basket_countOf 25 = .ok (.iinc 3 1, 3) := by decide +kernel
theorem d_Basket_countOf_28 : decode b_Basket_countOf 28 = .ok (.goto (-24), 3) := by decide +kernel
theorem d_Basket_countOf_31 : decode b_Basket_countOf 31 = .ok (.iload_n 2, 1) := by decide +kernel
theorem d_Basket_countOf_32 : decode b_Basket_countOf 32 = .ok (.ireturn, 1) := by decide +kernel
theorem d_Basket_priceIn_0 : decode b_Basket_priceIn 0 = .ok (.iconst 0, 1) := by decide +kernel
theorem d_Basket_priceIn_1 : decode b_Basket_priceIn 1 = .ok (.istore_n 2, 1) := by decide +kernel
theorem d_Basket_priceIn_2 : decode b_Basket_priceIn 2 = .ok (.iconst 0, 1) := by decide +kernel
theorem d_Basket_priceIn_3 : decode b_Basket_priceIn 3 = .ok (.istore_n 3, 1) := by decide +kernel
theorem d_Basket_priceIn_4 : decode b_Basket_priceIn 4 = .ok (.iload_n 3, 1) := by decide +kernel
theorem d_Basket_priceIn_5 : decode b_Basket_priceIn 5 = .ok (.aload_n 0, 1) := by decide +kernel
theorem d_Basket_priceIn_6 : decode b_Basket_priceIn 6 = .ok (.getfield 15, 3) := by decide +kernel
theorem d_Basket_priceIn_9 : decode b_Basket_priceIn 9 = .ok (.if_icmp .ge 23, 3) := by decide +kernel
theorem d_Basket_priceIn_12 : decode b_Basket_priceIn 12 = .ok (.iload_n 2, 1) := by decide +kernel
theorem d_Basket_priceIn_13 : decode b_Basket_priceIn 13 = .ok (.aload_n 1, 1) := by decide +kernel
theorem d_Basket_priceIn_14 : decode b_Basket_priceIn 14 = .ok (.getfield 19, 3) := by decide +kernel
theorem d_Basket_priceIn_17 : decode b_Basket_priceIn 17 = .ok (.aload_n 0, 1) := by decide +kernel
theorem d_Basket_priceIn_18 : decode b_Basket_priceIn 18 = .ok (.getfield 9, 3) := by decide +kernel
theorem d_Basket_priceIn_21 : decode b_Basket_priceIn 21 = .ok (.iload_n 3, 1) := by decide +kernel
theorem d_Basket_priceIn_22 : decode b_Basket_priceIn 22 = .ok (.iaload, 1) := by decide +kernel
theorem d_Basket_priceIn_23 : decode b_Basket_priceIn 23 = .ok (.iaload, 1) := by decide +kernel
theorem d_Basket_priceIn_24 : decode b_Basket_priceIn 24 = .ok (.iadd, 1) := by decide +kernel
theorem d_Basket_priceIn_25 : decode b_Basket_priceIn 25 = .ok (.istore_n 2, 1) := by decide +kernel
theorem d_Basket_priceIn_26 : decode b_Basket_priceIn 26 = .ok (.iinc 3 1, 3) := by decide +kernel
theorem d_Basket_priceIn_29 : decode b_Basket_priceIn 29 = .ok (.goto (-25), 3) := by decide +kernel
theorem d_Basket_priceIn_32 : decode b_Basket_priceIn 32 = .ok (.iload_n 2, 1) := by decide +kernel
theorem d_Basket_priceIn_33 : decode b_Basket_priceIn 33 = .ok (.ireturn, 1) := by decide +kernel
