/-! decode rows of Till (by program) -/
theorem d_Till_init_0 : decode b_Till_init 0 = .ok (.aload_n 0, 1) := by decide +kernel
theorem d_Till_init_1 : decode b_Till_init 1 = .ok (.invokespecial 1, 3) := by decide +kernel
theorem d_Till_init_4 : decode b_Till_init 4 = .ok (.aload_n 0, 1) := by decide +kernel
theorem d_Till_init_5 : decode b_Till_init 5 = .ok (.new 7, 3) := by decide +kernel
theorem d_Till_init_8 : decode b_Till_init 8 = .ok (.dup, 1) := by decide +kernel
theorem d_Till_init_9 : decode b_Till_init 9 = .ok (.invokespecial 9, 3) := by decide +kernel
theorem d_Till_init_12 : decode b_Till_init 12 = .ok (.putfield 10, 3) := by decide +kernel
theorem d_Till_init_15 : decode b_Till_init 15 = .ok (.aload_n 0, 1) := by decide +kernel
theorem d_Till_init_16 : decode b_Till_init 16 = .ok (.bipush 12, 2) := by decide +kernel
theorem d_Till_init_18 : decode b_Till_init 18 = .ok (.newarray .int, 2) := by decide +kernel
theorem d_Till_init_20 : decode b_Till_init 20 = .ok (.putfield 16, 3) := by decide +kernel
theorem d_Till_init_23 : decode b_Till_init 23 = .ok (.aload_n 0, 1) := by decide +kernel
theorem d_Till_init_24 : decode b_Till_init 24 = .ok (.new 20, 3) := by decide +kernel
theorem d_Till_init_27 : decode b_Till_init 27 = .ok (.dup, 1) := by decide +kernel
theorem d_Till_init_28 : decode b_Till_init 28 = .ok (.invokespecial 22, 3) := by decide +kernel
theorem d_Till_init_31 : decode b_Till_init 31 = .ok (.putfield 23, 3) := by decide +kernel
theorem d_Till_init_34 : decode b_Till_init 34 = .ok (.aload_n 0, 1) := by decide +kernel
theorem d_Till_init_35 : decode b_Till_init 35 = .ok (.new 20, 3) := by decide +kernel
theorem d_Till_init_38 : decode b_Till_init 38 = .ok (.dup, 1) := by decide +kernel
theorem d_Till_init_39 : decode b_Till_init 39 = .ok (.invokespecial 22, 3) := by decide +kernel
theorem d_Till_init_42 : decode b_Till_init 42 = .ok (.putfield 27, 3) := by decide +kernel
theorem d_Till_init_45 : decode b_Till_init 45 = .ok (.aload_n 0, 1) := by decide +kernel
theorem d_Till_init_46 : decode b_Till_init 46 = .ok (.new 30, 3) := by decide +kernel
theorem d_Till_init_49 : decode b_Till_init 49 = .ok (.dup, 1) := by decide +kernel
theorem d_Till_init_50 : decode b_Till_init 50 = .ok (.invokespecial 32, 3) := by decide +kernel
theorem d_Till_init_53 : decode b_Till_init 53 = .ok (.putfield 33, 3) := by decide +kernel
theorem d_Till_init_56 : decode b_Till_init 56 = .ok (.aload_n 0, 1) := by decide +kernel
theorem d_Till_init_57 : decode b_Till_init 57 = .ok (.new 37, 3) := by decide +kernel
theorem d_Till_init_60 : decode b_Till_init 60 = .ok (.dup, 1) := by decide +kernel
theorem d_Till_init_61 : decode b_Till_init 61 = .ok (.invokespecial 39, 3) := by decide +kernel
theorem d_Till_init_64 : decode b_Till_init 64 = .ok (.putfield 40, 3) := by decide +kernel
theorem d_Till_init_67 : decode b_Till_init 67 = .ok (.aload_n 0, 1) := by decide +kernel
theorem d_Till_init_68 : decode b_Till_init 68 = .ok (.new 44, 3) := by decide +kernel
theorem d_Till_init_71 : decode b_Till_init 71 = .ok (.dup, 1) := by decide +kernel
theorem d_Till_init_72 : decode b_Till_init 72 = .ok (.invokespecial 46, 3) := by decide +kernel
theorem d_Till_init_75 : decode b_Till_init 75 = .ok (.putfield 47, 3) := by decide +kernel
theorem d_Till_init_78 : decode b_Till_init 78 = .ok (.return_, 1) := by decide +kernel
theorem d_Till_article_0 : decode b_Till_article 0 = .ok (.iload_n 1, 1) := by decide +kernel
theorem d_Till_article_1 : decode b_Till_article 1 = .ok (.invokestatic 51, 3) := by decide +kernel
theorem d_Till_article_4 : decode b_Till_article 4 = .ok (.iload_n 2, 1) := by decide +kernel
theorem d_Till_article_5 : decode b_Till_article 5 = .ok (.iconst 1, 1) := by decide +kernel
theorem d_Till_article_6 : decode b_Till_article 6 = .ok (.ldc 55, 2) := by decide +kernel
theorem d_Till_article_8 : decode b_Till_article 8 = .ok (.invokestatic 56, 3) := by decide +kernel
theorem d_Till_article_11 : decode b_Till_article 11 = .ok (.invokestatic 60, 3) := by decide +kernel
theorem d_Till_article_14 : decode b_Till_article 14 = .ok (.iload_n 3, 1) := by decide +kernel
theorem d_Till_article_15 : decode b_Till_article 15 = .ok (.iconst 0, 1) := by decide +kernel
theorem d_Till_article_16 : decode b_Till_article 16 = .ok (.getstatic 64, 3) := by decide +kernel
theorem d_Till_article_19 : decode b_Till_article 19 = .ok (.arraylength, 1) := by decide +kernel
theorem d_Till_article_20 : decode b_Till_article 20 = .ok (.iconst 1, 1) := by decide +kernel
theorem d_Till_article_21 : decode b_Till_article 21 = .ok (.isub, 1) := by decide +kernel
theorem d_Till_article_22 : decode b_Till_article 22 = .ok (.invokestatic 56, 3) := by decide +kernel
theorem d_Till_article_25 : decode b_Till_article 25 = .ok (.invokestatic 60, 3) := by decide +kernel
theorem d_Till_article_28 : decode b_Till_article 28 = .ok (.aload_n 0, 1) := by decide +kernel
theorem d_Till_article_29 : decode b_Till_article 29 = .ok (.invokevirtual 67, 3) := by decide +kernel
theorem d_Till_article_32 : decode b_Till_article 32 = .ok (.aload_n 0, 1) := by decide +kernel
theorem d_Till_article_33 : decode b_Till_article 33 = .ok (.getfield 10, 3) := by decide +kernel
theorem d_Till_article_36 : decode b_Till_article 36 = .ok (.getfield 70, 3) := by decide +kernel
theorem d_Till_article_39 : decode b_Till_article 39 = .ok (.iload_n 1, 1) := by decide +kernel
theorem d_Till_article_40 : decode b_Till_article 40 = .ok (.iload_n 2, 1) := by decide +kernel
theorem d_Till_article_41 : decode b_Till_article 41 = .ok (.iastore, 1) := by decide +kernel
theorem d_Till_article_42 : decode b_Till_article 42 = .ok (.aload_n 0, 1) := by decide +kernel
theorem d_Till_article_43 : decode b_Till_article 43 = .ok (.getfield 16, 3) := by decide +kernel
theorem d_Till_article_46 : decode b_Till_article 46 = .ok (.iload_n 1, 1) := by decide +kernel
theorem d_Till_article_47 : decode b_Till_article 47 = .ok (.iload_n 3, 1) := by decide +kernel
theorem d_Till_article_48 : decode b_Till_article 48 = .ok (.iastore, 1) := by decide +kernel
theorem d_Till_article_49 : decode b_Till_article 49 = .ok (.return_, 1) := by decide +kernel
theorem d_Till_offer_0 : decode b_Till_offer 0 = .ok (.iload_n 1, 1) := by decide +kernel
theorem d_Till_offer_1 : decode b_Till_offer 1 = .ok (.invokestatic 73, 3) := by decide +kernel
theorem d_Till_offer_4 : decode b_Till_offer 4 = .ok (.iload_n 2, 1) := by decide +kernel
theorem d_Till_offer_5 : decode b_Till_offer 5 = .ok (.iconst 0, 1) := by decide +kernel
theorem d_Till_offer_6 : decode b_Till_offer 6 = .ok (.iconst 3, 1) := by decide +kernel
theorem d_Till_offer_7 : decode b_Till_offer 7 = .ok (.invokestatic 56, 3) := by decide +kernel
theorem d_Till_offer_10 : decode b_Till_offer 10 = .ok (.invokestatic 60, 3) := by decide +kernel
theorem d_Till_offer_13 : decode b_Till_offer 13 = .ok (.iload_n 3, 1) := by decide +kernel
theorem d_Till_offer_14 : decode b_Till_offer 14 = .ok (.iconst 2, 1) := by decide +kernel
theorem d_Till_offer_15 : decode b_Till_offer 15 = .ok (.iconst 4, 1) := by decide +kernel
theorem d_Till_offer_16 : decode b_Till_offer 16 = .ok (.invokestatic 56, 3) := by decide +kernel
theorem d_Till_offer_19 : decode b_Till_offer 19 = .ok (.invokestatic 60, 3) := by decide +kernel
theorem d_Till_offer_22 : decode b_Till_offer 22 = .ok (.iload 4, 2) := by decide +kernel
theorem d_Till_offer_24 : decode b_Till_offer 24 = .ok (.iconst 0, 1) := by decide +kernel
theorem d_Till_offer_25 : decode b_Till_offer 25 = .ok (.ldc 76, 2) := by decide +kernel
theorem d_Till_offer_27 : decode b_Till_offer 27 = .ok (.invokestatic 56, 3) := by decide +kernel
theorem d_Till_offer_30 : decode b_Till_offer 30 = .ok (.invokestatic 60, 3) := by decide +kernel
theorem d_Till_offer_33 : decode b_Till_offer 33 = .ok (.iload 5, 2) := by decide +kernel
theorem d_Till_offer_35 : decode b_Till_offer 35 = .ok (.iconst 0, 1) := by decide +kernel
theorem d_Till_offer_36 : decode b_Till_offer 36 = .ok (.iconst 5, 1) := by decide +kernel
theorem d_Till_offer_37 : decode b_Till_offer 37 = .ok (.invokestatic 56, 3) := by decide +kernel
theorem d_Till_offer_40 : decode b_Till_offer 40 = .ok (.invokestatic 60, 3) := by decide +kernel
theorem d_Till_offer_43 : decode b_Till_offer 43 = .ok (.aload_n 0, 1) := by decide +kernel
theorem d_Till_offer_44 : decode b_Till_offer 44 = .ok (.invokevirtual 67, 3) := by decide +kernel
theorem d_Till_offer_47 : decode b_Till_offer 47 = .ok (.aload_n 0, 1) := by decide +kernel
theorem d_Till_offer_48 : decode b_Till_offer 48 = .ok (.getfield 10, 3) := by decide +kernel
theorem d_Till_offer_51 : decode b_Till_offer 51 = .ok (.getfield 77, 3) := by decide +kernel
theorem d_Till_offer_54 : decode b_Till_offer 54 = .ok (.iload_n 1, 1) := by decide +kernel
theorem d_Till_offer_55 : decode b_Till_offer 55 = .ok (.aaload, 1) := by decide +kernel
theorem d_Till_offer_56 : decode b_Till_offer 56 = .ok (.astore 6, 2) := by decide +kernel
theorem d_Till_offer_58 : decode b_Till_offer 58 = .ok (.aload 6, 2) := by decide +kernel
theorem d_Till_offer_60 : decode b_Till_offer 60 = .ok (.iload_n 2, 1) := by decide +kernel
theorem d_Till_offer_61 : decode b_Till_offer 61 = .ok (.putfield 81, 3) := by decide +kernel
theorem d_Till_offer_64 : decode b_Till_offer 64 = .ok (.aload 6, 2) := by decide +kernel
theorem d_Till_offer_66 : decode b_Till_offer 66 = .ok (.iload_n 3, 1) := by decide +kernel
theorem d_Till_offer_67 : decode b_Till_offer 67 = .ok (.putfield 87, 3) := by decide +kernel
theorem d_Till_offer_70 : decode b_Till_offer 70 = .ok (.aload 6, 2) := by decide +kernel
theorem d_Till_offer_72 : decode b_Till_offer 72 = .ok (.iload 4, 2) := by decide +kernel
theorem d_Till_offer_74 : decode b_Till_offer 74 = .ok (.putfield 90, 3) := by decide +kernel
theorem d_Till_offer_77 : decode b_Till_offer 77 = .ok (.aload 6, 2) := by decide +kernel
theorem d_Till_offer_79 : decode b_Till_offer 79 = .ok (.iload 5, 2) := by decide +kernel
theorem d_Till_offer_81 : decode b_Till_offer 81 = .ok (.putfield 93, 3) := by decide +kernel
theorem d_Till_offer_84 : decode b_Till_offer 84 = .ok (.return_, 1) := by decide +kernel
theorem d_Till_member_0 : decode b_Till_member 0 = .ok (.iload_n 1, 1) := by decide +kernel
theorem d_Till_member_1 : decode b_Till_member 1 = .ok (.invokestatic 73, 3) := by decide +kernel
theorem d_Till_member_4 : decode b_Till_member 4 = .ok (.iload_n 2, 1) := by decide +kernel
theorem d_Till_member_5 : decode b_Till_member 5 = .ok (.iconst 0, 1) := by decide +kernel
theorem d_Till_member_6 : decode b_Till_member 6 = .ok (.iconst 3, 1) := by decide +kernel
theorem d_Till_member_7 : decode b_Till_member 7 = .ok (.invokestatic 56, 3) := by decide +kernel
theorem d_Till_member_10 : decode b_Till_member 10 = .ok (.invokestatic 60, 3) := by decide +kernel
theorem d_Till_member_13 : decode b_Till_member 13 = .ok (.iload_n 3, 1) := by decide +kernel
theorem d_Till_member_14 : decode b_Till_member 14 = .ok (.invokestatic 51, 3) := by decide +kernel
theorem d_Till_member_17 : decode b_Till_member 17 = .ok (.aload_n 0, 1) := by decide +kernel
theorem d_Till_member_18 : decode b_Till_member 18 = .ok (.invokevirtual 67, 3) := by decide +kernel
theorem d_Till_member_21 : decode b_Till_member 21 = .ok (.aload_n 0, 1) := by decide +kernel
theorem d_Till_member_22 : decode b_Till_member 22 = .ok (.getfield 10, 3) := by decide +kernel
theorem d_Till_member_25 : decode b_Till_member 25 = .ok (.getfield 77, 3) := by decide +kernel
theorem d_Till_member_28 : decode b_Till_member 28 = .ok (.iload_n 1, 1) := by decide +kernel
theorem d_Till_member_29 : decode b_Till_member 29 = .ok (.aaload, 1) := by decide +kernel
theorem d_Till_member_30 : decode b_Till_member 30 = .ok (.iload_n 2, 1) := by decide +kernel
theorem d_Till_member_31 : decode b_Till_member 31 = .ok (.iload_n 3, 1) := by decide +kernel
theorem d_Till_member_32 : decode b_Till_member 32 = .ok (.iload 4, 2) := by decide +kernel
theorem d_Till_member_34 : decode b_Till_member 34 = .ok (.invokevirtual 96, 3) := by decide +kernel
theorem d_Till_member_37 : decode b_Till_member 37 = .ok (.return_, 1) := by decide +kernel
theorem d_Till_run_0 : decode b_Till_run 0 = .ok (.iload_n 1, 1) := by decide +kernel
theorem d_Till_run_1 : decode b_Till_run 1 = .ok (.invokestatic 73, 3) := by decide +kernel
theorem d_Till_run_4 : decode b_Till_run 4 = .ok (.aload_n 0, 1) := by decide +kernel
theorem d_Till_run_5 : decode b_Till_run 5 = .ok (.invokevirtual 67, 3) := by decide +kernel
theorem d_Till_run_8 : decode b_Till_run 8 = .ok (.aload_n 0, 1) := by decide +kernel
theorem d_Till_run_9 : decode b_Till_run 9 = .ok (.getfield 10, 3) := by decide +kernel
theorem d_Till_run_12 : decode b_Till_run 12 = .ok (.getfield 77, 3) := by decide +kernel
theorem d_Till_run_15 : decode b_Till_run 15 = .ok (.iload_n 1, 1) := by decide +kernel
theorem d_Till_run_16 : decode b_Till_run 16 = .ok (.aaload, 1) := by decide +kernel
theorem d_Till_run_17 : decode b_Till_run 17 = .ok (.iload_n 2, 1) := by decide +kernel
theorem d_Till_run_18 : decode b_Till_run 18 = .ok (.putfield 100, 3) := by decide +kernel
theorem d_Till_run_21 : decode b_Till_run 21 = .ok (.return_, 1) := by decide +kernel
theorem d_Till_scan_0 : decode b_Till_scan 0 = .ok (.iload_n 1, 1) := by decide +kernel
theorem d_Till_scan_1 : decode b_Till_scan 1 = .ok (.invokestatic 51, 3) := by decide +kernel
theorem d_Till_scan_4 : decode b_Till_scan 4 = .ok (.aload_n 0, 1) := by decide +kernel
theorem d_Till_scan_5 : decode b_Till_scan 5 = .ok (.getfield 23, 3) := by decide +kernel
theorem d_Till_scan_8 : decode b_Till_scan 8 = .ok (.getfield 104, 3) := by decide +kernel
theorem d_Till_scan_11 : decode b_Till_scan 11 = .ok (.bipush 10, 2) := by decide +kernel
theorem d_Till_scan_13 : decode b_Till_scan 13 = .ok (.if_icmp .lt 13, 3) := by decide +kernel
theorem d_Till_scan_16 : decode b_Till_scan 16 = .ok (.new 107, 3) := by decide +kernel
theorem d_Till_scan_19 : decode b_Till_scan 19 = .ok (.dup, 1) := by decide +kernel
theorem d_Till_scan_20 : decode b_Till_scan 20 = .ok (.ldc 109, 2) := by decide +kernel
theorem d_Till_scan_22 : decode b_Till_scan 22 = .ok (.invokespecial 111, 3) := by decide +kernel
theorem d_Till_scan_25 : decode b_Till_scan 25 = .ok (.athrow, 1) := by decide +kernel
theorem d_Till_scan_26 : decode b_Till_scan 26 = .ok (.aload_n 0, 1) := by decide +kernel
theorem d_Till_scan_27 : decode b_Till_scan 27 = .ok (.getfield 23, 3) := by decide +kernel
theorem d_Till_scan_30 : decode b_Till_scan 30 = .ok (.iload_n 1, 1) := by decide +kernel
theorem d_Till_scan_31 : decode b_Till_scan 31 = .ok (.invokevirtual 114, 3) := by decide +kernel
theorem d_Till_scan_34 : decode b_Till_scan 34 = .ok (.aload_n 0, 1) := by decide +kernel
theorem d_Till_scan_35 : decode b_Till_scan 35 = .ok (.getfield 33, 3) := by decide +kernel
theorem d_Till_scan_38 : decode b_Till_scan 38 = .ok (.aload_n 0, 1) := by decide +kernel
theorem d_Till_scan_39 : decode b_Till_scan 39 = .ok (.getfield 10, 3) := by decide +kernel
theorem d_Till_scan_42 : decode b_Till_scan 42 = .ok (.aload_n 0, 1) := by decide +kernel
theorem d_Till_scan_43 : decode b_Till_scan 43 = .ok (.getfield 23, 3) := by decide +kernel
theorem d_Till_scan_46 : decode b_Till_scan 46 = .ok (.invokevirtual 117, 3) := by decide +kernel
theorem d_Till_scan_49 : decode b_Till_scan 49 = .ok (.sipush 3000, 3) := by decide +kernel
theorem d_Till_scan_52 : decode b_Till_scan 52 = .ok (.if_icmp .le 29, 3) := by decide +kernel
theorem d_Till_scan_55 : decode b_Till_scan 55 = .ok (.aload_n 0, 1) := by decide +kernel
theorem d_Till_scan_56 : decode b_Till_scan 56 = .ok (.getfield 23, 3) := by decide +kernel
theorem d_Till_scan_59 : decode b_Till_scan 59 = .ok (.aload_n 0, 1) := by decide +kernel
theorem d_Till_scan_60 : decode b_Till_scan 60 = .ok (.getfield 23, 3) := by decide +kernel
theorem d_Till_scan_63 : decode b_Till_scan 63 = .ok (.getfield 104, 3) := by decide +kernel
theorem d_Till_scan_66 : decode b_Till_scan 66 = .ok (.iconst 1, 1) := by decide +kernel
theorem d_Till_scan_67 : decode b_Till_scan 67 = .ok (.isub, 1) := by decide +kernel
theorem d_Till_scan_68 : decode b_Till_scan 68 = .ok (.invokevirtual 121, 3) := by decide +kernel
theorem d_Till_scan_71 : decode b_Till_scan 71 = .ok (.new 107, 3) := by decide +kernel
theorem d_Till_scan_74 : decode b_Till_scan 74 = .ok (.dup, 1) := by decide +kernel
theorem d_Till_scan_75 : decode b_Till_scan 75 = .ok (.ldc 124, 2) := by decide +kernel
theorem d_Till_scan_77 : decode b_Till_scan 77 = .ok (.invokespecial 111, 3) := by decide +kernel
theorem d_Till_scan_80 : decode b_Till_scan 80 = .ok (.athrow, 1) := by decide +kernel
theorem d_Till_scan_81 : decode b_Till_scan 81 = .ok (.aload_n 0, 1) := by decide +kernel
theorem d_Till_scan_82 : decode b_Till_scan 82 = .ok (.iconst 0, 1) := by decide +kernel
theorem d_Till_scan_83 : decode b_Till_scan 83 = .ok (.putfield 126, 3) := by decide +kernel
theorem d_Till_scan_86 : decode b_Till_scan 86 = .ok (.aload_n 0, 1) := by decide +kernel
theorem d_Till_scan_87 : decode b_Till_scan 87 = .ok (.getfield 23, 3) := by decide +kernel
theorem d_Till_scan_90 : decode b_Till_scan 90 = .ok (.getfield 104, 3) := by decide +kernel
theorem d_Till_scan_93 : decode b_Till_scan 93 = .ok (.ireturn, 1) := by decide +kernel
theorem d_Till_unscan_0 : decode b_Till_unscan 0 = .ok (.iload_n 1, 1) := by decide +kernel
theorem d_Till_unscan_1 : decode b_Till_unscan 1 = .ok (.aload_n 0, 1) := by decide +kernel
theorem d_Till_unscan_2 : decode b_Till_unscan 2 = .ok (.getfield 23, 3) := by decide +kernel
theorem d_Till_unscan_5 : decode b_Till_unscan 5 = .ok (.getfield 104, 3) := by decide +kernel
theorem d_Till_unscan_8 : decode b_Till_unscan 8 = .ok (.invokestatic 129, 3) := by decide +kernel
theorem d_Till_unscan_11 : decode b_Till_unscan 11 = .ok (.aload_n 0, 1) := by decide +kernel
theorem d_Till_unscan_12 : decode b_Till_unscan 12 = .ok (.getfield 23, 3) := by decide +kernel
theorem d_Till_unscan_15 : decode b_Till_unscan 15 = .ok (.getfield 133, 3) := by decide +kernel
theorem d_Till_unscan_18 : decode b_Till_unscan 18 = .ok (.iload_n 1, 1) := by decide +kernel
theorem d_Till_unscan_19 : decode b_Till_unscan 19 = .ok (.iaload, 1) := by decide +kernel
theorem d_Till_unscan_20 : decode b_Till_unscan 20 = .ok (.istore_n 2, 1) := by decide +kernel
theorem d_Till_unscan_21 : decode b_Till_unscan 21 = .ok (.aload_n 0, 1) := by decide +kernel
theorem d_Till_unscan_22 : decode b_Till_unscan 22 = .ok (.getfield 23, 3) := by decide +kernel
theorem d_Till_unscan_25 : decode b_Till_unscan 25 = .ok (.iload_n 1, 1) := by decide +kernel
theorem d_Till_unscan_26 : decode b_Till_unscan 26 = .ok (.invokevirtual 121, 3) := by decide +kernel
theorem d_Till_unscan_29 : decode b_Till_unscan 29 = .ok (.aload_n 0, 1) := by decide +kernel
theorem d_Till_unscan_30 : decode b_Till_unscan 30 = .ok (.iconst 0, 1) := by decide +kernel
theorem d_Till_unscan_31 : decode b_Till_unscan 31 = .ok (.putfield 126, 3) := by decide +kernel
theorem d_Till_unscan_34 : decode b_Till_unscan 34 = .ok (.iload_n 2, 1) := by decide +kernel
theorem d_Till_unscan_35 : decode b_Till_unscan 35 = .ok (.ireturn, 1) := by decide +kernel
theorem d_Till_total_0 : decode b_Till_total 0 = .ok (.iload_n 1, 1) := by decide +kernel
theorem d_Till_total_1 : decode b_Till_total 1 = .ok (.iconst 0, 1) := by decide +kernel
theorem d_Till_total_2 : decode b_Till_total 2 = .ok (.iconst 2, 1) := by decide +kernel
theorem d_Till_total_3 : decode b_Till_total 3 = .ok (.invokestatic 56, 3) := by decide +kernel
theorem d_Till_total_6 : decode b_Till_total 6 = .ok (.invokestatic 60, 3) := by decide +kernel
theorem d_Till_total_9 : decode b_Till_total 9 = .ok (.iload_n 1, 1) := by decide +kernel
theorem d_Till_total_10 : decode b_Till_total 10 = .ok (.iconst 1, 1) := by decide +kernel
theorem d_Till_total_11 : decode b_Till_total 11 = .ok (.if_icmp .ne 15, 3) := by decide +kernel
theorem d_Till_total_14 : decode b_Till_total 14 = .ok (.aload_n 0, 1) := by decide +kernel
theorem d_Till_total_15 : decode b_Till_total 15 = .ok (.getfield 23, 3) := by decide +kernel
theorem d_Till_total_18 : decode b_Till_total 18 = .ok (.aload_n 0, 1) := by decide +kernel
theorem d_Till_total_19 : decode b_Till_total 19 = .ok (.getfield 10, 3) := by decide +kernel
theorem d_Till_total_22 : decode b_Till_total 22 = .ok (.invokevirtual 136, 3) := by decide +kernel
theorem d_Till_total_25 : decode b_Till_total 25 = .ok (.ireturn, 1) := by decide +kernel
theorem d_Till_total_26 : decode b_Till_total 26 = .ok (.aload_n 0, 1) := by decide +kernel
theorem d_Till_total_27 : decode b_Till_total 27 = .ok (.invokevirtual 140, 3) := by decide +kernel
theorem d_Till_total_30 : decode b_Till_total 30 = .ok (.iload_n 1, 1) := by decide +kernel
theorem d_Till_total_31 : decode b_Till_total 31 = .ok (.ifCond .ne 17, 3) := by decide +kernel
theorem d_Till_total_34 : decode b_Till_total 34 = .ok (.aload_n 0, 1) := by decide +kernel
theorem d_Till_total_35 : decode b_Till_total 35 = .ok (.getfield 40, 3) := by decide +kernel
theorem d_Till_total_38 : decode b_Till_total 38 = .ok (.aload_n 0, 1) := by decide +kernel
theorem d_Till_total_39 : decode b_Till_total 39 = .ok (.getfield 23, 3) := by decide +kernel
theorem d_Till_total_42 : decode b_Till_total 42 = .ok (.invokevirtual 143, 3) := by decide +kernel
theorem d_Till_total_45 : decode b_Till_total 45 = .ok (.goto 10, 3) := by decide +kernel
theorem d_Till_total_48 : decode b_Till_total 48 = .ok (.aload_n 0, 1) := by decide +kernel
theorem d_Till_total_49 : decode b_Till_total 49 = .ok (.getfield 40, 3) := by decide +kernel
theorem d_Till_total_52 : decode b_Till_total 52 = .ok (.getfield 147, 3) := by decide +kernel
theorem d_Till_total_55 : decode b_Till_total 55 = .ok (.ireturn, 1) := by decide +kernel
theorem d_Till_unit_0 : decode b_Till_unit 0 = .ok (.iload_n 1, 1) := by decide +kernel
theorem d_Till_unit_1 : decode b_Till_unit 1 = .ok (.aload_n 0, 1) := by decide +kernel
theorem d_Till_unit_2 : decode b_Till_unit 2 = .ok (.getfield 23, 3) := by decide +kernel
theorem d_Till_unit_5 : decode b_Till_unit 5 = .ok (.getfield 104, 3) := by decide +kernel
theorem d_Till_unit_8 : decode b_Till_unit 8 = .ok (.invokestatic 129, 3) := by decide +kernel
theorem d_Till_unit_11 : decode b_Till_unit 11 = .ok (.iload_n 2, 1) := by decide +kernel
theorem d_Till_unit_12 : decode b_Till_unit 12 = .ok (.iconst 0, 1) := by decide +kernel
theorem d_Till_unit_13 : decode b_Till_unit 13 = .ok (.iconst 3, 1) := by decide +kernel
theorem d_Till_unit_14 : decode b_Till_unit 14 = .ok (.invokestatic 56, 3) := by decide +kernel
theorem d_Till_unit_17 : decode b_Till_unit 17 = .ok (.invokestatic 60, 3) := by decide +kernel
theorem d_Till_unit_20 : decode b_Till_unit 20 = .ok (.iload_n 2, 1) := by decide +kernel
theorem d_Till_unit_21 : decode b_Till_unit 21 = .ok (.ifCond .ne 13, 3) := by decide +kernel
theorem d_Till_unit_24 : decode b_Till_unit 24 = .ok (.aload_n 0, 1) := by decide +kernel
theorem d_Till_unit_25 : decode b_Till_unit 25 = .ok (.getfield 23, 3) := by decide +kernel
theorem d_Till_unit_28 : decode b_Till_unit 28 = .ok (.getfield 133, 3) := by decide +kernel
theorem d_Till_unit_31 : decode b_Till_unit 31 = .ok (.iload_n 1, 1) := by decide +kernel
theorem d_Till_unit_32 : decode b_Till_unit 32 = .ok (.iaload, 1) := by decide +kernel
theorem d_Till_unit_33 : decode b_Till_unit 33 = .ok (.ireturn, 1) := by decide +kernel
theorem d_Till_unit_34 : decode b_Till_unit 34 = .ok (.aload_n 0, 1) := by decide +kernel
theorem d_Till_unit_35 : decode b_Till_unit 35 = .ok (.invokevirtual 140, 3) := by decide +kernel
theorem d_Till_unit_38 : decode b_Till_unit 38 = .ok (.iload_n 2, 1) := by decide +kernel
theorem d_Till_unit_39 : decode b_Till_unit 39 = .ok (.lookupswitch 45 #[(1, 25), (2, 35)], 25) := by decide +kernel
theorem d_Till_unit_64 : decode b_Till_unit 64 = .ok (.aload_n 0, 1) := by decide +kernel
theorem d_Till_unit_65 : decode b_Till_unit 65 = .ok (.getfield 40, 3) := by decide +kernel
theorem d_Till_unit_68 : decode b_Till_unit 68 = .ok (.getfield 150, 3) := by decide +kernel
theorem d_Till_unit_71 : decode b_Till_unit 71 = .ok (.iload_n 1, 1) := by decide +kernel
theorem d_Till_unit_72 : decode b_Till_unit 72 = .ok (.iaload, 1) := by decide +kernel
theorem d_Till_unit_73 : decode b_Till_unit 73 = .ok (.ireturn, 1) := by decide +kernel
theorem d_Till_unit_74 : decode b_Till_unit 74 = .ok (.aload_n 0, 1) := by decide +kernel
theorem d_Till_unit_75 : decode b_Till_unit 75 = .ok (.getfield 40, 3) := by decide +kernel
theorem d_Till_unit_78 : decode b_Till_unit 78 = .ok (.getfield 153, 3) := by decide +kernel
theorem d_Till_unit_81 : decode b_Till_unit 81 = .ok (.iload_n 1, 1) := by decide +kernel
theorem d_Till_unit_82 : decode b_Till_unit 82 = .ok (.iaload, 1) := by decide +kernel
theorem d_Till_unit_83 : decode b_Till_unit 83 = .ok (.ireturn, 1) := by decide +kernel
theorem d_Till_unit_84 : decode b_Till_unit 84 = .ok (.aload_n 0, 1) := by decide +kernel
theorem d_Till_unit_85 : decode b_Till_unit 85 = .ok (.getfield 40, 3) := by decide +kernel
theorem d_Till_unit_88 : decode b_Till_unit 88 = .ok (.getfield 156, 3) := by decide +kernel
theorem d_Till_unit_91 : decode b_Till_unit 91 = .ok (.iload_n 1, 1) := by decide +kernel
theorem d_Till_unit_92 : decode b_Till_unit 92 = .ok (.iaload, 1) := by decide +kernel
theorem d_Till_unit_93 : decode b_Till_unit 93 = .ok (.ireturn, 1) := by decide +kernel
theorem d_Till_tax_0 : decode b_Till_tax 0 = .ok (.iload_n 1, 1) := by decide +kernel
theorem d_Till_tax_1 : decode b_Till_tax 1 = .ok (.iconst 0, 1) := by decide +kernel
theorem d_Till_tax_2 : decode b_Till_tax 2 = .ok (.getstatic 64, 3) := by decide +kernel
theorem d_Till_tax_5 : decode b_Till_tax 5 = .ok (.arraylength, 1) := by decide +kernel
theorem d_Till_tax_6 : decode b_Till_tax 6 = .ok (.iconst 1, 1) := by decide +kernel
theorem d_Till_tax_7 : decode b_Till_tax 7 = .ok (.isub, 1) := by decide +kernel
theorem d_Till_tax_8 : decode b_Till_tax 8 = .ok (.invokestatic 56, 3) := by decide +kernel
theorem d_Till_tax_11 : decode b_Till_tax 11 = .ok (.invokestatic 60, 3) := by decide +kernel
theorem d_Till_tax_14 : decode b_Till_tax 14 = .ok (.aload_n 0, 1) := by decide +kernel
theorem d_Till_tax_15 : decode b_Till_tax 15 = .ok (.invokevirtual 140, 3) := by decide +kernel
theorem d_Till_tax_18 : decode b_Till_tax 18 = .ok (.iconst 0, 1) := by decide +kernel
theorem d_Till_tax_19 : decode b_Till_tax 19 = .ok (.istore_n 2, 1) := by decide +kernel
theorem d_Till_tax_20 : decode b_Till_tax 20 = .ok (.iconst 0, 1) := by decide +kernel
theorem d_Till_tax_21 : decode b_Till_tax 21 = .ok (.istore_n 3, 1) := by decide +kernel
theorem d_Till_tax_22 : decode b_Till_tax 22 = .ok (.iload_n 3, 1) := by decide +kernel
theorem d_Till_tax_23 : decode b_Till_tax 23 = .ok (.aload_n 0, 1) := by decide +kernel
theorem d_Till_tax_24 : decode b_Till_tax 24 = .ok (.getfield 23, 3) := by decide +kernel
theorem d_Till_tax_27 : decode b_Till_tax 27 = .ok (.getfield 104, 3) := by decide +kernel
theorem d_Till_tax_30 : decode b_Till_tax 30 = .ok (.if_icmp .ge 39, 3) := by decide +kernel
theorem d_Till_tax_33 : decode b_Till_tax 33 = .ok (.aload_n 0, 1) := by decide +kernel
theorem d_Till_tax_34 : decode b_Till_tax 34 = .ok (.getfield 16, 3) := by decide +kernel
theorem d_Till_tax_37 : decode b_Till_tax 37 = .ok (.aload_n 0, 1) := by decide +kernel
theorem d_Till_tax_38 : decode b_Till_tax 38 = .ok (.getfield 23, 3) := by decide +kernel
theorem d_Till_tax_41 : decode b_Till_tax 41 = .ok (.getfield 133, 3) := by decide +kernel
theorem d_Till_tax_44 : decode b_Till_tax 44 = .ok (.iload_n 3, 1) := by decide +kernel
theorem d_Till_tax_45 : decode b_Till_tax 45 = .ok (.iaload, 1) := by decide +kernel
theorem d_Till_tax_46 : decode b_Till_tax 46 = .ok (.iaload, 1) := by decide +kernel
theorem d_Till_tax_47 : decode b_Till_tax 47 = .ok (.iload_n 1, 1) := by decide +kernel
theorem d_Till_tax_48 : decode b_Till_tax 48 = .ok (.if_icmp .ne 15, 3) := by decide +kernel
theorem d_Till_tax_51 : decode b_Till_tax 51 = .ok (.iload_n 2, 1) := by decide +kernel
theorem d_Till_tax_52 : decode b_Till_tax 52 = .ok (.aload_n 0, 1) := by decide +kernel
theorem d_Till_tax_53 : decode b_Till_tax 53 = .ok (.getfield 40, 3) := by decide +kernel
theorem d_Till_tax_56 : decode b_Till_tax 56 = .ok (.getfield 156, 3) := by decide +kernel
theorem d_Till_tax_59 : decode b_Till_tax 59 = .ok (.iload_n 3, 1) := by decide +kernel
theorem d_Till_tax_60 : decode b_Till_tax 60 = .ok (.iaload, 1) := by decide +kernel
theorem d_Till_tax_61 : decode b_Till_tax 61 = .ok (.iadd, 1) := by decide +kernel
theorem d_Till_tax_62 : decode b_Till_tax 62 = .ok (.istore_n 2, 1) := by decide +kernel
theorem d_Till_tax_63 : decode b_Till_tax 63 = .ok (.iinc 3 1, 3) := by decide +kernel
theorem d_Till_tax_66 : decode b_Till_tax 66 = .ok (.goto (-44), 3) := by decide +kernel
theorem d_Till_tax_69 : decode b_Till_tax 69 = .ok (.getstatic 64, 3) := by decide +kernel
theorem d_Till_tax_72 : decode b_Till_tax 72 = .ok (.iload_n 1, 1) := by decide +kernel
theorem d_Till_tax_73 : decode b_Till_tax 73 = .ok (.iaload, 1) := by decide +kernel
theorem d_Till_tax_74 : decode b_Till_tax 74 = .ok (.istore_n 3, 1) := by decide +kernel
theorem d_Till_tax_75 : decode b_Till_tax 75 = .ok (.bipush 100, 2) := by decide +kernel
theorem d_Till_tax_77 : decode b_Till_tax 77 = .ok (.iload_n 3, 1) := by decide +kernel
theorem d_Till_tax_78 : decode b_Till_tax 78 = .ok (.iadd, 1) := by decide +kernel
theorem d_Till_tax_79 : decode b_Till_tax 79 = .ok (.istore 4, 2) := by decide +kernel
theorem d_Till_tax_81 : decode b_Till_tax 81 = .ok (.iconst 2, 1) := by decide +kernel
theorem d_Till_tax_82 : decode b_Till_tax 82 = .ok (.iload_n 2, 1) := by decide +kernel
theorem d_Till_tax_83 : decode b_Till_tax 83 = .ok (.imul, 1) := by decide +kernel
theorem d_Till_tax_84 : decode b_Till_tax 84 = .ok (.iload_n 3, 1) := by decide +kernel
theorem d_Till_tax_85 : decode b_Till_tax 85 = .ok (.imul, 1) := by decide +kernel
theorem d_Till_tax_86 : decode b_Till_tax 86 = .ok (.iload 4, 2) := by decide +kernel
theorem d_Till_tax_88 : decode b_Till_tax 88 = .ok (.iadd, 1) := by decide +kernel
theorem d_Till_tax_89 : decode b_Till_tax 89 = .ok (.iconst 2, 1) := by decide +kernel
theorem d_Till_tax_90 : decode b_Till_tax 90 = .ok (.iload 4, 2) := by decide +kernel
theorem d_Till_tax_92 : decode b_Till_tax 92 = .ok (.imul, 1) := by decide +kernel
theorem d_Till_tax_93 : decode b_Till_tax 93 = .ok (.idiv, 1) := by decide +kernel
theorem d_Till_tax_94 : decode b_Till_tax 94 = .ok (.ireturn, 1) := by decide +kernel
theorem d_Till_tryOffer_0 : decode b_Till_tryOffer 0 = .ok (.iload_n 1, 1) := by decide +kernel
theorem d_Till_tryOffer_1 : decode b_Till_tryOffer 1 = .ok (.invokestatic 73, 3) := by decide +kernel
theorem d_Till_tryOffer_4 : decode b_Till_tryOffer 4 = .ok (.aload_n 0, 1) := by decide +kernel
theorem d_Till_tryOffer_5 : decode b_Till_tryOffer 5 = .ok (.getfield 10, 3) := by decide +kernel
theorem d_Till_tryOffer_8 : decode b_Till_tryOffer 8 = .ok (.getfield 77, 3) := by decide +kernel
theorem d_Till_tryOffer_11 : decode b_Till_tryOffer 11 = .ok (.iload_n 1, 1) := by decide +kernel
theorem d_Till_tryOffer_12 : decode b_Till_tryOffer 12 = .ok (.aaload, 1) := by decide +kernel
theorem d_Till_tryOffer_13 : decode b_Till_tryOffer 13 = .ok (.astore_n 2, 1) := by decide +kernel
theorem d_Till_tryOffer_14 : decode b_Till_tryOffer 14 = .ok (.aload_n 2, 1) := by decide +kernel
theorem d_Till_tryOffer_15 : decode b_Till_tryOffer 15 = .ok (.aload_n 2, 1) := by decide +kernel
theorem d_Till_tryOffer_16 : decode b_Till_tryOffer 16 = .ok (.getfield 100, 3) := by decide +kernel
theorem d_Till_tryOffer_19 : decode b_Till_tryOffer 19 = .ok (.ifCond .ne 7, 3) := by decide +kernel
theorem d_Till_tryOffer_22 : decode b_Till_tryOffer 22 = .ok (.iconst 1, 1) := by decide +kernel
theorem d_Till_tryOffer_23 : decode b_Till_tryOffer 23 = .ok (.goto 4, 3) := by decide +kernel
theorem d_Till_tryOffer_26 : decode b_Till_tryOffer 26 = .ok (.iconst 0, 1) := by decide +kernel
theorem d_Till_tryOffer_27 : decode b_Till_tryOffer 27 = .ok (.putfield 100, 3) := by decide +kernel
theorem d_Till_tryOffer_30 : decode b_Till_tryOffer 30 = .ok (.aload_n 0, 1) := by decide +kernel
theorem d_Till_tryOffer_31 : decode b_Till_tryOffer 31 = .ok (.getfield 33, 3) := by decide +kernel
theorem d_Till_tryOffer_34 : decode b_Till_tryOffer 34 = .ok (.aload_n 0, 1) := by decide +kernel
theorem d_Till_tryOffer_35 : decode b_Till_tryOffer 35 = .ok (.getfield 10, 3) := by decide +kernel
theorem d_Till_tryOffer_38 : decode b_Till_tryOffer 38 = .ok (.aload_n 0, 1) := by decide +kernel
theorem d_Till_tryOffer_39 : decode b_Till_tryOffer 39 = .ok (.getfield 23, 3) := by decide +kernel
theorem d_Till_tryOffer_42 : decode b_Till_tryOffer 42 = .ok (.invokevirtual 117, 3) := by decide +kernel
theorem d_Till_tryOffer_45 : decode b_Till_tryOffer 45 = .ok (.sipush 3000, 3) := by decide +kernel
theorem d_Till_tryOffer_48 : decode b_Till_tryOffer 48 = .ok (.if_icmp .gt 7, 3) := by decide +kernel
theorem d_Till_tryOffer_51 : decode b_Till_tryOffer 51 = .ok (.iconst 1, 1) := by decide +kernel
theorem d_Till_tryOffer_52 : decode b_Till_tryOffer 52 = .ok (.goto 4, 3) := by decide +kernel
theorem d_Till_tryOffer_55 : decode b_Till_tryOffer 55 = .ok (.iconst 0, 1) := by decide +kernel
theorem d_Till_tryOffer_56 : decode b_Till_tryOffer 56 = .ok (.istore_n 3, 1) := by decide +kernel
theorem d_Till_tryOffer_57 : decode b_Till_tryOffer 57 = .ok (.iload_n 3, 1) := by decide +kernel
theorem d_Till_tryOffer_58 : decode b_Till_tryOffer 58 = .ok (.ifCond .eq 21, 3) := by decide +kernel
theorem d_Till_tryOffer_61 : decode b_Till_tryOffer 61 = .ok (.aload_n 0, 1) := by decide +kernel
theorem d_Till_tryOffer_62 : decode b_Till_tryOffer 62 = .ok (.getfield 33, 3) := by decide +kernel
theorem d_Till_tryOffer_65 : decode b_Till_tryOffer 65 = .ok (.aload_n 0, 1) := by decide +kernel
theorem d_Till_tryOffer_66 : decode b_Till_tryOffer 66 = .ok (.getfield 10, 3) := by decide +kernel
theorem d_Till_tryOffer_69 : decode b_Till_tryOffer 69 = .ok (.aload_n 0, 1) := by decide +kernel
theorem d_Till_tryOffer_70 : decode b_Till_tryOffer 70 = .ok (.getfield 23, 3) := by decide +kernel
theorem d_Till_tryOffer_73 : decode b_Till_tryOffer 73 = .ok (.invokevirtual 159, 3) := by decide +kernel
theorem d_Till_tryOffer_76 : decode b_Till_tryOffer 76 = .ok (.goto 4, 3) := by decide +kernel
theorem d_Till_tryOffer_79 : decode b_Till_tryOffer 79 = .ok (.iconst 0, 1) := by decide +kernel
theorem d_Till_tryOffer_80 : decode b_Till_tryOffer 80 = .ok (.istore 4, 2) := by decide +kernel
theorem d_Till_tryOffer_82 : decode b_Till_tryOffer 82 = .ok (.aload_n 2, 1) := by decide +kernel
theorem d_Till_tryOffer_83 : decode b_Till_tryOffer 83 = .ok (.aload_n 2, 1) := by decide +kernel
theorem d_Till_tryOffer_84 : decode b_Till_tryOffer 84 = .ok (.getfield 100, 3) := by decide +kernel
theorem d_Till_tryOffer_87 : decode b_Till_tryOffer 87 = .ok (.ifCond .ne 7, 3) := by decide +kernel
theorem d_Till_tryOffer_90 : decode b_Till_tryOffer 90 = .ok (.iconst 1, 1) := by decide +kernel
theorem d_Till_tryOffer_91 : decode b_Till_tryOffer 91 = .ok (.goto 4, 3) := by decide +kernel
theorem d_Till_tryOffer_94 : decode b_Till_tryOffer 94 = .ok (.iconst 0, 1) := by decide +kernel
theorem d_Till_tryOffer_95 : decode b_Till_tryOffer 95 = .ok (.putfield 100, 3) := by decide +kernel
theorem d_Till_tryOffer_98 : decode b_Till_tryOffer 98 = .ok (.iload_n 3, 1) := by decide +kernel
theorem d_Till_tryOffer_99 : decode b_Till_tryOffer 99 = .ok (.ifCond .ne 13, 3) := by decide +kernel
theorem d_Till_tryOffer_102 : decode b_Till_tryOffer 102 = .ok (.new 107, 3) := by decide +kernel
theorem d_Till_tryOffer_105 : decode b_Till_tryOffer 105 = .ok (.dup, 1) := by decide +kernel
theorem d_Till_tryOffer_106 : decode b_Till_tryOffer 106 = .ok (.ldc 124, 2) := by decide +kernel
theorem d_Till_tryOffer_108 : decode b_Till_tryOffer 108 = .ok (.invokespecial 111, 3) := by decide +kernel
theorem d_Till_tryOffer_111 : decode b_Till_tryOffer 111 = .ok (.athrow, 1) := by decide +kernel
theorem d_Till_tryOffer_112 : decode b_Till_tryOffer 112 = .ok (.iload 4, 2) := by decide +kernel
theorem d_Till_tryOffer_114 : decode b_Till_tryOffer 114 = .ok (.ireturn, 1) := by decide +kernel
theorem d_Till_finish_0 : decode b_Till_finish 0 = .ok (.aload_n 0, 1) := by decide +kernel
theorem d_Till_finish_1 : decode b_Till_finish 1 = .ok (.getfield 23, 3) := by decide +kernel
theorem d_Till_finish_4 : decode b_Till_finish 4 = .ok (.getfield 104, 3) := by decide +kernel
theorem d_Till_finish_7 : decode b_Till_finish 7 = .ok (.ifCond .ne 13, 3) := by decide +kernel
theorem d_Till_finish_10 : decode b_Till_finish 10 = .ok (.new 162, 3) := by decide +kernel
theorem d_Till_finish_13 : decode b_Till_finish 13 = .ok (.dup, 1) := by decide +kernel
theorem d_Till_finish_14 : decode b_Till_finish 14 = .ok (.ldc 164, 2) := by decide +kernel
theorem d_Till_finish_16 : decode b_Till_finish 16 = .ok (.invokespecial 166, 3) := by decide +kernel
theorem d_Till_finish_19 : decode b_Till_finish 19 = .ok (.athrow, 1) := by decide +kernel
theorem d_Till_finish_20 : decode b_Till_finish 20 = .ok (.aload_n 0, 1) := by decide +kernel
theorem d_Till_finish_21 : decode b_Till_finish 21 = .ok (.invokevirtual 140, 3) := by decide +kernel
theorem d_Till_finish_24 : decode b_Till_finish 24 = .ok (.aload_n 0, 1) := by decide +kernel
theorem d_Till_finish_25 : decode b_Till_finish 25 = .ok (.getfield 40, 3) := by decide +kernel
theorem d_Till_finish_28 : decode b_Till_finish 28 = .ok (.aload_n 0, 1) := by decide +kernel
theorem d_Till_finish_29 : decode b_Till_finish 29 = .ok (.getfield 23, 3) := by decide +kernel
theorem d_Till_finish_32 : decode b_Till_finish 32 = .ok (.invokevirtual 143, 3) := by decide +kernel
theorem d_Till_finish_35 : decode b_Till_finish 35 = .ok (.istore_n 2, 1) := by decide +kernel
theorem d_Till_finish_36 : decode b_Till_finish 36 = .ok (.iload_n 1, 1) := by decide +kernel
theorem d_Till_finish_37 : decode b_Till_finish 37 = .ok (.iload_n 2, 1) := by decide +kernel
theorem d_Till_finish_38 : decode b_Till_finish 38 = .ok (.if_icmp .lt 7, 3) := by decide +kernel
theorem d_Till_finish_41 : decode b_Till_finish 41 = .ok (.iconst 1, 1) := by decide +kernel
theorem d_Till_finish_42 : decode b_Till_finish 42 = .ok (.goto 4, 3) := by decide +kernel
theorem d_Till_finish_45 : decode b_Till_finish 45 = .ok (.iconst 0, 1) := by decide +kernel
theorem d_Till_finish_46 : decode b_Till_finish 46 = .ok (.invokestatic 60, 3) := by decide +kernel
theorem d_Till_finish_49 : decode b_Till_finish 49 = .ok (.aload_n 0, 1) := by decide +kernel
theorem d_Till_finish_50 : decode b_Till_finish 50 = .ok (.getfield 47, 3) := by decide +kernel
theorem d_Till_finish_53 : decode b_Till_finish 53 = .ok (.invokevirtual 167, 3) := by decide +kernel
theorem d_Till_finish_56 : decode b_Till_finish 56 = .ok (.bipush 12, 2) := by decide +kernel
theorem d_Till_finish_58 : decode b_Till_finish 58 = .ok (.if_icmp .lt 13, 3) := by decide +kernel
theorem d_Till_finish_61 : decode b_Till_finish 61 = .ok (.new 107, 3) := by decide +kernel
theorem d_Till_finish_64 : decode b_Till_finish 64 = .ok (.dup, 1) := by decide +kernel
theorem d_Till_finish_65 : decode b_Till_finish 65 = .ok (.ldc 170, 2) := by decide +kernel
theorem d_Till_finish_67 : decode b_Till_finish 67 = .ok (.invokespecial 111, 3) := by decide +kernel
theorem d_Till_finish_70 : decode b_Till_finish 70 = .ok (.athrow, 1) := by decide +kernel
theorem d_Till_finish_71 : decode b_Till_finish 71 = .ok (.aload_n 0, 1) := by decide +kernel
theorem d_Till_finish_72 : decode b_Till_finish 72 = .ok (.getfield 47, 3) := by decide +kernel
theorem d_Till_finish_75 : decode b_Till_finish 75 = .ok (.new 172, 3) := by decide +kernel
theorem d_Till_finish_78 : decode b_Till_finish 78 = .ok (.dup, 1) := by decide +kernel
theorem d_Till_finish_79 : decode b_Till_finish 79 = .ok (.aload_n 0, 1) := by decide +kernel
theorem d_Till_finish_80 : decode b_Till_finish 80 = .ok (.getfield 10, 3) := by decide +kernel
theorem d_Till_finish_83 : decode b_Till_finish 83 = .ok (.aload_n 0, 1) := by decide +kernel
theorem d_Till_finish_84 : decode b_Till_finish 84 = .ok (.getfield 23, 3) := by decide +kernel
theorem d_Till_finish_87 : decode b_Till_finish 87 = .ok (.aload_n 0, 1) := by decide +kernel
theorem d_Till_finish_88 : decode b_Till_finish 88 = .ok (.getfield 40, 3) := by decide +kernel
theorem d_Till_finish_91 : decode b_Till_finish 91 = .ok (.invokespecial 174, 3) := by decide +kernel
theorem d_Till_finish_94 : decode b_Till_finish 94 = .ok (.invokevirtual 177, 3) := by decide +kernel
theorem d_Till_finish_97 : decode b_Till_finish 97 = .ok (.pop, 1) := by decide +kernel
theorem d_Till_finish_98 : decode b_Till_finish 98 = .ok (.aload_n 0, 1) := by decide +kernel
theorem d_Till_finish_99 : decode b_Till_finish 99 = .ok (.dup, 1) := by decide +kernel
theorem d_Till_finish_100 : decode b_Till_finish 100 = .ok (.getfield 180, 3) := by decide +kernel
theorem d_Till_finish_103 : decode b_Till_finish 103 = .ok (.iload_n 2, 1) := by decide +kernel
theorem d_Till_finish_104 : decode b_Till_finish 104 = .ok (.iadd, 1) := by decide +kernel
theorem d_Till_finish_105 : decode b_Till_finish 105 = .ok (.putfield 180, 3) := by decide +kernel
theorem d_Till_finish_108 : decode b_Till_finish 108 = .ok (.aload_n 0, 1) := by decide +kernel
theorem d_Till_finish_109 : decode b_Till_finish 109 = .ok (.getfield 23, 3) := by decide +kernel
theorem d_Till_finish_112 : decode b_Till_finish 112 = .ok (.iconst 0, 1) := by decide +kernel
theorem d_Till_finish_113 : decode b_Till_finish 113 = .ok (.putfield 104, 3) := by decide +kernel
theorem d_Till_finish_116 : decode b_Till_finish 116 = .ok (.aload_n 0, 1) := by decide +kernel
theorem d_Till_finish_117 : decode b_Till_finish 117 = .ok (.iconst 0, 1) := by decide +kernel
theorem d_Till_finish_118 : decode b_Till_finish 118 = .ok (.putfield 126, 3) := by decide +kernel
theorem d_Till_finish_121 : decode b_Till_finish 121 = .ok (.iload_n 1, 1) := by decide +kernel
theorem d_Till_finish_122 : decode b_Till_finish 122 = .ok (.iload_n 2, 1) := by decide +kernel
theorem d_Till_finish_123 : decode b_Till_finish 123 = .ok (.isub, 1) := by decide +kernel
theorem d_Till_finish_124 : decode b_Till_finish 124 = .ok (.ireturn, 1) := by decide +kernel
theorem d_Till_giveBack_0 : decode b_Till_giveBack 0 = .ok (.aload_n 0, 1) := by decide +kernel
theorem d_Till_giveBack_1 : decode b_Till_giveBack 1 = .ok (.iload_n 1, 1) := by decide +kernel
theorem d_Till_giveBack_2 : decode b_Till_giveBack 2 = .ok (.invokevirtual 183, 3) := by decide +kernel
theorem d_Till_giveBack_5 : decode b_Till_giveBack 5 = .ok (.astore_n 3, 1) := by decide +kernel
theorem d_Till_giveBack_6 : decode b_Till_giveBack 6 = .ok (.iload_n 2, 1) := by decide +kernel
theorem d_Till_giveBack_7 : decode b_Till_giveBack 7 = .ok (.aload_n 3, 1) := by decide +kernel
theorem d_Till_giveBack_8 : decode b_Till_giveBack 8 = .ok (.getfield 187, 3) := by decide +kernel
theorem d_Till_giveBack_11 : decode b_Till_giveBack 11 = .ok (.getfield 104, 3) := by decide +kernel
theorem d_Till_giveBack_14 : decode b_Till_giveBack 14 = .ok (.invokestatic 129, 3) := by decide +kernel
theorem d_Till_giveBack_17 : decode b_Till_giveBack 17 = .ok (.aload_n 3, 1) := by decide +kernel
theorem d_Till_giveBack_18 : decode b_Till_giveBack 18 = .ok (.getfield 190, 3) := by decide +kernel
theorem d_Till_giveBack_21 : decode b_Till_giveBack 21 = .ok (.iload_n 2, 1) := by decide +kernel
theorem d_Till_giveBack_22 : decode b_Till_giveBack 22 = .ok (.baload, 1) := by decide +kernel
theorem d_Till_giveBack_23 : decode b_Till_giveBack 23 = .ok (.ifCond .ne 13, 3) := by decide +kernel
theorem d_Till_giveBack_26 : decode b_Till_giveBack 26 = .ok (.new 162, 3) := by decide +kernel
theorem d_Till_giveBack_29 : decode b_Till_giveBack 29 = .ok (.dup, 1) := by decide +kernel
theorem d_Till_giveBack_30 : decode b_Till_giveBack 30 = .ok (.ldc 194, 2) := by decide +kernel
theorem d_Till_giveBack_32 : decode b_Till_giveBack 32 = .ok (.invokespecial 166, 3) := by decide +kernel
theorem d_Till_giveBack_35 : decode b_Till_giveBack 35 = .ok (.athrow, 1) := by decide +kernel
theorem d_Till_giveBack_36 : decode b_Till_giveBack 36 = .ok (.aload_n 3, 1) := by decide +kernel
theorem d_Till_giveBack_37 : decode b_Till_giveBack 37 = .ok (.getfield 190, 3) := by decide +kernel
theorem d_Till_giveBack_40 : decode b_Till_giveBack 40 = .ok (.iload_n 2, 1) := by decide +kernel
theorem d_Till_giveBack_41 : decode b_Till_giveBack 41 = .ok (.iconst 0, 1) := by decide +kernel
theorem d_Till_giveBack_42 : decode b_Till_giveBack 42 = .ok (.bastore, 1) := by decide +kernel
theorem d_Till_giveBack_43 : decode b_Till_giveBack 43 = .ok (.aload_n 3, 1) := by decide +kernel
theorem d_Till_giveBack_44 : decode b_Till_giveBack 44 = .ok (.aload_n 0, 1) := by decide +kernel
theorem d_Till_giveBack_45 : decode b_Till_giveBack 45 = .ok (.getfield 27, 3) := by decide +kernel
theorem d_Till_giveBack_48 : decode b_Till_giveBack 48 = .ok (.invokevirtual 196, 3) := by decide +kernel
theorem d_Till_giveBack_51 : decode b_Till_giveBack 51 = .ok (.aload_n 3, 1) := by decide +kernel
theorem d_Till_giveBack_52 : decode b_Till_giveBack 52 = .ok (.aload_n 0, 1) := by decide +kernel
theorem d_Till_giveBack_53 : decode b_Till_giveBack 53 = .ok (.getfield 33, 3) := by decide +kernel
theorem d_Till_giveBack_56 : decode b_Till_giveBack 56 = .ok (.aload_n 3, 1) := by decide +kernel
theorem d_Till_giveBack_57 : decode b_Till_giveBack 57 = .ok (.getfield 200, 3) := by decide +kernel
theorem d_Till_giveBack_60 : decode b_Till_giveBack 60 = .ok (.aload_n 0, 1) := by decide +kernel
theorem d_Till_giveBack_61 : decode b_Till_giveBack 61 = .ok (.getfield 27, 3) := by decide +kernel
theorem d_Till_giveBack_64 : decode b_Till_giveBack 64 = .ok (.invokevirtual 159, 3) := by decide +kernel
theorem d_Till_giveBack_67 : decode b_Till_giveBack 67 = .ok (.invokevirtual 201, 3) := by decide +kernel
theorem d_Till_giveBack_70 : decode b_Till_giveBack 70 = .ok (.istore 4, 2) := by decide +kernel
theorem d_Till_giveBack_72 : decode b_Till_giveBack 72 = .ok (.aload_n 0, 1) := by decide +kernel
theorem d_Till_giveBack_73 : decode b_Till_giveBack 73 = .ok (.dup, 1) := by decide +kernel
theorem d_Till_giveBack_74 : decode b_Till_giveBack 74 = .ok (.getfield 180, 3) := by decide +kernel
theorem d_Till_giveBack_77 : decode b_Till_giveBack 77 = .ok (.iload 4, 2) := by decide +kernel
theorem d_Till_giveBack_79 : decode b_Till_giveBack 79 = .ok (.isub, 1) := by decide +kernel
theorem d_Till_giveBack_80 : decode b_Till_giveBack 80 = .ok (.putfield 180, 3) := by decide +kernel
theorem d_Till_giveBack_83 : decode b_Till_giveBack 83 = .ok (.iload 4, 2) := by decide +kernel
theorem d_Till_giveBack_85 : decode b_Till_giveBack 85 = .ok (.ireturn, 1) := by decide +kernel
theorem d_Till_receipt_0 : decode b_Till_receipt 0 = .ok (.iload_n 2, 1) := by decide +kernel
theorem d_Till_receipt_1 : decode b_Till_receipt 1 = .ok (.iconst 0, 1) := by decide +kernel
theorem d_Till_receipt_2 : decode b_Till_receipt 2 = .ok (.iconst 5, 1) := by decide +kernel
theorem d_Till_receipt_3 : decode b_Till_receipt 3 = .ok (.invokestatic 56, 3) := by decide +kernel
theorem d_Till_receipt_6 : decode b_Till_receipt 6 = .ok (.invokestatic 60, 3) := by decide +kernel
theorem d_Till_receipt_9 : decode b_Till_receipt 9 = .ok (.iload_n 2, 1) := by decide +kernel
theorem d_Till_receipt_10 : decode b_Till_receipt 10 = .ok (.iconst 4, 1) := by decide +kernel
theorem d_Till_receipt_11 : decode b_Till_receipt 11 = .ok (.if_icmp .ne 11, 3) := by decide +kernel
theorem d_Till_receipt_14 : decode b_Till_receipt 14 = .ok (.aload_n 0, 1) := by decide +kernel
theorem d_Till_receipt_15 : decode b_Till_receipt 15 = .ok (.getfield 47, 3) := by decide +kernel
theorem d_Till_receipt_18 : decode b_Till_receipt 18 = .ok (.invokevirtual 167, 3) := by decide +kernel
theorem d_Till_receipt_21 : decode b_Till_receipt 21 = .ok (.ireturn, 1) := by decide +kernel
theorem d_Till_receipt_22 : decode b_Till_receipt 22 = .ok (.iload_n 2, 1) := by decide +kernel
theorem d_Till_receipt_23 : decode b_Till_receipt 23 = .ok (.iconst 5, 1) := by decide +kernel
theorem d_Till_receipt_24 : decode b_Till_receipt 24 = .ok (.if_icmp .ne 8, 3) := by decide +kernel
theorem d_Till_receipt_27 : decode b_Till_receipt 27 = .ok (.aload_n 0, 1) := by decide +kernel
theorem d_Till_receipt_28 : decode b_Till_receipt 28 = .ok (.getfield 180, 3) := by decide +kernel
theorem d_Till_receipt_31 : decode b_Till_receipt 31 = .ok (.ireturn, 1) := by decide +kernel
theorem d_Till_receipt_32 : decode b_Till_receipt 32 = .ok (.aload_n 0, 1) := by decide +kernel
theorem d_Till_receipt_33 : decode b_Till_receipt 33 = .ok (.iload_n 1, 1) := by decide +kernel
theorem d_Till_receipt_34 : decode b_Till_receipt 34 = .ok (.invokevirtual 183, 3) := by decide +kernel
theorem d_Till_receipt_37 : decode b_Till_receipt 37 = .ok (.astore_n 3, 1) := by decide +kernel
theorem d_Till_receipt_38 : decode b_Till_receipt 38 = .ok (.iload_n 2, 1) := by decide +kernel
theorem d_Till_receipt_39 : decode b_Till_receipt 39 = .ok (.tableswitch 43 0 2 #[25, 30, 35], 25) := by decide +kernel
theorem d_Till_receipt_64 : decode b_Till_receipt 64 = .ok (.aload_n 3, 1) := by decide +kernel
theorem d_Till_receipt_65 : decode b_Till_receipt 65 = .ok (.getfield 205, 3) := by decide +kernel
theorem d_Till_receipt_68 : decode b_Till_receipt 68 = .ok (.ireturn, 1) := by decide +kernel
theorem d_Till_receipt_69 : decode b_Till_receipt 69 = .ok (.aload_n 3, 1) := by decide +kernel
theorem d_Till_receipt_70 : decode b_Till_receipt 70 = .ok (.getfield 208, 3) := by decide +kernel
theorem d_Till_receipt_73 : decode b_Till_receipt 73 = .ok (.ireturn, 1) := by decide +kernel
theorem d_Till_receipt_74 : decode b_Till_receipt 74 = .ok (.aload_n 3, 1) := by decide +kernel
theorem d_Till_receipt_75 : decode b_Till_receipt 75 = .ok (.getfield 187, 3) := by decide +kernel
theorem d_Till_receipt_78 : decode b_Till_receipt 78 = .ok (.getfield 104, 3) := by decide +kernel
theorem d_Till_receipt_81 : decode b_Till_receipt 81 = .ok (.ireturn, 1) := by decide +kernel
theorem d_Till_receipt_82 : decode b_Till_receipt 82 = .ok (.aload_n 3, 1) := by decide +kernel
theorem d_Till_receipt_83 : decode b_Till_receipt 83 = .ok (.invokevirtual 211, 3) := by decide +kernel
theorem d_Till_receipt_86 : decode b_Till_receipt 86 = .ok (.ireturn, 1) := by decide +kernel
theorem d_Till_line_0 : decode b_Till_line 0 = .ok (.aload_n 0, 1) := by decide +kernel
theorem d_Till_line_1 : decode b_Till_line 1 = .ok (.iload_n 1, 1) := by decide +kernel
theorem d_Till_line_2 : decode b_Till_line 2 = .ok (.invokevirtual 183, 3) := by decide +kernel
theorem d_Till_line_5 : decode b_Till_line 5 = .ok (.astore 4, 2) := by decide +kernel
theorem d_Till_line_7 : decode b_Till_line 7 = .ok (.iload_n 2, 1) := by decide +kernel
theorem d_Till_line_8 : decode b_Till_line 8 = .ok (.aload 4, 2) := by decide +kernel
theorem d_Till_line_10 : decode b_Till_line 10 = .ok (.getfield 187, 3) := by decide +kernel
theorem d_Till_line_13 : decode b_Till_line 13 = .ok (.getfield 104, 3) := by decide +kernel
theorem d_Till_line_16 : decode b_Till_line 16 = .ok (.invokestatic 129, 3) := by decide +kernel
theorem d_Till_line_19 : decode b_Till_line 19 = .ok (.iload_n 3, 1) := by decide +kernel
theorem d_Till_line_20 : decode b_Till_line 20 = .ok (.iconst 0, 1) := by decide +kernel
theorem d_Till_line_21 : decode b_Till_line 21 = .ok (.iconst 3, 1) := by decide +kernel
theorem d_Till_line_22 : decode b_Till_line 22 = .ok (.invokestatic 56, 3) := by decide +kernel
theorem d_Till_line_25 : decode b_Till_line 25 = .ok (.invokestatic 60, 3) := by decide +kernel
theorem d_Till_line_28 : decode b_Till_line 28 = .ok (.iload_n 3, 1) := by decide +kernel
theorem d_Till_line_29 : decode b_Till_line 29 = .ok (.tableswitch 54 0 2 #[27, 38, 46], 27) := by decide +kernel
theorem d_Till_line_56 : decode b_Till_line 56 = .ok (.aload 4, 2) := by decide +kernel
theorem d_Till_line_58 : decode b_Till_line 58 = .ok (.getfield 187, 3) := by decide +kernel
theorem d_Till_line_61 : decode b_Till_line 61 = .ok (.getfield 133, 3) := by decide +kernel
theorem d_Till_line_64 : decode b_Till_line 64 = .ok (.iload_n 2, 1) := by decide +kernel
theorem d_Till_line_65 : decode b_Till_line 65 = .ok (.iaload, 1) := by decide +kernel
theorem d_Till_line_66 : decode b_Till_line 66 = .ok (.ireturn, 1) := by decide +kernel
theorem d_Till_line_67 : decode b_Till_line 67 = .ok (.aload 4, 2) := by decide +kernel
theorem d_Till_line_69 : decode b_Till_line 69 = .ok (.getfield 214, 3) := by decide +kernel
theorem d_Till_line_72 : decode b_Till_line 72 = .ok (.iload_n 2, 1) := by decide +kernel
theorem d_Till_line_73 : decode b_Till_line 73 = .ok (.iaload, 1) := by decide +kernel
theorem d_Till_line_74 : decode b_Till_line 74 = .ok (.ireturn, 1) := by decide +kernel
theorem d_Till_line_75 : decode b_Till_line 75 = .ok (.aload 4, 2) := by decide +kernel
theorem d_Till_line_77 : decode b_Till_line 77 = .ok (.getfield 215, 3) := by decide +kernel
theorem d_Till_line_80 : decode b_Till_line 80 = .ok (.iload_n 2, 1) := by decide +kernel
theorem d_Till_line_81 : decode b_Till_line 81 = .ok (.iaload, 1) := by decide +kernel
theorem d_Till_line_82 : decode b_Till_line 82 = .ok (.ireturn, 1) := by decide +kernel
theorem d_Till_line_83 : decode b_Till_line 83 = .ok (.aload 4, 2) := by decide +kernel
theorem d_Till_line_85 : decode b_Till_line 85 = .ok (.getfield 190, 3) := by decide +kernel
theorem d_Till_line_88 : decode b_Till_line 88 = .ok (.iload_n 2, 1) := by decide +kernel
theorem d_Till_line_89 : decode b_Till_line 89 = .ok (.baload, 1) := by decide +kernel
theorem d_Till_line_90 : decode b_Till_line 90 = .ok (.ifCond .eq 7, 3) := by decide +kernel
theorem d_Till_line_93 : decode b_Till_line 93 = .ok (.iconst 1, 1) := by decide +kernel
theorem d_Till_line_94 : decode b_Till_line 94 = .ok (.goto 4, 3) := by decide +kernel
theorem d_Till_line_97 : decode b_Till_line 97 = .ok (.iconst 0, 1) := by decide +kernel
theorem d_Till_line_98 : decode b_Till_line 98 = .ok (.ireturn, 1) := by decide +kernel
theorem d_Till_within_0 : decode b_Till_within 0 = .ok (.iload_n 0, 1) := by decide +kernel
theorem d_Till_within_1 : decode b_Till_within 1 = .ok (.iload_n 1, 1) := by decide +kernel
theorem d_Till_within_2 : decode b_Till_within 2 = .ok (.if_icmp .lt 12, 3) := by decide +kernel
theorem d_Till_within_5 : decode b_Till_within 5 = .ok (.iload_n 0, 1) := by decide +kernel
theorem d_Till_within_6 : decode b_Till_within 6 = .ok (.iload_n 2, 1) := by decide +kernel
theorem d_Till_within_7 : decode b_Till_within 7 = .ok (.if_icmp .gt 7, 3) := by decide +kernel
theorem d_Till_within_10 : decode b_Till_within 10 = .ok (.iconst 1, 1) := by decide +kernel
theorem d_Till_within_11 : decode b_Till_within 11 = .ok (.goto 4, 3) := by decide +kernel
theorem d_Till_within_14 : decode b_Till_within 14 = .ok (.iconst 0, 1) := by decide +kernel
theorem d_Till_within_15 : decode b_Till_within 15 = .ok (.ireturn, 1) := by decide +kernel
theorem d_Till_requireArgument_0 : decode b_Till_requireArgument 0 = .ok (.iload_n 0, 1) := by decide +kernel
theorem d_Till_requireArgument_1 : decode b_Till_requireArgument 1 = .ok (.ifCond .ne 13, 3) := by decide +kernel
theorem d_Till_requireArgument_4 : decode b_Till_requireArgument 4 = .ok (.new 218, 3) := by decide +kernel
theorem d_Till_requireArgument_7 : decode b_Till_requireArgument 7 = .ok (.dup, 1) := by decide +kernel
theorem d_Till_requireArgument_8 : decode b_Till_requireArgument 8 = .ok (.ldc 220, 2) := by decide +kernel
theorem d_Till_requireArgument_10 : decode b_Till_requireArgument 10 = .ok (.invokespecial 222, 3) := by decide +kernel
theorem d_Till_requireArgument_13 : decode b_Till_requireArgument 13 = .ok (.athrow, 1) := by decide +kernel
theorem d_Till_requireArgument_14 : decode b_Till_requireArgument 14 = .ok (.return_, 1) := by decide +kernel
theorem d_Till_requireArticle_0 : decode b_Till_requireArticle 0 = .ok (.iload_n 0, 1) := by decide +kernel
theorem d_Till_requireArticle_1 : decode b_Till_requireArticle 1 = .ok (.iconst 0, 1) := by decide +kernel
theorem d_Till_requireArticle_2 : decode b_Till_requireArticle 2 = .ok (.bipush 11, 2) := by decide +kernel
theorem d_Till_requireArticle_4 : decode b_Till_requireArticle 4 = .ok (.invokestatic 56, 3) := by decide +kernel
theorem d_Till_requireArticle_7 : decode b_Till_requireArticle 7 = .ok (.invokestatic 60, 3) := by decide +kernel
theorem d_Till_requireArticle_10 : decode b_Till_requireArticle 10 = .ok (.return_, 1) := by decide +kernel
theorem d_Till_requireOffer_0 : decode b_Till_requireOffer 0 = .ok (.iload_n 0, 1) := by decide +kernel
theorem d_Till_requireOffer_1 : decode b_Till_requireOffer 1 = .ok (.iconst 0, 1) := by decide +kernel
theorem d_Till_requireOffer_2 : decode b_Till_requireOffer 2 = .ok (.iconst 5, 1) := by decide +kernel
theorem d_Till_requireOffer_3 : decode b_Till_requireOffer 3 = .ok (.invokestatic 56, 3) := by decide +kernel
theorem d_Till_requireOffer_6 : decode b_Till_requireOffer 6 = .ok (.invokestatic 60, 3) := by decide +kernel
theorem d_Till_requireOffer_9 : decode b_Till_requireOffer 9 = .ok (.return_, 1) := by decide +kernel
theorem d_Till_requireIndex_0 : decode b_Till_requireIndex 0 = .ok (.iload_n 0, 1) := by decide +kernel
theorem d_Till_requireIndex_1 : decode b_Till_requireIndex 1 = .ok (.iconst 0, 1) := by decide +kernel
theorem d_Till_requireIndex_2 : decode b_Till_requireIndex 2 = .ok (.iload_n 1, 1) := by decide +kernel
theorem d_Till_requireIndex_3 : decode b_Till_requireIndex 3 = .ok (.iconst 1, 1) := by decide +kernel
theorem d_Till_requireIndex_4 : decode b_Till_requireIndex 4 = .ok (.isub, 1) := by decide +kernel
theorem d_Till_requireIndex_5 : decode b_Till_requireIndex 5 = .ok (.invokestatic 56, 3) := by decide +kernel
theorem d_Till_requireIndex_8 : decode b_Till_requireIndex 8 = .ok (.ifCond .ne 13, 3) := by decide +kernel
theorem d_Till_requireIndex_11 : decode b_Till_requireIndex 11 = .ok (.new 223, 3) := by decide +kernel
theorem d_Till_requireIndex_14 : decode b_Till_requireIndex 14 = .ok (.dup, 1) := by decide +kernel
theorem d_Till_requireIndex_15 : decode b_Till_requireIndex 15 = .ok (.ldc 225, 2) := by decide +kernel
theorem d_Till_requireIndex_17 : decode b_Till_requireIndex 17 = .ok (.invokespecial 227, 3) := by decide +kernel
theorem d_Till_requireIndex_20 : decode b_Till_requireIndex 20 = .ok (.athrow, 1) := by decide +kernel
theorem d_Till_requireIndex_21 : decode b_Till_requireIndex 21 = .ok (.return_, 1) := by decide +kernel
theorem d_Till_requireEmptyBasket_0 : decode b_Till_requireEmptyBasket 0 = .ok (.aload_n 0, 1) := by decide +kernel
theorem d_Till_requireEmptyBasket_1 : decode b_Till_requireEmptyBasket 1 = .ok (.getfield 23, 3) := by decide +kernel
theorem d_Till_requireEmptyBasket_4 : decode b_Till_requireEmptyBasket 4 = .ok (.getfield 104, 3) := by decide +kernel
theorem d_Till_requireEmptyBasket_7 : decode b_Till_requireEmptyBasket 7 = .ok (.ifCond .eq 13, 3) := by decide +kernel
theorem d_Till_requireEmptyBasket_10 : decode b_Till_requireEmptyBasket 10 = .ok (.new 162, 3) := by decide +kernel
theorem d_Till_requireEmptyBasket_13 : decode b_Till_requireEmptyBasket 13 = .ok (.dup, 1) := by decide +kernel
theorem d_Till_requireEmptyBasket_14 : decode b_Till_requireEmptyBasket 14 = .ok (.ldc 228, 2) := by decide +kernel
theorem d_Till_requireEmptyBasket_16 : decode b_Till_requireEmptyBasket 16 = .ok (.invokespecial 166, 3) := by decide +kernel
theorem d_Till_requireEmptyBasket_19 : decode b_Till_requireEmptyBasket 19 = .ok (.athrow, 1) := by decide +kernel
theorem d_Till_requireEmptyBasket_20 : decode b_Till_requireEmptyBasket 20 = .ok (.return_, 1) := by decide +kernel
theorem d_Till_receiptAt_0 : decode b_Till_receiptAt 0 = .ok (.iload_n 1, 1) := by decide +kernel
theorem d_Till_receiptAt_1 : decode b_Till_receiptAt 1 = .ok (.aload_n 0, 1) := by decide +kernel
theorem d_Till_receiptAt_2 : decode b_Till_receiptAt 2 = .ok (.getfield 47, 3) := by decide +kernel
theorem d_Till_receiptAt_5 : decode b_Till_receiptAt 5 = .ok (.invokevirtual 167, 3) := by decide +kernel
theorem d_Till_receiptAt_8 : decode b_Till_receiptAt 8 = .ok (.invokestatic 129, 3) := by decide +kernel
theorem d_Till_receiptAt_11 : decode b_Till_receiptAt 11 = .ok (.aload_n 0, 1) := by decide +kernel
theorem d_Till_receiptAt_12 : decode b_Till_receiptAt 12 = .ok (.getfield 47, 3) := by decide +kernel
theorem d_Till_receiptAt_15 : decode b_Till_receiptAt 15 = .ok (.iload_n 1, 1) := by decide +kernel
theorem d_Till_receiptAt_16 : decode b_Till_receiptAt 16 = .ok (.invokevirtual 230, 3) := by decide +kernel
theorem d_Till_receiptAt_19 : decode b_Till_receiptAt 19 = .ok (.checkcast 172, 3) := by decide +kernel
theorem d_Till_receiptAt_22 : decode b_Till_receiptAt 22 = .ok (.areturn, 1) := by decide +kernel
theorem d_Till_findPlan_0 : decode b_Till_findPlan 0 = .ok (.aload_n 0, 1) := by decide +kernel
theorem d_Till_findPlan_1 : decode b_Till_findPlan 1 = .ok (.getfield 126, 3) := by decide +kernel
theorem d_Till_findPlan_4 : decode b_Till_findPlan 4 = .ok (.ifCond .ne 53, 3) := by decide +kernel
theorem d_Till_findPlan_7 : decode b_Till_findPlan 7 = .ok (.aload_n 0, 1) := by decide +kernel
theorem d_Till_findPlan_8 : decode b_Till_findPlan 8 = .ok (.getfield 40, 3) := by decide +kernel
theorem d_Till_findPlan_11 : decode b_Till_findPlan 11 = .ok (.aload_n 0, 1) := by decide +kernel
theorem d_Till_findPlan_12 : decode b_Till_findPlan 12 = .ok (.getfield 10, 3) := by decide +kernel
theorem d_Till_findPlan_15 : decode b_Till_findPlan 15 = .ok (.aload_n 0, 1) := by decide +kernel
theorem d_Till_findPlan_16 : decode b_Till_findPlan 16 = .ok (.getfield 23, 3) := by decide +kernel
theorem d_Till_findPlan_19 : decode b_Till_findPlan 19 = .ok (.invokevirtual 234, 3) := by decide +kernel
theorem d_Till_findPlan_22 : decode b_Till_findPlan 22 = .ok (.aload_n 0, 1) := by decide +kernel
theorem d_Till_findPlan_23 : decode b_Till_findPlan 23 = .ok (.getfield 33, 3) := by decide +kernel
theorem d_Till_findPlan_26 : decode b_Till_findPlan 26 = .ok (.aload_n 0, 1) := by decide +kernel
theorem d_Till_findPlan_27 : decode b_Till_findPlan 27 = .ok (.getfield 10, 3) := by decide +kernel
theorem d_Till_findPlan_30 : decode b_Till_findPlan 30 = .ok (.aload_n 0, 1) := by decide +kernel
theorem d_Till_findPlan_31 : decode b_Till_findPlan 31 = .ok (.getfield 23, 3) := by decide +kernel
theorem d_Till_findPlan_34 : decode b_Till_findPlan 34 = .ok (.invokevirtual 238, 3) := by decide +kernel
theorem d_Till_findPlan_37 : decode b_Till_findPlan 37 = .ok (.aload_n 0, 1) := by decide +kernel
theorem d_Till_findPlan_38 : decode b_Till_findPlan 38 = .ok (.getfield 33, 3) := by decide +kernel
theorem d_Till_findPlan_41 : decode b_Till_findPlan 41 = .ok (.aload_n 0, 1) := by decide +kernel
theorem d_Till_findPlan_42 : decode b_Till_findPlan 42 = .ok (.getfield 23, 3) := by decide +kernel
theorem d_Till_findPlan_45 : decode b_Till_findPlan 45 = .ok (.aload_n 0, 1) := by decide +kernel
theorem d_Till_findPlan_46 : decode b_Till_findPlan 46 = .ok (.getfield 40, 3) := by decide +kernel
theorem d_Till_findPlan_49 : decode b_Till_findPlan 49 = .ok (.invokevirtual 241, 3) := by decide +kernel
theorem d_Till_findPlan_52 : decode b_Till_findPlan 52 = .ok (.aload_n 0, 1) := by decide +kernel
theorem d_Till_findPlan_53 : decode b_Till_findPlan 53 = .ok (.iconst 1, 1) := by decide +kernel
theorem d_Till_findPlan_54 : decode b_Till_findPlan 54 = .ok (.putfield 126, 3) := by decide +kernel
theorem d_Till_findPlan_57 : decode b_Till_findPlan 57 = .ok (.return_, 1) := by decide +kernel
