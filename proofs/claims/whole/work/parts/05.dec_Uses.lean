/-! decode rows of Uses (by program) -/
theorem d_Uses_init_0 : decode b_Uses_init 0 = .ok (.aload_n 0, 1) := by decide +kernel
theorem d_Uses_init_1 : decode b_Uses_init 1 = .ok (.invokespecial 3, 3) := by decide +kernel
theorem d_Uses_init_4 : decode b_Uses_init 4 = .ok (.aload_n 0, 1) := by decide +kernel
theorem d_Uses_init_5 : decode b_Uses_init 5 = .ok (.sipush 1260, 3) := by decide +kernel
theorem d_Uses_init_8 : decode b_Uses_init 8 = .ok (.newarray .int, 2) := by decide +kernel
theorem d_Uses_init_10 : decode b_Uses_init 10 = .ok (.putfield 11, 3) := by decide +kernel
theorem d_Uses_init_13 : decode b_Uses_init 13 = .ok (.aload_n 0, 1) := by decide +kernel
theorem d_Uses_init_14 : decode b_Uses_init 14 = .ok (.sipush 1260, 3) := by decide +kernel
theorem d_Uses_init_17 : decode b_Uses_init 17 = .ok (.newarray .int, 2) := by decide +kernel
theorem d_Uses_init_19 : decode b_Uses_init 19 = .ok (.putfield 15, 3) := by decide +kernel
theorem d_Uses_init_22 : decode b_Uses_init 22 = .ok (.aload_n 0, 1) := by decide +kernel
theorem d_Uses_init_23 : decode b_Uses_init 23 = .ok (.sipush 1260, 3) := by decide +kernel
theorem d_Uses_init_26 : decode b_Uses_init 26 = .ok (.newarray .int, 2) := by decide +kernel
theorem d_Uses_init_28 : decode b_Uses_init 28 = .ok (.putfield 18, 3) := by decide +kernel
theorem d_Uses_init_31 : decode b_Uses_init 31 = .ok (.aload_n 0, 1) := by decide +kernel
theorem d_Uses_init_32 : decode b_Uses_init 32 = .ok (.sipush 1260, 3) := by decide +kernel
theorem d_Uses_init_35 : decode b_Uses_init 35 = .ok (.newarray .int, 2) := by decide +kernel
theorem d_Uses_init_37 : decode b_Uses_init 37 = .ok (.putfield 21, 3) := by decide +kernel
theorem d_Uses_init_40 : decode b_Uses_init 40 = .ok (.aload_n 0, 1) := by decide +kernel
theorem d_Uses_init_41 : decode b_Uses_init 41 = .ok (.bipush 12, 2) := by decide +kernel
theorem d_Uses_init_43 : decode b_Uses_init 43 = .ok (.newarray .int, 2) := by decide +kernel
theorem d_Uses_init_45 : decode b_Uses_init 45 = .ok (.putfield 24, 3) := by decide +kernel
theorem d_Uses_init_48 : decode b_Uses_init 48 = .ok (.aload_n 0, 1) := by decide +kernel
theorem d_Uses_init_49 : decode b_Uses_init 49 = .ok (.bipush 12, 2) := by decide +kernel
theorem d_Uses_init_51 : decode b_Uses_init 51 = .ok (.newarray .int, 2) := by decide +kernel
theorem d_Uses_init_53 : decode b_Uses_init 53 = .ok (.putfield 27, 3) := by decide +kernel
theorem d_Uses_init_56 : decode b_Uses_init 56 = .ok (.aload_n 0, 1) := by decide +kernel
theorem d_Uses_init_57 : decode b_Uses_init 57 = .ok (.bipush 12, 2) := by decide +kernel
theorem d_Uses_init_59 : decode b_Uses_init 59 = .ok (.newarray .int, 2) := by decide +kernel
theorem d_Uses_init_61 : decode b_Uses_init 61 = .ok (.putfield 30, 3) := by decide +kernel
theorem d_Uses_init_64 : decode b_Uses_init 64 = .ok (.aload_n 0, 1) := by decide +kernel
theorem d_Uses_init_65 : decode b_Uses_init 65 = .ok (.sipush 1024, 3) := by decide +kernel
theorem d_Uses_init_68 : decode b_Uses_init 68 = .ok (.newarray .int, 2) := by decide +kernel
theorem d_Uses_init_70 : decode b_Uses_init 70 = .ok (.putfield 33, 3) := by decide +kernel
theorem d_Uses_init_73 : decode b_Uses_init 73 = .ok (.return_, 1) := by decide +kernel
theorem d_Uses_collect_0 : decode b_Uses_collect 0 = .ok (.aload_n 0, 1) := by decide +kernel
theorem d_Uses_collect_1 : decode b_Uses_collect 1 = .ok (.iconst 0, 1) := by decide +kernel
theorem d_Uses_collect_2 : decode b_Uses_collect 2 = .ok (.putfield 36, 3) := by decide +kernel
theorem d_Uses_collect_5 : decode b_Uses_collect 5 = .ok (.aload_n 0, 1) := by decide +kernel
theorem d_Uses_collect_6 : decode b_Uses_collect 6 = .ok (.getfield 24, 3) := by decide +kernel
theorem d_Uses_collect_9 : decode b_Uses_collect 9 = .ok (.iconst (-1), 1) := by decide +kernel
theorem d_Uses_collect_10 : decode b_Uses_collect 10 = .ok (.invokestatic 40, 3) := by decide +kernel
theorem d_Uses_collect_13 : decode b_Uses_collect 13 = .ok (.aload_n 0, 1) := by decide +kernel
theorem d_Uses_collect_14 : decode b_Uses_collect 14 = .ok (.getfield 27, 3) := by decide +kernel
theorem d_Uses_collect_17 : decode b_Uses_collect 17 = .ok (.iconst (-1), 1) := by decide +kernel
theorem d_Uses_collect_18 : decode b_Uses_collect 18 = .ok (.invokestatic 40, 3) := by decide +kernel
theorem d_Uses_collect_21 : decode b_Uses_collect 21 = .ok (.iconst 0, 1) := by decide +kernel
theorem d_Uses_collect_22 : decode b_Uses_collect 22 = .ok (.istore 4, 2) := by decide +kernel
theorem d_Uses_collect_24 : decode b_Uses_collect 24 = .ok (.iload 4, 2) := by decide +kernel
theorem d_Uses_collect_26 : decode b_Uses_collect 26 = .ok (.bipush 6, 2) := by decide +kernel
theorem d_Uses_collect_28 : decode b_Uses_collect 28 = .ok (.if_icmp .ge 51, 3) := by decide +kernel
theorem d_Uses_collect_31 : decode b_Uses_collect 31 = .ok (.aload_n 1, 1) := by decide +kernel
theorem d_Uses_collect_32 : decode b_Uses_collect 32 = .ok (.getfield 46, 3) := by decide +kernel
theorem d_Uses_collect_35 : decode b_Uses_collect 35 = .ok (.iload 4, 2) := by decide +kernel
theorem d_Uses_collect_37 : decode b_Uses_collect 37 = .ok (.aaload, 1) := by decide +kernel
theorem d_Uses_collect_38 : decode b_Uses_collect 38 = .ok (.getfield 52, 3) := by decide +kernel
theorem d_Uses_collect_41 : decode b_Uses_collect 41 = .ok (.ifCond .eq 32, 3) := by decide +kernel
theorem d_Uses_collect_44 : decode b_Uses_collect 44 = .ok (.aload_n 0, 1) := by decide +kernel
theorem d_Uses_collect_45 : decode b_Uses_collect 45 = .ok (.dup, 1) := by decide +kernel
theorem d_Uses_collect_46 : decode b_Uses_collect 46 = .ok (.getfield 58, 3) := by decide +kernel
theorem d_Uses_collect_49 : decode b_Uses_collect 49 = .ok (.iconst 1, 1) := by decide +kernel
theorem d_Uses_collect_50 : decode b_Uses_collect 50 = .ok (.iadd, 1) := by decide +kernel
theorem d_Uses_collect_51 : decode b_Uses_collect 51 = .ok (.putfield 58, 3) := by decide +kernel
theorem d_Uses_collect_54 : decode b_Uses_collect 54 = .ok (.aload_n 0, 1) := by decide +kernel
theorem d_Uses_collect_55 : decode b_Uses_collect 55 = .ok (.getfield 30, 3) := by decide +kernel
theorem d_Uses_collect_58 : decode b_Uses_collect 58 = .ok (.iconst 0, 1) := by decide +kernel
theorem d_Uses_collect_59 : decode b_Uses_collect 59 = .ok (.invokestatic 40, 3) := by decide +kernel
theorem d_Uses_collect_62 : decode b_Uses_collect 62 = .ok (.aload_n 0, 1) := by decide +kernel
theorem d_Uses_collect_63 : decode b_Uses_collect 63 = .ok (.iconst 0, 1) := by decide +kernel
theorem d_Uses_collect_64 : decode b_Uses_collect 64 = .ok (.iconst 0, 1) := by decide +kernel
theorem d_Uses_collect_65 : decode b_Uses_collect 65 = .ok (.aload_n 1, 1) := by decide +kernel
theorem d_Uses_collect_66 : decode b_Uses_collect 66 = .ok (.iload 4, 2) := by decide +kernel
theorem d_Uses_collect_68 : decode b_Uses_collect 68 = .ok (.aload_n 2, 1) := by decide +kernel
theorem d_Uses_collect_69 : decode b_Uses_collect 69 = .ok (.aload_n 3, 1) := by decide +kernel
theorem d_Uses_collect_70 : decode b_Uses_collect 70 = .ok (.invokevirtual 61, 3) := by decide +kernel
theorem d_Uses_collect_73 : decode b_Uses_collect 73 = .ok (.iinc 4 1, 3) := by decide +kernel
theorem d_Uses_collect_76 : decode b_Uses_collect 76 = .ok (.goto (-52), 3) := by decide +kernel
theorem d_Uses_collect_79 : decode b_Uses_collect 79 = .ok (.return_, 1) := by decide +kernel
theorem d_Uses_choosePlace_0 : decode b_Uses_choosePlace 0 = .ok (.aload_n 3, 1) := by decide +kernel
theorem d_Uses_choosePlace_1 : decode b_Uses_choosePlace 1 = .ok (.getfield 46, 3) := by decide +kernel
theorem d_Uses_choosePlace_4 : decode b_Uses_choosePlace 4 = .ok (.iload 4, 2) := by decide +kernel
theorem d_Uses_choosePlace_6 : decode b_Uses_choosePlace 6 = .ok (.aaload, 1) := by decide +kernel
theorem d_Uses_choosePlace_7 : decode b_Uses_choosePlace 7 = .ok (.astore 7, 2) := by decide +kernel
theorem d_Uses_choosePlace_9 : decode b_Uses_choosePlace 9 = .ok (.iload_n 1, 1) := by decide +kernel
theorem d_Uses_choosePlace_10 : decode b_Uses_choosePlace 10 = .ok (.aload 7, 2) := by decide +kernel
theorem d_Uses_choosePlace_12 : decode b_Uses_choosePlace 12 = .ok (.invokevirtual 65, 3) := by decide +kernel
theorem d_Uses_choosePlace_15 : decode b_Uses_choosePlace 15 = .ok (.if_icmp .ge 8, 3) := by decide +kernel
theorem d_Uses_choosePlace_18 : decode b_Uses_choosePlace 18 = .ok (.iload_n 1, 1) := by decide +kernel
theorem d_Uses_choosePlace_19 : decode b_Uses_choosePlace 19 = .ok (.iconst 4, 1) := by decide +kernel
theorem d_Uses_choosePlace_20 : decode b_Uses_choosePlace 20 = .ok (.if_icmp .lt 13, 3) := by decide +kernel
theorem d_Uses_choosePlace_23 : decode b_Uses_choosePlace 23 = .ok (.aload_n 0, 1) := by decide +kernel
theorem d_Uses_choosePlace_24 : decode b_Uses_choosePlace 24 = .ok (.aload_n 3, 1) := by decide +kernel
theorem d_Uses_choosePlace_25 : decode b_Uses_choosePlace 25 = .ok (.iload 4, 2) := by decide +kernel
theorem d_Uses_choosePlace_27 : decode b_Uses_choosePlace 27 = .ok (.aload 6, 2) := by decide +kernel
theorem d_Uses_choosePlace_29 : decode b_Uses_choosePlace 29 = .ok (.invokevirtual 69, 3) := by decide +kernel
theorem d_Uses_choosePlace_32 : decode b_Uses_choosePlace 32 = .ok (.return_, 1) := by decide +kernel
theorem d_Uses_choosePlace_33 : decode b_Uses_choosePlace 33 = .ok (.iload_n 2, 1) := by decide +kernel
theorem d_Uses_choosePlace_34 : decode b_Uses_choosePlace 34 = .ok (.istore 8, 2) := by decide +kernel
theorem d_Uses_choosePlace_36 : decode b_Uses_choosePlace 36 = .ok (.iload 8, 2) := by decide +kernel
theorem d_Uses_choosePlace_38 : decode b_Uses_choosePlace 38 = .ok (.bipush 12, 2) := by decide +kernel
theorem d_Uses_choosePlace_40 : decode b_Uses_choosePlace 40 = .ok (.if_icmp .ge 49, 3) := by decide +kernel
theorem d_Uses_choosePlace_43 : decode b_Uses_choosePlace 43 = .ok (.aload_n 0, 1) := by decide +kernel
theorem d_Uses_choosePlace_44 : decode b_Uses_choosePlace 44 = .ok (.getfield 30, 3) := by decide +kernel
theorem d_Uses_choosePlace_47 : decode b_Uses_choosePlace 47 = .ok (.iload 8, 2) := by decide +kernel
theorem d_Uses_choosePlace_49 : decode b_Uses_choosePlace 49 = .ok (.iaload, 1) := by decide +kernel
theorem d_Uses_choosePlace_50 : decode b_Uses_choosePlace 50 = .ok (.aload 5, 2) := by decide +kernel
theorem d_Uses_choosePlace_52 : decode b_Uses_choosePlace 52 = .ok (.iload 8, 2) := by decide +kernel
theorem d_Uses_choosePlace_54 : decode b_Uses_choosePlace 54 = .ok (.iaload, 1) := by decide +kernel
theorem d_Uses_choosePlace_55 : decode b_Uses_choosePlace 55 = .ok (.if_icmp .ge 28, 3) := by decide +kernel
theorem d_Uses_choosePlace_58 : decode b_Uses_choosePlace 58 = .ok (.aload 7, 2) := by decide +kernel
theorem d_Uses_choosePlace_60 : decode b_Uses_choosePlace 60 = .ok (.iload_n 1, 1) := by decide +kernel
theorem d_Uses_choosePlace_61 : decode b_Uses_choosePlace 61 = .ok (.iload 8, 2) := by decide +kernel
theorem d_Uses_choosePlace_63 : decode b_Uses_choosePlace 63 = .ok (.invokevirtual 73, 3) := by decide +kernel
theorem d_Uses_choosePlace_66 : decode b_Uses_choosePlace 66 = .ok (.ifCond .eq 17, 3) := by decide +kernel
theorem d_Uses_choosePlace_69 : decode b_Uses_choosePlace 69 = .ok (.aload_n 0, 1) := by decide +kernel
theorem d_Uses_choosePlace_70 : decode b_Uses_choosePlace 70 = .ok (.iload_n 1, 1) := by decide +kernel
theorem d_Uses_choosePlace_71 : decode b_Uses_choosePlace 71 = .ok (.iload 8, 2) := by decide +kernel
theorem d_Uses_choosePlace_73 : decode b_Uses_choosePlace 73 = .ok (.aload_n 3, 1) := by decide +kernel
theorem d_Uses_choosePlace_74 : decode b_Uses_choosePlace 74 = .ok (.iload 4, 2) := by decide +kernel
theorem d_Uses_choosePlace_76 : decode b_Uses_choosePlace 76 = .ok (.aload 5, 2) := by decide +kernel
theorem d_Uses_choosePlace_78 : decode b_Uses_choosePlace 78 = .ok (.aload 6, 2) := by decide +kernel
theorem d_Uses_choosePlace_80 : decode b_Uses_choosePlace 80 = .ok (.invokevirtual 77, 3) := by decide +kernel
theorem d_Uses_choosePlace_83 : decode b_Uses_choosePlace 83 = .ok (.iinc 8 1, 3) := by decide +kernel
theorem d_Uses_choosePlace_86 : decode b_Uses_choosePlace 86 = .ok (.goto (-50), 3) := by decide +kernel
theorem d_Uses_choosePlace_89 : decode b_Uses_choosePlace 89 = .ok (.return_, 1) := by decide +kernel
theorem d_Uses_chooseBehind_0 : decode b_Uses_chooseBehind 0 = .ok (.aload_n 3, 1) := by decide +kernel
theorem d_Uses_chooseBehind_1 : decode b_Uses_chooseBehind 1 = .ok (.getfield 46, 3) := by decide +kernel
theorem d_Uses_chooseBehind_4 : decode b_Uses_chooseBehind 4 = .ok (.iload 4, 2) := by decide +kernel
theorem d_Uses_chooseBehind_6 : decode b_Uses_chooseBehind 6 = .ok (.aaload, 1) := by decide +kernel
theorem d_Uses_chooseBehind_7 : decode b_Uses_chooseBehind 7 = .ok (.getfield 80, 3) := by decide +kernel
theorem d_Uses_chooseBehind_10 : decode b_Uses_chooseBehind 10 = .ok (.iconst 2, 1) := by decide +kernel
theorem d_Uses_chooseBehind_11 : decode b_Uses_chooseBehind 11 = .ok (.if_icmp .eq 7, 3) := by decide +kernel
theorem d_Uses_chooseBehind_14 : decode b_Uses_chooseBehind 14 = .ok (.iconst 1, 1) := by decide +kernel
theorem d_Uses_chooseBehind_15 : decode b_Uses_chooseBehind 15 = .ok (.goto 4, 3) := by decide +kernel
theorem d_Uses_chooseBehind_18 : decode b_Uses_chooseBehind 18 = .ok (.iconst 0, 1) := by decide +kernel
theorem d_Uses_chooseBehind_19 : decode b_Uses_chooseBehind 19 = .ok (.istore 7, 2) := by decide +kernel
theorem d_Uses_chooseBehind_21 : decode b_Uses_chooseBehind 21 = .ok (.aload_n 0, 1) := by decide +kernel
theorem d_Uses_chooseBehind_22 : decode b_Uses_chooseBehind 22 = .ok (.getfield 30, 3) := by decide +kernel
theorem d_Uses_chooseBehind_25 : decode b_Uses_chooseBehind 25 = .ok (.iload_n 2, 1) := by decide +kernel
theorem d_Uses_chooseBehind_26 : decode b_Uses_chooseBehind 26 = .ok (.dup2, 1) := by decide +kernel
theorem d_Uses_chooseBehind_27 : decode b_Uses_chooseBehind 27 = .ok (.iaload, 1) := by decide +kernel
theorem d_Uses_chooseBehind_28 : decode b_Uses_chooseBehind 28 = .ok (.iconst 1, 1) := by decide +kernel
theorem d_Uses_chooseBehind_29 : decode b_Uses_chooseBehind 29 = .ok (.iadd, 1) := by decide +kernel
theorem d_Uses_chooseBehind_30 : decode b_Uses_chooseBehind 30 = .ok (.iastore, 1) := by decide +kernel
theorem d_Uses_chooseBehind_31 : decode b_Uses_chooseBehind 31 = .ok (.aload_n 0, 1) := by decide +kernel
theorem d_Uses_chooseBehind_32 : decode b_Uses_chooseBehind 32 = .ok (.iload_n 1, 1) := by decide +kernel
theorem d_Uses_chooseBehind_33 : decode b_Uses_chooseBehind 33 = .ok (.iconst 1, 1) := by decide +kernel
theorem d_Uses_chooseBehind_34 : decode b_Uses_chooseBehind 34 = .ok (.iadd, 1) := by decide +kernel
theorem d_Uses_chooseBehind_35 : decode b_Uses_chooseBehind 35 = .ok (.iload 7, 2) := by decide +kernel
theorem d_Uses_chooseBehind_37 : decode b_Uses_chooseBehind 37 = .ok (.ifCond .eq 7, 3) := by decide +kernel
theorem d_Uses_chooseBehind_40 : decode b_Uses_chooseBehind 40 = .ok (.iload_n 2, 1) := by decide +kernel
theorem d_Uses_chooseBehind_41 : decode b_Uses_chooseBehind 41 = .ok (.goto 4, 3) := by decide +kernel
theorem d_Uses_chooseBehind_44 : decode b_Uses_chooseBehind 44 = .ok (.iconst 0, 1) := by decide +kernel
theorem d_Uses_chooseBehind_45 : decode b_Uses_chooseBehind 45 = .ok (.aload_n 3, 1) := by decide +kernel
theorem d_Uses_chooseBehind_46 : decode b_Uses_chooseBehind 46 = .ok (.iload 4, 2) := by decide +kernel
theorem d_Uses_chooseBehind_48 : decode b_Uses_chooseBehind 48 = .ok (.aload 5, 2) := by decide +kernel
theorem d_Uses_chooseBehind_50 : decode b_Uses_chooseBehind 50 = .ok (.aload 6, 2) := by decide +kernel
theorem d_Uses_chooseBehind_52 : decode b_Uses_chooseBehind 52 = .ok (.invokevirtual 61, 3) := by decide +kernel
theorem d_Uses_chooseBehind_55 : decode b_Uses_chooseBehind 55 = .ok (.aload_n 0, 1) := by decide +kernel
theorem d_Uses_chooseBehind_56 : decode b_Uses_chooseBehind 56 = .ok (.getfield 30, 3) := by decide +kernel
theorem d_Uses_chooseBehind_59 : decode b_Uses_chooseBehind 59 = .ok (.iload_n 2, 1) := by decide +kernel
theorem d_Uses_chooseBehind_60 : decode b_Uses_chooseBehind 60 = .ok (.dup2, 1) := by decide +kernel
theorem d_Uses_chooseBehind_61 : decode b_Uses_chooseBehind 61 = .ok (.iaload, 1) := by decide +kernel
theorem d_Uses_chooseBehind_62 : decode b_Uses_chooseBehind 62 = .ok (.iconst 1, 1) := by decide +kernel
theorem d_Uses_chooseBehind_63 : decode b_Uses_chooseBehind 63 = .ok (.isub, 1) := by decide +kernel
theorem d_Uses_chooseBehind_64 : decode b_Uses_chooseBehind 64 = .ok (.iastore, 1) := by decide +kernel
theorem d_Uses_chooseBehind_65 : decode b_Uses_chooseBehind 65 = .ok (.return_, 1) := by decide +kernel
theorem d_Uses_keep_0 : decode b_Uses_keep 0 = .ok (.iconst 0, 1) := by decide +kernel
theorem d_Uses_keep_1 : decode b_Uses_keep 1 = .ok (.istore 4, 2) := by decide +kernel
theorem d_Uses_keep_3 : decode b_Uses_keep 3 = .ok (.iconst 0, 1) := by decide +kernel
theorem d_Uses_keep_4 : decode b_Uses_keep 4 = .ok (.istore 5, 2) := by decide +kernel
theorem d_Uses_keep_6 : decode b_Uses_keep 6 = .ok (.ldc 83, 2) := by decide +kernel
theorem d_Uses_keep_8 : decode b_Uses_keep 8 = .ok (.istore 6, 2) := by decide +kernel
theorem d_Uses_keep_10 : decode b_Uses_keep 10 = .ok (.iconst 0, 1) := by decide +kernel
theorem d_Uses_keep_11 : decode b_Uses_keep 11 = .ok (.istore 7, 2) := by decide +kernel
theorem d_Uses_keep_13 : decode b_Uses_keep 13 = .ok (.iload 7, 2) := by decide +kernel
theorem d_Uses_keep_15 : decode b_Uses_keep 15 = .ok (.bipush 12, 2) := by decide +kernel
theorem d_Uses_keep_17 : decode b_Uses_keep 17 = .ok (.if_icmp .ge 70, 3) := by decide +kernel
theorem d_Uses_keep_20 : decode b_Uses_keep 20 = .ok (.aload_n 0, 1) := by decide +kernel
theorem d_Uses_keep_21 : decode b_Uses_keep 21 = .ok (.getfield 30, 3) := by decide +kernel
theorem d_Uses_keep_24 : decode b_Uses_keep 24 = .ok (.iload 7, 2) := by decide +kernel
theorem d_Uses_keep_26 : decode b_Uses_keep 26 = .ok (.iaload, 1) := by decide +kernel
theorem d_Uses_keep_27 : decode b_Uses_keep 27 = .ok (.ifCond .le 54, 3) := by decide +kernel
theorem d_Uses_keep_30 : decode b_Uses_keep 30 = .ok (.iload 4, 2) := by decide +kernel
theorem d_Uses_keep_32 : decode b_Uses_keep 32 = .ok (.aload_n 0, 1) := by decide +kernel
theorem d_Uses_keep_33 : decode b_Uses_keep 33 = .ok (.getfield 30, 3) := by decide +kernel
theorem d_Uses_keep_36 : decode b_Uses_keep 36 = .ok (.iload 7, 2) := by decide +kernel
theorem d_Uses_keep_38 : decode b_Uses_keep 38 = .ok (.iaload, 1) := by decide +kernel
theorem d_Uses_keep_39 : decode b_Uses_keep 39 = .ok (.aload_n 3, 1) := by decide +kernel
theorem d_Uses_keep_40 : decode b_Uses_keep 40 = .ok (.iload 7, 2) := by decide +kernel
theorem d_Uses_keep_42 : decode b_Uses_keep 42 = .ok (.iaload, 1) := by decide +kernel
theorem d_Uses_keep_43 : decode b_Uses_keep 43 = .ok (.imul, 1) := by decide +kernel
theorem d_Uses_keep_44 : decode b_Uses_keep 44 = .ok (.iadd, 1) := by decide +kernel
theorem d_Uses_keep_45 : decode b_Uses_keep 45 = .ok (.istore 4, 2) := by decide +kernel
theorem d_Uses_keep_47 : decode b_Uses_keep 47 = .ok (.iload 5, 2) := by decide +kernel
theorem d_Uses_keep_49 : decode b_Uses_keep 49 = .ok (.aload_n 0, 1) := by decide +kernel
theorem d_Uses_keep_50 : decode b_Uses_keep 50 = .ok (.getfield 30, 3) := by decide +kernel
theorem d_Uses_keep_53 : decode b_Uses_keep 53 = .ok (.iload 7, 2) := by decide +kernel
theorem d_Uses_keep_55 : decode b_Uses_keep 55 = .ok (.iaload, 1) := by decide +kernel
theorem d_Uses_keep_56 : decode b_Uses_keep 56 = .ok (.aload_n 1, 1) := by decide +kernel
theorem d_Uses_keep_57 : decode b_Uses_keep 57 = .ok (.getfield 84, 3) := by decide +kernel
theorem d_Uses_keep_60 : decode b_Uses_keep 60 = .ok (.iload 7, 2) := by decide +kernel
theorem d_Uses_keep_62 : decode b_Uses_keep 62 = .ok (.iaload, 1) := by decide +kernel
theorem d_Uses_keep_63 : decode b_Uses_keep 63 = .ok (.imul, 1) := by decide +kernel
theorem d_Uses_keep_64 : decode b_Uses_keep 64 = .ok (.iadd, 1) := by decide +kernel
theorem d_Uses_keep_65 : decode b_Uses_keep 65 = .ok (.istore 5, 2) := by decide +kernel
theorem d_Uses_keep_67 : decode b_Uses_keep 67 = .ok (.iload 6, 2) := by decide +kernel
theorem d_Uses_keep_69 : decode b_Uses_keep 69 = .ok (.aload_n 1, 1) := by decide +kernel
theorem d_Uses_keep_70 : decode b_Uses_keep 70 = .ok (.getfield 84, 3) := by decide +kernel
theorem d_Uses_keep_73 : decode b_Uses_keep 73 = .ok (.iload 7, 2) := by decide +kernel
theorem d_Uses_keep_75 : decode b_Uses_keep 75 = .ok (.iaload, 1) := by decide +kernel
theorem d_Uses_keep_76 : decode b_Uses_keep 76 = .ok (.invokestatic 87, 3) := by decide +kernel
theorem d_Uses_keep_79 : decode b_Uses_keep 79 = .ok (.istore 6, 2) := by decide +kernel
theorem d_Uses_keep_81 : decode b_Uses_keep 81 = .ok (.iinc 7 1, 3) := by decide +kernel
theorem d_Uses_keep_84 : decode b_Uses_keep 84 = .ok (.goto (-71), 3) := by decide +kernel
theorem d_Uses_keep_87 : decode b_Uses_keep 87 = .ok (.aload_n 1, 1) := by decide +kernel
theorem d_Uses_keep_88 : decode b_Uses_keep 88 = .ok (.getfield 46, 3) := by decide +kernel
theorem d_Uses_keep_91 : decode b_Uses_keep 91 = .ok (.iload_n 2, 1) := by decide +kernel
theorem d_Uses_keep_92 : decode b_Uses_keep 92 = .ok (.aaload, 1) := by decide +kernel
theorem d_Uses_keep_93 : decode b_Uses_keep 93 = .ok (.iload 5, 2) := by decide +kernel
theorem d_Uses_keep_95 : decode b_Uses_keep 95 = .ok (.iload 6, 2) := by decide +kernel
theorem d_Uses_keep_97 : decode b_Uses_keep 97 = .ok (.invokevirtual 93, 3) := by decide +kernel
theorem d_Uses_keep_100 : decode b_Uses_keep 100 = .ok (.istore 7, 2) := by decide +kernel
theorem d_Uses_keep_102 : decode b_Uses_keep 102 = .ok (.iload 7, 2) := by decide +kernel
theorem d_Uses_keep_104 : decode b_Uses_keep 104 = .ok (.ifCond .le 120, 3) := by decide +kernel
theorem d_Uses_keep_107 : decode b_Uses_keep 107 = .ok (.aload_n 0, 1) := by decide +kernel
theorem d_Uses_keep_108 : decode b_Uses_keep 108 = .ok (.iload 4, 2) := by decide +kernel
theorem d_Uses_keep_110 : decode b_Uses_keep 110 = .ok (.invokevirtual 96, 3) := by decide +kernel
theorem d_Uses_keep_113 : decode b_Uses_keep 113 = .ok (.ifCond .eq 111, 3) := by decide +kernel
theorem d_Uses_keep_116 : decode b_Uses_keep 116 = .ok (.aload_n 0, 1) := by decide +kernel
theorem d_Uses_keep_117 : decode b_Uses_keep 117 = .ok (.getfield 36, 3) := by decide +kernel
theorem d_Uses_keep_120 : decode b_Uses_keep 120 = .ok (.sipush 1260, 3) := by decide +kernel
theorem d_Uses_keep_123 : decode b_Uses_keep 123 = .ok (.if_icmp .ge 101, 3) := by decide +kernel
theorem d_Uses_keep_126 : decode b_Uses_keep 126 = .ok (.aload_n 1, 1) := by decide +kernel
theorem d_Uses_keep_127 : decode b_Uses_keep 127 = .ok (.getfield 46, 3) := by decide +kernel
theorem d_Uses_keep_130 : decode b_Uses_keep 130 = .ok (.iload_n 2, 1) := by decide +kernel
theorem d_Uses_keep_131 : decode b_Uses_keep 131 = .ok (.aaload, 1) := by decide +kernel
theorem d_Uses_keep_132 : decode b_Uses_keep 132 = .ok (.getfield 100, 3) := by decide +kernel
theorem d_Uses_keep_135 : decode b_Uses_keep 135 = .ok (.ifCond .le 7, 3) := by decide +kernel
theorem d_Uses_keep_138 : decode b_Uses_keep 138 = .ok (.iconst 1, 1) := by decide +kernel
theorem d_Uses_keep_139 : decode b_Uses_keep 139 = .ok (.goto 4, 3) := by decide +kernel
theorem d_Uses_keep_142 : decode b_Uses_keep 142 = .ok (.iconst 0, 1) := by decide +kernel
theorem d_Uses_keep_143 : decode b_Uses_keep 143 = .ok (.istore 8, 2) := by decide +kernel
theorem d_Uses_keep_145 : decode b_Uses_keep 145 = .ok (.aload_n 0, 1) := by decide +kernel
theorem d_Uses_keep_146 : decode b_Uses_keep 146 = .ok (.getfield 11, 3) := by decide +kernel
theorem d_Uses_keep_149 : decode b_Uses_keep 149 = .ok (.aload_n 0, 1) := by decide +kernel
theorem d_Uses_keep_150 : decode b_Uses_keep 150 = .ok (.getfield 36, 3) := by decide +kernel
theorem d_Uses_keep_153 : decode b_Uses_keep 153 = .ok (.aload_n 0, 1) := by decide +kernel
theorem d_Uses_keep_154 : decode b_Uses_keep 154 = .ok (.iload_n 2, 1) := by decide +kernel
theorem d_Uses_keep_155 : decode b_Uses_keep 155 = .ok (.invokevirtual 103, 3) := by decide +kernel
theorem d_Uses_keep_158 : decode b_Uses_keep 158 = .ok (.iastore, 1) := by decide +kernel
theorem d_Uses_keep_159 : decode b_Uses_keep 159 = .ok (.aload_n 0, 1) := by decide +kernel
theorem d_Uses_keep_160 : decode b_Uses_keep 160 = .ok (.getfield 15, 3) := by decide +kernel
theorem d_Uses_keep_163 : decode b_Uses_keep 163 = .ok (.aload_n 0, 1) := by decide +kernel
theorem d_Uses_keep_164 : decode b_Uses_keep 164 = .ok (.getfield 36, 3) := by decide +kernel
theorem d_Uses_keep_167 : decode b_Uses_keep 167 = .ok (.iload 7, 2) := by decide +kernel
theorem d_Uses_keep_169 : decode b_Uses_keep 169 = .ok (.iastore, 1) := by decide +kernel
theorem d_Uses_keep_170 : decode b_Uses_keep 170 = .ok (.aload_n 0, 1) := by decide +kernel
theorem d_Uses_keep_171 : decode b_Uses_keep 171 = .ok (.getfield 18, 3) := by decide +kernel
theorem d_Uses_keep_174 : decode b_Uses_keep 174 = .ok (.aload_n 0, 1) := by decide +kernel
theorem d_Uses_keep_175 : decode b_Uses_keep 175 = .ok (.getfield 36, 3) := by decide +kernel
theorem d_Uses_keep_178 : decode b_Uses_keep 178 = .ok (.iload 8, 2) := by decide +kernel
theorem d_Uses_keep_180 : decode b_Uses_keep 180 = .ok (.ifCond .eq 15, 3) := by decide +kernel
theorem d_Uses_keep_183 : decode b_Uses_keep 183 = .ok (.iload 4, 2) := by decide +kernel
theorem d_Uses_keep_185 : decode b_Uses_keep 185 = .ok (.aload_n 3, 1) := by decide +kernel
theorem d_Uses_keep_186 : decode b_Uses_keep 186 = .ok (.bipush 12, 2) := by decide +kernel
theorem d_Uses_keep_188 : decode b_Uses_keep 188 = .ok (.iload_n 2, 1) := by decide +kernel
theorem d_Uses_keep_189 : decode b_Uses_keep 189 = .ok (.iadd, 1) := by decide +kernel
theorem d_Uses_keep_190 : decode b_Uses_keep 190 = .ok (.iaload, 1) := by decide +kernel
theorem d_Uses_keep_191 : decode b_Uses_keep 191 = .ok (.iadd, 1) := by decide +kernel
theorem d_Uses_keep_192 : decode b_Uses_keep 192 = .ok (.goto 5, 3) := by decide +kernel
theorem d_Uses_keep_195 : decode b_Uses_keep 195 = .ok (.iload 4, 2) := by decide +kernel
theorem d_Uses_keep_197 : decode b_Uses_keep 197 = .ok (.iastore, 1) := by decide +kernel
theorem d_Uses_keep_198 : decode b_Uses_keep 198 = .ok (.aload_n 0, 1) := by decide +kernel
theorem d_Uses_keep_199 : decode b_Uses_keep 199 = .ok (.aload_n 0, 1) := by decide +kernel
theorem d_Uses_keep_200 : decode b_Uses_keep 200 = .ok (.getfield 11, 3) := by decide +kernel
theorem d_Uses_keep_203 : decode b_Uses_keep 203 = .ok (.aload_n 0, 1) := by decide +kernel
theorem d_Uses_keep_204 : decode b_Uses_keep 204 = .ok (.getfield 36, 3) := by decide +kernel
theorem d_Uses_keep_207 : decode b_Uses_keep 207 = .ok (.iaload, 1) := by decide +kernel
theorem d_Uses_keep_208 : decode b_Uses_keep 208 = .ok (.bipush 15, 2) := by decide +kernel
theorem d_Uses_keep_210 : decode b_Uses_keep 210 = .ok (.iand, 1) := by decide +kernel
theorem d_Uses_keep_211 : decode b_Uses_keep 211 = .ok (.invokevirtual 107, 3) := by decide +kernel
theorem d_Uses_keep_214 : decode b_Uses_keep 214 = .ok (.aload_n 0, 1) := by decide +kernel
theorem d_Uses_keep_215 : decode b_Uses_keep 215 = .ok (.dup, 1) := by decide +kernel
theorem d_Uses_keep_216 : decode b_Uses_keep 216 = .ok (.getfield 36, 3) := by decide +kernel
theorem d_Uses_keep_219 : decode b_Uses_keep 219 = .ok (.iconst 1, 1) := by decide +kernel
theorem d_Uses_keep_220 : decode b_Uses_keep 220 = .ok (.iadd, 1) := by decide +kernel
theorem d_Uses_keep_221 : decode b_Uses_keep 221 = .ok (.putfield 36, 3) := by decide +kernel
theorem d_Uses_keep_224 : decode b_Uses_keep 224 = .ok (.return_, 1) := by decide +kernel
theorem d_Uses_isNew_0 : decode b_Uses_isNew 0 = .ok (.iload_n 1, 1) := by decide +kernel
theorem d_Uses_isNew_1 : decode b_Uses_isNew 1 = .ok (.ifCond .lt 23, 3) := by decide +kernel
theorem d_Uses_isNew_4 : decode b_Uses_isNew 4 = .ok (.iload_n 1, 1) := by decide +kernel
theorem d_Uses_isNew_5 : decode b_Uses_isNew 5 = .ok (.sipush 1024, 3) := by decide +kernel
theorem d_Uses_isNew_8 : decode b_Uses_isNew 8 = .ok (.if_icmp .ge 16, 3) := by decide +kernel
theorem d_Uses_isNew_11 : decode b_Uses_isNew 11 = .ok (.aload_n 0, 1) := by decide +kernel
theorem d_Uses_isNew_12 : decode b_Uses_isNew 12 = .ok (.getfield 33, 3) := by decide +kernel
theorem d_Uses_isNew_15 : decode b_Uses_isNew 15 = .ok (.iload_n 1, 1) := by decide +kernel
theorem d_Uses_isNew_16 : decode b_Uses_isNew 16 = .ok (.iaload, 1) := by decide +kernel
theorem d_Uses_isNew_17 : decode b_Uses_isNew 17 = .ok (.aload_n 0, 1) := by decide +kernel
theorem d_Uses_isNew_18 : decode b_Uses_isNew 18 = .ok (.getfield 58, 3) := by decide +kernel
theorem d_Uses_isNew_21 : decode b_Uses_isNew 21 = .ok (.if_icmp .ne 5, 3) := by decide +kernel
theorem d_Uses_isNew_24 : decode b_Uses_isNew 24 = .ok (.iconst 0, 1) := by decide +kernel
theorem d_Uses_isNew_25 : decode b_Uses_isNew 25 = .ok (.ireturn, 1) := by decide +kernel
theorem d_Uses_isNew_26 : decode b_Uses_isNew 26 = .ok (.aload_n 0, 1) := by decide +kernel
theorem d_Uses_isNew_27 : decode b_Uses_isNew 27 = .ok (.getfield 33, 3) := by decide +kernel
theorem d_Uses_isNew_30 : decode b_Uses_isNew 30 = .ok (.iload_n 1, 1) := by decide +kernel
theorem d_Uses_isNew_31 : decode b_Uses_isNew 31 = .ok (.aload_n 0, 1) := by decide +kernel
theorem d_Uses_isNew_32 : decode b_Uses_isNew 32 = .ok (.getfield 58, 3) := by decide +kernel
theorem d_Uses_isNew_35 : decode b_Uses_isNew 35 = .ok (.iastore, 1) := by decide +kernel
theorem d_Uses_isNew_36 : decode b_Uses_isNew 36 = .ok (.iconst 1, 1) := by decide +kernel
theorem d_Uses_isNew_37 : decode b_Uses_isNew 37 = .ok (.ireturn, 1) := by decide +kernel
theorem d_Uses_packTaken_0 : decode b_Uses_packTaken 0 = .ok (.iconst 0, 1) := by decide +kernel
theorem d_Uses_packTaken_1 : decode b_Uses_packTaken 1 = .ok (.istore_n 2, 1) := by decide +kernel
theorem d_Uses_packTaken_2 : decode b_Uses_packTaken 2 = .ok (.iconst 0, 1) := by decide +kernel
theorem d_Uses_packTaken_3 : decode b_Uses_packTaken 3 = .ok (.istore_n 3, 1) := by decide +kernel
theorem d_Uses_packTaken_4 : decode b_Uses_packTaken 4 = .ok (.iconst 0, 1) := by decide +kernel
theorem d_Uses_packTaken_5 : decode b_Uses_packTaken 5 = .ok (.istore 4, 2) := by decide +kernel
theorem d_Uses_packTaken_7 : decode b_Uses_packTaken 7 = .ok (.iload 4, 2) := by decide +kernel
theorem d_Uses_packTaken_9 : decode b_Uses_packTaken 9 = .ok (.bipush 12, 2) := by decide +kernel
theorem d_Uses_packTaken_11 : decode b_Uses_packTaken 11 = .ok (.if_icmp .ge 42, 3) := by decide +kernel
theorem d_Uses_packTaken_14 : decode b_Uses_packTaken 14 = .ok (.iconst 0, 1) := by decide +kernel
theorem d_Uses_packTaken_15 : decode b_Uses_packTaken 15 = .ok (.istore 5, 2) := by decide +kernel
theorem d_Uses_packTaken_17 : decode b_Uses_packTaken 17 = .ok (.iload 5, 2) := by decide +kernel
theorem d_Uses_packTaken_19 : decode b_Uses_packTaken 19 = .ok (.aload_n 0, 1) := by decide +kernel
theorem d_Uses_packTaken_20 : decode b_Uses_packTaken 20 = .ok (.getfield 30, 3) := by decide +kernel
theorem d_Uses_packTaken_23 : decode b_Uses_packTaken 23 = .ok (.iload 4, 2) := by decide +kernel
theorem d_Uses_packTaken_25 : decode b_Uses_packTaken 25 = .ok (.iaload, 1) := by decide +kernel
theorem d_Uses_packTaken_26 : decode b_Uses_packTaken 26 = .ok (.if_icmp .ge 21, 3) := by decide +kernel
theorem d_Uses_packTaken_29 : decode b_Uses_packTaken 29 = .ok (.iload_n 3, 1) := by decide +kernel
theorem d_Uses_packTaken_30 : decode b_Uses_packTaken 30 = .ok (.iload 4, 2) := by decide +kernel
theorem d_Uses_packTaken_32 : decode b_Uses_packTaken 32 = .ok (.iconst 4, 1) := by decide +kernel
theorem d_Uses_packTaken_33 : decode b_Uses_packTaken 33 = .ok (.iload_n 2, 1) := by decide +kernel
theorem d_Uses_packTaken_34 : decode b_Uses_packTaken 34 = .ok (.imul, 1) := by decide +kernel
theorem d_Uses_packTaken_35 : decode b_Uses_packTaken 35 = .ok (.ishl, 1) := by decide +kernel
theorem d_Uses_packTaken_36 : decode b_Uses_packTaken 36 = .ok (.ior, 1) := by decide +kernel
theorem d_Uses_packTaken_37 : decode b_Uses_packTaken 37 = .ok (.istore_n 3, 1) := by decide +kernel
theorem d_Uses_packTaken_38 : decode b_Uses_packTaken 38 = .ok (.iinc 2 1, 3) := by decide +kernel
theorem d_Uses_packTaken_41 : decode b_Uses_packTaken 41 = .ok (.iinc 5 1, 3) := by decide +kernel
theorem d_Uses_packTaken_44 : decode b_Uses_packTaken 44 = .ok (.goto (-27), 3) := by decide +kernel
theorem d_Uses_packTaken_47 : decode b_Uses_packTaken 47 = .ok (.iinc 4 1, 3) := by decide +kernel
theorem d_Uses_packTaken_50 : decode b_Uses_packTaken 50 = .ok (.goto (-43), 3) := by decide +kernel
theorem d_Uses_packTaken_53 : decode b_Uses_packTaken 53 = .ok (.iload_n 3, 1) := by decide +kernel
theorem d_Uses_packTaken_54 : decode b_Uses_packTaken 54 = .ok (.iload_n 2, 1) := by decide +kernel
theorem d_Uses_packTaken_55 : decode b_Uses_packTaken 55 = .ok (.bipush 16, 2) := by decide +kernel
theorem d_Uses_packTaken_57 : decode b_Uses_packTaken 57 = .ok (.ishl, 1) := by decide +kernel
theorem d_Uses_packTaken_58 : decode b_Uses_packTaken 58 = .ok (.ior, 1) := by decide +kernel
theorem d_Uses_packTaken_59 : decode b_Uses_packTaken 59 = .ok (.iload_n 1, 1) := by decide +kernel
theorem d_Uses_packTaken_60 : decode b_Uses_packTaken 60 = .ok (.bipush 20, 2) := by decide +kernel
theorem d_Uses_packTaken_62 : decode b_Uses_packTaken 62 = .ok (.ishl, 1) := by decide +kernel
theorem d_Uses_packTaken_63 : decode b_Uses_packTaken 63 = .ok (.ior, 1) := by decide +kernel
theorem d_Uses_packTaken_64 : decode b_Uses_packTaken 64 = .ok (.ireturn, 1) := by decide +kernel
theorem d_Uses_link_0 : decode b_Uses_link 0 = .ok (.iload_n 1, 1) := by decide +kernel
theorem d_Uses_link_1 : decode b_Uses_link 1 = .ok (.bipush 12, 2) := by decide +kernel
theorem d_Uses_link_3 : decode b_Uses_link 3 = .ok (.if_icmp .lt 4, 3) := by decide +kernel
theorem d_Uses_link_6 : decode b_Uses_link 6 = .ok (.return_, 1) := by decide +kernel
theorem d_Uses_link_7 : decode b_Uses_link 7 = .ok (.aload_n 0, 1) := by decide +kernel
theorem d_Uses_link_8 : decode b_Uses_link 8 = .ok (.getfield 27, 3) := by decide +kernel
theorem d_Uses_link_11 : decode b_Uses_link 11 = .ok (.iload_n 1, 1) := by decide +kernel
theorem d_Uses_link_12 : decode b_Uses_link 12 = .ok (.iaload, 1) := by decide +kernel
theorem d_Uses_link_13 : decode b_Uses_link 13 = .ok (.istore_n 2, 1) := by decide +kernel
theorem d_Uses_link_14 : decode b_Uses_link 14 = .ok (.iload_n 2, 1) := by decide +kernel
theorem d_Uses_link_15 : decode b_Uses_link 15 = .ok (.iconst (-1), 1) := by decide +kernel
theorem d_Uses_link_16 : decode b_Uses_link 16 = .ok (.if_icmp .ne 16, 3) := by decide +kernel
theorem d_Uses_link_19 : decode b_Uses_link 19 = .ok (.aload_n 0, 1) := by decide +kernel
theorem d_Uses_link_20 : decode b_Uses_link 20 = .ok (.getfield 24, 3) := by decide +kernel
theorem d_Uses_link_23 : decode b_Uses_link 23 = .ok (.iload_n 1, 1) := by decide +kernel
theorem d_Uses_link_24 : decode b_Uses_link 24 = .ok (.aload_n 0, 1) := by decide +kernel
theorem d_Uses_link_25 : decode b_Uses_link 25 = .ok (.getfield 36, 3) := by decide +kernel
theorem d_Uses_link_28 : decode b_Uses_link 28 = .ok (.iastore, 1) := by decide +kernel
theorem d_Uses_link_29 : decode b_Uses_link 29 = .ok (.goto 13, 3) := by decide +kernel
theorem d_Uses_link_32 : decode b_Uses_link 32 = .ok (.aload_n 0, 1) := by decide +kernel
theorem d_Uses_link_33 : decode b_Uses_link 33 = .ok (.getfield 21, 3) := by decide +kernel
theorem d_Uses_link_36 : decode b_Uses_link 36 = .ok (.iload_n 2, 1) := by decide +kernel
theorem d_Uses_link_37 : decode b_Uses_link 37 = .ok (.aload_n 0, 1) := by decide +kernel
theorem d_Uses_link_38 : decode b_Uses_link 38 = .ok (.getfield 36, 3) := by decide +kernel
theorem d_Uses_link_41 : decode b_Uses_link 41 = .ok (.iastore, 1) := by decide +kernel
theorem d_Uses_link_42 : decode b_Uses_link 42 = .ok (.aload_n 0, 1) := by decide +kernel
theorem d_Uses_link_43 : decode b_Uses_link 43 = .ok (.getfield 27, 3) := by decide +kernel
theorem d_Uses_link_46 : decode b_Uses_link 46 = .ok (.iload_n 1, 1) := by decide +kernel
theorem d_Uses_link_47 : decode b_Uses_link 47 = .ok (.aload_n 0, 1) := by decide +kernel
theorem d_Uses_link_48 : decode b_Uses_link 48 = .ok (.getfield 36, 3) := by decide +kernel
theorem d_Uses_link_51 : decode b_Uses_link 51 = .ok (.iastore, 1) := by decide +kernel
theorem d_Uses_link_52 : decode b_Uses_link 52 = .ok (.aload_n 0, 1) := by decide +kernel
theorem d_Uses_link_53 : decode b_Uses_link 53 = .ok (.getfield 21, 3) := by decide +kernel
theorem d_Uses_link_56 : decode b_Uses_link 56 = .ok (.aload_n 0, 1) := by decide +kernel
theorem d_Uses_link_57 : decode b_Uses_link 57 = .ok (.getfield 36, 3) := by decide +kernel
theorem d_Uses_link_60 : decode b_Uses_link 60 = .ok (.iconst (-1), 1) := by decide +kernel
theorem d_Uses_link_61 : decode b_Uses_link 61 = .ok (.iastore, 1) := by decide +kernel
theorem d_Uses_link_62 : decode b_Uses_link 62 = .ok (.return_, 1) := by decide +kernel
theorem d_Uses_firstWith_0 : decode b_Uses_firstWith 0 = .ok (.aload_n 0, 1) := by decide +kernel
theorem d_Uses_firstWith_1 : decode b_Uses_firstWith 1 = .ok (.getfield 24, 3) := by decide +kernel
theorem d_Uses_firstWith_4 : decode b_Uses_firstWith 4 = .ok (.iload_n 1, 1) := by decide +kernel
theorem d_Uses_firstWith_5 : decode b_Uses_firstWith 5 = .ok (.iaload, 1) := by decide +kernel
theorem d_Uses_firstWith_6 : decode b_Uses_firstWith 6 = .ok (.ireturn, 1) := by decide +kernel
theorem d_Uses_has_0 : decode b_Uses_has 0 = .ok (.iload_n 1, 1) := by decide +kernel
theorem d_Uses_has_1 : decode b_Uses_has 1 = .ok (.ifCond .lt 15, 3) := by decide +kernel
theorem d_Uses_has_4 : decode b_Uses_has 4 = .ok (.iload_n 1, 1) := by decide +kernel
theorem d_Uses_has_5 : decode b_Uses_has 5 = .ok (.aload_n 0, 1) := by decide +kernel
theorem d_Uses_has_6 : decode b_Uses_has 6 = .ok (.getfield 36, 3) := by decide +kernel
theorem d_Uses_has_9 : decode b_Uses_has 9 = .ok (.if_icmp .ge 7, 3) := by decide +kernel
theorem d_Uses_has_12 : decode b_Uses_has 12 = .ok (.iconst 1, 1) := by decide +kernel
theorem d_Uses_has_13 : decode b_Uses_has 13 = .ok (.goto 4, 3) := by decide +kernel
theorem d_Uses_has_16 : decode b_Uses_has 16 = .ok (.iconst 0, 1) := by decide +kernel
theorem d_Uses_has_17 : decode b_Uses_has 17 = .ok (.ireturn, 1) := by decide +kernel
theorem d_Uses_nextOf_0 : decode b_Uses_nextOf 0 = .ok (.aload_n 0, 1) := by decide +kernel
theorem d_Uses_nextOf_1 : decode b_Uses_nextOf 1 = .ok (.getfield 21, 3) := by decide +kernel
theorem d_Uses_nextOf_4 : decode b_Uses_nextOf 4 = .ok (.iload_n 1, 1) := by decide +kernel
theorem d_Uses_nextOf_5 : decode b_Uses_nextOf 5 = .ok (.iaload, 1) := by decide +kernel
theorem d_Uses_nextOf_6 : decode b_Uses_nextOf 6 = .ok (.ireturn, 1) := by decide +kernel
theorem d_Uses_offerOf_0 : decode b_Uses_offerOf 0 = .ok (.aload_n 0, 1) := by decide +kernel
theorem d_Uses_offerOf_1 : decode b_Uses_offerOf 1 = .ok (.getfield 11, 3) := by decide +kernel
theorem d_Uses_offerOf_4 : decode b_Uses_offerOf 4 = .ok (.iload_n 1, 1) := by decide +kernel
theorem d_Uses_offerOf_5 : decode b_Uses_offerOf 5 = .ok (.iaload, 1) := by decide +kernel
theorem d_Uses_offerOf_6 : decode b_Uses_offerOf 6 = .ok (.bipush 20, 2) := by decide +kernel
theorem d_Uses_offerOf_8 : decode b_Uses_offerOf 8 = .ok (.ishr, 1) := by decide +kernel
theorem d_Uses_offerOf_9 : decode b_Uses_offerOf 9 = .ok (.bipush 15, 2) := by decide +kernel
theorem d_Uses_offerOf_11 : decode b_Uses_offerOf 11 = .ok (.iand, 1) := by decide +kernel
theorem d_Uses_offerOf_12 : decode b_Uses_offerOf 12 = .ok (.ireturn, 1) := by decide +kernel
theorem d_Uses_unitsOf_0 : decode b_Uses_unitsOf 0 = .ok (.aload_n 0, 1) := by decide +kernel
theorem d_Uses_unitsOf_1 : decode b_Uses_unitsOf 1 = .ok (.getfield 11, 3) := by decide +kernel
theorem d_Uses_unitsOf_4 : decode b_Uses_unitsOf 4 = .ok (.iload_n 1, 1) := by decide +kernel
theorem d_Uses_unitsOf_5 : decode b_Uses_unitsOf 5 = .ok (.iaload, 1) := by decide +kernel
theorem d_Uses_unitsOf_6 : decode b_Uses_unitsOf 6 = .ok (.bipush 16, 2) := by decide +kernel
theorem d_Uses_unitsOf_8 : decode b_Uses_unitsOf 8 = .ok (.ishr, 1) := by decide +kernel
theorem d_Uses_unitsOf_9 : decode b_Uses_unitsOf 9 = .ok (.bipush 15, 2) := by decide +kernel
theorem d_Uses_unitsOf_11 : decode b_Uses_unitsOf 11 = .ok (.iand, 1) := by decide +kernel
theorem d_Uses_unitsOf_12 : decode b_Uses_unitsOf 12 = .ok (.ireturn, 1) := by decide +kernel
theorem d_Uses_articleOf_0 : decode b_Uses_articleOf 0 = .ok (.aload_n 0, 1) := by decide +kernel
theorem d_Uses_articleOf_1 : decode b_Uses_articleOf 1 = .ok (.getfield 11, 3) := by decide +kernel
theorem d_Uses_articleOf_4 : decode b_Uses_articleOf 4 = .ok (.iload_n 1, 1) := by decide +kernel
theorem d_Uses_articleOf_5 : decode b_Uses_articleOf 5 = .ok (.iaload, 1) := by decide +kernel
theorem d_Uses_articleOf_6 : decode b_Uses_articleOf 6 = .ok (.iconst 4, 1) := by decide +kernel
theorem d_Uses_articleOf_7 : decode b_Uses_articleOf 7 = .ok (.iload_n 2, 1) := by decide +kernel
theorem d_Uses_articleOf_8 : decode b_Uses_articleOf 8 = .ok (.imul, 1) := by decide +kernel
theorem d_Uses_articleOf_9 : decode b_Uses_articleOf 9 = .ok (.ishr, 1) := by decide +kernel
theorem d_Uses_articleOf_10 : decode b_Uses_articleOf 10 = .ok (.bipush 15, 2) := by decide +kernel
theorem d_Uses_articleOf_12 : decode b_Uses_articleOf 12 = .ok (.iand, 1) := by decide +kernel
theorem d_Uses_articleOf_13 : decode b_Uses_articleOf 13 = .ok (.ireturn, 1) := by decide +kernel
theorem d_Uses_savingOf_0 : decode b_Uses_savingOf 0 = .ok (.aload_n 0, 1) := by decide +kernel
theorem d_Uses_savingOf_1 : decode b_Uses_savingOf 1 = .ok (.getfield 15, 3) := by decide +kernel
theorem d_Uses_savingOf_4 : decode b_Uses_savingOf 4 = .ok (.iload_n 1, 1) := by decide +kernel
theorem d_Uses_savingOf_5 : decode b_Uses_savingOf 5 = .ok (.iaload, 1) := by decide +kernel
theorem d_Uses_savingOf_6 : decode b_Uses_savingOf 6 = .ok (.ireturn, 1) := by decide +kernel
theorem d_Uses_stepOf_0 : decode b_Uses_stepOf 0 = .ok (.aload_n 0, 1) := by decide +kernel
theorem d_Uses_stepOf_1 : decode b_Uses_stepOf 1 = .ok (.getfield 18, 3) := by decide +kernel
theorem d_Uses_stepOf_4 : decode b_Uses_stepOf 4 = .ok (.iload_n 1, 1) := by decide +kernel
theorem d_Uses_stepOf_5 : decode b_Uses_stepOf 5 = .ok (.iaload, 1) := by decide +kernel
theorem d_Uses_stepOf_6 : decode b_Uses_stepOf 6 = .ok (.ireturn, 1) := by decide +kernel
