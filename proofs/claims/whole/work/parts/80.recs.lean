/-! the list of receipts; receiptAt, line, receipt, giveBack (by program) -/
def wAL (k : Nat → ClassId) (g : Nat → Nat) (σ : St) (x_el : Nat) : va_W := [(g 0, .inr (9, [.int (σ 0 0), .ref x_el, .int (σ 2 0)]))]
def wEl (k : Nat → ClassId) (g : Nat → Nat) (σ : St) (x_f : Nat → Option Nat) (x_n : Nat) : va_W := [(g 0, .inl (k 4, x_n, .inr (.inr (.inr (.inr x_f)))))]
abbrev b_AL_size : ByteArray := prog_26_method_8_code
def y_AL_size : MethodName := ⟨"java/util/ArrayList", "size", "()I"⟩
theorem d_AL_size_0 : decode b_AL_size 0 = .ok (.aload_n 0, 1) := by decide +kernel
theorem d_AL_size_1 : decode b_AL_size 1 = .ok (.getfield 48, 3) := by decide +kernel
theorem d_AL_size_4 : decode b_AL_size 4 = .ok (.ireturn, 1) := by decide +kernel
abbrev b_AL_get : ByteArray := prog_26_method_20_code
def y_AL_get : MethodName := ⟨"java/util/ArrayList", "get", "(I)Ljava/lang/Object;"⟩
theorem d_AL_get_0 : decode b_AL_get 0 = .ok (.iload_n 1, 1) := by decide +kernel
theorem d_AL_get_1 : decode b_AL_get 1 = .ok (.aload_n 0, 1) := by decide +kernel
theorem d_AL_get_2 : decode b_AL_get 2 = .ok (.getfield 48, 3) := by decide +kernel
theorem d_AL_get_5 : decode b_AL_get 5 = .ok (.invokestatic 118, 3) := by decide +kernel
theorem d_AL_get_8 : decode b_AL_get 8 = .ok (.pop, 1) := by decide +kernel
theorem d_AL_get_9 : decode b_AL_get 9 = .ok (.aload_n 0, 1) := by decide +kernel
theorem d_AL_get_10 : decode b_AL_get 10 = .ok (.iload_n 1, 1) := by decide +kernel
theorem d_AL_get_11 : decode b_AL_get 11 = .ok (.invokevirtual 123, 3) := by decide +kernel
theorem d_AL_get_14 : decode b_AL_get 14 = .ok (.areturn, 1) := by decide +kernel
abbrev b_AL_elementData : ByteArray := prog_26_method_18_code
def y_AL_elementData : MethodName := ⟨"java/util/ArrayList", "elementData", "(I)Ljava/lang/Object;"⟩
theorem d_AL_elementData_0 : decode b_AL_elementData 0 = .ok (.aload_n 0, 1) := by decide +kernel
theorem d_AL_elementData_1 : decode b_AL_elementData 1 = .ok (.getfield 9, 3) := by decide +kernel
theorem d_AL_elementData_4 : decode b_AL_elementData 4 = .ok (.iload_n 1, 1) := by decide +kernel
theorem d_AL_elementData_5 : decode b_AL_elementData 5 = .ok (.aaload, 1) := by decide +kernel
theorem d_AL_elementData_6 : decode b_AL_elementData 6 = .ok (.areturn, 1) := by decide +kernel
abbrev b_Ob_checkIndex : ByteArray := prog_30_method_17_code
def y_Ob_checkIndex : MethodName := ⟨"java/util/Objects", "checkIndex", "(II)I"⟩
theorem d_Ob_checkIndex_0 : decode b_Ob_checkIndex 0 = .ok (.iload_n 0, 1) := by decide +kernel
theorem d_Ob_checkIndex_1 : decode b_Ob_checkIndex 1 = .ok (.iload_n 1, 1) := by decide +kernel
theorem d_Ob_checkIndex_2 : decode b_Ob_checkIndex 2 = .ok (.aconst_null, 1) := by decide +kernel
theorem d_Ob_checkIndex_3 : decode b_Ob_checkIndex 3 = .ok (.invokestatic 105, 3) := by decide +kernel
theorem d_Ob_checkIndex_6 : decode b_Ob_checkIndex 6 = .ok (.ireturn, 1) := by decide +kernel
abbrev b_Pre_checkIndex : ByteArray := prog_34_method_11_code
def y_Pre_checkIndex : MethodName := ⟨"jdk/internal/util/Preconditions", "checkIndex", "(IILjava/util/function/BiFunction;)I"⟩
theorem d_Pre_checkIndex_0 : decode b_Pre_checkIndex 0 = .ok (.iload_n 0, 1) := by decide +kernel
theorem d_Pre_checkIndex_1 : decode b_Pre_checkIndex 1 = .ok (.ifCond .lt 8, 3) := by decide +kernel
theorem d_Pre_checkIndex_4 : decode b_Pre_checkIndex 4 = .ok (.iload_n 0, 1) := by decide +kernel
theorem d_Pre_checkIndex_5 : decode b_Pre_checkIndex 5 = .ok (.iload_n 1, 1) := by decide +kernel
theorem d_Pre_checkIndex_6 : decode b_Pre_checkIndex 6 = .ok (.if_icmp .lt 10, 3) := by decide +kernel
theorem d_Pre_checkIndex_9 : decode b_Pre_checkIndex 9 = .ok (.aload_n 2, 1) := by decide +kernel
theorem d_Pre_checkIndex_10 : decode b_Pre_checkIndex 10 = .ok (.iload_n 0, 1) := by decide +kernel
theorem d_Pre_checkIndex_11 : decode b_Pre_checkIndex 11 = .ok (.iload_n 1, 1) := by decide +kernel
theorem d_Pre_checkIndex_12 : decode b_Pre_checkIndex 12 = .ok (.invokestatic 95, 3) := by decide +kernel
theorem d_Pre_checkIndex_15 : decode b_Pre_checkIndex 15 = .ok (.athrow, 1) := by decide +kernel
theorem d_Pre_checkIndex_16 : decode b_Pre_checkIndex 16 = .ok (.iload_n 0, 1) := by decide +kernel
theorem d_Pre_checkIndex_17 : decode b_Pre_checkIndex 17 = .ok (.ireturn, 1) := by decide +kernel
abbrev b_Till_receiptAtN : ByteArray := b_Till_receiptAt
abbrev y_Till_receiptAtN : MethodName := y_Till_receiptAt
theorem d_Till_receiptAtN_0 : decode b_Till_receiptAtN 0 = .ok (.iload_n 1, 1) := d_Till_receiptAt_0
theorem d_Till_receiptAtN_1 : decode b_Till_receiptAtN 1 = .ok (.aload_n 0, 1) := d_Till_receiptAt_1
theorem d_Till_receiptAtN_2 : decode b_Till_receiptAtN 2 = .ok (.getfield 47, 3) := d_Till_receiptAt_2
theorem d_Till_receiptAtN_5 : decode b_Till_receiptAtN 5 = .ok (.invokevirtual 167, 3) := d_Till_receiptAt_5
theorem d_Till_receiptAtN_8 : decode b_Till_receiptAtN 8 = .ok (.invokestatic 129, 3) := d_Till_receiptAt_8
theorem d_Till_receiptAtN_11 : decode b_Till_receiptAtN 11 = .ok (.aload_n 0, 1) := d_Till_receiptAt_11
theorem d_Till_receiptAtN_12 : decode b_Till_receiptAtN 12 = .ok (.getfield 47, 3) := d_Till_receiptAt_12
theorem d_Till_receiptAtN_15 : decode b_Till_receiptAtN 15 = .ok (.iload_n 1, 1) := d_Till_receiptAt_15
theorem d_Till_receiptAtN_16 : decode b_Till_receiptAtN 16 = .ok (.invokevirtual 230, 3) := d_Till_receiptAt_16
theorem d_Till_receiptAtN_19 : decode b_Till_receiptAtN 19 = .ok (.checkcast 172, 3) := d_Till_receiptAt_19
theorem d_Till_receiptAtN_22 : decode b_Till_receiptAtN 22 = .ok (.areturn, 1) := d_Till_receiptAt_22
abbrev b_Till_lineN : ByteArray := b_Till_line
abbrev y_Till_lineN : MethodName := y_Till_line
theorem d_Till_lineN_0 : decode b_Till_lineN 0 = .ok (.aload_n 0, 1) := d_Till_line_0
theorem d_Till_lineN_1 : decode b_Till_lineN 1 = .ok (.iload_n 1, 1) := d_Till_line_1
theorem d_Till_lineN_2 : decode b_Till_lineN 2 = .ok (.invokevirtual 183, 3) := d_Till_line_2
theorem d_Till_lineN_5 : decode b_Till_lineN 5 = .ok (.astore 4, 2) := d_Till_line_5
theorem d_Till_lineN_7 : decode b_Till_lineN 7 = .ok (.iload_n 2, 1) := d_Till_line_7
theorem d_Till_lineN_8 : decode b_Till_lineN 8 = .ok (.aload 4, 2) := d_Till_line_8
theorem d_Till_lineN_10 : decode b_Till_lineN 10 = .ok (.getfield 187, 3) := d_Till_line_10
theorem d_Till_lineN_13 : decode b_Till_lineN 13 = .ok (.getfield 104, 3) := d_Till_line_13
theorem d_Till_lineN_16 : decode b_Till_lineN 16 = .ok (.invokestatic 129, 3) := d_Till_line_16
theorem d_Till_lineN_19 : decode b_Till_lineN 19 = .ok (.iload_n 3, 1) := d_Till_line_19
theorem d_Till_lineN_20 : decode b_Till_lineN 20 = .ok (.iconst 0, 1) := d_Till_line_20
theorem d_Till_lineN_21 : decode b_Till_lineN 21 = .ok (.iconst 3, 1) := d_Till_line_21
theorem d_Till_lineN_22 : decode b_Till_lineN 22 = .ok (.invokestatic 56, 3) := d_Till_line_22
theorem d_Till_lineN_25 : decode b_Till_lineN 25 = .ok (.invokestatic 60, 3) := d_Till_line_25
theorem d_Till_lineN_28 : decode b_Till_lineN 28 = .ok (.iload_n 3, 1) := d_Till_line_28
theorem d_Till_lineN_29 : decode b_Till_lineN 29 = .ok (.tableswitch 54 0 2 #[27, 38, 46], 27) := d_Till_line_29
theorem d_Till_lineN_56 : decode b_Till_lineN 56 = .ok (.aload 4, 2) := d_Till_line_56
theorem d_Till_lineN_58 : decode b_Till_lineN 58 = .ok (.getfield 187, 3) := d_Till_line_58
theorem d_Till_lineN_61 : decode b_Till_lineN 61 = .ok (.getfield 133, 3) := d_Till_line_61
theorem d_Till_lineN_64 : decode b_Till_lineN 64 = .ok (.iload_n 2, 1) := d_Till_line_64
theorem d_Till_lineN_65 : decode b_Till_lineN 65 = .ok (.iaload, 1) := d_Till_line_65
theorem d_Till_lineN_66 : decode b_Till_lineN 66 = .ok (.ireturn, 1) := d_Till_line_66
theorem d_Till_lineN_67 : decode b_Till_lineN 67 = .ok (.aload 4, 2) := d_Till_line_67
theorem d_Till_lineN_69 : decode b_Till_lineN 69 = .ok (.getfield 214, 3) := d_Till_line_69
theorem d_Till_lineN_72 : decode b_Till_lineN 72 = .ok (.iload_n 2, 1) := d_Till_line_72
theorem d_Till_lineN_73 : decode b_Till_lineN 73 = .ok (.iaload, 1) := d_Till_line_73
theorem d_Till_lineN_74 : decode b_Till_lineN 74 = .ok (.ireturn, 1) := d_Till_line_74
theorem d_Till_lineN_75 : decode b_Till_lineN 75 = .ok (.aload 4, 2) := d_Till_line_75
theorem d_Till_lineN_77 : decode b_Till_lineN 77 = .ok (.getfield 215, 3) := d_Till_line_77
theorem d_Till_lineN_80 : decode b_Till_lineN 80 = .ok (.iload_n 2, 1) := d_Till_line_80
theorem d_Till_lineN_81 : decode b_Till_lineN 81 = .ok (.iaload, 1) := d_Till_line_81
theorem d_Till_lineN_82 : decode b_Till_lineN 82 = .ok (.ireturn, 1) := d_Till_line_82
theorem d_Till_lineN_83 : decode b_Till_lineN 83 = .ok (.aload 4, 2) := d_Till_line_83
theorem d_Till_lineN_85 : decode b_Till_lineN 85 = .ok (.getfield 190, 3) := d_Till_line_85
theorem d_Till_lineN_88 : decode b_Till_lineN 88 = .ok (.iload_n 2, 1) := d_Till_line_88
theorem d_Till_lineN_89 : decode b_Till_lineN 89 = .ok (.baload, 1) := d_Till_line_89
theorem d_Till_lineN_90 : decode b_Till_lineN 90 = .ok (.ifCond .eq 7, 3) := d_Till_line_90
theorem d_Till_lineN_93 : decode b_Till_lineN 93 = .ok (.iconst 1, 1) := d_Till_line_93
theorem d_Till_lineN_94 : decode b_Till_lineN 94 = .ok (.goto 4, 3) := d_Till_line_94
theorem d_Till_lineN_97 : decode b_Till_lineN 97 = .ok (.iconst 0, 1) := d_Till_line_97
theorem d_Till_lineN_98 : decode b_Till_lineN 98 = .ok (.ireturn, 1) := d_Till_line_98
abbrev b_Till_receiptN : ByteArray := b_Till_receipt
abbrev y_Till_receiptN : MethodName := y_Till_receipt
theorem d_Till_receiptN_0 : decode b_Till_receiptN 0 = .ok (.iload_n 2, 1) := d_Till_receipt_0
theorem d_Till_receiptN_1 : decode b_Till_receiptN 1 = .ok (.iconst 0, 1) := d_Till_receipt_1
theorem d_Till_receiptN_2 : decode b_Till_receiptN 2 = .ok (.iconst 5, 1) := d_Till_receipt_2
theorem d_Till_receiptN_3 : decode b_Till_receiptN 3 = .ok (.invokestatic 56, 3) := d_Till_receipt_3
theorem d_Till_receiptN_6 : decode b_Till_receiptN 6 = .ok (.invokestatic 60, 3) := d_Till_receipt_6
theorem d_Till_receiptN_9 : decode b_Till_receiptN 9 = .ok (.iload_n 2, 1) := d_Till_receipt_9
theorem d_Till_receiptN_10 : decode b_Till_receiptN 10 = .ok (.iconst 4, 1) := d_Till_receipt_10
theorem d_Till_receiptN_11 : decode b_Till_receiptN 11 = .ok (.if_icmp .ne 11, 3) := d_Till_receipt_11
theorem d_Till_receiptN_14 : decode b_Till_receiptN 14 = .ok (.aload_n 0, 1) := d_Till_receipt_14
theorem d_Till_receiptN_15 : decode b_Till_receiptN 15 = .ok (.getfield 47, 3) := d_Till_receipt_15
theorem d_Till_receiptN_18 : decode b_Till_receiptN 18 = .ok (.invokevirtual 167, 3) := d_Till_receipt_18
theorem d_Till_receiptN_21 : decode b_Till_receiptN 21 = .ok (.ireturn, 1) := d_Till_receipt_21
theorem d_Till_receiptN_22 : decode b_Till_receiptN 22 = .ok (.iload_n 2, 1) := d_Till_receipt_22
theorem d_Till_receiptN_23 : decode b_Till_receiptN 23 = .ok (.iconst 5, 1) := d_Till_receipt_23
theorem d_Till_receiptN_24 : decode b_Till_receiptN 24 = .ok (.if_icmp .ne 8, 3) := d_Till_receipt_24
theorem d_Till_receiptN_27 : decode b_Till_receiptN 27 = .ok (.aload_n 0, 1) := d_Till_receipt_27
theorem d_Till_receiptN_28 : decode b_Till_receiptN 28 = .ok (.getfield 180, 3) := d_Till_receipt_28
theorem d_Till_receiptN_31 : decode b_Till_receiptN 31 = .ok (.ireturn, 1) := d_Till_receipt_31
theorem d_Till_receiptN_32 : decode b_Till_receiptN 32 = .ok (.aload_n 0, 1) := d_Till_receipt_32
theorem d_Till_receiptN_33 : decode b_Till_receiptN 33 = .ok (.iload_n 1, 1) := d_Till_receipt_33
theorem d_Till_receiptN_34 : decode b_Till_receiptN 34 = .ok (.invokevirtual 183, 3) := d_Till_receipt_34
theorem d_Till_receiptN_37 : decode b_Till_receiptN 37 = .ok (.astore_n 3, 1) := d_Till_receipt_37
theorem d_Till_receiptN_38 : decode b_Till_receiptN 38 = .ok (.iload_n 2, 1) := d_Till_receipt_38
theorem d_Till_receiptN_39 : decode b_Till_receiptN 39 = .ok (.tableswitch 43 0 2 #[25, 30, 35], 25) := d_Till_receipt_39
theorem d_Till_receiptN_64 : decode b_Till_receiptN 64 = .ok (.aload_n 3, 1) := d_Till_receipt_64
theorem d_Till_receiptN_65 : decode b_Till_receiptN 65 = .ok (.getfield 205, 3) := d_Till_receipt_65
theorem d_Till_receiptN_68 : decode b_Till_receiptN 68 = .ok (.ireturn, 1) := d_Till_receipt_68
theorem d_Till_receiptN_69 : decode b_Till_receiptN 69 = .ok (.aload_n 3, 1) := d_Till_receipt_69
theorem d_Till_receiptN_70 : decode b_Till_receiptN 70 = .ok (.getfield 208, 3) := d_Till_receipt_70
theorem d_Till_receiptN_73 : decode b_Till_receiptN 73 = .ok (.ireturn, 1) := d_Till_receipt_73
theorem d_Till_receiptN_74 : decode b_Till_receiptN 74 = .ok (.aload_n 3, 1) := d_Till_receipt_74
theorem d_Till_receiptN_75 : decode b_Till_receiptN 75 = .ok (.getfield 187, 3) := d_Till_receipt_75
theorem d_Till_receiptN_78 : decode b_Till_receiptN 78 = .ok (.getfield 104, 3) := d_Till_receipt_78
theorem d_Till_receiptN_81 : decode b_Till_receiptN 81 = .ok (.ireturn, 1) := d_Till_receipt_81
theorem d_Till_receiptN_82 : decode b_Till_receiptN 82 = .ok (.aload_n 3, 1) := d_Till_receipt_82
theorem d_Till_receiptN_83 : decode b_Till_receiptN 83 = .ok (.invokevirtual 211, 3) := d_Till_receipt_83
theorem d_Till_receiptN_86 : decode b_Till_receiptN 86 = .ok (.ireturn, 1) := d_Till_receipt_86
abbrev b_Till_giveBackN : ByteArray := b_Till_giveBack
abbrev y_Till_giveBackN : MethodName := y_Till_giveBack
theorem d_Till_giveBackN_0 : decode b_Till_giveBackN 0 = .ok (.aload_n 0, 1) := d_Till_giveBack_0
theorem d_Till_giveBackN_1 : decode b_Till_giveBackN 1 = .ok (.iload_n 1, 1) := d_Till_giveBack_1
theorem d_Till_giveBackN_2 : decode b_Till_giveBackN 2 = .ok (.invokevirtual 183, 3) := d_Till_giveBack_2
theorem d_Till_giveBackN_5 : decode b_Till_giveBackN 5 = .ok (.astore_n 3, 1) := d_Till_giveBack_5
theorem d_Till_giveBackN_6 : decode b_Till_giveBackN 6 = .ok (.iload_n 2, 1) := d_Till_giveBack_6
theorem d_Till_giveBackN_7 : decode b_Till_giveBackN 7 = .ok (.aload_n 3, 1) := d_Till_giveBack_7
theorem d_Till_giveBackN_8 : decode b_Till_giveBackN 8 = .ok (.getfield 187, 3) := d_Till_giveBack_8
theorem d_Till_giveBackN_11 : decode b_Till_giveBackN 11 = .ok (.getfield 104, 3) := d_Till_giveBack_11
theorem d_Till_giveBackN_14 : decode b_Till_giveBackN 14 = .ok (.invokestatic 129, 3) := d_Till_giveBack_14
theorem d_Till_giveBackN_17 : decode b_Till_giveBackN 17 = .ok (.aload_n 3, 1) := d_Till_giveBack_17
theorem d_Till_giveBackN_18 : decode b_Till_giveBackN 18 = .ok (.getfield 190, 3) := d_Till_giveBack_18
theorem d_Till_giveBackN_21 : decode b_Till_giveBackN 21 = .ok (.iload_n 2, 1) := d_Till_giveBack_21
theorem d_Till_giveBackN_22 : decode b_Till_giveBackN 22 = .ok (.baload, 1) := d_Till_giveBack_22
theorem d_Till_giveBackN_23 : decode b_Till_giveBackN 23 = .ok (.ifCond .ne 13, 3) := d_Till_giveBack_23
theorem d_Till_giveBackN_26 : decode b_Till_giveBackN 26 = .ok (.new 162, 3) := d_Till_giveBack_26
theorem d_Till_giveBackN_29 : decode b_Till_giveBackN 29 = .ok (.dup, 1) := d_Till_giveBack_29
theorem d_Till_giveBackN_30 : decode b_Till_giveBackN 30 = .ok (.ldc 194, 2) := d_Till_giveBack_30
theorem d_Till_giveBackN_32 : decode b_Till_giveBackN 32 = .ok (.invokespecial 166, 3) := d_Till_giveBack_32
theorem d_Till_giveBackN_35 : decode b_Till_giveBackN 35 = .ok (.athrow, 1) := d_Till_giveBack_35
theorem d_Till_giveBackN_36 : decode b_Till_giveBackN 36 = .ok (.aload_n 3, 1) := d_Till_giveBack_36
theorem d_Till_giveBackN_37 : decode b_Till_giveBackN 37 = .ok (.getfield 190, 3) := d_Till_giveBack_37
theorem d_Till_giveBackN_40 : decode b_Till_giveBackN 40 = .ok (.iload_n 2, 1) := d_Till_giveBack_40
theorem d_Till_giveBackN_41 : decode b_Till_giveBackN 41 = .ok (.iconst 0, 1) := d_Till_giveBack_41
theorem d_Till_giveBackN_42 : decode b_Till_giveBackN 42 = .ok (.bastore, 1) := d_Till_giveBack_42
theorem d_Till_giveBackN_43 : decode b_Till_giveBackN 43 = .ok (.aload_n 3, 1) := d_Till_giveBack_43
theorem d_Till_giveBackN_44 : decode b_Till_giveBackN 44 = .ok (.aload_n 0, 1) := d_Till_giveBack_44
theorem d_Till_giveBackN_45 : decode b_Till_giveBackN 45 = .ok (.getfield 27, 3) := d_Till_giveBack_45
theorem d_Till_giveBackN_48 : decode b_Till_giveBackN 48 = .ok (.invokevirtual 196, 3) := d_Till_giveBack_48
theorem d_Till_giveBackN_51 : decode b_Till_giveBackN 51 = .ok (.aload_n 3, 1) := d_Till_giveBack_51
theorem d_Till_giveBackN_52 : decode b_Till_giveBackN 52 = .ok (.aload_n 0, 1) := d_Till_giveBack_52
theorem d_Till_giveBackN_53 : decode b_Till_giveBackN 53 = .ok (.getfield 33, 3) := d_Till_giveBack_53
theorem d_Till_giveBackN_56 : decode b_Till_giveBackN 56 = .ok (.aload_n 3, 1) := d_Till_giveBack_56
theorem d_Till_giveBackN_57 : decode b_Till_giveBackN 57 = .ok (.getfield 200, 3) := d_Till_giveBack_57
theorem d_Till_giveBackN_60 : decode b_Till_giveBackN 60 = .ok (.aload_n 0, 1) := d_Till_giveBack_60
theorem d_Till_giveBackN_61 : decode b_Till_giveBackN 61 = .ok (.getfield 27, 3) := d_Till_giveBack_61
theorem d_Till_giveBackN_64 : decode b_Till_giveBackN 64 = .ok (.invokevirtual 159, 3) := d_Till_giveBack_64
theorem d_Till_giveBackN_67 : decode b_Till_giveBackN 67 = .ok (.invokevirtual 201, 3) := d_Till_giveBack_67
theorem d_Till_giveBackN_70 : decode b_Till_giveBackN 70 = .ok (.istore 4, 2) := d_Till_giveBack_70
theorem d_Till_giveBackN_72 : decode b_Till_giveBackN 72 = .ok (.aload_n 0, 1) := d_Till_giveBack_72
theorem d_Till_giveBackN_73 : decode b_Till_giveBackN 73 = .ok (.dup, 1) := d_Till_giveBack_73
theorem d_Till_giveBackN_74 : decode b_Till_giveBackN 74 = .ok (.getfield 180, 3) := d_Till_giveBack_74
theorem d_Till_giveBackN_77 : decode b_Till_giveBackN 77 = .ok (.iload 4, 2) := d_Till_giveBack_77
theorem d_Till_giveBackN_79 : decode b_Till_giveBackN 79 = .ok (.isub, 1) := d_Till_giveBack_79
theorem d_Till_giveBackN_80 : decode b_Till_giveBackN 80 = .ok (.putfield 180, 3) := d_Till_giveBack_80
theorem d_Till_giveBackN_83 : decode b_Till_giveBackN 83 = .ok (.iload 4, 2) := d_Till_giveBack_83
theorem d_Till_giveBackN_85 : decode b_Till_giveBackN 85 = .ok (.ireturn, 1) := d_Till_giveBack_85
def wp_AL_size (N : Nat) (α : St) (post : Int32 → (Unit) → Prop) : Prop := post (α 2 0) ()
abbrev rm_AL_size : Room := { frames := 0, cells := 0, slots := 0, locals := 0 }
theorem hd_AL_size : y_AL_size.cls = "java/util/ArrayList" ∧ y_AL_size.cls ≠ "java/lang/invoke/MethodHandle" ∧ y_AL_size.cls ≠ "java/lang/invoke/VarHandle" ∧ (parseMethodDescriptor y_AL_size.desc).map (fun d => d.parameters.length) = some 0 := by decide +kernel
def wp_Pre_checkIndex (N : Nat) (x0 : Int32) (x1 : Int32) (post : Int32 → (Unit) → Prop) : Prop := ((x0 < 0 → False) ∧ (¬ (x0 < 0) → ((x0 < x1 → post x0 ()) ∧ (¬ (x0 < x1) → False))))
abbrev rm_Pre_checkIndex : Room := { frames := 0, cells := 0, slots := 0, locals := 0 }
theorem hd_Pre_checkIndex : y_Pre_checkIndex.cls = "jdk/internal/util/Preconditions" ∧ y_Pre_checkIndex.cls ≠ "java/lang/invoke/MethodHandle" ∧ y_Pre_checkIndex.cls ≠ "java/lang/invoke/VarHandle" ∧ (parseMethodDescriptor y_Pre_checkIndex.desc).map (fun d => d.parameters.length) = some 3 := by decide +kernel
def wp_Ob_checkIndex (N : Nat) (x0 : Int32) (x1 : Int32) (post : Int32 → (Unit) → Prop) : Prop := wp_Pre_checkIndex N x0 x1 (fun r2 u1 => post r2 ())
abbrev rm_Ob_checkIndex : Room := { frames := 1, cells := 0, slots := 0, locals := 22 }
theorem hd_Ob_checkIndex : y_Ob_checkIndex.cls = "java/util/Objects" ∧ y_Ob_checkIndex.cls ≠ "java/lang/invoke/MethodHandle" ∧ y_Ob_checkIndex.cls ≠ "java/lang/invoke/VarHandle" ∧ (parseMethodDescriptor y_Ob_checkIndex.desc).map (fun d => d.parameters.length) = some 2 := by decide +kernel
def wp_AL_elementData (N : Nat) (α : St) (ε : St) (x1 : Int32) (post : (Unit) → Prop) (xp : String → (Unit) → Prop) : Prop := post ()
abbrev rm_AL_elementData : Room := { frames := 0, cells := 0, slots := 0, locals := 0 }
theorem hd_AL_elementData : y_AL_elementData.cls = "java/util/ArrayList" ∧ y_AL_elementData.cls ≠ "java/lang/invoke/MethodHandle" ∧ y_AL_elementData.cls ≠ "java/lang/invoke/VarHandle" ∧ (parseMethodDescriptor y_AL_elementData.desc).map (fun d => d.parameters.length) = some 1 := by decide +kernel
def wp_AL_get (N : Nat) (α : St) (ε : St) (x1 : Int32) (post : (Unit) → Prop) (xp : String → (Unit) → Prop) : Prop := wp_Ob_checkIndex N x1 (α 2 0) (fun r2 u1 => wp_AL_elementData N α ε x1 (fun u3 => post ()) (fun E u3 => xp E ()))
abbrev rm_AL_get : Room := { frames := 2, cells := 0, slots := 0, locals := 43 }
theorem hd_AL_get : y_AL_get.cls = "java/util/ArrayList" ∧ y_AL_get.cls ≠ "java/lang/invoke/MethodHandle" ∧ y_AL_get.cls ≠ "java/lang/invoke/VarHandle" ∧ (parseMethodDescriptor y_AL_get.desc).map (fun d => d.parameters.length) = some 1 := by decide +kernel
def wp_Till_receiptAt (N : Nat) (θ : St) (α : St) (ε : St) (χ : St) (β2 : St) (x1 : Int32) (post : (Unit) → Prop) (xp : String → (Unit) → Prop) : Prop := wp_AL_size N α (fun r2 u1 => wp_Till_requireIndex N  x1 r2 (fun u3 => wp_AL_get N α ε x1 (fun u5 => post ()) (fun E u5 => xp E ())) (fun E u3 => xp E ()))
abbrev rm_Till_receiptAt : Room := { frames := 7, cells := 1, slots := 6, locals := 121 }
theorem hd_Till_receiptAt : y_Till_receiptAt.cls = "PromotionTill" ∧ y_Till_receiptAt.cls ≠ "java/lang/invoke/MethodHandle" ∧ y_Till_receiptAt.cls ≠ "java/lang/invoke/VarHandle" ∧ (parseMethodDescriptor y_Till_receiptAt.desc).map (fun d => d.parameters.length) = some 1 := by decide +kernel
def wp_Till_line (N : Nat) (θ : St) (α : St) (ε : St) (χ : St) (β2 : St) (x1 : Int32) (x2 : Int32) (x3 : Int32) (post : Int32 → (Unit) → Prop) (xp : String → (Unit) → Prop) : Prop := wp_Till_receiptAt N θ α ε χ β2 x1 (fun u1 => wp_Till_requireIndex N  x2 (β2 1 0) (fun u3 => wp_Till_within N x3 0 3 (fun r6 u5 => wp_Till_requireArgument N  r6 (fun u7 => ((x3 = 0 → (vp_in x2 10 ∧ post (β2 0 (Int32.toNatClampNeg x2)) ())) ∧ (¬ (x3 = 0) → ((x3 = 1 → (vp_in x2 10 ∧ post (χ 2 (Int32.toNatClampNeg x2)) ())) ∧ (¬ (x3 = 1) → ((x3 = 2 → (vp_in x2 10 ∧ post (χ 3 (Int32.toNatClampNeg x2)) ())) ∧ (¬ (x3 = 2) → (vp_in x2 10 ∧ (((χ 4 (Int32.toNatClampNeg x2)) = 0 → post 0 ()) ∧ (¬ ((χ 4 (Int32.toNatClampNeg x2)) = 0) → post 1 ())))))))))) (fun E u7 => xp E ()))) (fun E u3 => xp E ())) (fun E u1 => xp E ())
abbrev rm_Till_line : Room := { frames := 8, cells := 3, slots := 18, locals := 142 }
theorem hd_Till_line : y_Till_line.cls = "PromotionTill" ∧ y_Till_line.cls ≠ "java/lang/invoke/MethodHandle" ∧ y_Till_line.cls ≠ "java/lang/invoke/VarHandle" ∧ (parseMethodDescriptor y_Till_line.desc).map (fun d => d.parameters.length) = some 3 := by decide +kernel
def wp_Till_receipt (N : Nat) (θ : St) (α : St) (ε : St) (χ : St) (β2 : St) (x1 : Int32) (x2 : Int32) (post : Int32 → (Unit) → Prop) (xp : String → (Unit) → Prop) : Prop := wp_Till_within N x2 0 5 (fun r2 u1 => wp_Till_requireArgument N  r2 (fun u3 => ((¬ x2 = 4 → ((¬ x2 = 5 → wp_Till_receiptAt N θ α ε χ β2 x1 (fun u7 => ((x2 = 0 → post (χ 5 0) ()) ∧ (¬ (x2 = 0) → ((x2 = 1 → post (χ 6 0) ()) ∧ (¬ (x2 = 1) → ((x2 = 2 → post (β2 1 0) ()) ∧ (¬ (x2 = 2) → wp_Rec_keptCount N χ β2 (fun r13 u12 => post r13 ())))))))) (fun E u7 => xp E ())) ∧ (x2 = 5 → post (θ 8 0) ()))) ∧ (x2 = 4 → wp_AL_size N α (fun r15 u14 => post r15 ())))) (fun E u3 => xp E ()))
abbrev rm_Till_receipt : Room := { frames := 8, cells := 2, slots := 12, locals := 142 }
theorem hd_Till_receipt : y_Till_receipt.cls = "PromotionTill" ∧ y_Till_receipt.cls ≠ "java/lang/invoke/MethodHandle" ∧ y_Till_receipt.cls ≠ "java/lang/invoke/VarHandle" ∧ (parseMethodDescriptor y_Till_receipt.desc).map (fun d => d.parameters.length) = some 2 := by decide +kernel
def wp_Till_giveBack (N : Nat) (θ : St) (α : St) (ε : St) (χ : St) (β2 : St) (τ : St) (ω : Nat → St) (β : St) (κ : St) (υ : St) (x1 : Int32) (x2 : Int32) (post : Int32 → ((St) × (St) × (St) × (St) × (St)) → Prop) (xp : String → ((St) × (St) × (St) × (St) × (St)) → Prop) : Prop := wp_Till_receiptAt N θ α ε χ β2 x1 (fun u1 => wp_Till_requireIndex N  x2 (β2 1 0) (fun u3 => (vp_in x2 10 ∧ ((¬ (χ 4 (Int32.toNatClampNeg x2)) = 0 → (vp_in x2 10 ∧ (∀ χ8, χ8 = s2 χ 4 (Int32.toNatClampNeg x2) (vp_nar .boolean 0) → wp_Rec_copyKeptTo N χ8 β2 β (fun u9 => wp_Planner_leastTotal N κ υ τ ω u9 (fun r12 u11 => wp_Rec_raiseRefund N χ8 r12 (fun r14 u13 => (∀ θ15, θ15 = s2 θ 8 0 ((θ 8 0) - r14) → post r14 (θ15, u13, u9, u11.1, u11.2)))))))) ∧ ((χ 4 (Int32.toNatClampNeg x2)) = 0 → xp eIS (θ, χ, β, κ, υ))))) (fun E u3 => xp E (θ, χ, β, κ, υ))) (fun E u1 => xp E (θ, χ, β, κ, υ))
abbrev rm_Till_giveBack : Room := { frames := 14, cells := 3, slots := 18, locals := 378 }
theorem hd_Till_giveBack : y_Till_giveBack.cls = "PromotionTill" ∧ y_Till_giveBack.cls ≠ "java/lang/invoke/MethodHandle" ∧ y_Till_giveBack.cls ≠ "java/lang/invoke/VarHandle" ∧ (parseMethodDescriptor y_Till_giveBack.desc).map (fun d => d.parameters.length) = some 2 := by decide +kernel
def wp_Till_receiptAtN (N : Nat) (θ : St) (α : St) (x1 : Int32) (post : (Unit) → Prop) (xp : String → (Unit) → Prop) : Prop := wp_AL_size N α (fun r2 u1 => wp_Till_requireIndex N  x1 r2 (fun u3 => False) (fun E u3 => xp E ()))
abbrev rm_Till_receiptAtN : Room := { frames := 7, cells := 1, slots := 6, locals := 121 }
theorem hd_Till_receiptAtN : y_Till_receiptAtN.cls = "PromotionTill" ∧ y_Till_receiptAtN.cls ≠ "java/lang/invoke/MethodHandle" ∧ y_Till_receiptAtN.cls ≠ "java/lang/invoke/VarHandle" ∧ (parseMethodDescriptor y_Till_receiptAtN.desc).map (fun d => d.parameters.length) = some 1 := by decide +kernel
def wp_Till_lineN (N : Nat) (θ : St) (α : St) (x1 : Int32) (x2 : Int32) (x3 : Int32) (post : Int32 → (Unit) → Prop) (xp : String → (Unit) → Prop) : Prop := wp_Till_receiptAtN N θ α x1 (fun u1 => False) (fun E u1 => xp E ())
abbrev rm_Till_lineN : Room := { frames := 8, cells := 1, slots := 6, locals := 142 }
theorem hd_Till_lineN : y_Till_lineN.cls = "PromotionTill" ∧ y_Till_lineN.cls ≠ "java/lang/invoke/MethodHandle" ∧ y_Till_lineN.cls ≠ "java/lang/invoke/VarHandle" ∧ (parseMethodDescriptor y_Till_lineN.desc).map (fun d => d.parameters.length) = some 3 := by decide +kernel
def wp_Till_receiptN (N : Nat) (θ : St) (α : St) (x1 : Int32) (x2 : Int32) (post : Int32 → (Unit) → Prop) (xp : String → (Unit) → Prop) : Prop := wp_Till_within N x2 0 5 (fun r2 u1 => wp_Till_requireArgument N  r2 (fun u3 => ((¬ x2 = 4 → ((¬ x2 = 5 → wp_Till_receiptAtN N θ α x1 (fun u7 => False) (fun E u7 => xp E ())) ∧ (x2 = 5 → post (θ 8 0) ()))) ∧ (x2 = 4 → wp_AL_size N α (fun r10 u9 => post r10 ())))) (fun E u3 => xp E ()))
abbrev rm_Till_receiptN : Room := { frames := 8, cells := 2, slots := 12, locals := 142 }
theorem hd_Till_receiptN : y_Till_receiptN.cls = "PromotionTill" ∧ y_Till_receiptN.cls ≠ "java/lang/invoke/MethodHandle" ∧ y_Till_receiptN.cls ≠ "java/lang/invoke/VarHandle" ∧ (parseMethodDescriptor y_Till_receiptN.desc).map (fun d => d.parameters.length) = some 2 := by decide +kernel
def wp_Till_giveBackN (N : Nat) (θ : St) (α : St) (x1 : Int32) (x2 : Int32) (post : Int32 → (Unit) → Prop) (xp : String → (Unit) → Prop) : Prop := wp_Till_receiptAtN N θ α x1 (fun u1 => False) (fun E u1 => xp E ())
abbrev rm_Till_giveBackN : Room := { frames := 8, cells := 1, slots := 6, locals := 142 }
theorem hd_Till_giveBackN : y_Till_giveBackN.cls = "PromotionTill" ∧ y_Till_giveBackN.cls ≠ "java/lang/invoke/MethodHandle" ∧ y_Till_giveBackN.cls ≠ "java/lang/invoke/VarHandle" ∧ (parseMethodDescriptor y_Till_giveBackN.desc).map (fun d => d.parameters.length) = some 2 := by decide +kernel
set_option maxHeartbeats 4000000 in
set_option maxRecDepth 100000 in
theorem m_AL_size {l : Launch} {D : va_G} {k : Nat → ClassId} (N : Nat) (gA : Nat → Nat) (xe : Nat) (α : St) (post : Int32 → (Unit) → Prop) (h : wp_AL_size N  α  post) : Ci l D k y_AL_size b_AL_size 1 .int rm_AL_size [.ref (gA 0)] (wAL k gA α xe) (fun u : Unit => wAL k gA α xe) post := by
  refine Ci.of (by decide) (Nat.le_of_ble_eq_true rfl) ?_
  intro p e s m below meth c A H locs ls C hP hD hS hl
  obtain ⟨hx, hb, hr, hlk, hml, hown, hts, hK, hA⟩ := id C
  replace hl : lv_has ls 1 [(0, .ref (gA 0))] := hl
  unfold wp_AL_size at h
  refine lv_aload_n hx hb d_AL_size_0 rfl (lv_at hl 0 rfl) ?_
  refine va_get (D := D) (ci := 9) (v := .int (α 2 0)) (C := R_AL) (T := F_AL) (N := 3) hx hb hts in_AL hown hK hP 0 rfl rfl 2 (by decide) (hts _ kw_225) (fun _ h9 => h9) rfl d_AL_size_1 ?_
  exact ret_i (u := ()) (wf := (fun u : Unit => wAL k gA α xe)) C hP hD hS (Nat.zero_le _) (Nat.zero_le _) h d_AL_size_4
set_option maxHeartbeats 4000000 in
set_option maxRecDepth 100000 in
theorem m_Pre_checkIndex {l : Launch} {D : va_G} {k : Nat → ClassId} (N : Nat) (x0 : Int32) (x1 : Int32) (post : Int32 → (Unit) → Prop) (h : wp_Pre_checkIndex N   x0 x1 post) : Ci l D k y_Pre_checkIndex b_Pre_checkIndex 3 .int rm_Pre_checkIndex [.int x0, .int x1, .null] (([] : va_W)) (fun u : Unit => ([] : va_W)) post := by
  refine Ci.of (by decide) (Nat.le_of_ble_eq_true rfl) ?_
  intro p e s m below meth c A H locs ls C hP hD hS hl
  obtain ⟨hx, hb, hr, hlk, hml, hown, hts, hK, hA⟩ := id C
  replace hl : lv_has ls 3 [(0, .int x0), (1, .int x1), (2, .null)] := hl
  unfold wp_Pre_checkIndex at h
  refine lv_iload_n hx hb d_Pre_checkIndex_0 rfl (lv_at hl 0 rfl) ?_
  refine lv_if_lt (tgt := 9) hx hb d_Pre_checkIndex_1 (by decide) (fun c1 => ?_) (fun c1 => ?_)
  · replace h := h.1 c1
    all_goals exact h.elim
  · replace h := h.2 c1
    refine lv_iload_n hx hb d_Pre_checkIndex_4 rfl (lv_at hl 0 rfl) ?_
    refine lv_iload_n hx hb d_Pre_checkIndex_5 rfl (lv_at hl 1 rfl) ?_
    refine lv_icmp_lt (tgt := 16) hx hb d_Pre_checkIndex_6 (by decide) (fun c2 => ?_) (fun c2 => ?_)
    · replace h := h.1 c2
      refine lv_iload_n hx hb d_Pre_checkIndex_16 rfl (lv_at hl 0 rfl) ?_
      exact ret_i (u := ()) (wf := (fun u : Unit => ([] : va_W))) C hP hD hS (Nat.zero_le _) (Nat.zero_le _) h d_Pre_checkIndex_17
    · replace h := h.2 c2
      all_goals exact h.elim
set_option maxHeartbeats 4000000 in
set_option maxRecDepth 100000 in
theorem m_Ob_checkIndex {l : Launch} {D : va_G} {k : Nat → ClassId} (N : Nat) (x0 : Int32) (x1 : Int32) (post : Int32 → (Unit) → Prop) (h : wp_Ob_checkIndex N   x0 x1 post) : Ci l D k y_Ob_checkIndex b_Ob_checkIndex 2 .int rm_Ob_checkIndex [.int x0, .int x1] (([] : va_W)) (fun u : Unit => ([] : va_W)) post := by
  refine Ci.of (by decide) (Nat.le_of_ble_eq_true rfl) ?_
  intro p e s m below meth c A H locs ls C hP hD hS hl
  obtain ⟨hx, hb, hr, hlk, hml, hown, hts, hK, hA⟩ := id C
  replace hl : lv_has ls 2 [(0, .int x0), (1, .int x1)] := hl
  unfold wp_Ob_checkIndex at h
  refine lv_iload_n hx hb d_Ob_checkIndex_0 rfl (lv_at hl 0 rfl) ?_
  refine lv_iload_n hx hb d_Ob_checkIndex_1 rfl (lv_at hl 1 rfl) ?_
  refine lv_null hx hb d_Ob_checkIndex_2 ?_
  refine none_i C hP hD hS (runS (As := [.int x0, .int x1, .null]) (rest := []) C hP hD (m_Pre_checkIndex N   x0 x1  _ h H.size) kw_821 kw_822 kw_25 kw_823 (hd_Pre_checkIndex).2 ⟨Nat.le_of_ble_eq_true rfl, Nat.le_of_ble_eq_true rfl⟩ ⟨Nat.le_of_ble_eq_true rfl, Nat.le_of_ble_eq_true rfl⟩ rfl hl.1 (Nat.le_of_ble_eq_true rfl) d_Ob_checkIndex_3) (fun r2 u1 H locs h hP hD hS => ?_)
  try dsimp only at h
  exact ret_i (u := ()) (wf := (fun u : Unit => ([] : va_W))) C hP hD hS (Nat.zero_le _) (Nat.zero_le _) h d_Ob_checkIndex_6
set_option maxHeartbeats 4000000 in
set_option maxRecDepth 100000 in
theorem m_AL_elementData {l : Launch} {D : va_G} {k : Nat → ClassId} (hlt : l.stackTraces = false) (N : Nat) (gA : Nat → Nat) (gE : Nat → Nat) (fE : Nat → Option Nat) (nE : Nat) (gC : Nat → Nat) (α : St) (ε : St) (x1 : Int32) (hno : fE (Int32.toNatClampNeg x1) = some (gC 0)) (hne : vp_in x1 nE) (post : (Unit) → Prop) (xp : String → (Unit) → Prop) (h : wp_AL_elementData N  α ε x1 post xp) : CX l D k y_AL_elementData b_AL_elementData 2 (some (.object "java/lang/Object")) rm_AL_elementData [.ref (gA 0), .int x1] (wAL k gA α (gE 0) ++ (wEl k gE ε fE nE)) (fun u : Unit => wAL k gA α (gE 0) ++ (wEl k gE ε fE nE)) (fun v (u : Unit) => v = some (.ref (gC 0)) ∧ post u) xp := by
  refine CX.of (by decide) (Nat.le_of_ble_eq_true rfl) ?_
  intro p e s m below meth c A H locs ls C hX hcx hP hD hS hl
  obtain ⟨hx, hb, hr, hlk, hml, hown, hts, hK, hA⟩ := id C
  obtain ⟨t9, hZ9, hT9, hE9⟩ := id hX.2
  replace hl : lv_has ls 2 [(0, .ref (gA 0)), (1, .int x1)] := hl
  unfold wp_AL_elementData at h
  refine lv_aload_n hx hb d_AL_elementData_0 rfl (lv_at hl 0 rfl) ?_
  refine va_get (D := D) (ci := 9) (v := .ref (gE 0)) (C := R_AL) (T := F_AL) (N := 3) hx hb hts in_AL hown hK hP 0 rfl rfl 1 (by decide) (hts _ kw_224) (fun _ h9 => h9) rfl d_AL_elementData_1 ?_
  refine lv_iload_n hx hb d_AL_elementData_4 rfl (lv_at hl 1 rfl) ?_
  refine va_aldq hx hb hK hP 1 4 rfl rfl hne d_AL_elementData_5 ?_
  refine W.eq (g2 := F0 m 6 ls [.ref (gC 0)]) (by rw [hno]; rfl) ?_
  exact retX_r (q := (gC 0)) (u := ()) (wf := (fun u : Unit => wAL k gA α (gE 0) ++ (wEl k gE ε fE nE))) C hP hD hS (Nat.le_of_ble_eq_true rfl) (Nat.le_of_ble_eq_true rfl) ⟨rfl, h⟩ d_AL_elementData_6
set_option maxHeartbeats 4000000 in
set_option maxRecDepth 100000 in
theorem m_AL_get {l : Launch} {D : va_G} {k : Nat → ClassId} (hlt : l.stackTraces = false) (N : Nat) (gA : Nat → Nat) (gE : Nat → Nat) (fE : Nat → Option Nat) (nE : Nat) (gC : Nat → Nat) (α : St) (ε : St) (x1 : Int32) (hno : fE (Int32.toNatClampNeg x1) = some (gC 0)) (hne : vp_in x1 nE) (post : (Unit) → Prop) (xp : String → (Unit) → Prop) (h : wp_AL_get N  α ε x1 post xp) : CX l D k y_AL_get b_AL_get 2 (some (.object "java/lang/Object")) rm_AL_get [.ref (gA 0), .int x1] (wAL k gA α (gE 0) ++ (wEl k gE ε fE nE)) (fun u : Unit => wAL k gA α (gE 0) ++ (wEl k gE ε fE nE)) (fun v (u : Unit) => v = some (.ref (gC 0)) ∧ post u) xp := by
  refine CX.of (by decide) (Nat.le_of_ble_eq_true rfl) ?_
  intro p e s m below meth c A H locs ls C hX hcx hP hD hS hl
  obtain ⟨hx, hb, hr, hlk, hml, hown, hts, hK, hA⟩ := id C
  obtain ⟨t9, hZ9, hT9, hE9⟩ := id hX.2
  replace hl : lv_has ls 2 [(0, .ref (gA 0)), (1, .int x1)] := hl
  unfold wp_AL_get at h
  refine lv_iload_n hx hb d_AL_get_0 rfl (lv_at hl 1 rfl) ?_
  refine lv_aload_n hx hb d_AL_get_1 rfl (lv_at hl 0 rfl) ?_
  refine va_get (D := D) (ci := 9) (v := .int (α 2 0)) (C := R_AL) (T := F_AL) (N := 3) hx hb hts in_AL hown hK hP 0 rfl rfl 2 (by decide) (hts _ kw_225) (fun _ h9 => h9) rfl d_AL_get_2 ?_
  refine none_i C hP hD hS (runS (As := [.int x1, .int (α 2 0)]) (rest := []) C nilP nilD (m_Ob_checkIndex N   x1 (α 2 0)  _ h H.size) kw_818 kw_819 kw_24 kw_820 (hd_Ob_checkIndex).2 ⟨Nat.le_of_ble_eq_true rfl, Nat.le_of_ble_eq_true rfl⟩ ⟨Nat.le_of_ble_eq_true rfl, Nat.le_of_ble_eq_true rfl⟩ rfl hl.1 (Nat.le_of_ble_eq_true rfl) d_AL_get_5) (fun r2 u1 H locs h hP hD hS => ?_)
  try dsimp only at h
  refine lv_pop hx hb d_AL_get_8 rfl ?_
  refine lv_aload_n hx hb d_AL_get_9 rfl (lv_at hl 0 rfl) ?_
  refine lv_iload_n hx hb d_AL_get_10 rfl (lv_at hl 1 rfl) ?_
  refine callXV (As := [.int x1]) (rest := []) C hX hS (Jn.same hP hD hS hA) (m_AL_elementData hlt N gA gE fE nE gC α ε x1 hno hne _ _ h) kw_824 kw_825 kw_826 kw_11 kw_827 hd_AL_elementData 0 rfl rfl rfl rfl ⟨Nat.le_of_ble_eq_true rfl, Nat.le_of_ble_eq_true rfl⟩ ⟨Nat.le_of_ble_eq_true rfl, Nat.le_of_ble_eq_true rfl⟩ hl.1 (Nat.le_of_ble_eq_true rfl) d_AL_get_11 (fun v9 u3 H locs h hP hD hS => ?_) (fun q9 E9 u9 ce9 H locs h hP hD hS hce9 hcv9 hcl9 => ?_)
  rotate_left
  · exact outX (u := ()) (wf := (fun u : Unit => wAL k gA α (gE 0) ++ (wEl k gE ε fE nE))) C hcx hP hD hS hce9 hcv9 hcl9 (Nat.le_of_ble_eq_true rfl) (Nat.le_of_ble_eq_true rfl) h
  obtain ⟨rfl, h⟩ := h
  refine W.eq (g2 := F0 m 14 ls [.ref (gC 0)]) rfl ?_
  replace hP : va_P D CL (wAL k gA α (gE 0) ++ (wEl k gE ε fE nE)) H := hP
  replace hD : va_D A (wAL k gA α (gE 0) ++ (wEl k gE ε fE nE)) := hD
  try dsimp only at h
  exact retX_r (q := (gC 0)) (u := ()) (wf := (fun u : Unit => wAL k gA α (gE 0) ++ (wEl k gE ε fE nE))) C hP hD hS (Nat.le_of_ble_eq_true rfl) (Nat.le_of_ble_eq_true rfl) ⟨rfl, h⟩ d_AL_get_14
set_option maxHeartbeats 4000000 in
set_option maxRecDepth 100000 in
theorem m_Till_receiptAt {l : Launch} {D : va_G} {k : Nat → ClassId} (hlt : l.stackTraces = false) (N : Nat) (gX : Nat → Nat) (gA : Nat → Nat) (gE : Nat → Nat) (gC : Nat → Nat) (gB2 : Nat → Nat) (x_tariff : Nat) (x_basket : Nat) (x_keptUnits : Nat) (x_planner : Nat) (x_plan : Nat) (fE : Nat → Option Nat) (nE : Nat) (xt : Nat) (θ : St) (α : St) (ε : St) (χ : St) (β2 : St) (x1 : Int32) (hno : fE (Int32.toNatClampNeg x1) = some (gC 0)) (hne : vp_in x1 nE) (post : (Unit) → Prop) (xp : String → (Unit) → Prop) (h : wp_Till_receiptAt N  θ α ε χ β2 x1 post xp) : CX l D k y_Till_receiptAt b_Till_receiptAt 2 (some (.object "PromotionTill$Receipt")) rm_Till_receiptAt [.ref (gX 0), .int x1] (wTill k gX θ x_tariff x_basket x_keptUnits x_planner x_plan (gA 0) ++ (wAL k gA α (gE 0) ++ (wEl k gE ε fE nE ++ (wRec k gC χ xt (gB2 0) ++ (wBasket k gB2 β2))))) (fun u : Unit => wTill k gX θ x_tariff x_basket x_keptUnits x_planner x_plan (gA 0) ++ (wAL k gA α (gE 0) ++ (wEl k gE ε fE nE ++ (wRec k gC χ xt (gB2 0) ++ (wBasket k gB2 β2))))) (fun v (u : Unit) => v = some (.ref (gC 0)) ∧ post u) xp := by
  refine CX.of (by decide) (Nat.le_of_ble_eq_true rfl) ?_
  intro p e s m below meth c A H locs ls C hX hcx hP hD hS hl
  obtain ⟨hx, hb, hr, hlk, hml, hown, hts, hK, hA⟩ := id C
  obtain ⟨t9, hZ9, hT9, hE9⟩ := id hX.2
  replace hl : lv_has ls 2 [(0, .ref (gX 0)), (1, .int x1)] := hl
  unfold wp_Till_receiptAt at h
  refine lv_iload_n hx hb d_Till_receiptAt_0 rfl (lv_at hl 1 rfl) ?_
  refine lv_aload_n hx hb d_Till_receiptAt_1 rfl (lv_at hl 0 rfl) ?_
  refine va_get (D := D) (ci := 7) (v := .ref (gA 0)) (C := R_Till) (T := F_Till) (N := 9) hx hb hts in_Till hown hK hP 0 rfl rfl 6 (by decide) (hts _ kw_242) (fun _ h9 => h9) rfl d_Till_receiptAt_2 ?_
  refine call_i (wr := [(gX 0, .inr (7, [.ref x_tariff, .ref (gX 1), .ref x_basket, .ref x_keptUnits, .ref x_planner, .ref x_plan, .ref (gA 0), .int (θ 7 0), .int (θ 8 0)])), (gX 1, .inl (k 0, 12, .inl (θ 1))), (gE 0, .inl (k 4, nE, .inr (.inr (.inr (.inr fE))))), (gC 0, .inr (4, [.ref xt, .ref (gB2 0), .ref (gC 1), .ref (gC 2), .ref (gC 3), .int (χ 5 0), .int (χ 6 0)])), (gC 1, .inl (k 0, 10, .inl (χ 2))), (gC 2, .inl (k 0, 10, .inl (χ 3))), (gC 3, .inl (k 1, 10, .inl (χ 4))), (gB2 0, .inr (0, [.ref (gB2 1), .int (β2 1 0)])), (gB2 1, .inl (k 0, 10, .inl (β2 0)))]) (wn := (fun u1 : Unit => wTill k gX θ x_tariff x_basket x_keptUnits x_planner x_plan (gA 0) ++ (wAL k gA α (gE 0) ++ (wEl k gE ε fE nE ++ (wRec k gC χ xt (gB2 0) ++ (wBasket k gB2 β2)))))) C hP hD hS [2] [0, 1, 3, 4, 5, 6, 7, 8, 9] [0, 1, 9, 2, 3, 4, 5, 6, 7, 8] rfl rfl (by decide) (by decide) (fun _ => rfl) (by decide) (runV (As := []) (rest := [.int x1]) C (hP.sub [2] rfl) (hD.sub [2] (by decide) rfl) (m_AL_size N gA (gE 0) α   _ h H.size) kw_690 kw_691 kw_692 kw_11 kw_693 hd_AL_size ⟨Nat.le_of_ble_eq_true rfl, Nat.le_of_ble_eq_true rfl⟩ ⟨Nat.le_of_ble_eq_true rfl, Nat.le_of_ble_eq_true rfl⟩ 0 rfl rfl rfl rfl hl.1 (Nat.le_of_ble_eq_true rfl) d_Till_receiptAt_5) (fun r2 u1 H locs h hP hD hS => ?_)
  try dsimp only at h
  refine callXS (As := [.int x1, .int r2]) (rest := []) C hX hS (Jn.none (S := Unit) hP hD hS hA) (m_Till_requireIndex hlt N   x1 r2  _ _ h) kw_468 kw_469 kw_1 kw_470 (hd_Till_requireIndex).2 rfl ⟨Nat.le_of_ble_eq_true rfl, Nat.le_of_ble_eq_true rfl⟩ ⟨Nat.le_of_ble_eq_true rfl, Nat.le_of_ble_eq_true rfl⟩ hl.1 (Nat.le_of_ble_eq_true rfl) d_Till_receiptAt_8 (fun v9 u3 H locs h hP hD hS => ?_) (fun q9 E9 u9 ce9 H locs h hP hD hS hce9 hcv9 hcl9 => ?_)
  rotate_left
  · exact outX (u := ()) (wf := (fun u : Unit => wTill k gX θ x_tariff x_basket x_keptUnits x_planner x_plan (gA 0) ++ (wAL k gA α (gE 0) ++ (wEl k gE ε fE nE ++ (wRec k gC χ xt (gB2 0) ++ (wBasket k gB2 β2)))))) C hcx hP hD hS hce9 hcv9 hcl9 (Nat.le_of_ble_eq_true rfl) (Nat.le_of_ble_eq_true rfl) h
  obtain ⟨rfl, h⟩ := h
  refine W.eq (g2 := F0 m 11 ls []) rfl ?_
  replace hP : va_P D CL (wTill k gX θ x_tariff x_basket x_keptUnits x_planner x_plan (gA 0) ++ (wAL k gA α (gE 0) ++ (wEl k gE ε fE nE ++ (wRec k gC χ xt (gB2 0) ++ (wBasket k gB2 β2))))) H := hP
  replace hD : va_D A (wTill k gX θ x_tariff x_basket x_keptUnits x_planner x_plan (gA 0) ++ (wAL k gA α (gE 0) ++ (wEl k gE ε fE nE ++ (wRec k gC χ xt (gB2 0) ++ (wBasket k gB2 β2))))) := hD
  try dsimp only at h
  refine lv_aload_n hx hb d_Till_receiptAt_11 rfl (lv_at hl 0 rfl) ?_
  refine va_get (D := D) (ci := 7) (v := .ref (gA 0)) (C := R_Till) (T := F_Till) (N := 9) hx hb hts in_Till hown hK hP 0 rfl rfl 6 (by decide) (hts _ kw_242) (fun _ h9 => h9) rfl d_Till_receiptAt_12 ?_
  refine lv_iload_n hx hb d_Till_receiptAt_15 rfl (lv_at hl 1 rfl) ?_
  refine callXV (As := [.int x1]) (rest := []) C hX hS (Jn.part (wr := [(gX 0, .inr (7, [.ref x_tariff, .ref (gX 1), .ref x_basket, .ref x_keptUnits, .ref x_planner, .ref x_plan, .ref (gA 0), .int (θ 7 0), .int (θ 8 0)])), (gX 1, .inl (k 0, 12, .inl (θ 1))), (gC 0, .inr (4, [.ref xt, .ref (gB2 0), .ref (gC 1), .ref (gC 2), .ref (gC 3), .int (χ 5 0), .int (χ 6 0)])), (gC 1, .inl (k 0, 10, .inl (χ 2))), (gC 2, .inl (k 0, 10, .inl (χ 3))), (gC 3, .inl (k 1, 10, .inl (χ 4))), (gB2 0, .inr (0, [.ref (gB2 1), .int (β2 1 0)])), (gB2 1, .inl (k 0, 10, .inl (β2 0)))]) (wn := (fun u5 : Unit => wTill k gX θ x_tariff x_basket x_keptUnits x_planner x_plan (gA 0) ++ (wAL k gA α (gE 0) ++ (wEl k gE ε fE nE ++ (wRec k gC χ xt (gB2 0) ++ (wBasket k gB2 β2)))))) hP hD hS hA [2, 3] [0, 1, 4, 5, 6, 7, 8, 9] [0, 1, 8, 9, 2, 3, 4, 5, 6, 7] rfl (by decide) rfl (by decide) (by decide) (fun _ => rfl) (by decide)) (m_AL_get hlt N gA gE fE nE gC α ε x1 hno hne _ _ h) kw_814 kw_815 kw_816 kw_11 kw_817 hd_AL_get 0 rfl rfl rfl rfl ⟨Nat.le_of_ble_eq_true rfl, Nat.le_of_ble_eq_true rfl⟩ ⟨Nat.le_of_ble_eq_true rfl, Nat.le_of_ble_eq_true rfl⟩ hl.1 (Nat.le_of_ble_eq_true rfl) d_Till_receiptAt_16 (fun v9 u5 H locs h hP hD hS => ?_) (fun q9 E9 u9 ce9 H locs h hP hD hS hce9 hcv9 hcl9 => ?_)
  rotate_left
  · exact outX (u := ()) (wf := (fun u : Unit => wTill k gX θ x_tariff x_basket x_keptUnits x_planner x_plan (gA 0) ++ (wAL k gA α (gE 0) ++ (wEl k gE ε fE nE ++ (wRec k gC χ xt (gB2 0) ++ (wBasket k gB2 β2)))))) C hcx hP hD hS hce9 hcv9 hcl9 (Nat.le_of_ble_eq_true rfl) (Nat.le_of_ble_eq_true rfl) h
  obtain ⟨rfl, h⟩ := h
  refine W.eq (g2 := F0 m 19 ls [.ref (gC 0)]) rfl ?_
  replace hP : va_P D CL (wTill k gX θ x_tariff x_basket x_keptUnits x_planner x_plan (gA 0) ++ (wAL k gA α (gE 0) ++ (wEl k gE ε fE nE ++ (wRec k gC χ xt (gB2 0) ++ (wBasket k gB2 β2))))) H := hP
  replace hD : va_D A (wTill k gX θ x_tariff x_basket x_keptUnits x_planner x_plan (gA 0) ++ (wAL k gA α (gE 0) ++ (wEl k gE ε fE nE ++ (wRec k gC χ xt (gB2 0) ++ (wBasket k gB2 β2))))) := hD
  try dsimp only at h
  refine va_castS hx hb hown (hts _ kw_695) (hK.1 4 _ rfl).2 ?_ d_Till_receiptAt_19 ?_
  · obtain ⟨r8, h8, cell8, a8, b8, c8, -⟩ := hP 4 _ rfl
    exact ⟨cell8, a8, by rw [c8]; rfl, by rw [b8]; exact (hK.1 4 _ rfl).2.1⟩
  exact retX_r (q := (gC 0)) (u := ()) (wf := (fun u : Unit => wTill k gX θ x_tariff x_basket x_keptUnits x_planner x_plan (gA 0) ++ (wAL k gA α (gE 0) ++ (wEl k gE ε fE nE ++ (wRec k gC χ xt (gB2 0) ++ (wBasket k gB2 β2)))))) C hP hD hS (Nat.le_of_ble_eq_true rfl) (Nat.le_of_ble_eq_true rfl) ⟨rfl, h⟩ d_Till_receiptAt_22
set_option maxHeartbeats 4000000 in
set_option maxRecDepth 100000 in
theorem m_Till_line {l : Launch} {D : va_G} {k : Nat → ClassId} (hlt : l.stackTraces = false) (N : Nat) (gX : Nat → Nat) (gA : Nat → Nat) (gE : Nat → Nat) (gC : Nat → Nat) (gB2 : Nat → Nat) (x_tariff : Nat) (x_basket : Nat) (x_keptUnits : Nat) (x_planner : Nat) (x_plan : Nat) (fE : Nat → Option Nat) (nE : Nat) (xt : Nat) (θ : St) (α : St) (ε : St) (χ : St) (β2 : St) (x1 : Int32) (x2 : Int32) (x3 : Int32) (hno : fE (Int32.toNatClampNeg x1) = some (gC 0)) (hne : vp_in x1 nE) (post : Int32 → (Unit) → Prop) (xp : String → (Unit) → Prop) (h : wp_Till_line N  θ α ε χ β2 x1 x2 x3 post xp) : CX l D k y_Till_line b_Till_line 5 (some .int) rm_Till_line [.ref (gX 0), .int x1, .int x2, .int x3] (wTill k gX θ x_tariff x_basket x_keptUnits x_planner x_plan (gA 0) ++ (wAL k gA α (gE 0) ++ (wEl k gE ε fE nE ++ (wRec k gC χ xt (gB2 0) ++ (wBasket k gB2 β2))))) (fun u : Unit => wTill k gX θ x_tariff x_basket x_keptUnits x_planner x_plan (gA 0) ++ (wAL k gA α (gE 0) ++ (wEl k gE ε fE nE ++ (wRec k gC χ xt (gB2 0) ++ (wBasket k gB2 β2))))) (fun v (u : Unit) => ∃ r : Int32, v = some (.int r) ∧ post r u) xp := by
  refine CX.of (by decide) (Nat.le_of_ble_eq_true rfl) ?_
  intro p e s m below meth c A H locs ls C hX hcx hP hD hS hl
  obtain ⟨hx, hb, hr, hlk, hml, hown, hts, hK, hA⟩ := id C
  obtain ⟨t9, hZ9, hT9, hE9⟩ := id hX.2
  replace hl : lv_has ls 5 [(0, .ref (gX 0)), (1, .int x1), (2, .int x2), (3, .int x3)] := hl
  unfold wp_Till_line at h
  refine lv_aload_n hx hb d_Till_line_0 rfl (lv_at hl 0 rfl) ?_
  refine lv_iload_n hx hb d_Till_line_1 rfl (lv_at hl 1 rfl) ?_
  refine callXV (As := [.int x1]) (rest := []) C hX hS (Jn.same hP hD hS hA) (m_Till_receiptAt hlt N gX gA gE gC gB2 x_tariff x_basket x_keptUnits x_planner x_plan fE nE xt θ α ε χ β2 x1 hno hne _ _ h) kw_810 kw_812 kp_24 kw_1 kw_813 hd_Till_receiptAt 0 rfl rfl rfl rfl ⟨Nat.le_of_ble_eq_true rfl, Nat.le_of_ble_eq_true rfl⟩ ⟨Nat.le_of_ble_eq_true rfl, Nat.le_of_ble_eq_true rfl⟩ hl.1 (Nat.le_of_ble_eq_true rfl) d_Till_line_2 (fun v9 u1 H locs h hP hD hS => ?_) (fun q9 E9 u9 ce9 H locs h hP hD hS hce9 hcv9 hcl9 => ?_)
  rotate_left
  · exact outX (u := ()) (wf := (fun u : Unit => wTill k gX θ x_tariff x_basket x_keptUnits x_planner x_plan (gA 0) ++ (wAL k gA α (gE 0) ++ (wEl k gE ε fE nE ++ (wRec k gC χ xt (gB2 0) ++ (wBasket k gB2 β2)))))) C hcx hP hD hS hce9 hcv9 hcl9 (Nat.le_of_ble_eq_true rfl) (Nat.le_of_ble_eq_true rfl) h
  obtain ⟨rfl, h⟩ := h
  refine W.eq (g2 := F0 m 5 ls [.ref (gC 0)]) rfl ?_
  replace hP : va_P D CL (wTill k gX θ x_tariff x_basket x_keptUnits x_planner x_plan (gA 0) ++ (wAL k gA α (gE 0) ++ (wEl k gE ε fE nE ++ (wRec k gC χ xt (gB2 0) ++ (wBasket k gB2 β2))))) H := hP
  replace hD : va_D A (wTill k gX θ x_tariff x_basket x_keptUnits x_planner x_plan (gA 0) ++ (wAL k gA α (gE 0) ++ (wEl k gE ε fE nE ++ (wRec k gC χ xt (gB2 0) ++ (wBasket k gB2 β2))))) := hD
  try dsimp only at h
  refine lv_astore (lv' := [(4, .ref (gC 0)), (0, .ref (gX 0)), (1, .int x1), (2, .int x2), (3, .int x3)]) hx hb d_Till_line_5 hl (by decide) rfl (fun ls hl => ?_)
  refine lv_iload_n hx hb d_Till_line_7 rfl (lv_at hl 3 rfl) ?_
  refine lv_aload hx hb d_Till_line_8 (lv_at hl 0 rfl) ?_
  refine va_get (D := D) (ci := 4) (v := .ref (gB2 0)) (C := R_Rec) (T := F_Rec) (N := 7) hx hb hts in_Rec hown hK hP 4 rfl rfl 1 (by decide) (hts _ kw_720) (fun _ h9 => h9) rfl d_Till_line_10 ?_
  refine va_get (D := D) (ci := 0) (v := .int (β2 1 0)) (C := R_Basket) (T := F_Basket) (N := 2) hx hb hts in_Basket hown hK hP 8 rfl rfl 1 (by decide) (hts _ kw_109) (fun _ h9 => h9) rfl d_Till_line_13 ?_
  refine callXS (As := [.int x2, .int (β2 1 0)]) (rest := []) C hX hS (Jn.none (S := Unit) hP hD hS hA) (m_Till_requireIndex hlt N   x2 (β2 1 0)  _ _ h) kw_468 kw_469 kw_1 kw_470 (hd_Till_requireIndex).2 rfl ⟨Nat.le_of_ble_eq_true rfl, Nat.le_of_ble_eq_true rfl⟩ ⟨Nat.le_of_ble_eq_true rfl, Nat.le_of_ble_eq_true rfl⟩ hl.1 (Nat.le_of_ble_eq_true rfl) d_Till_line_16 (fun v9 u3 H locs h hP hD hS => ?_) (fun q9 E9 u9 ce9 H locs h hP hD hS hce9 hcv9 hcl9 => ?_)
  rotate_left
  · exact outX (u := ()) (wf := (fun u : Unit => wTill k gX θ x_tariff x_basket x_keptUnits x_planner x_plan (gA 0) ++ (wAL k gA α (gE 0) ++ (wEl k gE ε fE nE ++ (wRec k gC χ xt (gB2 0) ++ (wBasket k gB2 β2)))))) C hcx hP hD hS hce9 hcv9 hcl9 (Nat.le_of_ble_eq_true rfl) (Nat.le_of_ble_eq_true rfl) h
  obtain ⟨rfl, h⟩ := h
  refine W.eq (g2 := F0 m 19 ls []) rfl ?_
  replace hP : va_P D CL (wTill k gX θ x_tariff x_basket x_keptUnits x_planner x_plan (gA 0) ++ (wAL k gA α (gE 0) ++ (wEl k gE ε fE nE ++ (wRec k gC χ xt (gB2 0) ++ (wBasket k gB2 β2))))) H := hP
  replace hD : va_D A (wTill k gX θ x_tariff x_basket x_keptUnits x_planner x_plan (gA 0) ++ (wAL k gA α (gE 0) ++ (wEl k gE ε fE nE ++ (wRec k gC χ xt (gB2 0) ++ (wBasket k gB2 β2))))) := hD
  try dsimp only at h
  refine lv_iload_n hx hb d_Till_line_19 rfl (lv_at hl 4 rfl) ?_
  refine lv_iconst (v := 0) hx hb d_Till_line_20 (by decide) ?_
  refine lv_iconst (v := 3) hx hb d_Till_line_21 (by decide) ?_
  refine none_i C hP hD hS (runS (As := [.int x3, .int 0, .int 3]) (rest := []) C nilP nilD (m_Till_within N   x3 0 3  _ h H.size) kw_276 kw_277 kw_1 kw_278 (hd_Till_within).2 ⟨Nat.le_of_ble_eq_true rfl, Nat.le_of_ble_eq_true rfl⟩ ⟨Nat.le_of_ble_eq_true rfl, Nat.le_of_ble_eq_true rfl⟩ rfl hl.1 (Nat.le_of_ble_eq_true rfl) d_Till_line_22) (fun r6 u5 H locs h hP hD hS => ?_)
  try dsimp only at h
  refine callXS (As := [.int r6]) (rest := []) C hX hS (Jn.none (S := Unit) hP hD hS hA) (m_Till_requireArgument hlt N   r6  _ _ h) kw_279 kw_280 kw_1 kw_281 (hd_Till_requireArgument).2 rfl ⟨Nat.le_of_ble_eq_true rfl, Nat.le_of_ble_eq_true rfl⟩ ⟨Nat.le_of_ble_eq_true rfl, Nat.le_of_ble_eq_true rfl⟩ hl.1 (Nat.le_of_ble_eq_true rfl) d_Till_line_25 (fun v9 u7 H locs h hP hD hS => ?_) (fun q9 E9 u9 ce9 H locs h hP hD hS hce9 hcv9 hcl9 => ?_)
  rotate_left
  · exact outX (u := ()) (wf := (fun u : Unit => wTill k gX θ x_tariff x_basket x_keptUnits x_planner x_plan (gA 0) ++ (wAL k gA α (gE 0) ++ (wEl k gE ε fE nE ++ (wRec k gC χ xt (gB2 0) ++ (wBasket k gB2 β2)))))) C hcx hP hD hS hce9 hcv9 hcl9 (Nat.le_of_ble_eq_true rfl) (Nat.le_of_ble_eq_true rfl) h
  obtain ⟨rfl, h⟩ := h
  refine W.eq (g2 := F0 m 28 ls []) rfl ?_
  replace hP : va_P D CL (wTill k gX θ x_tariff x_basket x_keptUnits x_planner x_plan (gA 0) ++ (wAL k gA α (gE 0) ++ (wEl k gE ε fE nE ++ (wRec k gC χ xt (gB2 0) ++ (wBasket k gB2 β2))))) H := hP
  replace hD : va_D A (wTill k gX θ x_tariff x_basket x_keptUnits x_planner x_plan (gA 0) ++ (wAL k gA α (gE 0) ++ (wEl k gE ε fE nE ++ (wRec k gC χ xt (gB2 0) ++ (wBasket k gB2 β2))))) := hD
  try dsimp only at h
  refine lv_iload_n hx hb d_Till_line_28 rfl (lv_at hl 4 rfl) ?_
  by_cases c9 : x3 = 0
  · replace h := h.1 c9
    refine lv_tableIn (off := 27) (tgt := 56) hx hb d_Till_line_29 (by rw [c9]; decide) (by rw [c9]; decide) (by rw [c9]; rfl) (by decide) ?_
    refine lv_aload hx hb d_Till_line_56 (lv_at hl 0 rfl) ?_
    refine va_get (D := D) (ci := 4) (v := .ref (gB2 0)) (C := R_Rec) (T := F_Rec) (N := 7) hx hb hts in_Rec hown hK hP 4 rfl rfl 1 (by decide) (hts _ kw_720) (fun _ h9 => h9) rfl d_Till_line_58 ?_
    refine va_get (D := D) (ci := 0) (v := .ref (gB2 1)) (C := R_Basket) (T := F_Basket) (N := 2) hx hb hts in_Basket hown hK hP 8 rfl rfl 0 (by decide) (hts _ kw_104) (fun _ h9 => h9) rfl d_Till_line_61 ?_
    refine lv_iload_n hx hb d_Till_line_64 rfl (lv_at hl 3 rfl) ?_
    obtain ⟨hi10, h⟩ := h
    refine va_iald hx hb hK hP 9 0 rfl rfl hi10 d_Till_line_65 ?_
    exact retX_i (u := ()) (wf := (fun u : Unit => wTill k gX θ x_tariff x_basket x_keptUnits x_planner x_plan (gA 0) ++ (wAL k gA α (gE 0) ++ (wEl k gE ε fE nE ++ (wRec k gC χ xt (gB2 0) ++ (wBasket k gB2 β2)))))) C hP hD hS (Nat.le_of_ble_eq_true rfl) (Nat.le_of_ble_eq_true rfl) ⟨_, rfl, h⟩ d_Till_line_66
  · replace h := h.2 c9
    by_cases c11 : x3 = 1
    · replace h := h.1 c11
      refine lv_tableIn (off := 38) (tgt := 67) hx hb d_Till_line_29 (by rw [c11]; decide) (by rw [c11]; decide) (by rw [c11]; rfl) (by decide) ?_
      refine lv_aload hx hb d_Till_line_67 (lv_at hl 0 rfl) ?_
      refine va_get (D := D) (ci := 4) (v := .ref (gC 1)) (C := R_Rec) (T := F_Rec) (N := 7) hx hb hts in_Rec hown hK hP 4 rfl rfl 2 (by decide) (hts _ kw_722) (fun _ h9 => h9) rfl d_Till_line_69 ?_
      refine lv_iload_n hx hb d_Till_line_72 rfl (lv_at hl 3 rfl) ?_
      obtain ⟨hi12, h⟩ := h
      refine va_iald hx hb hK hP 5 0 rfl rfl hi12 d_Till_line_73 ?_
      exact retX_i (u := ()) (wf := (fun u : Unit => wTill k gX θ x_tariff x_basket x_keptUnits x_planner x_plan (gA 0) ++ (wAL k gA α (gE 0) ++ (wEl k gE ε fE nE ++ (wRec k gC χ xt (gB2 0) ++ (wBasket k gB2 β2)))))) C hP hD hS (Nat.le_of_ble_eq_true rfl) (Nat.le_of_ble_eq_true rfl) ⟨_, rfl, h⟩ d_Till_line_74
    · replace h := h.2 c11
      by_cases c13 : x3 = 2
      · replace h := h.1 c13
        refine lv_tableIn (off := 46) (tgt := 75) hx hb d_Till_line_29 (by rw [c13]; decide) (by rw [c13]; decide) (by rw [c13]; rfl) (by decide) ?_
        refine lv_aload hx hb d_Till_line_75 (lv_at hl 0 rfl) ?_
        refine va_get (D := D) (ci := 4) (v := .ref (gC 2)) (C := R_Rec) (T := F_Rec) (N := 7) hx hb hts in_Rec hown hK hP 4 rfl rfl 3 (by decide) (hts _ kw_724) (fun _ h9 => h9) rfl d_Till_line_77 ?_
        refine lv_iload_n hx hb d_Till_line_80 rfl (lv_at hl 3 rfl) ?_
        obtain ⟨hi14, h⟩ := h
        refine va_iald hx hb hK hP 6 0 rfl rfl hi14 d_Till_line_81 ?_
        exact retX_i (u := ()) (wf := (fun u : Unit => wTill k gX θ x_tariff x_basket x_keptUnits x_planner x_plan (gA 0) ++ (wAL k gA α (gE 0) ++ (wEl k gE ε fE nE ++ (wRec k gC χ xt (gB2 0) ++ (wBasket k gB2 β2)))))) C hP hD hS (Nat.le_of_ble_eq_true rfl) (Nat.le_of_ble_eq_true rfl) ⟨_, rfl, h⟩ d_Till_line_82
      · replace h := h.2 c13
        refine lv_tableOut (tgt := 83) hx hb d_Till_line_29 (by have q0 := lv_neT c9 (by decide : (0 : Int32).toInt = 0); have q1 := lv_neT c11 (by decide : (1 : Int32).toInt = 1); have q2 := lv_neT c13 (by decide : (2 : Int32).toInt = 2); omega) (by decide) ?_
        refine lv_aload hx hb d_Till_line_83 (lv_at hl 0 rfl) ?_
        refine va_get (D := D) (ci := 4) (v := .ref (gC 3)) (C := R_Rec) (T := F_Rec) (N := 7) hx hb hts in_Rec hown hK hP 4 rfl rfl 4 (by decide) (hts _ kw_726) (fun _ h9 => h9) rfl d_Till_line_85 ?_
        refine lv_iload_n hx hb d_Till_line_88 rfl (lv_at hl 3 rfl) ?_
        obtain ⟨hi15, h⟩ := h
        refine va_zald hx hb hK hP 7 1 rfl rfl hi15 d_Till_line_89 ?_
        refine lv_if_eq (tgt := 97) hx hb d_Till_line_90 (by decide) (fun c16 => ?_) (fun c16 => ?_)
        · replace h := h.1 c16
          refine lv_iconst (v := 0) hx hb d_Till_line_97 (by decide) ?_
          exact retX_i (u := ()) (wf := (fun u : Unit => wTill k gX θ x_tariff x_basket x_keptUnits x_planner x_plan (gA 0) ++ (wAL k gA α (gE 0) ++ (wEl k gE ε fE nE ++ (wRec k gC χ xt (gB2 0) ++ (wBasket k gB2 β2)))))) C hP hD hS (Nat.le_of_ble_eq_true rfl) (Nat.le_of_ble_eq_true rfl) ⟨_, rfl, h⟩ d_Till_line_98
        · replace h := h.2 c16
          refine lv_iconst (v := 1) hx hb d_Till_line_93 (by decide) ?_
          refine lv_goto (tgt := 98) hx hb d_Till_line_94 (by decide) ?_
          exact retX_i (u := ()) (wf := (fun u : Unit => wTill k gX θ x_tariff x_basket x_keptUnits x_planner x_plan (gA 0) ++ (wAL k gA α (gE 0) ++ (wEl k gE ε fE nE ++ (wRec k gC χ xt (gB2 0) ++ (wBasket k gB2 β2)))))) C hP hD hS (Nat.le_of_ble_eq_true rfl) (Nat.le_of_ble_eq_true rfl) ⟨_, rfl, h⟩ d_Till_line_98
set_option maxHeartbeats 4000000 in
set_option maxRecDepth 100000 in
theorem m_Till_receipt {l : Launch} {D : va_G} {k : Nat → ClassId} (hlt : l.stackTraces = false) (N : Nat) (gX : Nat → Nat) (gA : Nat → Nat) (gE : Nat → Nat) (gC : Nat → Nat) (gB2 : Nat → Nat) (x_tariff : Nat) (x_basket : Nat) (x_keptUnits : Nat) (x_planner : Nat) (x_plan : Nat) (fE : Nat → Option Nat) (nE : Nat) (xt : Nat) (θ : St) (α : St) (ε : St) (χ : St) (β2 : St) (x1 : Int32) (x2 : Int32) (hno : fE (Int32.toNatClampNeg x1) = some (gC 0)) (hne : vp_in x1 nE) (post : Int32 → (Unit) → Prop) (xp : String → (Unit) → Prop) (h : wp_Till_receipt N  θ α ε χ β2 x1 x2 post xp) : CX l D k y_Till_receipt b_Till_receipt 4 (some .int) rm_Till_receipt [.ref (gX 0), .int x1, .int x2] (wTill k gX θ x_tariff x_basket x_keptUnits x_planner x_plan (gA 0) ++ (wAL k gA α (gE 0) ++ (wEl k gE ε fE nE ++ (wRec k gC χ xt (gB2 0) ++ (wBasket k gB2 β2))))) (fun u : Unit => wTill k gX θ x_tariff x_basket x_keptUnits x_planner x_plan (gA 0) ++ (wAL k gA α (gE 0) ++ (wEl k gE ε fE nE ++ (wRec k gC χ xt (gB2 0) ++ (wBasket k gB2 β2))))) (fun v (u : Unit) => ∃ r : Int32, v = some (.int r) ∧ post r u) xp := by
  refine CX.of (by decide) (Nat.le_of_ble_eq_true rfl) ?_
  intro p e s m below meth c A H locs ls C hX hcx hP hD hS hl
  obtain ⟨hx, hb, hr, hlk, hml, hown, hts, hK, hA⟩ := id C
  obtain ⟨t9, hZ9, hT9, hE9⟩ := id hX.2
  replace hl : lv_has ls 4 [(0, .ref (gX 0)), (1, .int x1), (2, .int x2)] := hl
  unfold wp_Till_receipt at h
  refine lv_iload_n hx hb d_Till_receipt_0 rfl (lv_at hl 2 rfl) ?_
  refine lv_iconst (v := 0) hx hb d_Till_receipt_1 (by decide) ?_
  refine lv_iconst (v := 5) hx hb d_Till_receipt_2 (by decide) ?_
  refine none_i C hP hD hS (runS (As := [.int x2, .int 0, .int 5]) (rest := []) C nilP nilD (m_Till_within N   x2 0 5  _ h H.size) kw_276 kw_277 kw_1 kw_278 (hd_Till_within).2 ⟨Nat.le_of_ble_eq_true rfl, Nat.le_of_ble_eq_true rfl⟩ ⟨Nat.le_of_ble_eq_true rfl, Nat.le_of_ble_eq_true rfl⟩ rfl hl.1 (Nat.le_of_ble_eq_true rfl) d_Till_receipt_3) (fun r2 u1 H locs h hP hD hS => ?_)
  try dsimp only at h
  refine callXS (As := [.int r2]) (rest := []) C hX hS (Jn.none (S := Unit) hP hD hS hA) (m_Till_requireArgument hlt N   r2  _ _ h) kw_279 kw_280 kw_1 kw_281 (hd_Till_requireArgument).2 rfl ⟨Nat.le_of_ble_eq_true rfl, Nat.le_of_ble_eq_true rfl⟩ ⟨Nat.le_of_ble_eq_true rfl, Nat.le_of_ble_eq_true rfl⟩ hl.1 (Nat.le_of_ble_eq_true rfl) d_Till_receipt_6 (fun v9 u3 H locs h hP hD hS => ?_) (fun q9 E9 u9 ce9 H locs h hP hD hS hce9 hcv9 hcl9 => ?_)
  rotate_left
  · exact outX (u := ()) (wf := (fun u : Unit => wTill k gX θ x_tariff x_basket x_keptUnits x_planner x_plan (gA 0) ++ (wAL k gA α (gE 0) ++ (wEl k gE ε fE nE ++ (wRec k gC χ xt (gB2 0) ++ (wBasket k gB2 β2)))))) C hcx hP hD hS hce9 hcv9 hcl9 (Nat.le_of_ble_eq_true rfl) (Nat.le_of_ble_eq_true rfl) h
  obtain ⟨rfl, h⟩ := h
  refine W.eq (g2 := F0 m 9 ls []) rfl ?_
  replace hP : va_P D CL (wTill k gX θ x_tariff x_basket x_keptUnits x_planner x_plan (gA 0) ++ (wAL k gA α (gE 0) ++ (wEl k gE ε fE nE ++ (wRec k gC χ xt (gB2 0) ++ (wBasket k gB2 β2))))) H := hP
  replace hD : va_D A (wTill k gX θ x_tariff x_basket x_keptUnits x_planner x_plan (gA 0) ++ (wAL k gA α (gE 0) ++ (wEl k gE ε fE nE ++ (wRec k gC χ xt (gB2 0) ++ (wBasket k gB2 β2))))) := hD
  try dsimp only at h
  refine lv_iload_n hx hb d_Till_receipt_9 rfl (lv_at hl 2 rfl) ?_
  refine lv_iconst (v := 4) hx hb d_Till_receipt_10 (by decide) ?_
  refine lv_icmp_ne (tgt := 22) hx hb d_Till_receipt_11 (by decide) (fun c5 => ?_) (fun c5 => ?_)
  · replace h := h.1 c5
    refine lv_iload_n hx hb d_Till_receipt_22 rfl (lv_at hl 2 rfl) ?_
    refine lv_iconst (v := 5) hx hb d_Till_receipt_23 (by decide) ?_
    refine lv_icmp_ne (tgt := 32) hx hb d_Till_receipt_24 (by decide) (fun c6 => ?_) (fun c6 => ?_)
    · replace h := h.1 c6
      refine lv_aload_n hx hb d_Till_receipt_32 rfl (lv_at hl 0 rfl) ?_
      refine lv_iload_n hx hb d_Till_receipt_33 rfl (lv_at hl 1 rfl) ?_
      refine callXV (As := [.int x1]) (rest := []) C hX hS (Jn.same hP hD hS hA) (m_Till_receiptAt hlt N gX gA gE gC gB2 x_tariff x_basket x_keptUnits x_planner x_plan fE nE xt θ α ε χ β2 x1 hno hne _ _ h) kw_810 kw_812 kp_24 kw_1 kw_813 hd_Till_receiptAt 0 rfl rfl rfl rfl ⟨Nat.le_of_ble_eq_true rfl, Nat.le_of_ble_eq_true rfl⟩ ⟨Nat.le_of_ble_eq_true rfl, Nat.le_of_ble_eq_true rfl⟩ hl.1 (Nat.le_of_ble_eq_true rfl) d_Till_receipt_34 (fun v9 u7 H locs h hP hD hS => ?_) (fun q9 E9 u9 ce9 H locs h hP hD hS hce9 hcv9 hcl9 => ?_)
      rotate_left
      · exact outX (u := ()) (wf := (fun u : Unit => wTill k gX θ x_tariff x_basket x_keptUnits x_planner x_plan (gA 0) ++ (wAL k gA α (gE 0) ++ (wEl k gE ε fE nE ++ (wRec k gC χ xt (gB2 0) ++ (wBasket k gB2 β2)))))) C hcx hP hD hS hce9 hcv9 hcl9 (Nat.le_of_ble_eq_true rfl) (Nat.le_of_ble_eq_true rfl) h
      obtain ⟨rfl, h⟩ := h
      refine W.eq (g2 := F0 m 37 ls [.ref (gC 0)]) rfl ?_
      replace hP : va_P D CL (wTill k gX θ x_tariff x_basket x_keptUnits x_planner x_plan (gA 0) ++ (wAL k gA α (gE 0) ++ (wEl k gE ε fE nE ++ (wRec k gC χ xt (gB2 0) ++ (wBasket k gB2 β2))))) H := hP
      replace hD : va_D A (wTill k gX θ x_tariff x_basket x_keptUnits x_planner x_plan (gA 0) ++ (wAL k gA α (gE 0) ++ (wEl k gE ε fE nE ++ (wRec k gC χ xt (gB2 0) ++ (wBasket k gB2 β2))))) := hD
      try dsimp only at h
      refine lv_astore_n (lv' := [(3, .ref (gC 0)), (0, .ref (gX 0)), (1, .int x1), (2, .int x2)]) hx hb d_Till_receipt_37 rfl hl (by decide) rfl (fun ls hl => ?_)
      refine lv_iload_n hx hb d_Till_receipt_38 rfl (lv_at hl 3 rfl) ?_
      by_cases c9 : x2 = 0
      · replace h := h.1 c9
        refine lv_tableIn (off := 25) (tgt := 64) hx hb d_Till_receipt_39 (by rw [c9]; decide) (by rw [c9]; decide) (by rw [c9]; rfl) (by decide) ?_
        refine lv_aload_n hx hb d_Till_receipt_64 rfl (lv_at hl 0 rfl) ?_
        refine va_get (D := D) (ci := 4) (v := .int (χ 5 0)) (C := R_Rec) (T := F_Rec) (N := 7) hx hb hts in_Rec hown hK hP 4 rfl rfl 5 (by decide) (hts _ kw_728) (fun _ h9 => h9) rfl d_Till_receipt_65 ?_
        exact retX_i (u := ()) (wf := (fun u : Unit => wTill k gX θ x_tariff x_basket x_keptUnits x_planner x_plan (gA 0) ++ (wAL k gA α (gE 0) ++ (wEl k gE ε fE nE ++ (wRec k gC χ xt (gB2 0) ++ (wBasket k gB2 β2)))))) C hP hD hS (Nat.le_of_ble_eq_true rfl) (Nat.le_of_ble_eq_true rfl) ⟨_, rfl, h⟩ d_Till_receipt_68
      · replace h := h.2 c9
        by_cases c10 : x2 = 1
        · replace h := h.1 c10
          refine lv_tableIn (off := 30) (tgt := 69) hx hb d_Till_receipt_39 (by rw [c10]; decide) (by rw [c10]; decide) (by rw [c10]; rfl) (by decide) ?_
          refine lv_aload_n hx hb d_Till_receipt_69 rfl (lv_at hl 0 rfl) ?_
          refine va_get (D := D) (ci := 4) (v := .int (χ 6 0)) (C := R_Rec) (T := F_Rec) (N := 7) hx hb hts in_Rec hown hK hP 4 rfl rfl 6 (by decide) (hts _ kw_730) (fun _ h9 => h9) rfl d_Till_receipt_70 ?_
          exact retX_i (u := ()) (wf := (fun u : Unit => wTill k gX θ x_tariff x_basket x_keptUnits x_planner x_plan (gA 0) ++ (wAL k gA α (gE 0) ++ (wEl k gE ε fE nE ++ (wRec k gC χ xt (gB2 0) ++ (wBasket k gB2 β2)))))) C hP hD hS (Nat.le_of_ble_eq_true rfl) (Nat.le_of_ble_eq_true rfl) ⟨_, rfl, h⟩ d_Till_receipt_73
        · replace h := h.2 c10
          by_cases c11 : x2 = 2
          · replace h := h.1 c11
            refine lv_tableIn (off := 35) (tgt := 74) hx hb d_Till_receipt_39 (by rw [c11]; decide) (by rw [c11]; decide) (by rw [c11]; rfl) (by decide) ?_
            refine lv_aload_n hx hb d_Till_receipt_74 rfl (lv_at hl 0 rfl) ?_
            refine va_get (D := D) (ci := 4) (v := .ref (gB2 0)) (C := R_Rec) (T := F_Rec) (N := 7) hx hb hts in_Rec hown hK hP 4 rfl rfl 1 (by decide) (hts _ kw_720) (fun _ h9 => h9) rfl d_Till_receipt_75 ?_
            refine va_get (D := D) (ci := 0) (v := .int (β2 1 0)) (C := R_Basket) (T := F_Basket) (N := 2) hx hb hts in_Basket hown hK hP 8 rfl rfl 1 (by decide) (hts _ kw_109) (fun _ h9 => h9) rfl d_Till_receipt_78 ?_
            exact retX_i (u := ()) (wf := (fun u : Unit => wTill k gX θ x_tariff x_basket x_keptUnits x_planner x_plan (gA 0) ++ (wAL k gA α (gE 0) ++ (wEl k gE ε fE nE ++ (wRec k gC χ xt (gB2 0) ++ (wBasket k gB2 β2)))))) C hP hD hS (Nat.le_of_ble_eq_true rfl) (Nat.le_of_ble_eq_true rfl) ⟨_, rfl, h⟩ d_Till_receipt_81
          · replace h := h.2 c11
            refine lv_tableOut (tgt := 82) hx hb d_Till_receipt_39 (by have q0 := lv_neT c9 (by decide : (0 : Int32).toInt = 0); have q1 := lv_neT c10 (by decide : (1 : Int32).toInt = 1); have q2 := lv_neT c11 (by decide : (2 : Int32).toInt = 2); omega) (by decide) ?_
            refine lv_aload_n hx hb d_Till_receipt_82 rfl (lv_at hl 0 rfl) ?_
            refine call_i (wr := [(gX 0, .inr (7, [.ref x_tariff, .ref (gX 1), .ref x_basket, .ref x_keptUnits, .ref x_planner, .ref x_plan, .ref (gA 0), .int (θ 7 0), .int (θ 8 0)])), (gX 1, .inl (k 0, 12, .inl (θ 1))), (gA 0, .inr (9, [.int (α 0 0), .ref (gE 0), .int (α 2 0)])), (gE 0, .inl (k 4, nE, .inr (.inr (.inr (.inr fE)))))]) (wn := (fun u12 : Unit => wTill k gX θ x_tariff x_basket x_keptUnits x_planner x_plan (gA 0) ++ (wAL k gA α (gE 0) ++ (wEl k gE ε fE nE ++ (wRec k gC χ xt (gB2 0) ++ (wBasket k gB2 β2)))))) C hP hD hS [4, 5, 6, 7, 8, 9] [0, 1, 2, 3] [0, 1, 2, 3, 4, 5, 6, 7, 8, 9] rfl rfl (by decide) (by decide) (fun _ => rfl) (by decide) (runV (As := []) (rest := []) C (hP.sub [4, 5, 6, 7, 8, 9] rfl) (hD.sub [4, 5, 6, 7, 8, 9] (by decide) rfl) (m_Rec_keptCount N gC gB2 xt χ β2   _ h H.size) kw_845 kw_846 kw_847 kw_22 kw_848 hd_Rec_keptCount ⟨Nat.le_of_ble_eq_true rfl, Nat.le_of_ble_eq_true rfl⟩ ⟨Nat.le_of_ble_eq_true rfl, Nat.le_of_ble_eq_true rfl⟩ 0 rfl rfl rfl rfl hl.1 (Nat.le_of_ble_eq_true rfl) d_Till_receipt_83) (fun r13 u12 H locs h hP hD hS => ?_)
            try dsimp only at h
            exact retX_i (u := ()) (wf := (fun u : Unit => wTill k gX θ x_tariff x_basket x_keptUnits x_planner x_plan (gA 0) ++ (wAL k gA α (gE 0) ++ (wEl k gE ε fE nE ++ (wRec k gC χ xt (gB2 0) ++ (wBasket k gB2 β2)))))) C hP hD hS (Nat.le_of_ble_eq_true rfl) (Nat.le_of_ble_eq_true rfl) ⟨_, rfl, h⟩ d_Till_receipt_86
    · replace h := h.2 c6
      refine lv_aload_n hx hb d_Till_receipt_27 rfl (lv_at hl 0 rfl) ?_
      refine va_get (D := D) (ci := 7) (v := .int (θ 8 0)) (C := R_Till) (T := F_Till) (N := 9) hx hb hts in_Till hown hK hP 0 rfl rfl 8 (by decide) (hts _ kw_244) (fun _ h9 => h9) rfl d_Till_receipt_28 ?_
      exact retX_i (u := ()) (wf := (fun u : Unit => wTill k gX θ x_tariff x_basket x_keptUnits x_planner x_plan (gA 0) ++ (wAL k gA α (gE 0) ++ (wEl k gE ε fE nE ++ (wRec k gC χ xt (gB2 0) ++ (wBasket k gB2 β2)))))) C hP hD hS (Nat.le_of_ble_eq_true rfl) (Nat.le_of_ble_eq_true rfl) ⟨_, rfl, h⟩ d_Till_receipt_31
  · replace h := h.2 c5
    refine lv_aload_n hx hb d_Till_receipt_14 rfl (lv_at hl 0 rfl) ?_
    refine va_get (D := D) (ci := 7) (v := .ref (gA 0)) (C := R_Till) (T := F_Till) (N := 9) hx hb hts in_Till hown hK hP 0 rfl rfl 6 (by decide) (hts _ kw_242) (fun _ h9 => h9) rfl d_Till_receipt_15 ?_
    refine call_i (wr := [(gX 0, .inr (7, [.ref x_tariff, .ref (gX 1), .ref x_basket, .ref x_keptUnits, .ref x_planner, .ref x_plan, .ref (gA 0), .int (θ 7 0), .int (θ 8 0)])), (gX 1, .inl (k 0, 12, .inl (θ 1))), (gE 0, .inl (k 4, nE, .inr (.inr (.inr (.inr fE))))), (gC 0, .inr (4, [.ref xt, .ref (gB2 0), .ref (gC 1), .ref (gC 2), .ref (gC 3), .int (χ 5 0), .int (χ 6 0)])), (gC 1, .inl (k 0, 10, .inl (χ 2))), (gC 2, .inl (k 0, 10, .inl (χ 3))), (gC 3, .inl (k 1, 10, .inl (χ 4))), (gB2 0, .inr (0, [.ref (gB2 1), .int (β2 1 0)])), (gB2 1, .inl (k 0, 10, .inl (β2 0)))]) (wn := (fun u14 : Unit => wTill k gX θ x_tariff x_basket x_keptUnits x_planner x_plan (gA 0) ++ (wAL k gA α (gE 0) ++ (wEl k gE ε fE nE ++ (wRec k gC χ xt (gB2 0) ++ (wBasket k gB2 β2)))))) C hP hD hS [2] [0, 1, 3, 4, 5, 6, 7, 8, 9] [0, 1, 9, 2, 3, 4, 5, 6, 7, 8] rfl rfl (by decide) (by decide) (fun _ => rfl) (by decide) (runV (As := []) (rest := []) C (hP.sub [2] rfl) (hD.sub [2] (by decide) rfl) (m_AL_size N gA (gE 0) α   _ h H.size) kw_690 kw_691 kw_692 kw_11 kw_693 hd_AL_size ⟨Nat.le_of_ble_eq_true rfl, Nat.le_of_ble_eq_true rfl⟩ ⟨Nat.le_of_ble_eq_true rfl, Nat.le_of_ble_eq_true rfl⟩ 0 rfl rfl rfl rfl hl.1 (Nat.le_of_ble_eq_true rfl) d_Till_receipt_18) (fun r15 u14 H locs h hP hD hS => ?_)
    try dsimp only at h
    exact retX_i (u := ()) (wf := (fun u : Unit => wTill k gX θ x_tariff x_basket x_keptUnits x_planner x_plan (gA 0) ++ (wAL k gA α (gE 0) ++ (wEl k gE ε fE nE ++ (wRec k gC χ xt (gB2 0) ++ (wBasket k gB2 β2)))))) C hP hD hS (Nat.le_of_ble_eq_true rfl) (Nat.le_of_ble_eq_true rfl) ⟨_, rfl, h⟩ d_Till_receipt_21
set_option maxHeartbeats 4000000 in
set_option maxRecDepth 100000 in
theorem m_Till_giveBack {l : Launch} {D : va_G} {k : Nat → ClassId} (hlt : l.stackTraces = false) (N : Nat) (gX : Nat → Nat) (gA : Nat → Nat) (gE : Nat → Nat) (gC : Nat → Nat) (gB2 : Nat → Nat) (gT : Nat → Nat) (go : Nat → Nat → Nat) (gB : Nat → Nat) (gL : Nat → Nat) (gU : Nat → Nat) (x_tariff : Nat) (x_basket : Nat) (x_plan : Nat) (fE : Nat → Option Nat) (nE : Nat) (θ : St) (α : St) (ε : St) (χ : St) (β2 : St) (τ : St) (ω : Nat → St) (β : St) (κ : St) (υ : St) (x1 : Int32) (x2 : Int32) (hno : fE (Int32.toNatClampNeg x1) = some (gC 0)) (hne : vp_in x1 nE) (post : Int32 → ((St) × (St) × (St) × (St) × (St)) → Prop) (xp : String → ((St) × (St) × (St) × (St) × (St)) → Prop) (h : wp_Till_giveBack N  θ α ε χ β2 τ ω β κ υ x1 x2 post xp) : CX l D k y_Till_giveBack b_Till_giveBack 5 (some .int) rm_Till_giveBack [.ref (gX 0), .int x1, .int x2] (wTill k gX θ x_tariff x_basket (gB 0) (gL 0) x_plan (gA 0) ++ (wAL k gA α (gE 0) ++ (wEl k gE ε fE nE ++ (wRec k gC χ (gT 0) (gB2 0) ++ (wBasket k gB2 β2 ++ (wTariff k gT τ (fun i => some (go i 0)) ++ (wOffer k (go 0) (ω 0) ++ (wOffer k (go 1) (ω 1) ++ (wOffer k (go 2) (ω 2) ++ (wOffer k (go 3) (ω 3) ++ (wOffer k (go 4) (ω 4) ++ (wOffer k (go 5) (ω 5) ++ (wBasket k gB β ++ (wPlanner k gL κ (gU 0) ++ (wUses k gU υ))))))))))))))) (fun u : (St) × (St) × (St) × (St) × (St) => wTill k gX u.1 x_tariff x_basket (gB 0) (gL 0) x_plan (gA 0) ++ (wAL k gA α (gE 0) ++ (wEl k gE ε fE nE ++ (wRec k gC u.2.1 (gT 0) (gB2 0) ++ (wBasket k gB2 β2 ++ (wTariff k gT τ (fun i => some (go i 0)) ++ (wOffer k (go 0) (ω 0) ++ (wOffer k (go 1) (ω 1) ++ (wOffer k (go 2) (ω 2) ++ (wOffer k (go 3) (ω 3) ++ (wOffer k (go 4) (ω 4) ++ (wOffer k (go 5) (ω 5) ++ (wBasket k gB u.2.2.1 ++ (wPlanner k gL u.2.2.2.1 (gU 0) ++ (wUses k gU u.2.2.2.2))))))))))))))) (fun v (u : (St) × (St) × (St) × (St) × (St)) => ∃ r : Int32, v = some (.int r) ∧ post r u) xp := by
  refine CX.of (by decide) (Nat.le_of_ble_eq_true rfl) ?_
  intro p e s m below meth c A H locs ls C hX hcx hP hD hS hl
  obtain ⟨hx, hb, hr, hlk, hml, hown, hts, hK, hA⟩ := id C
  obtain ⟨t9, hZ9, hT9, hE9⟩ := id hX.2
  replace hl : lv_has ls 5 [(0, .ref (gX 0)), (1, .int x1), (2, .int x2)] := hl
  unfold wp_Till_giveBack at h
  refine lv_aload_n hx hb d_Till_giveBack_0 rfl (lv_at hl 0 rfl) ?_
  refine lv_iload_n hx hb d_Till_giveBack_1 rfl (lv_at hl 1 rfl) ?_
  refine callXV (As := [.int x1]) (rest := []) C hX hS (Jn.part (wr := [(gT 0, .inr (5, [.ref (gT 1), .ref (gT 2)])), (gT 1, .inl (k 0, 12, .inl (τ 0))), (gT 2, .inl (k 3, 6, .inr (.inr (.inr (.inr (fun i => some (go i 0))))))), ((go 0) 0, .inr (1, [.int ((ω 0) 0 0), .int ((ω 0) 1 0), .int ((ω 0) 2 0), .int ((ω 0) 3 0), .int ((ω 0) 4 0), .ref ((go 0) 1)])), ((go 0) 1, .inl (k 0, 4, .inl ((ω 0) 5))), ((go 1) 0, .inr (1, [.int ((ω 1) 0 0), .int ((ω 1) 1 0), .int ((ω 1) 2 0), .int ((ω 1) 3 0), .int ((ω 1) 4 0), .ref ((go 1) 1)])), ((go 1) 1, .inl (k 0, 4, .inl ((ω 1) 5))), ((go 2) 0, .inr (1, [.int ((ω 2) 0 0), .int ((ω 2) 1 0), .int ((ω 2) 2 0), .int ((ω 2) 3 0), .int ((ω 2) 4 0), .ref ((go 2) 1)])), ((go 2) 1, .inl (k 0, 4, .inl ((ω 2) 5))), ((go 3) 0, .inr (1, [.int ((ω 3) 0 0), .int ((ω 3) 1 0), .int ((ω 3) 2 0), .int ((ω 3) 3 0), .int ((ω 3) 4 0), .ref ((go 3) 1)])), ((go 3) 1, .inl (k 0, 4, .inl ((ω 3) 5))), ((go 4) 0, .inr (1, [.int ((ω 4) 0 0), .int ((ω 4) 1 0), .int ((ω 4) 2 0), .int ((ω 4) 3 0), .int ((ω 4) 4 0), .ref ((go 4) 1)])), ((go 4) 1, .inl (k 0, 4, .inl ((ω 4) 5))), ((go 5) 0, .inr (1, [.int ((ω 5) 0 0), .int ((ω 5) 1 0), .int ((ω 5) 2 0), .int ((ω 5) 3 0), .int ((ω 5) 4 0), .ref ((go 5) 1)])), ((go 5) 1, .inl (k 0, 4, .inl ((ω 5) 5))), (gB 0, .inr (0, [.ref (gB 1), .int (β 1 0)])), (gB 1, .inl (k 0, 10, .inl (β 0))), (gL 0, .inr (3, [.ref (gL 1), .ref (gL 2), .ref (gL 3), .ref (gL 4), .ref (gU 0), .int (κ 5 0)])), (gL 1, .inl (k 0, 18, .inl (κ 0))), (gL 2, .inl (k 0, 18, .inl (κ 1))), (gL 3, .inl (k 0, 18, .inl (κ 2))), (gL 4, .inl (k 0, 3000, .inl (κ 3))), (gU 0, .inr (6, [.ref (gU 1), .ref (gU 2), .ref (gU 3), .ref (gU 4), .ref (gU 5), .ref (gU 6), .ref (gU 7), .ref (gU 8), .int (υ 8 0), .int (υ 9 0)])), (gU 1, .inl (k 0, 1260, .inl (υ 0))), (gU 2, .inl (k 0, 1260, .inl (υ 1))), (gU 3, .inl (k 0, 1260, .inl (υ 2))), (gU 4, .inl (k 0, 1260, .inl (υ 3))), (gU 5, .inl (k 0, 12, .inl (υ 4))), (gU 6, .inl (k 0, 12, .inl (υ 5))), (gU 7, .inl (k 0, 12, .inl (υ 6))), (gU 8, .inl (k 0, 1024, .inl (υ 7)))]) (wn := (fun u1 : Unit => wTill k gX θ x_tariff x_basket (gB 0) (gL 0) x_plan (gA 0) ++ (wAL k gA α (gE 0) ++ (wEl k gE ε fE nE ++ (wRec k gC χ (gT 0) (gB2 0) ++ (wBasket k gB2 β2 ++ (wTariff k gT τ (fun i => some (go i 0)) ++ (wOffer k (go 0) (ω 0) ++ (wOffer k (go 1) (ω 1) ++ (wOffer k (go 2) (ω 2) ++ (wOffer k (go 3) (ω 3) ++ (wOffer k (go 4) (ω 4) ++ (wOffer k (go 5) (ω 5) ++ (wBasket k gB β ++ (wPlanner k gL κ (gU 0) ++ (wUses k gU υ)))))))))))))))) hP hD hS hA [0, 1, 2, 3, 4, 5, 6, 7, 8, 9] [10, 11, 12, 13, 14, 15, 16, 17, 18, 19, 20, 21, 22, 23, 24, 25, 26, 27, 28, 29, 30, 31, 32, 33, 34, 35, 36, 37, 38, 39, 40] [31, 32, 33, 34, 35, 36, 37, 38, 39, 40, 0, 1, 2, 3, 4, 5, 6, 7, 8, 9, 10, 11, 12, 13, 14, 15, 16, 17, 18, 19, 20, 21, 22, 23, 24, 25, 26, 27, 28, 29, 30] rfl (by decide) rfl (by decide) (by decide) (fun _ => rfl) (by decide)) (m_Till_receiptAt hlt N gX gA gE gC gB2 x_tariff x_basket (gB 0) (gL 0) x_plan fE nE (gT 0) θ α ε χ β2 x1 hno hne _ _ h) kw_810 kw_812 kp_24 kw_1 kw_813 hd_Till_receiptAt 0 rfl rfl rfl rfl ⟨Nat.le_of_ble_eq_true rfl, Nat.le_of_ble_eq_true rfl⟩ ⟨Nat.le_of_ble_eq_true rfl, Nat.le_of_ble_eq_true rfl⟩ hl.1 (Nat.le_of_ble_eq_true rfl) d_Till_giveBack_2 (fun v9 u1 H locs h hP hD hS => ?_) (fun q9 E9 u9 ce9 H locs h hP hD hS hce9 hcv9 hcl9 => ?_)
  rotate_left
  · exact outX (u := (θ, χ, β, κ, υ)) (wf := (fun u : (St) × (St) × (St) × (St) × (St) => wTill k gX u.1 x_tariff x_basket (gB 0) (gL 0) x_plan (gA 0) ++ (wAL k gA α (gE 0) ++ (wEl k gE ε fE nE ++ (wRec k gC u.2.1 (gT 0) (gB2 0) ++ (wBasket k gB2 β2 ++ (wTariff k gT τ (fun i => some (go i 0)) ++ (wOffer k (go 0) (ω 0) ++ (wOffer k (go 1) (ω 1) ++ (wOffer k (go 2) (ω 2) ++ (wOffer k (go 3) (ω 3) ++ (wOffer k (go 4) (ω 4) ++ (wOffer k (go 5) (ω 5) ++ (wBasket k gB u.2.2.1 ++ (wPlanner k gL u.2.2.2.1 (gU 0) ++ (wUses k gU u.2.2.2.2)))))))))))))))) C hcx hP hD hS hce9 hcv9 hcl9 (Nat.le_of_ble_eq_true rfl) (Nat.le_of_ble_eq_true rfl) h
  obtain ⟨rfl, h⟩ := h
  refine W.eq (g2 := F0 m 5 ls [.ref (gC 0)]) rfl ?_
  replace hP : va_P D CL (wTill k gX θ x_tariff x_basket (gB 0) (gL 0) x_plan (gA 0) ++ (wAL k gA α (gE 0) ++ (wEl k gE ε fE nE ++ (wRec k gC χ (gT 0) (gB2 0) ++ (wBasket k gB2 β2 ++ (wTariff k gT τ (fun i => some (go i 0)) ++ (wOffer k (go 0) (ω 0) ++ (wOffer k (go 1) (ω 1) ++ (wOffer k (go 2) (ω 2) ++ (wOffer k (go 3) (ω 3) ++ (wOffer k (go 4) (ω 4) ++ (wOffer k (go 5) (ω 5) ++ (wBasket k gB β ++ (wPlanner k gL κ (gU 0) ++ (wUses k gU υ))))))))))))))) H := hP
  replace hD : va_D A (wTill k gX θ x_tariff x_basket (gB 0) (gL 0) x_plan (gA 0) ++ (wAL k gA α (gE 0) ++ (wEl k gE ε fE nE ++ (wRec k gC χ (gT 0) (gB2 0) ++ (wBasket k gB2 β2 ++ (wTariff k gT τ (fun i => some (go i 0)) ++ (wOffer k (go 0) (ω 0) ++ (wOffer k (go 1) (ω 1) ++ (wOffer k (go 2) (ω 2) ++ (wOffer k (go 3) (ω 3) ++ (wOffer k (go 4) (ω 4) ++ (wOffer k (go 5) (ω 5) ++ (wBasket k gB β ++ (wPlanner k gL κ (gU 0) ++ (wUses k gU υ))))))))))))))) := hD
  try dsimp only at h
  refine lv_astore_n (lv' := [(3, .ref (gC 0)), (0, .ref (gX 0)), (1, .int x1), (2, .int x2)]) hx hb d_Till_giveBack_5 rfl hl (by decide) rfl (fun ls hl => ?_)
  refine lv_iload_n hx hb d_Till_giveBack_6 rfl (lv_at hl 3 rfl) ?_
  refine lv_aload_n hx hb d_Till_giveBack_7 rfl (lv_at hl 0 rfl) ?_
  refine va_get (D := D) (ci := 4) (v := .ref (gB2 0)) (C := R_Rec) (T := F_Rec) (N := 7) hx hb hts in_Rec hown hK hP 4 rfl rfl 1 (by decide) (hts _ kw_720) (fun _ h9 => h9) rfl d_Till_giveBack_8 ?_
  refine va_get (D := D) (ci := 0) (v := .int (β2 1 0)) (C := R_Basket) (T := F_Basket) (N := 2) hx hb hts in_Basket hown hK hP 8 rfl rfl 1 (by decide) (hts _ kw_109) (fun _ h9 => h9) rfl d_Till_giveBack_11 ?_
  refine callXS (As := [.int x2, .int (β2 1 0)]) (rest := []) C hX hS (Jn.none (S := Unit) hP hD hS hA) (m_Till_requireIndex hlt N   x2 (β2 1 0)  _ _ h) kw_468 kw_469 kw_1 kw_470 (hd_Till_requireIndex).2 rfl ⟨Nat.le_of_ble_eq_true rfl, Nat.le_of_ble_eq_true rfl⟩ ⟨Nat.le_of_ble_eq_true rfl, Nat.le_of_ble_eq_true rfl⟩ hl.1 (Nat.le_of_ble_eq_true rfl) d_Till_giveBack_14 (fun v9 u3 H locs h hP hD hS => ?_) (fun q9 E9 u9 ce9 H locs h hP hD hS hce9 hcv9 hcl9 => ?_)
  rotate_left
  · exact outX (u := (θ, χ, β, κ, υ)) (wf := (fun u : (St) × (St) × (St) × (St) × (St) => wTill k gX u.1 x_tariff x_basket (gB 0) (gL 0) x_plan (gA 0) ++ (wAL k gA α (gE 0) ++ (wEl k gE ε fE nE ++ (wRec k gC u.2.1 (gT 0) (gB2 0) ++ (wBasket k gB2 β2 ++ (wTariff k gT τ (fun i => some (go i 0)) ++ (wOffer k (go 0) (ω 0) ++ (wOffer k (go 1) (ω 1) ++ (wOffer k (go 2) (ω 2) ++ (wOffer k (go 3) (ω 3) ++ (wOffer k (go 4) (ω 4) ++ (wOffer k (go 5) (ω 5) ++ (wBasket k gB u.2.2.1 ++ (wPlanner k gL u.2.2.2.1 (gU 0) ++ (wUses k gU u.2.2.2.2)))))))))))))))) C hcx hP hD hS hce9 hcv9 hcl9 (Nat.le_of_ble_eq_true rfl) (Nat.le_of_ble_eq_true rfl) h
  obtain ⟨rfl, h⟩ := h
  refine W.eq (g2 := F0 m 17 ls []) rfl ?_
  replace hP : va_P D CL (wTill k gX θ x_tariff x_basket (gB 0) (gL 0) x_plan (gA 0) ++ (wAL k gA α (gE 0) ++ (wEl k gE ε fE nE ++ (wRec k gC χ (gT 0) (gB2 0) ++ (wBasket k gB2 β2 ++ (wTariff k gT τ (fun i => some (go i 0)) ++ (wOffer k (go 0) (ω 0) ++ (wOffer k (go 1) (ω 1) ++ (wOffer k (go 2) (ω 2) ++ (wOffer k (go 3) (ω 3) ++ (wOffer k (go 4) (ω 4) ++ (wOffer k (go 5) (ω 5) ++ (wBasket k gB β ++ (wPlanner k gL κ (gU 0) ++ (wUses k gU υ))))))))))))))) H := hP
  replace hD : va_D A (wTill k gX θ x_tariff x_basket (gB 0) (gL 0) x_plan (gA 0) ++ (wAL k gA α (gE 0) ++ (wEl k gE ε fE nE ++ (wRec k gC χ (gT 0) (gB2 0) ++ (wBasket k gB2 β2 ++ (wTariff k gT τ (fun i => some (go i 0)) ++ (wOffer k (go 0) (ω 0) ++ (wOffer k (go 1) (ω 1) ++ (wOffer k (go 2) (ω 2) ++ (wOffer k (go 3) (ω 3) ++ (wOffer k (go 4) (ω 4) ++ (wOffer k (go 5) (ω 5) ++ (wBasket k gB β ++ (wPlanner k gL κ (gU 0) ++ (wUses k gU υ))))))))))))))) := hD
  try dsimp only at h
  refine lv_aload_n hx hb d_Till_giveBack_17 rfl (lv_at hl 0 rfl) ?_
  refine va_get (D := D) (ci := 4) (v := .ref (gC 3)) (C := R_Rec) (T := F_Rec) (N := 7) hx hb hts in_Rec hown hK hP 4 rfl rfl 4 (by decide) (hts _ kw_726) (fun _ h9 => h9) rfl d_Till_giveBack_18 ?_
  refine lv_iload_n hx hb d_Till_giveBack_21 rfl (lv_at hl 3 rfl) ?_
  obtain ⟨hi5, h⟩ := h
  refine va_zald hx hb hK hP 7 1 rfl rfl hi5 d_Till_giveBack_22 ?_
  refine lv_if_ne (tgt := 36) hx hb d_Till_giveBack_23 (by decide) (fun c6 => ?_) (fun c6 => ?_)
  · replace h := h.1 c6
    refine lv_aload_n hx hb d_Till_giveBack_36 rfl (lv_at hl 0 rfl) ?_
    refine va_get (D := D) (ci := 4) (v := .ref (gC 3)) (C := R_Rec) (T := F_Rec) (N := 7) hx hb hts in_Rec hown hK hP 4 rfl rfl 4 (by decide) (hts _ kw_726) (fun _ h9 => h9) rfl d_Till_giveBack_37 ?_
    refine lv_iload_n hx hb d_Till_giveBack_40 rfl (lv_at hl 3 rfl) ?_
    refine lv_iconst (v := 0) hx hb d_Till_giveBack_41 (by decide) ?_
    obtain ⟨hi7, h⟩ := h
    refine va_zast hx hb hK hP hD hS 7 1 rfl rfl hi7 d_Till_giveBack_42 (fun H locs hP hD hS => ?_)
    obtain ⟨χ8, eχ8⟩ : ∃ z, z = s2 χ 4 (Int32.toNatClampNeg x2) (vp_nar .boolean 0) := ⟨_, rfl⟩
    replace hP : va_P D CL (wTill k gX θ x_tariff x_basket (gB 0) (gL 0) x_plan (gA 0) ++ (wAL k gA α (gE 0) ++ (wEl k gE ε fE nE ++ (wRec k gC χ8 (gT 0) (gB2 0) ++ (wBasket k gB2 β2 ++ (wTariff k gT τ (fun i => some (go i 0)) ++ (wOffer k (go 0) (ω 0) ++ (wOffer k (go 1) (ω 1) ++ (wOffer k (go 2) (ω 2) ++ (wOffer k (go 3) (ω 3) ++ (wOffer k (go 4) (ω 4) ++ (wOffer k (go 5) (ω 5) ++ (wBasket k gB β ++ (wPlanner k gL κ (gU 0) ++ (wUses k gU υ))))))))))))))) H := by rw [eχ8]; exact hP
    replace hD : va_D A (wTill k gX θ x_tariff x_basket (gB 0) (gL 0) x_plan (gA 0) ++ (wAL k gA α (gE 0) ++ (wEl k gE ε fE nE ++ (wRec k gC χ8 (gT 0) (gB2 0) ++ (wBasket k gB2 β2 ++ (wTariff k gT τ (fun i => some (go i 0)) ++ (wOffer k (go 0) (ω 0) ++ (wOffer k (go 1) (ω 1) ++ (wOffer k (go 2) (ω 2) ++ (wOffer k (go 3) (ω 3) ++ (wOffer k (go 4) (ω 4) ++ (wOffer k (go 5) (ω 5) ++ (wBasket k gB β ++ (wPlanner k gL κ (gU 0) ++ (wUses k gU υ))))))))))))))) := by rw [eχ8]; exact hD
    replace h := h χ8 eχ8
    refine lv_aload_n hx hb d_Till_giveBack_43 rfl (lv_at hl 0 rfl) ?_
    refine lv_aload_n hx hb d_Till_giveBack_44 rfl (lv_at hl 1 rfl) ?_
    refine va_get (D := D) (ci := 7) (v := .ref (gB 0)) (C := R_Till) (T := F_Till) (N := 9) hx hb hts in_Till hown hK hP 0 rfl rfl 3 (by decide) (hts _ kw_239) (fun _ h9 => h9) rfl d_Till_giveBack_45 ?_
    refine call_v (wr := [(gX 0, .inr (7, [.ref x_tariff, .ref (gX 1), .ref x_basket, .ref (gB 0), .ref (gL 0), .ref x_plan, .ref (gA 0), .int (θ 7 0), .int (θ 8 0)])), (gX 1, .inl (k 0, 12, .inl (θ 1))), (gA 0, .inr (9, [.int (α 0 0), .ref (gE 0), .int (α 2 0)])), (gE 0, .inl (k 4, nE, .inr (.inr (.inr (.inr fE))))), (gT 0, .inr (5, [.ref (gT 1), .ref (gT 2)])), (gT 1, .inl (k 0, 12, .inl (τ 0))), (gT 2, .inl (k 3, 6, .inr (.inr (.inr (.inr (fun i => some (go i 0))))))), ((go 0) 0, .inr (1, [.int ((ω 0) 0 0), .int ((ω 0) 1 0), .int ((ω 0) 2 0), .int ((ω 0) 3 0), .int ((ω 0) 4 0), .ref ((go 0) 1)])), ((go 0) 1, .inl (k 0, 4, .inl ((ω 0) 5))), ((go 1) 0, .inr (1, [.int ((ω 1) 0 0), .int ((ω 1) 1 0), .int ((ω 1) 2 0), .int ((ω 1) 3 0), .int ((ω 1) 4 0), .ref ((go 1) 1)])), ((go 1) 1, .inl (k 0, 4, .inl ((ω 1) 5))), ((go 2) 0, .inr (1, [.int ((ω 2) 0 0), .int ((ω 2) 1 0), .int ((ω 2) 2 0), .int ((ω 2) 3 0), .int ((ω 2) 4 0), .ref ((go 2) 1)])), ((go 2) 1, .inl (k 0, 4, .inl ((ω 2) 5))), ((go 3) 0, .inr (1, [.int ((ω 3) 0 0), .int ((ω 3) 1 0), .int ((ω 3) 2 0), .int ((ω 3) 3 0), .int ((ω 3) 4 0), .ref ((go 3) 1)])), ((go 3) 1, .inl (k 0, 4, .inl ((ω 3) 5))), ((go 4) 0, .inr (1, [.int ((ω 4) 0 0), .int ((ω 4) 1 0), .int ((ω 4) 2 0), .int ((ω 4) 3 0), .int ((ω 4) 4 0), .ref ((go 4) 1)])), ((go 4) 1, .inl (k 0, 4, .inl ((ω 4) 5))), ((go 5) 0, .inr (1, [.int ((ω 5) 0 0), .int ((ω 5) 1 0), .int ((ω 5) 2 0), .int ((ω 5) 3 0), .int ((ω 5) 4 0), .ref ((go 5) 1)])), ((go 5) 1, .inl (k 0, 4, .inl ((ω 5) 5))), (gL 0, .inr (3, [.ref (gL 1), .ref (gL 2), .ref (gL 3), .ref (gL 4), .ref (gU 0), .int (κ 5 0)])), (gL 1, .inl (k 0, 18, .inl (κ 0))), (gL 2, .inl (k 0, 18, .inl (κ 1))), (gL 3, .inl (k 0, 18, .inl (κ 2))), (gL 4, .inl (k 0, 3000, .inl (κ 3))), (gU 0, .inr (6, [.ref (gU 1), .ref (gU 2), .ref (gU 3), .ref (gU 4), .ref (gU 5), .ref (gU 6), .ref (gU 7), .ref (gU 8), .int (υ 8 0), .int (υ 9 0)])), (gU 1, .inl (k 0, 1260, .inl (υ 0))), (gU 2, .inl (k 0, 1260, .inl (υ 1))), (gU 3, .inl (k 0, 1260, .inl (υ 2))), (gU 4, .inl (k 0, 1260, .inl (υ 3))), (gU 5, .inl (k 0, 12, .inl (υ 4))), (gU 6, .inl (k 0, 12, .inl (υ 5))), (gU 7, .inl (k 0, 12, .inl (υ 6))), (gU 8, .inl (k 0, 1024, .inl (υ 7)))]) (wn := (fun u9 : (St) => wTill k gX θ x_tariff x_basket (gB 0) (gL 0) x_plan (gA 0) ++ (wAL k gA α (gE 0) ++ (wEl k gE ε fE nE ++ (wRec k gC χ8 (gT 0) (gB2 0) ++ (wBasket k gB2 β2 ++ (wTariff k gT τ (fun i => some (go i 0)) ++ (wOffer k (go 0) (ω 0) ++ (wOffer k (go 1) (ω 1) ++ (wOffer k (go 2) (ω 2) ++ (wOffer k (go 3) (ω 3) ++ (wOffer k (go 4) (ω 4) ++ (wOffer k (go 5) (ω 5) ++ (wBasket k gB u9 ++ (wPlanner k gL κ (gU 0) ++ (wUses k gU υ)))))))))))))))) C hP hD hS [4, 5, 6, 7, 8, 9, 25, 26] [0, 1, 2, 3, 10, 11, 12, 13, 14, 15, 16, 17, 18, 19, 20, 21, 22, 23, 24, 27, 28, 29, 30, 31, 32, 33, 34, 35, 36, 37, 38, 39, 40] [0, 1, 2, 3, 33, 34, 35, 36, 37, 38, 4, 5, 6, 7, 8, 9, 10, 11, 12, 13, 14, 15, 16, 17, 18, 39, 40, 19, 20, 21, 22, 23, 24, 25, 26, 27, 28, 29, 30, 31, 32] rfl rfl (by decide) (by decide) (fun _ => rfl) (by decide) (runV (As := [.ref (gB 0)]) (rest := []) C (hP.sub [4, 5, 6, 7, 8, 9, 25, 26] rfl) (hD.sub [4, 5, 6, 7, 8, 9, 25, 26] (by decide) rfl) (m_Rec_copyKeptTo N gC gB2 gB (gT 0) χ8 β2 β   _ h H.size) kw_829 kw_830 kw_831 kw_22 kw_832 hd_Rec_copyKeptTo ⟨Nat.le_of_ble_eq_true rfl, Nat.le_of_ble_eq_true rfl⟩ ⟨Nat.le_of_ble_eq_true rfl, Nat.le_of_ble_eq_true rfl⟩ 0 rfl rfl rfl rfl hl.1 (Nat.le_of_ble_eq_true rfl) d_Till_giveBack_48) (fun u9 H locs h hP hD hS => ?_)
    try dsimp only at h
    refine lv_aload_n hx hb d_Till_giveBack_51 rfl (lv_at hl 0 rfl) ?_
    refine lv_aload_n hx hb d_Till_giveBack_52 rfl (lv_at hl 1 rfl) ?_
    refine va_get (D := D) (ci := 7) (v := .ref (gL 0)) (C := R_Till) (T := F_Till) (N := 9) hx hb hts in_Till hown hK hP 0 rfl rfl 4 (by decide) (hts _ kw_240) (fun _ h9 => h9) rfl d_Till_giveBack_53 ?_
    refine lv_aload_n hx hb d_Till_giveBack_56 rfl (lv_at hl 0 rfl) ?_
    refine va_get (D := D) (ci := 4) (v := .ref (gT 0)) (C := R_Rec) (T := F_Rec) (N := 7) hx hb hts in_Rec hown hK hP 4 rfl rfl 0 (by decide) (hts _ kw_718) (fun _ h9 => h9) rfl d_Till_giveBack_57 ?_
    refine lv_aload_n hx hb d_Till_giveBack_60 rfl (lv_at hl 1 rfl) ?_
    refine va_get (D := D) (ci := 7) (v := .ref (gB 0)) (C := R_Till) (T := F_Till) (N := 9) hx hb hts in_Till hown hK hP 0 rfl rfl 3 (by decide) (hts _ kw_239) (fun _ h9 => h9) rfl d_Till_giveBack_61 ?_
    refine call_i (wr := [(gX 0, .inr (7, [.ref x_tariff, .ref (gX 1), .ref x_basket, .ref (gB 0), .ref (gL 0), .ref x_plan, .ref (gA 0), .int (θ 7 0), .int (θ 8 0)])), (gX 1, .inl (k 0, 12, .inl (θ 1))), (gA 0, .inr (9, [.int (α 0 0), .ref (gE 0), .int (α 2 0)])), (gE 0, .inl (k 4, nE, .inr (.inr (.inr (.inr fE))))), (gC 0, .inr (4, [.ref (gT 0), .ref (gB2 0), .ref (gC 1), .ref (gC 2), .ref (gC 3), .int (χ8 5 0), .int (χ8 6 0)])), (gC 1, .inl (k 0, 10, .inl (χ8 2))), (gC 2, .inl (k 0, 10, .inl (χ8 3))), (gC 3, .inl (k 1, 10, .inl (χ8 4))), (gB2 0, .inr (0, [.ref (gB2 1), .int (β2 1 0)])), (gB2 1, .inl (k 0, 10, .inl (β2 0)))]) (wn := (fun u11 : (St) × (St) => wTill k gX θ x_tariff x_basket (gB 0) (gL 0) x_plan (gA 0) ++ (wAL k gA α (gE 0) ++ (wEl k gE ε fE nE ++ (wRec k gC χ8 (gT 0) (gB2 0) ++ (wBasket k gB2 β2 ++ (wTariff k gT τ (fun i => some (go i 0)) ++ (wOffer k (go 0) (ω 0) ++ (wOffer k (go 1) (ω 1) ++ (wOffer k (go 2) (ω 2) ++ (wOffer k (go 3) (ω 3) ++ (wOffer k (go 4) (ω 4) ++ (wOffer k (go 5) (ω 5) ++ (wBasket k gB u9 ++ (wPlanner k gL u11.1 (gU 0) ++ (wUses k gU u11.2)))))))))))))))) C hP hD hS [27, 28, 29, 30, 31, 32, 33, 34, 35, 36, 37, 38, 39, 40, 10, 11, 12, 13, 14, 15, 16, 17, 18, 19, 20, 21, 22, 23, 24, 25, 26] [0, 1, 2, 3, 4, 5, 6, 7, 8, 9] [0, 1, 2, 3, 4, 5, 6, 7, 8, 9, 24, 25, 26, 27, 28, 29, 30, 31, 32, 33, 34, 35, 36, 37, 38, 39, 40, 10, 11, 12, 13, 14, 15, 16, 17, 18, 19, 20, 21, 22, 23] rfl rfl (by decide) (by decide) (fun _ => rfl) (by decide) (runV (As := [.ref (gT 0), .ref (gB 0)]) (rest := [.ref (gC 0)]) C (hP.sub [27, 28, 29, 30, 31, 32, 33, 34, 35, 36, 37, 38, 39, 40, 10, 11, 12, 13, 14, 15, 16, 17, 18, 19, 20, 21, 22, 23, 24, 25, 26] rfl) (hD.sub [27, 28, 29, 30, 31, 32, 33, 34, 35, 36, 37, 38, 39, 40, 10, 11, 12, 13, 14, 15, 16, 17, 18, 19, 20, 21, 22, 23, 24, 25, 26] (by decide) rfl) (m_Planner_leastTotal N gL gU gT go gB κ υ τ ω u9   _ h H.size) kw_676 kw_677 kw_678 kw_6 kw_679 hd_Planner_leastTotal ⟨Nat.le_of_ble_eq_true rfl, Nat.le_of_ble_eq_true rfl⟩ ⟨Nat.le_of_ble_eq_true rfl, Nat.le_of_ble_eq_true rfl⟩ 0 rfl rfl rfl rfl hl.1 (Nat.le_of_ble_eq_true rfl) d_Till_giveBack_64) (fun r12 u11 H locs h hP hD hS => ?_)
    try dsimp only at h
    refine call_i (wr := [(gX 0, .inr (7, [.ref x_tariff, .ref (gX 1), .ref x_basket, .ref (gB 0), .ref (gL 0), .ref x_plan, .ref (gA 0), .int (θ 7 0), .int (θ 8 0)])), (gX 1, .inl (k 0, 12, .inl (θ 1))), (gA 0, .inr (9, [.int (α 0 0), .ref (gE 0), .int (α 2 0)])), (gE 0, .inl (k 4, nE, .inr (.inr (.inr (.inr fE))))), (gB2 0, .inr (0, [.ref (gB2 1), .int (β2 1 0)])), (gB2 1, .inl (k 0, 10, .inl (β2 0))), (gT 0, .inr (5, [.ref (gT 1), .ref (gT 2)])), (gT 1, .inl (k 0, 12, .inl (τ 0))), (gT 2, .inl (k 3, 6, .inr (.inr (.inr (.inr (fun i => some (go i 0))))))), ((go 0) 0, .inr (1, [.int ((ω 0) 0 0), .int ((ω 0) 1 0), .int ((ω 0) 2 0), .int ((ω 0) 3 0), .int ((ω 0) 4 0), .ref ((go 0) 1)])), ((go 0) 1, .inl (k 0, 4, .inl ((ω 0) 5))), ((go 1) 0, .inr (1, [.int ((ω 1) 0 0), .int ((ω 1) 1 0), .int ((ω 1) 2 0), .int ((ω 1) 3 0), .int ((ω 1) 4 0), .ref ((go 1) 1)])), ((go 1) 1, .inl (k 0, 4, .inl ((ω 1) 5))), ((go 2) 0, .inr (1, [.int ((ω 2) 0 0), .int ((ω 2) 1 0), .int ((ω 2) 2 0), .int ((ω 2) 3 0), .int ((ω 2) 4 0), .ref ((go 2) 1)])), ((go 2) 1, .inl (k 0, 4, .inl ((ω 2) 5))), ((go 3) 0, .inr (1, [.int ((ω 3) 0 0), .int ((ω 3) 1 0), .int ((ω 3) 2 0), .int ((ω 3) 3 0), .int ((ω 3) 4 0), .ref ((go 3) 1)])), ((go 3) 1, .inl (k 0, 4, .inl ((ω 3) 5))), ((go 4) 0, .inr (1, [.int ((ω 4) 0 0), .int ((ω 4) 1 0), .int ((ω 4) 2 0), .int ((ω 4) 3 0), .int ((ω 4) 4 0), .ref ((go 4) 1)])), ((go 4) 1, .inl (k 0, 4, .inl ((ω 4) 5))), ((go 5) 0, .inr (1, [.int ((ω 5) 0 0), .int ((ω 5) 1 0), .int ((ω 5) 2 0), .int ((ω 5) 3 0), .int ((ω 5) 4 0), .ref ((go 5) 1)])), ((go 5) 1, .inl (k 0, 4, .inl ((ω 5) 5))), (gB 0, .inr (0, [.ref (gB 1), .int (u9 1 0)])), (gB 1, .inl (k 0, 10, .inl (u9 0))), (gL 0, .inr (3, [.ref (gL 1), .ref (gL 2), .ref (gL 3), .ref (gL 4), .ref (gU 0), .int (u11.1 5 0)])), (gL 1, .inl (k 0, 18, .inl (u11.1 0))), (gL 2, .inl (k 0, 18, .inl (u11.1 1))), (gL 3, .inl (k 0, 18, .inl (u11.1 2))), (gL 4, .inl (k 0, 3000, .inl (u11.1 3))), (gU 0, .inr (6, [.ref (gU 1), .ref (gU 2), .ref (gU 3), .ref (gU 4), .ref (gU 5), .ref (gU 6), .ref (gU 7), .ref (gU 8), .int (u11.2 8 0), .int (u11.2 9 0)])), (gU 1, .inl (k 0, 1260, .inl (u11.2 0))), (gU 2, .inl (k 0, 1260, .inl (u11.2 1))), (gU 3, .inl (k 0, 1260, .inl (u11.2 2))), (gU 4, .inl (k 0, 1260, .inl (u11.2 3))), (gU 5, .inl (k 0, 12, .inl (u11.2 4))), (gU 6, .inl (k 0, 12, .inl (u11.2 5))), (gU 7, .inl (k 0, 12, .inl (u11.2 6))), (gU 8, .inl (k 0, 1024, .inl (u11.2 7)))]) (wn := (fun u13 : (St) => wTill k gX θ x_tariff x_basket (gB 0) (gL 0) x_plan (gA 0) ++ (wAL k gA α (gE 0) ++ (wEl k gE ε fE nE ++ (wRec k gC u13 (gT 0) (gB2 0) ++ (wBasket k gB2 β2 ++ (wTariff k gT τ (fun i => some (go i 0)) ++ (wOffer k (go 0) (ω 0) ++ (wOffer k (go 1) (ω 1) ++ (wOffer k (go 2) (ω 2) ++ (wOffer k (go 3) (ω 3) ++ (wOffer k (go 4) (ω 4) ++ (wOffer k (go 5) (ω 5) ++ (wBasket k gB u9 ++ (wPlanner k gL u11.1 (gU 0) ++ (wUses k gU u11.2)))))))))))))))) C hP hD hS [4, 5, 6, 7] [0, 1, 2, 3, 8, 9, 10, 11, 12, 13, 14, 15, 16, 17, 18, 19, 20, 21, 22, 23, 24, 25, 26, 27, 28, 29, 30, 31, 32, 33, 34, 35, 36, 37, 38, 39, 40] [0, 1, 2, 3, 37, 38, 39, 40, 4, 5, 6, 7, 8, 9, 10, 11, 12, 13, 14, 15, 16, 17, 18, 19, 20, 21, 22, 23, 24, 25, 26, 27, 28, 29, 30, 31, 32, 33, 34, 35, 36] rfl rfl (by decide) (by decide) (fun _ => rfl) (by decide) (runV (As := [.int r12]) (rest := []) C (hP.sub [4, 5, 6, 7] rfl) (hD.sub [4, 5, 6, 7] (by decide) rfl) (m_Rec_raiseRefund N gC (gT 0) (gB2 0) χ8 r12  _ h H.size) kw_833 kw_834 kw_835 kw_22 kw_836 hd_Rec_raiseRefund ⟨Nat.le_of_ble_eq_true rfl, Nat.le_of_ble_eq_true rfl⟩ ⟨Nat.le_of_ble_eq_true rfl, Nat.le_of_ble_eq_true rfl⟩ 0 rfl rfl rfl rfl hl.1 (Nat.le_of_ble_eq_true rfl) d_Till_giveBack_67) (fun r14 u13 H locs h hP hD hS => ?_)
    try dsimp only at h
    refine lv_istore (lv' := [(4, .int r14), (3, .ref (gC 0)), (0, .ref (gX 0)), (1, .int x1), (2, .int x2)]) hx hb d_Till_giveBack_70 hl (by decide) rfl (fun ls hl => ?_)
    refine lv_aload_n hx hb d_Till_giveBack_72 rfl (lv_at hl 2 rfl) ?_
    refine lv_dup hx hb d_Till_giveBack_73 rfl ?_
    refine va_get (D := D) (ci := 7) (v := .int (θ 8 0)) (C := R_Till) (T := F_Till) (N := 9) hx hb hts in_Till hown hK hP 0 rfl rfl 8 (by decide) (hts _ kw_244) (fun _ h9 => h9) rfl d_Till_giveBack_74 ?_
    refine lv_iload hx hb d_Till_giveBack_77 (lv_at hl 0 rfl) ?_
    refine lv_isub hx hb d_Till_giveBack_79 ?_
    refine va_put (D := D) (ci := 7) (v := .int ((θ 8 0) - r14)) (ty := .int) (C := R_Till) (T := F_Till) (N := 9) hx hb hts in_Till t_Till tt_Till n_Till hown hK hP hD hS 0 rfl rfl 8 (by decide) (hts _ kw_244) (fun _ h9 => h9) rfl (by decide +kernel) rfl rfl (Nat.le_of_ble_eq_true rfl) d_Till_giveBack_80 (fun H locs hP hD hS => ?_)
    obtain ⟨θ15, eθ15⟩ : ∃ z, z = s2 θ 8 0 ((θ 8 0) - r14) := ⟨_, rfl⟩
    replace hP : va_P D CL (wTill k gX θ15 x_tariff x_basket (gB 0) (gL 0) x_plan (gA 0) ++ (wAL k gA α (gE 0) ++ (wEl k gE ε fE nE ++ (wRec k gC u13 (gT 0) (gB2 0) ++ (wBasket k gB2 β2 ++ (wTariff k gT τ (fun i => some (go i 0)) ++ (wOffer k (go 0) (ω 0) ++ (wOffer k (go 1) (ω 1) ++ (wOffer k (go 2) (ω 2) ++ (wOffer k (go 3) (ω 3) ++ (wOffer k (go 4) (ω 4) ++ (wOffer k (go 5) (ω 5) ++ (wBasket k gB u9 ++ (wPlanner k gL u11.1 (gU 0) ++ (wUses k gU u11.2))))))))))))))) H := by rw [eθ15]; exact hP
    replace hD : va_D A (wTill k gX θ15 x_tariff x_basket (gB 0) (gL 0) x_plan (gA 0) ++ (wAL k gA α (gE 0) ++ (wEl k gE ε fE nE ++ (wRec k gC u13 (gT 0) (gB2 0) ++ (wBasket k gB2 β2 ++ (wTariff k gT τ (fun i => some (go i 0)) ++ (wOffer k (go 0) (ω 0) ++ (wOffer k (go 1) (ω 1) ++ (wOffer k (go 2) (ω 2) ++ (wOffer k (go 3) (ω 3) ++ (wOffer k (go 4) (ω 4) ++ (wOffer k (go 5) (ω 5) ++ (wBasket k gB u9 ++ (wPlanner k gL u11.1 (gU 0) ++ (wUses k gU u11.2))))))))))))))) := by rw [eθ15]; exact hD
    replace h := h θ15 eθ15
    refine lv_iload hx hb d_Till_giveBack_83 (lv_at hl 0 rfl) ?_
    exact retX_i (u := (θ15, u13, u9, u11.1, u11.2)) (wf := (fun u : (St) × (St) × (St) × (St) × (St) => wTill k gX u.1 x_tariff x_basket (gB 0) (gL 0) x_plan (gA 0) ++ (wAL k gA α (gE 0) ++ (wEl k gE ε fE nE ++ (wRec k gC u.2.1 (gT 0) (gB2 0) ++ (wBasket k gB2 β2 ++ (wTariff k gT τ (fun i => some (go i 0)) ++ (wOffer k (go 0) (ω 0) ++ (wOffer k (go 1) (ω 1) ++ (wOffer k (go 2) (ω 2) ++ (wOffer k (go 3) (ω 3) ++ (wOffer k (go 4) (ω 4) ++ (wOffer k (go 5) (ω 5) ++ (wBasket k gB u.2.2.1 ++ (wPlanner k gL u.2.2.2.1 (gU 0) ++ (wUses k gU u.2.2.2.2)))))))))))))))) C hP hD hS (Nat.le_of_ble_eq_true rfl) (Nat.le_of_ble_eq_true rfl) ⟨_, rfl, h⟩ d_Till_giveBack_85
  · replace h := h.2 c6
    exact thr (u := (θ, χ, β, κ, υ)) (wf := (fun u : (St) × (St) × (St) × (St) × (St) => wTill k gX u.1 x_tariff x_basket (gB 0) (gL 0) x_plan (gA 0) ++ (wAL k gA α (gE 0) ++ (wEl k gE ε fE nE ++ (wRec k gC u.2.1 (gT 0) (gB2 0) ++ (wBasket k gB2 β2 ++ (wTariff k gT τ (fun i => some (go i 0)) ++ (wOffer k (go 0) (ω 0) ++ (wOffer k (go 1) (ω 1) ++ (wOffer k (go 2) (ω 2) ++ (wOffer k (go 3) (ω 3) ++ (wOffer k (go 4) (ω 4) ++ (wOffer k (go 5) (ω 5) ++ (wBasket k gB u.2.2.1 ++ (wPlanner k gL u.2.2.2.1 (gU 0) ++ (wUses k gU u.2.2.2.2)))))))))))))))) (text := "the unit was given back before") C hX hlt hcx xOk_is (by decide +kernel) kw_358 kw_17 (by decide +kernel) hP hD hS hl.1 d_Till_giveBack_26 d_Till_giveBack_29 d_Till_giveBack_30 d_Till_giveBack_32 d_Till_giveBack_35 (Nat.le_of_ble_eq_true rfl) (Nat.le_of_ble_eq_true rfl) (Nat.le_of_ble_eq_true rfl) (Nat.le_of_ble_eq_true rfl) (Nat.le_refl _) (Nat.le_refl _) h
set_option maxHeartbeats 4000000 in
set_option maxRecDepth 100000 in
theorem m_Till_receiptAtN {l : Launch} {D : va_G} {k : Nat → ClassId} (hlt : l.stackTraces = false) (N : Nat) (gX : Nat → Nat) (gA : Nat → Nat) (x_tariff : Nat) (x_basket : Nat) (x_keptUnits : Nat) (x_planner : Nat) (x_plan : Nat) (xe : Nat) (θ : St) (α : St) (x1 : Int32) (post : (Unit) → Prop) (xp : String → (Unit) → Prop) (h : wp_Till_receiptAtN N  θ α x1 post xp) : CX l D k y_Till_receiptAtN b_Till_receiptAtN 2 (some (.object "PromotionTill$Receipt")) rm_Till_receiptAtN [.ref (gX 0), .int x1] (wTill k gX θ x_tariff x_basket x_keptUnits x_planner x_plan (gA 0) ++ (wAL k gA α xe)) (fun u : Unit => wTill k gX θ x_tariff x_basket x_keptUnits x_planner x_plan (gA 0) ++ (wAL k gA α xe)) (fun v (u : Unit) => v = some (.ref (gX 0)) ∧ post u) xp := by
  refine CX.of (by decide) (Nat.le_of_ble_eq_true rfl) ?_
  intro p e s m below meth c A H locs ls C hX hcx hP hD hS hl
  obtain ⟨hx, hb, hr, hlk, hml, hown, hts, hK, hA⟩ := id C
  obtain ⟨t9, hZ9, hT9, hE9⟩ := id hX.2
  replace hl : lv_has ls 2 [(0, .ref (gX 0)), (1, .int x1)] := hl
  unfold wp_Till_receiptAtN at h
  refine lv_iload_n hx hb d_Till_receiptAtN_0 rfl (lv_at hl 1 rfl) ?_
  refine lv_aload_n hx hb d_Till_receiptAtN_1 rfl (lv_at hl 0 rfl) ?_
  refine va_get (D := D) (ci := 7) (v := .ref (gA 0)) (C := R_Till) (T := F_Till) (N := 9) hx hb hts in_Till hown hK hP 0 rfl rfl 6 (by decide) (hts _ kw_242) (fun _ h9 => h9) rfl d_Till_receiptAtN_2 ?_
  refine call_i (wr := [(gX 0, .inr (7, [.ref x_tariff, .ref (gX 1), .ref x_basket, .ref x_keptUnits, .ref x_planner, .ref x_plan, .ref (gA 0), .int (θ 7 0), .int (θ 8 0)])), (gX 1, .inl (k 0, 12, .inl (θ 1)))]) (wn := (fun u1 : Unit => wTill k gX θ x_tariff x_basket x_keptUnits x_planner x_plan (gA 0) ++ (wAL k gA α xe))) C hP hD hS [2] [0, 1] [0, 1, 2] rfl rfl (by decide) (by decide) (fun _ => rfl) (by decide) (runV (As := []) (rest := [.int x1]) C (hP.sub [2] rfl) (hD.sub [2] (by decide) rfl) (m_AL_size N gA xe α   _ h H.size) kw_690 kw_691 kw_692 kw_11 kw_693 hd_AL_size ⟨Nat.le_of_ble_eq_true rfl, Nat.le_of_ble_eq_true rfl⟩ ⟨Nat.le_of_ble_eq_true rfl, Nat.le_of_ble_eq_true rfl⟩ 0 rfl rfl rfl rfl hl.1 (Nat.le_of_ble_eq_true rfl) d_Till_receiptAtN_5) (fun r2 u1 H locs h hP hD hS => ?_)
  try dsimp only at h
  refine callXS (As := [.int x1, .int r2]) (rest := []) C hX hS (Jn.none (S := Unit) hP hD hS hA) (m_Till_requireIndex hlt N   x1 r2  _ _ h) kw_468 kw_469 kw_1 kw_470 (hd_Till_requireIndex).2 rfl ⟨Nat.le_of_ble_eq_true rfl, Nat.le_of_ble_eq_true rfl⟩ ⟨Nat.le_of_ble_eq_true rfl, Nat.le_of_ble_eq_true rfl⟩ hl.1 (Nat.le_of_ble_eq_true rfl) d_Till_receiptAtN_8 (fun v9 u3 H locs h hP hD hS => ?_) (fun q9 E9 u9 ce9 H locs h hP hD hS hce9 hcv9 hcl9 => ?_)
  rotate_left
  · exact outX (u := ()) (wf := (fun u : Unit => wTill k gX θ x_tariff x_basket x_keptUnits x_planner x_plan (gA 0) ++ (wAL k gA α xe))) C hcx hP hD hS hce9 hcv9 hcl9 (Nat.le_of_ble_eq_true rfl) (Nat.le_of_ble_eq_true rfl) h
  obtain ⟨rfl, h⟩ := h
  refine W.eq (g2 := F0 m 11 ls []) rfl ?_
  replace hP : va_P D CL (wTill k gX θ x_tariff x_basket x_keptUnits x_planner x_plan (gA 0) ++ (wAL k gA α xe)) H := hP
  replace hD : va_D A (wTill k gX θ x_tariff x_basket x_keptUnits x_planner x_plan (gA 0) ++ (wAL k gA α xe)) := hD
  try dsimp only at h
  all_goals exact h.elim
set_option maxHeartbeats 4000000 in
set_option maxRecDepth 100000 in
theorem m_Till_lineN {l : Launch} {D : va_G} {k : Nat → ClassId} (hlt : l.stackTraces = false) (N : Nat) (gX : Nat → Nat) (gA : Nat → Nat) (x_tariff : Nat) (x_basket : Nat) (x_keptUnits : Nat) (x_planner : Nat) (x_plan : Nat) (xe : Nat) (θ : St) (α : St) (x1 : Int32) (x2 : Int32) (x3 : Int32) (post : Int32 → (Unit) → Prop) (xp : String → (Unit) → Prop) (h : wp_Till_lineN N  θ α x1 x2 x3 post xp) : CX l D k y_Till_lineN b_Till_lineN 5 (some .int) rm_Till_lineN [.ref (gX 0), .int x1, .int x2, .int x3] (wTill k gX θ x_tariff x_basket x_keptUnits x_planner x_plan (gA 0) ++ (wAL k gA α xe)) (fun u : Unit => wTill k gX θ x_tariff x_basket x_keptUnits x_planner x_plan (gA 0) ++ (wAL k gA α xe)) (fun v (u : Unit) => ∃ r : Int32, v = some (.int r) ∧ post r u) xp := by
  refine CX.of (by decide) (Nat.le_of_ble_eq_true rfl) ?_
  intro p e s m below meth c A H locs ls C hX hcx hP hD hS hl
  obtain ⟨hx, hb, hr, hlk, hml, hown, hts, hK, hA⟩ := id C
  obtain ⟨t9, hZ9, hT9, hE9⟩ := id hX.2
  replace hl : lv_has ls 5 [(0, .ref (gX 0)), (1, .int x1), (2, .int x2), (3, .int x3)] := hl
  unfold wp_Till_lineN at h
  refine lv_aload_n hx hb d_Till_lineN_0 rfl (lv_at hl 0 rfl) ?_
  refine lv_iload_n hx hb d_Till_lineN_1 rfl (lv_at hl 1 rfl) ?_
  refine callXV (As := [.int x1]) (rest := []) C hX hS (Jn.same hP hD hS hA) (m_Till_receiptAtN hlt N gX gA x_tariff x_basket x_keptUnits x_planner x_plan xe θ α x1  _ _ h) kw_810 kw_812 kp_24 kw_1 kw_813 hd_Till_receiptAtN 0 rfl rfl rfl rfl ⟨Nat.le_of_ble_eq_true rfl, Nat.le_of_ble_eq_true rfl⟩ ⟨Nat.le_of_ble_eq_true rfl, Nat.le_of_ble_eq_true rfl⟩ hl.1 (Nat.le_of_ble_eq_true rfl) d_Till_lineN_2 (fun v9 u1 H locs h hP hD hS => ?_) (fun q9 E9 u9 ce9 H locs h hP hD hS hce9 hcv9 hcl9 => ?_)
  rotate_left
  · exact outX (u := ()) (wf := (fun u : Unit => wTill k gX θ x_tariff x_basket x_keptUnits x_planner x_plan (gA 0) ++ (wAL k gA α xe))) C hcx hP hD hS hce9 hcv9 hcl9 (Nat.le_of_ble_eq_true rfl) (Nat.le_of_ble_eq_true rfl) h
  obtain ⟨rfl, h⟩ := h
  refine W.eq (g2 := F0 m 5 ls [.ref (gX 0)]) rfl ?_
  replace hP : va_P D CL (wTill k gX θ x_tariff x_basket x_keptUnits x_planner x_plan (gA 0) ++ (wAL k gA α xe)) H := hP
  replace hD : va_D A (wTill k gX θ x_tariff x_basket x_keptUnits x_planner x_plan (gA 0) ++ (wAL k gA α xe)) := hD
  try dsimp only at h
  all_goals exact h.elim
set_option maxHeartbeats 4000000 in
set_option maxRecDepth 100000 in
theorem m_Till_receiptN {l : Launch} {D : va_G} {k : Nat → ClassId} (hlt : l.stackTraces = false) (N : Nat) (gX : Nat → Nat) (gA : Nat → Nat) (x_tariff : Nat) (x_basket : Nat) (x_keptUnits : Nat) (x_planner : Nat) (x_plan : Nat) (xe : Nat) (θ : St) (α : St) (x1 : Int32) (x2 : Int32) (post : Int32 → (Unit) → Prop) (xp : String → (Unit) → Prop) (h : wp_Till_receiptN N  θ α x1 x2 post xp) : CX l D k y_Till_receiptN b_Till_receiptN 4 (some .int) rm_Till_receiptN [.ref (gX 0), .int x1, .int x2] (wTill k gX θ x_tariff x_basket x_keptUnits x_planner x_plan (gA 0) ++ (wAL k gA α xe)) (fun u : Unit => wTill k gX θ x_tariff x_basket x_keptUnits x_planner x_plan (gA 0) ++ (wAL k gA α xe)) (fun v (u : Unit) => ∃ r : Int32, v = some (.int r) ∧ post r u) xp := by
  refine CX.of (by decide) (Nat.le_of_ble_eq_true rfl) ?_
  intro p e s m below meth c A H locs ls C hX hcx hP hD hS hl
  obtain ⟨hx, hb, hr, hlk, hml, hown, hts, hK, hA⟩ := id C
  obtain ⟨t9, hZ9, hT9, hE9⟩ := id hX.2
  replace hl : lv_has ls 4 [(0, .ref (gX 0)), (1, .int x1), (2, .int x2)] := hl
  unfold wp_Till_receiptN at h
  refine lv_iload_n hx hb d_Till_receiptN_0 rfl (lv_at hl 2 rfl) ?_
  refine lv_iconst (v := 0) hx hb d_Till_receiptN_1 (by decide) ?_
  refine lv_iconst (v := 5) hx hb d_Till_receiptN_2 (by decide) ?_
  refine none_i C hP hD hS (runS (As := [.int x2, .int 0, .int 5]) (rest := []) C nilP nilD (m_Till_within N   x2 0 5  _ h H.size) kw_276 kw_277 kw_1 kw_278 (hd_Till_within).2 ⟨Nat.le_of_ble_eq_true rfl, Nat.le_of_ble_eq_true rfl⟩ ⟨Nat.le_of_ble_eq_true rfl, Nat.le_of_ble_eq_true rfl⟩ rfl hl.1 (Nat.le_of_ble_eq_true rfl) d_Till_receiptN_3) (fun r2 u1 H locs h hP hD hS => ?_)
  try dsimp only at h
  refine callXS (As := [.int r2]) (rest := []) C hX hS (Jn.none (S := Unit) hP hD hS hA) (m_Till_requireArgument hlt N   r2  _ _ h) kw_279 kw_280 kw_1 kw_281 (hd_Till_requireArgument).2 rfl ⟨Nat.le_of_ble_eq_true rfl, Nat.le_of_ble_eq_true rfl⟩ ⟨Nat.le_of_ble_eq_true rfl, Nat.le_of_ble_eq_true rfl⟩ hl.1 (Nat.le_of_ble_eq_true rfl) d_Till_receiptN_6 (fun v9 u3 H locs h hP hD hS => ?_) (fun q9 E9 u9 ce9 H locs h hP hD hS hce9 hcv9 hcl9 => ?_)
  rotate_left
  · exact outX (u := ()) (wf := (fun u : Unit => wTill k gX θ x_tariff x_basket x_keptUnits x_planner x_plan (gA 0) ++ (wAL k gA α xe))) C hcx hP hD hS hce9 hcv9 hcl9 (Nat.le_of_ble_eq_true rfl) (Nat.le_of_ble_eq_true rfl) h
  obtain ⟨rfl, h⟩ := h
  refine W.eq (g2 := F0 m 9 ls []) rfl ?_
  replace hP : va_P D CL (wTill k gX θ x_tariff x_basket x_keptUnits x_planner x_plan (gA 0) ++ (wAL k gA α xe)) H := hP
  replace hD : va_D A (wTill k gX θ x_tariff x_basket x_keptUnits x_planner x_plan (gA 0) ++ (wAL k gA α xe)) := hD
  try dsimp only at h
  refine lv_iload_n hx hb d_Till_receiptN_9 rfl (lv_at hl 2 rfl) ?_
  refine lv_iconst (v := 4) hx hb d_Till_receiptN_10 (by decide) ?_
  refine lv_icmp_ne (tgt := 22) hx hb d_Till_receiptN_11 (by decide) (fun c5 => ?_) (fun c5 => ?_)
  · replace h := h.1 c5
    refine lv_iload_n hx hb d_Till_receiptN_22 rfl (lv_at hl 2 rfl) ?_
    refine lv_iconst (v := 5) hx hb d_Till_receiptN_23 (by decide) ?_
    refine lv_icmp_ne (tgt := 32) hx hb d_Till_receiptN_24 (by decide) (fun c6 => ?_) (fun c6 => ?_)
    · replace h := h.1 c6
      refine lv_aload_n hx hb d_Till_receiptN_32 rfl (lv_at hl 0 rfl) ?_
      refine lv_iload_n hx hb d_Till_receiptN_33 rfl (lv_at hl 1 rfl) ?_
      refine callXV (As := [.int x1]) (rest := []) C hX hS (Jn.same hP hD hS hA) (m_Till_receiptAtN hlt N gX gA x_tariff x_basket x_keptUnits x_planner x_plan xe θ α x1  _ _ h) kw_810 kw_812 kp_24 kw_1 kw_813 hd_Till_receiptAtN 0 rfl rfl rfl rfl ⟨Nat.le_of_ble_eq_true rfl, Nat.le_of_ble_eq_true rfl⟩ ⟨Nat.le_of_ble_eq_true rfl, Nat.le_of_ble_eq_true rfl⟩ hl.1 (Nat.le_of_ble_eq_true rfl) d_Till_receiptN_34 (fun v9 u7 H locs h hP hD hS => ?_) (fun q9 E9 u9 ce9 H locs h hP hD hS hce9 hcv9 hcl9 => ?_)
      rotate_left
      · exact outX (u := ()) (wf := (fun u : Unit => wTill k gX θ x_tariff x_basket x_keptUnits x_planner x_plan (gA 0) ++ (wAL k gA α xe))) C hcx hP hD hS hce9 hcv9 hcl9 (Nat.le_of_ble_eq_true rfl) (Nat.le_of_ble_eq_true rfl) h
      obtain ⟨rfl, h⟩ := h
      refine W.eq (g2 := F0 m 37 ls [.ref (gX 0)]) rfl ?_
      replace hP : va_P D CL (wTill k gX θ x_tariff x_basket x_keptUnits x_planner x_plan (gA 0) ++ (wAL k gA α xe)) H := hP
      replace hD : va_D A (wTill k gX θ x_tariff x_basket x_keptUnits x_planner x_plan (gA 0) ++ (wAL k gA α xe)) := hD
      try dsimp only at h
      all_goals exact h.elim
    · replace h := h.2 c6
      refine lv_aload_n hx hb d_Till_receiptN_27 rfl (lv_at hl 0 rfl) ?_
      refine va_get (D := D) (ci := 7) (v := .int (θ 8 0)) (C := R_Till) (T := F_Till) (N := 9) hx hb hts in_Till hown hK hP 0 rfl rfl 8 (by decide) (hts _ kw_244) (fun _ h9 => h9) rfl d_Till_receiptN_28 ?_
      exact retX_i (u := ()) (wf := (fun u : Unit => wTill k gX θ x_tariff x_basket x_keptUnits x_planner x_plan (gA 0) ++ (wAL k gA α xe))) C hP hD hS (Nat.le_of_ble_eq_true rfl) (Nat.le_of_ble_eq_true rfl) ⟨_, rfl, h⟩ d_Till_receiptN_31
  · replace h := h.2 c5
    refine lv_aload_n hx hb d_Till_receiptN_14 rfl (lv_at hl 0 rfl) ?_
    refine va_get (D := D) (ci := 7) (v := .ref (gA 0)) (C := R_Till) (T := F_Till) (N := 9) hx hb hts in_Till hown hK hP 0 rfl rfl 6 (by decide) (hts _ kw_242) (fun _ h9 => h9) rfl d_Till_receiptN_15 ?_
    refine call_i (wr := [(gX 0, .inr (7, [.ref x_tariff, .ref (gX 1), .ref x_basket, .ref x_keptUnits, .ref x_planner, .ref x_plan, .ref (gA 0), .int (θ 7 0), .int (θ 8 0)])), (gX 1, .inl (k 0, 12, .inl (θ 1)))]) (wn := (fun u9 : Unit => wTill k gX θ x_tariff x_basket x_keptUnits x_planner x_plan (gA 0) ++ (wAL k gA α xe))) C hP hD hS [2] [0, 1] [0, 1, 2] rfl rfl (by decide) (by decide) (fun _ => rfl) (by decide) (runV (As := []) (rest := []) C (hP.sub [2] rfl) (hD.sub [2] (by decide) rfl) (m_AL_size N gA xe α   _ h H.size) kw_690 kw_691 kw_692 kw_11 kw_693 hd_AL_size ⟨Nat.le_of_ble_eq_true rfl, Nat.le_of_ble_eq_true rfl⟩ ⟨Nat.le_of_ble_eq_true rfl, Nat.le_of_ble_eq_true rfl⟩ 0 rfl rfl rfl rfl hl.1 (Nat.le_of_ble_eq_true rfl) d_Till_receiptN_18) (fun r10 u9 H locs h hP hD hS => ?_)
    try dsimp only at h
    exact retX_i (u := ()) (wf := (fun u : Unit => wTill k gX θ x_tariff x_basket x_keptUnits x_planner x_plan (gA 0) ++ (wAL k gA α xe))) C hP hD hS (Nat.le_of_ble_eq_true rfl) (Nat.le_of_ble_eq_true rfl) ⟨_, rfl, h⟩ d_Till_receiptN_21
set_option maxHeartbeats 4000000 in
set_option maxRecDepth 100000 in
theorem m_Till_giveBackN {l : Launch} {D : va_G} {k : Nat → ClassId} (hlt : l.stackTraces = false) (N : Nat) (gX : Nat → Nat) (gA : Nat → Nat) (x_tariff : Nat) (x_basket : Nat) (x_keptUnits : Nat) (x_planner : Nat) (x_plan : Nat) (xe : Nat) (θ : St) (α : St) (x1 : Int32) (x2 : Int32) (post : Int32 → (Unit) → Prop) (xp : String → (Unit) → Prop) (h : wp_Till_giveBackN N  θ α x1 x2 post xp) : CX l D k y_Till_giveBackN b_Till_giveBackN 5 (some .int) rm_Till_giveBackN [.ref (gX 0), .int x1, .int x2] (wTill k gX θ x_tariff x_basket x_keptUnits x_planner x_plan (gA 0) ++ (wAL k gA α xe)) (fun u : Unit => wTill k gX θ x_tariff x_basket x_keptUnits x_planner x_plan (gA 0) ++ (wAL k gA α xe)) (fun v (u : Unit) => ∃ r : Int32, v = some (.int r) ∧ post r u) xp := by
  refine CX.of (by decide) (Nat.le_of_ble_eq_true rfl) ?_
  intro p e s m below meth c A H locs ls C hX hcx hP hD hS hl
  obtain ⟨hx, hb, hr, hlk, hml, hown, hts, hK, hA⟩ := id C
  obtain ⟨t9, hZ9, hT9, hE9⟩ := id hX.2
  replace hl : lv_has ls 5 [(0, .ref (gX 0)), (1, .int x1), (2, .int x2)] := hl
  unfold wp_Till_giveBackN at h
  refine lv_aload_n hx hb d_Till_giveBackN_0 rfl (lv_at hl 0 rfl) ?_
  refine lv_iload_n hx hb d_Till_giveBackN_1 rfl (lv_at hl 1 rfl) ?_
  refine callXV (As := [.int x1]) (rest := []) C hX hS (Jn.same hP hD hS hA) (m_Till_receiptAtN hlt N gX gA x_tariff x_basket x_keptUnits x_planner x_plan xe θ α x1  _ _ h) kw_810 kw_812 kp_24 kw_1 kw_813 hd_Till_receiptAtN 0 rfl rfl rfl rfl ⟨Nat.le_of_ble_eq_true rfl, Nat.le_of_ble_eq_true rfl⟩ ⟨Nat.le_of_ble_eq_true rfl, Nat.le_of_ble_eq_true rfl⟩ hl.1 (Nat.le_of_ble_eq_true rfl) d_Till_giveBackN_2 (fun v9 u1 H locs h hP hD hS => ?_) (fun q9 E9 u9 ce9 H locs h hP hD hS hce9 hcv9 hcl9 => ?_)
  rotate_left
  · exact outX (u := ()) (wf := (fun u : Unit => wTill k gX θ x_tariff x_basket x_keptUnits x_planner x_plan (gA 0) ++ (wAL k gA α xe))) C hcx hP hD hS hce9 hcv9 hcl9 (Nat.le_of_ble_eq_true rfl) (Nat.le_of_ble_eq_true rfl) h
  obtain ⟨rfl, h⟩ := h
  refine W.eq (g2 := F0 m 5 ls [.ref (gX 0)]) rfl ?_
  replace hP : va_P D CL (wTill k gX θ x_tariff x_basket x_keptUnits x_planner x_plan (gA 0) ++ (wAL k gA α xe)) H := hP
  replace hD : va_D A (wTill k gX θ x_tariff x_basket x_keptUnits x_planner x_plan (gA 0) ++ (wAL k gA α xe)) := hD
  try dsimp only at h
  all_goals exact h.elim
