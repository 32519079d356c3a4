/-! the law: names, decode rows (by program) -/
abbrev b_Law_article : ByteArray := method_3_code
def y_Law_article : MethodName := ⟨"PromotionTillLaw", "article", "(LPromotionTill;III)I"⟩
theorem d_Law_article_0 : decode b_Law_article 0 = .ok (.aload_n 0, 1) := by decide +kernel
theorem d_Law_article_1 : decode b_Law_article 1 = .ok (.iload_n 1, 1) := by decide +kernel
theorem d_Law_article_2 : decode b_Law_article 2 = .ok (.iload_n 2, 1) := by decide +kernel
theorem d_Law_article_3 : decode b_Law_article 3 = .ok (.iload_n 3, 1) := by decide +kernel
theorem d_Law_article_4 : decode b_Law_article 4 = .ok (.invokevirtual 7, 3) := by decide +kernel
theorem d_Law_article_7 : decode b_Law_article 7 = .ok (.goto 11, 3) := by decide +kernel
theorem d_Law_article_10 : decode b_Law_article 10 = .ok (.astore 4, 2) := by decide +kernel
theorem d_Law_article_12 : decode b_Law_article 12 = .ok (.iconst 1, 1) := by decide +kernel
theorem d_Law_article_13 : decode b_Law_article 13 = .ok (.ireturn, 1) := by decide +kernel
theorem d_Law_article_14 : decode b_Law_article 14 = .ok (.astore 4, 2) := by decide +kernel
theorem d_Law_article_16 : decode b_Law_article 16 = .ok (.iconst 2, 1) := by decide +kernel
theorem d_Law_article_17 : decode b_Law_article 17 = .ok (.ireturn, 1) := by decide +kernel
theorem d_Law_article_18 : decode b_Law_article 18 = .ok (.iconst 0, 1) := by decide +kernel
theorem d_Law_article_19 : decode b_Law_article 19 = .ok (.ireturn, 1) := by decide +kernel
theorem kc_article : Cond.codeWith ⟨"PromotionTillLaw", "article", "(LPromotionTill;III)I"⟩ method_3_code 5 (Option.some FieldType.int) [(0, 7, 10, 13), (0, 7, 14, 15)] ∈ gw_T := gw_a2 26 rfl rfl
abbrev b_Law_offer : ByteArray := method_4_code
def y_Law_offer : MethodName := ⟨"PromotionTillLaw", "offer", "(LPromotionTill;IIIII)I"⟩
theorem d_Law_offer_0 : decode b_Law_offer 0 = .ok (.aload_n 0, 1) := by decide +kernel
theorem d_Law_offer_1 : decode b_Law_offer 1 = .ok (.iload_n 1, 1) := by decide +kernel
theorem d_Law_offer_2 : decode b_Law_offer 2 = .ok (.iload_n 2, 1) := by decide +kernel
theorem d_Law_offer_3 : decode b_Law_offer 3 = .ok (.iload_n 3, 1) := by decide +kernel
theorem d_Law_offer_4 : decode b_Law_offer 4 = .ok (.iload 4, 2) := by decide +kernel
theorem d_Law_offer_6 : decode b_Law_offer 6 = .ok (.iload 5, 2) := by decide +kernel
theorem d_Law_offer_8 : decode b_Law_offer 8 = .ok (.invokevirtual 17, 3) := by decide +kernel
theorem d_Law_offer_11 : decode b_Law_offer 11 = .ok (.goto 11, 3) := by decide +kernel
theorem d_Law_offer_14 : decode b_Law_offer 14 = .ok (.astore 6, 2) := by decide +kernel
theorem d_Law_offer_16 : decode b_Law_offer 16 = .ok (.iconst 1, 1) := by decide +kernel
theorem d_Law_offer_17 : decode b_Law_offer 17 = .ok (.ireturn, 1) := by decide +kernel
theorem d_Law_offer_18 : decode b_Law_offer 18 = .ok (.astore 6, 2) := by decide +kernel
theorem d_Law_offer_20 : decode b_Law_offer 20 = .ok (.iconst 2, 1) := by decide +kernel
theorem d_Law_offer_21 : decode b_Law_offer 21 = .ok (.ireturn, 1) := by decide +kernel
theorem d_Law_offer_22 : decode b_Law_offer 22 = .ok (.iconst 0, 1) := by decide +kernel
theorem d_Law_offer_23 : decode b_Law_offer 23 = .ok (.ireturn, 1) := by decide +kernel
theorem kc_offer : Cond.codeWith ⟨"PromotionTillLaw", "offer", "(LPromotionTill;IIIII)I"⟩ method_4_code 7 (Option.some FieldType.int) [(0, 11, 14, 13), (0, 11, 18, 15)] ∈ gw_T := gw_a2 136 rfl rfl
abbrev b_Law_member : ByteArray := method_5_code
def y_Law_member : MethodName := ⟨"PromotionTillLaw", "member", "(LPromotionTill;IIIZ)I"⟩
theorem d_Law_member_0 : decode b_Law_member 0 = .ok (.aload_n 0, 1) := by decide +kernel
theorem d_Law_member_1 : decode b_Law_member 1 = .ok (.iload_n 1, 1) := by decide +kernel
theorem d_Law_member_2 : decode b_Law_member 2 = .ok (.iload_n 2, 1) := by decide +kernel
theorem d_Law_member_3 : decode b_Law_member 3 = .ok (.iload_n 3, 1) := by decide +kernel
theorem d_Law_member_4 : decode b_Law_member 4 = .ok (.iload 4, 2) := by decide +kernel
theorem d_Law_member_6 : decode b_Law_member 6 = .ok (.invokevirtual 21, 3) := by decide +kernel
theorem d_Law_member_9 : decode b_Law_member 9 = .ok (.goto 11, 3) := by decide +kernel
theorem d_Law_member_12 : decode b_Law_member 12 = .ok (.astore 5, 2) := by decide +kernel
theorem d_Law_member_14 : decode b_Law_member 14 = .ok (.iconst 1, 1) := by decide +kernel
theorem d_Law_member_15 : decode b_Law_member 15 = .ok (.ireturn, 1) := by decide +kernel
theorem d_Law_member_16 : decode b_Law_member 16 = .ok (.astore 5, 2) := by decide +kernel
theorem d_Law_member_18 : decode b_Law_member 18 = .ok (.iconst 2, 1) := by decide +kernel
theorem d_Law_member_19 : decode b_Law_member 19 = .ok (.ireturn, 1) := by decide +kernel
theorem d_Law_member_20 : decode b_Law_member 20 = .ok (.iconst 0, 1) := by decide +kernel
theorem d_Law_member_21 : decode b_Law_member 21 = .ok (.ireturn, 1) := by decide +kernel
theorem kc_member : Cond.codeWith ⟨"PromotionTillLaw", "member", "(LPromotionTill;IIIZ)I"⟩ method_5_code 6 (Option.some FieldType.int) [(0, 9, 12, 13), (0, 9, 16, 15)] ∈ gw_T := gw_a2 147 rfl rfl
abbrev b_Law_run : ByteArray := method_6_code
def y_Law_run : MethodName := ⟨"PromotionTillLaw", "run", "(LPromotionTill;IZ)I"⟩
theorem d_Law_run_0 : decode b_Law_run 0 = .ok (.aload_n 0, 1) := by decide +kernel
theorem d_Law_run_1 : decode b_Law_run 1 = .ok (.iload_n 1, 1) := by decide +kernel
theorem d_Law_run_2 : decode b_Law_run 2 = .ok (.iload_n 2, 1) := by decide +kernel
theorem d_Law_run_3 : decode b_Law_run 3 = .ok (.invokevirtual 25, 3) := by decide +kernel
theorem d_Law_run_6 : decode b_Law_run 6 = .ok (.goto 9, 3) := by decide +kernel
theorem d_Law_run_9 : decode b_Law_run 9 = .ok (.astore_n 3, 1) := by decide +kernel
theorem d_Law_run_10 : decode b_Law_run 10 = .ok (.iconst 1, 1) := by decide +kernel
theorem d_Law_run_11 : decode b_Law_run 11 = .ok (.ireturn, 1) := by decide +kernel
theorem d_Law_run_12 : decode b_Law_run 12 = .ok (.astore_n 3, 1) := by decide +kernel
theorem d_Law_run_13 : decode b_Law_run 13 = .ok (.iconst 2, 1) := by decide +kernel
theorem d_Law_run_14 : decode b_Law_run 14 = .ok (.ireturn, 1) := by decide +kernel
theorem d_Law_run_15 : decode b_Law_run 15 = .ok (.iconst 0, 1) := by decide +kernel
theorem d_Law_run_16 : decode b_Law_run 16 = .ok (.ireturn, 1) := by decide +kernel
theorem kc_run : Cond.codeWith ⟨"PromotionTillLaw", "run", "(LPromotionTill;IZ)I"⟩ method_6_code 4 (Option.some FieldType.int) [(0, 6, 9, 13), (0, 6, 12, 15)] ∈ gw_T := gw_a2 158 rfl rfl
abbrev b_Law_scan : ByteArray := method_7_code
def y_Law_scan : MethodName := ⟨"PromotionTillLaw", "scan", "(LPromotionTill;I[J)I"⟩
theorem d_Law_scan_0 : decode b_Law_scan 0 = .ok (.aload_n 2, 1) := by decide +kernel
theorem d_Law_scan_1 : decode b_Law_scan 1 = .ok (.iconst 0, 1) := by decide +kernel
theorem d_Law_scan_2 : decode b_Law_scan 2 = .ok (.aload_n 0, 1) := by decide +kernel
theorem d_Law_scan_3 : decode b_Law_scan 3 = .ok (.iload_n 1, 1) := by decide +kernel
theorem d_Law_scan_4 : decode b_Law_scan 4 = .ok (.invokevirtual 29, 3) := by decide +kernel
theorem d_Law_scan_7 : decode b_Law_scan 7 = .ok (.i2l, 1) := by decide +kernel
theorem d_Law_scan_8 : decode b_Law_scan 8 = .ok (.lastore, 1) := by decide +kernel
theorem d_Law_scan_9 : decode b_Law_scan 9 = .ok (.goto 9, 3) := by decide +kernel
theorem d_Law_scan_12 : decode b_Law_scan 12 = .ok (.astore_n 3, 1) := by decide +kernel
theorem d_Law_scan_13 : decode b_Law_scan 13 = .ok (.iconst 1, 1) := by decide +kernel
theorem d_Law_scan_14 : decode b_Law_scan 14 = .ok (.ireturn, 1) := by decide +kernel
theorem d_Law_scan_15 : decode b_Law_scan 15 = .ok (.astore_n 3, 1) := by decide +kernel
theorem d_Law_scan_16 : decode b_Law_scan 16 = .ok (.iconst 2, 1) := by decide +kernel
theorem d_Law_scan_17 : decode b_Law_scan 17 = .ok (.ireturn, 1) := by decide +kernel
theorem d_Law_scan_18 : decode b_Law_scan 18 = .ok (.iconst 0, 1) := by decide +kernel
theorem d_Law_scan_19 : decode b_Law_scan 19 = .ok (.ireturn, 1) := by decide +kernel
theorem kc_scan : Cond.codeWith ⟨"PromotionTillLaw", "scan", "(LPromotionTill;I[J)I"⟩ method_7_code 4 (Option.some FieldType.int) [(0, 9, 12, 13), (0, 9, 15, 33)] ∈ gw_T := gw_a2 165 rfl rfl
abbrev b_Law_unscan : ByteArray := method_8_code
def y_Law_unscan : MethodName := ⟨"PromotionTillLaw", "unscan", "(LPromotionTill;I[J)I"⟩
theorem d_Law_unscan_0 : decode b_Law_unscan 0 = .ok (.aload_n 2, 1) := by decide +kernel
theorem d_Law_unscan_1 : decode b_Law_unscan 1 = .ok (.iconst 0, 1) := by decide +kernel
theorem d_Law_unscan_2 : decode b_Law_unscan 2 = .ok (.aload_n 0, 1) := by decide +kernel
theorem d_Law_unscan_3 : decode b_Law_unscan 3 = .ok (.iload_n 1, 1) := by decide +kernel
theorem d_Law_unscan_4 : decode b_Law_unscan 4 = .ok (.invokevirtual 35, 3) := by decide +kernel
theorem d_Law_unscan_7 : decode b_Law_unscan 7 = .ok (.i2l, 1) := by decide +kernel
theorem d_Law_unscan_8 : decode b_Law_unscan 8 = .ok (.lastore, 1) := by decide +kernel
theorem d_Law_unscan_9 : decode b_Law_unscan 9 = .ok (.goto 6, 3) := by decide +kernel
theorem d_Law_unscan_12 : decode b_Law_unscan 12 = .ok (.astore_n 3, 1) := by decide +kernel
theorem d_Law_unscan_13 : decode b_Law_unscan 13 = .ok (.iconst 1, 1) := by decide +kernel
theorem d_Law_unscan_14 : decode b_Law_unscan 14 = .ok (.ireturn, 1) := by decide +kernel
theorem d_Law_unscan_15 : decode b_Law_unscan 15 = .ok (.iconst 0, 1) := by decide +kernel
theorem d_Law_unscan_16 : decode b_Law_unscan 16 = .ok (.ireturn, 1) := by decide +kernel
theorem kc_unscan : Cond.codeWith ⟨"PromotionTillLaw", "unscan", "(LPromotionTill;I[J)I"⟩ method_8_code 4 (Option.some FieldType.int) [(0, 9, 12, 38)] ∈ gw_T := gw_a2 222 rfl rfl
abbrev b_Law_total : ByteArray := method_9_code
def y_Law_total : MethodName := ⟨"PromotionTillLaw", "total", "(LPromotionTill;I[J)I"⟩
theorem d_Law_total_0 : decode b_Law_total 0 = .ok (.aload_n 2, 1) := by decide +kernel
theorem d_Law_total_1 : decode b_Law_total 1 = .ok (.iconst 0, 1) := by decide +kernel
theorem d_Law_total_2 : decode b_Law_total 2 = .ok (.aload_n 0, 1) := by decide +kernel
theorem d_Law_total_3 : decode b_Law_total 3 = .ok (.iload_n 1, 1) := by decide +kernel
theorem d_Law_total_4 : decode b_Law_total 4 = .ok (.invokevirtual 40, 3) := by decide +kernel
theorem d_Law_total_7 : decode b_Law_total 7 = .ok (.i2l, 1) := by decide +kernel
theorem d_Law_total_8 : decode b_Law_total 8 = .ok (.lastore, 1) := by decide +kernel
theorem d_Law_total_9 : decode b_Law_total 9 = .ok (.goto 6, 3) := by decide +kernel
theorem d_Law_total_12 : decode b_Law_total 12 = .ok (.astore_n 3, 1) := by decide +kernel
theorem d_Law_total_13 : decode b_Law_total 13 = .ok (.iconst 1, 1) := by decide +kernel
theorem d_Law_total_14 : decode b_Law_total 14 = .ok (.ireturn, 1) := by decide +kernel
theorem d_Law_total_15 : decode b_Law_total 15 = .ok (.iconst 0, 1) := by decide +kernel
theorem d_Law_total_16 : decode b_Law_total 16 = .ok (.ireturn, 1) := by decide +kernel
theorem kc_total : Cond.codeWith ⟨"PromotionTillLaw", "total", "(LPromotionTill;I[J)I"⟩ method_9_code 4 (Option.some FieldType.int) [(0, 9, 12, 13)] ∈ gw_T := gw_a3 9 rfl rfl
abbrev b_Law_unit : ByteArray := method_10_code
def y_Law_unit : MethodName := ⟨"PromotionTillLaw", "unit", "(LPromotionTill;II[J)I"⟩
theorem d_Law_unit_0 : decode b_Law_unit 0 = .ok (.aload_n 3, 1) := by decide +kernel
theorem d_Law_unit_1 : decode b_Law_unit 1 = .ok (.iconst 0, 1) := by decide +kernel
theorem d_Law_unit_2 : decode b_Law_unit 2 = .ok (.aload_n 0, 1) := by decide +kernel
theorem d_Law_unit_3 : decode b_Law_unit 3 = .ok (.iload_n 1, 1) := by decide +kernel
theorem d_Law_unit_4 : decode b_Law_unit 4 = .ok (.iload_n 2, 1) := by decide +kernel
theorem d_Law_unit_5 : decode b_Law_unit 5 = .ok (.invokevirtual 43, 3) := by decide +kernel
theorem d_Law_unit_8 : decode b_Law_unit 8 = .ok (.i2l, 1) := by decide +kernel
theorem d_Law_unit_9 : decode b_Law_unit 9 = .ok (.lastore, 1) := by decide +kernel
theorem d_Law_unit_10 : decode b_Law_unit 10 = .ok (.goto 11, 3) := by decide +kernel
theorem d_Law_unit_13 : decode b_Law_unit 13 = .ok (.astore 4, 2) := by decide +kernel
theorem d_Law_unit_15 : decode b_Law_unit 15 = .ok (.iconst 1, 1) := by decide +kernel
theorem d_Law_unit_16 : decode b_Law_unit 16 = .ok (.ireturn, 1) := by decide +kernel
theorem d_Law_unit_17 : decode b_Law_unit 17 = .ok (.astore 4, 2) := by decide +kernel
theorem d_Law_unit_19 : decode b_Law_unit 19 = .ok (.iconst 2, 1) := by decide +kernel
theorem d_Law_unit_20 : decode b_Law_unit 20 = .ok (.ireturn, 1) := by decide +kernel
theorem d_Law_unit_21 : decode b_Law_unit 21 = .ok (.iconst 0, 1) := by decide +kernel
theorem d_Law_unit_22 : decode b_Law_unit 22 = .ok (.ireturn, 1) := by decide +kernel
theorem kc_unit : Cond.codeWith ⟨"PromotionTillLaw", "unit", "(LPromotionTill;II[J)I"⟩ method_10_code 5 (Option.some FieldType.int) [(0, 10, 13, 38), (0, 10, 17, 13)] ∈ gw_T := gw_a3 177 rfl rfl
abbrev b_Law_tax : ByteArray := method_11_code
def y_Law_tax : MethodName := ⟨"PromotionTillLaw", "tax", "(LPromotionTill;I[J)I"⟩
theorem d_Law_tax_0 : decode b_Law_tax 0 = .ok (.aload_n 2, 1) := by decide +kernel
theorem d_Law_tax_1 : decode b_Law_tax 1 = .ok (.iconst 0, 1) := by decide +kernel
theorem d_Law_tax_2 : decode b_Law_tax 2 = .ok (.aload_n 0, 1) := by decide +kernel
theorem d_Law_tax_3 : decode b_Law_tax 3 = .ok (.iload_n 1, 1) := by decide +kernel
theorem d_Law_tax_4 : decode b_Law_tax 4 = .ok (.invokevirtual 47, 3) := by decide +kernel
theorem d_Law_tax_7 : decode b_Law_tax 7 = .ok (.i2l, 1) := by decide +kernel
theorem d_Law_tax_8 : decode b_Law_tax 8 = .ok (.lastore, 1) := by decide +kernel
theorem d_Law_tax_9 : decode b_Law_tax 9 = .ok (.goto 6, 3) := by decide +kernel
theorem d_Law_tax_12 : decode b_Law_tax 12 = .ok (.astore_n 3, 1) := by decide +kernel
theorem d_Law_tax_13 : decode b_Law_tax 13 = .ok (.iconst 1, 1) := by decide +kernel
theorem d_Law_tax_14 : decode b_Law_tax 14 = .ok (.ireturn, 1) := by decide +kernel
theorem d_Law_tax_15 : decode b_Law_tax 15 = .ok (.iconst 0, 1) := by decide +kernel
theorem d_Law_tax_16 : decode b_Law_tax 16 = .ok (.ireturn, 1) := by decide +kernel
theorem kc_tax : Cond.codeWith ⟨"PromotionTillLaw", "tax", "(LPromotionTill;I[J)I"⟩ method_11_code 4 (Option.some FieldType.int) [(0, 9, 12, 13)] ∈ gw_T := gw_a3 184 rfl rfl
abbrev b_Law_tryOffer : ByteArray := method_12_code
def y_Law_tryOffer : MethodName := ⟨"PromotionTillLaw", "tryOffer", "(LPromotionTill;I[J)I"⟩
theorem d_Law_tryOffer_0 : decode b_Law_tryOffer 0 = .ok (.aload_n 2, 1) := by decide +kernel
theorem d_Law_tryOffer_1 : decode b_Law_tryOffer 1 = .ok (.iconst 0, 1) := by decide +kernel
theorem d_Law_tryOffer_2 : decode b_Law_tryOffer 2 = .ok (.aload_n 0, 1) := by decide +kernel
theorem d_Law_tryOffer_3 : decode b_Law_tryOffer 3 = .ok (.iload_n 1, 1) := by decide +kernel
theorem d_Law_tryOffer_4 : decode b_Law_tryOffer 4 = .ok (.invokevirtual 50, 3) := by decide +kernel
theorem d_Law_tryOffer_7 : decode b_Law_tryOffer 7 = .ok (.i2l, 1) := by decide +kernel
theorem d_Law_tryOffer_8 : decode b_Law_tryOffer 8 = .ok (.lastore, 1) := by decide +kernel
theorem d_Law_tryOffer_9 : decode b_Law_tryOffer 9 = .ok (.goto 9, 3) := by decide +kernel
theorem d_Law_tryOffer_12 : decode b_Law_tryOffer 12 = .ok (.astore_n 3, 1) := by decide +kernel
theorem d_Law_tryOffer_13 : decode b_Law_tryOffer 13 = .ok (.iconst 1, 1) := by decide +kernel
theorem d_Law_tryOffer_14 : decode b_Law_tryOffer 14 = .ok (.ireturn, 1) := by decide +kernel
theorem d_Law_tryOffer_15 : decode b_Law_tryOffer 15 = .ok (.astore_n 3, 1) := by decide +kernel
theorem d_Law_tryOffer_16 : decode b_Law_tryOffer 16 = .ok (.iconst 2, 1) := by decide +kernel
theorem d_Law_tryOffer_17 : decode b_Law_tryOffer 17 = .ok (.ireturn, 1) := by decide +kernel
theorem d_Law_tryOffer_18 : decode b_Law_tryOffer 18 = .ok (.iconst 0, 1) := by decide +kernel
theorem d_Law_tryOffer_19 : decode b_Law_tryOffer 19 = .ok (.ireturn, 1) := by decide +kernel
theorem kc_tryOffer : Cond.codeWith ⟨"PromotionTillLaw", "tryOffer", "(LPromotionTill;I[J)I"⟩ method_12_code 4 (Option.some FieldType.int) [(0, 9, 12, 13), (0, 9, 15, 33)] ∈ gw_T := gw_a3 191 rfl rfl
abbrev b_Law_finish : ByteArray := method_13_code
def y_Law_finish : MethodName := ⟨"PromotionTillLaw", "finish", "(LPromotionTill;I[J)I"⟩
theorem d_Law_finish_0 : decode b_Law_finish 0 = .ok (.aload_n 2, 1) := by decide +kernel
theorem d_Law_finish_1 : decode b_Law_finish 1 = .ok (.iconst 0, 1) := by decide +kernel
theorem d_Law_finish_2 : decode b_Law_finish 2 = .ok (.aload_n 0, 1) := by decide +kernel
theorem d_Law_finish_3 : decode b_Law_finish 3 = .ok (.iload_n 1, 1) := by decide +kernel
theorem d_Law_finish_4 : decode b_Law_finish 4 = .ok (.invokevirtual 53, 3) := by decide +kernel
theorem d_Law_finish_7 : decode b_Law_finish 7 = .ok (.i2l, 1) := by decide +kernel
theorem d_Law_finish_8 : decode b_Law_finish 8 = .ok (.lastore, 1) := by decide +kernel
theorem d_Law_finish_9 : decode b_Law_finish 9 = .ok (.goto 12, 3) := by decide +kernel
theorem d_Law_finish_12 : decode b_Law_finish 12 = .ok (.astore_n 3, 1) := by decide +kernel
theorem d_Law_finish_13 : decode b_Law_finish 13 = .ok (.iconst 1, 1) := by decide +kernel
theorem d_Law_finish_14 : decode b_Law_finish 14 = .ok (.ireturn, 1) := by decide +kernel
theorem d_Law_finish_15 : decode b_Law_finish 15 = .ok (.astore_n 3, 1) := by decide +kernel
theorem d_Law_finish_16 : decode b_Law_finish 16 = .ok (.iconst 2, 1) := by decide +kernel
theorem d_Law_finish_17 : decode b_Law_finish 17 = .ok (.ireturn, 1) := by decide +kernel
theorem d_Law_finish_18 : decode b_Law_finish 18 = .ok (.astore_n 3, 1) := by decide +kernel
theorem d_Law_finish_19 : decode b_Law_finish 19 = .ok (.iconst 3, 1) := by decide +kernel
theorem d_Law_finish_20 : decode b_Law_finish 20 = .ok (.ireturn, 1) := by decide +kernel
theorem d_Law_finish_21 : decode b_Law_finish 21 = .ok (.iconst 0, 1) := by decide +kernel
theorem d_Law_finish_22 : decode b_Law_finish 22 = .ok (.ireturn, 1) := by decide +kernel
theorem kc_finish : Cond.codeWith ⟨"PromotionTillLaw", "finish", "(LPromotionTill;I[J)I"⟩ method_13_code 4 (Option.some FieldType.int) [(0, 9, 12, 15), (0, 9, 15, 13), (0, 9, 18, 33)] ∈ gw_T := gw_a3 204 rfl rfl
abbrev b_Law_giveBack : ByteArray := method_14_code
def y_Law_giveBack : MethodName := ⟨"PromotionTillLaw", "giveBack", "(LPromotionTill;II[J)I"⟩
theorem d_Law_giveBack_0 : decode b_Law_giveBack 0 = .ok (.aload_n 3, 1) := by decide +kernel
theorem d_Law_giveBack_1 : decode b_Law_giveBack 1 = .ok (.iconst 0, 1) := by decide +kernel
theorem d_Law_giveBack_2 : decode b_Law_giveBack 2 = .ok (.aload_n 0, 1) := by decide +kernel
theorem d_Law_giveBack_3 : decode b_Law_giveBack 3 = .ok (.iload_n 1, 1) := by decide +kernel
theorem d_Law_giveBack_4 : decode b_Law_giveBack 4 = .ok (.iload_n 2, 1) := by decide +kernel
theorem d_Law_giveBack_5 : decode b_Law_giveBack 5 = .ok (.invokevirtual 56, 3) := by decide +kernel
theorem d_Law_giveBack_8 : decode b_Law_giveBack 8 = .ok (.i2l, 1) := by decide +kernel
theorem d_Law_giveBack_9 : decode b_Law_giveBack 9 = .ok (.lastore, 1) := by decide +kernel
theorem d_Law_giveBack_10 : decode b_Law_giveBack 10 = .ok (.goto 11, 3) := by decide +kernel
theorem d_Law_giveBack_13 : decode b_Law_giveBack 13 = .ok (.astore 4, 2) := by decide +kernel
theorem d_Law_giveBack_15 : decode b_Law_giveBack 15 = .ok (.iconst 1, 1) := by decide +kernel
theorem d_Law_giveBack_16 : decode b_Law_giveBack 16 = .ok (.ireturn, 1) := by decide +kernel
theorem d_Law_giveBack_17 : decode b_Law_giveBack 17 = .ok (.astore 4, 2) := by decide +kernel
theorem d_Law_giveBack_19 : decode b_Law_giveBack 19 = .ok (.iconst 2, 1) := by decide +kernel
theorem d_Law_giveBack_20 : decode b_Law_giveBack 20 = .ok (.ireturn, 1) := by decide +kernel
theorem d_Law_giveBack_21 : decode b_Law_giveBack 21 = .ok (.iconst 0, 1) := by decide +kernel
theorem d_Law_giveBack_22 : decode b_Law_giveBack 22 = .ok (.ireturn, 1) := by decide +kernel
theorem kc_giveBack : Cond.codeWith ⟨"PromotionTillLaw", "giveBack", "(LPromotionTill;II[J)I"⟩ method_14_code 5 (Option.some FieldType.int) [(0, 10, 13, 38), (0, 10, 17, 15)] ∈ gw_T := gw_a4 85 rfl rfl
abbrev b_Law_receipt : ByteArray := method_15_code
def y_Law_receipt : MethodName := ⟨"PromotionTillLaw", "receipt", "(LPromotionTill;II[J)I"⟩
theorem d_Law_receipt_0 : decode b_Law_receipt 0 = .ok (.aload_n 3, 1) := by decide +kernel
theorem d_Law_receipt_1 : decode b_Law_receipt 1 = .ok (.iconst 0, 1) := by decide +kernel
theorem d_Law_receipt_2 : decode b_Law_receipt 2 = .ok (.aload_n 0, 1) := by decide +kernel
theorem d_Law_receipt_3 : decode b_Law_receipt 3 = .ok (.iload_n 1, 1) := by decide +kernel
theorem d_Law_receipt_4 : decode b_Law_receipt 4 = .ok (.iload_n 2, 1) := by decide +kernel
theorem d_Law_receipt_5 : decode b_Law_receipt 5 = .ok (.invokevirtual 59, 3) := by decide +kernel
theorem d_Law_receipt_8 : decode b_Law_receipt 8 = .ok (.i2l, 1) := by decide +kernel
theorem d_Law_receipt_9 : decode b_Law_receipt 9 = .ok (.lastore, 1) := by decide +kernel
theorem d_Law_receipt_10 : decode b_Law_receipt 10 = .ok (.goto 11, 3) := by decide +kernel
theorem d_Law_receipt_13 : decode b_Law_receipt 13 = .ok (.astore 4, 2) := by decide +kernel
theorem d_Law_receipt_15 : decode b_Law_receipt 15 = .ok (.iconst 1, 1) := by decide +kernel
theorem d_Law_receipt_16 : decode b_Law_receipt 16 = .ok (.ireturn, 1) := by decide +kernel
theorem d_Law_receipt_17 : decode b_Law_receipt 17 = .ok (.astore 4, 2) := by decide +kernel
theorem d_Law_receipt_19 : decode b_Law_receipt 19 = .ok (.iconst 2, 1) := by decide +kernel
theorem d_Law_receipt_20 : decode b_Law_receipt 20 = .ok (.ireturn, 1) := by decide +kernel
theorem d_Law_receipt_21 : decode b_Law_receipt 21 = .ok (.iconst 0, 1) := by decide +kernel
theorem d_Law_receipt_22 : decode b_Law_receipt 22 = .ok (.ireturn, 1) := by decide +kernel
theorem kc_receipt : Cond.codeWith ⟨"PromotionTillLaw", "receipt", "(LPromotionTill;II[J)I"⟩ method_15_code 5 (Option.some FieldType.int) [(0, 10, 13, 13), (0, 10, 17, 38)] ∈ gw_T := gw_a4 120 rfl rfl
abbrev b_Law_line : ByteArray := method_16_code
def y_Law_line : MethodName := ⟨"PromotionTillLaw", "line", "(LPromotionTill;III[J)I"⟩
theorem d_Law_line_0 : decode b_Law_line 0 = .ok (.aload 4, 2) := by decide +kernel
theorem d_Law_line_2 : decode b_Law_line 2 = .ok (.iconst 0, 1) := by decide +kernel
theorem d_Law_line_3 : decode b_Law_line 3 = .ok (.aload_n 0, 1) := by decide +kernel
theorem d_Law_line_4 : decode b_Law_line 4 = .ok (.iload_n 1, 1) := by decide +kernel
theorem d_Law_line_5 : decode b_Law_line 5 = .ok (.iload_n 2, 1) := by decide +kernel
theorem d_Law_line_6 : decode b_Law_line 6 = .ok (.iload_n 3, 1) := by decide +kernel
theorem d_Law_line_7 : decode b_Law_line 7 = .ok (.invokevirtual 62, 3) := by decide +kernel
theorem d_Law_line_10 : decode b_Law_line 10 = .ok (.i2l, 1) := by decide +kernel
theorem d_Law_line_11 : decode b_Law_line 11 = .ok (.lastore, 1) := by decide +kernel
theorem d_Law_line_12 : decode b_Law_line 12 = .ok (.goto 11, 3) := by decide +kernel
theorem d_Law_line_15 : decode b_Law_line 15 = .ok (.astore 5, 2) := by decide +kernel
theorem d_Law_line_17 : decode b_Law_line 17 = .ok (.iconst 1, 1) := by decide +kernel
theorem d_Law_line_18 : decode b_Law_line 18 = .ok (.ireturn, 1) := by decide +kernel
theorem d_Law_line_19 : decode b_Law_line 19 = .ok (.astore 5, 2) := by decide +kernel
theorem d_Law_line_21 : decode b_Law_line 21 = .ok (.iconst 2, 1) := by decide +kernel
theorem d_Law_line_22 : decode b_Law_line 22 = .ok (.ireturn, 1) := by decide +kernel
theorem d_Law_line_23 : decode b_Law_line 23 = .ok (.iconst 0, 1) := by decide +kernel
theorem d_Law_line_24 : decode b_Law_line 24 = .ok (.ireturn, 1) := by decide +kernel
theorem kc_line : Cond.codeWith ⟨"PromotionTillLaw", "line", "(LPromotionTill;III[J)I"⟩ method_16_code 6 (Option.some FieldType.int) [(0, 12, 15, 38), (0, 12, 19, 13)] ∈ gw_T := gw_a4 131 rfl rfl
theorem d_law_0 : decode code 0 = .ok (.new 8, 3) := by decide +kernel
theorem d_law_3 : decode code 3 = .ok (.dup, 1) := by decide +kernel
theorem d_law_4 : decode code 4 = .ok (.invokespecial 66, 3) := by decide +kernel
theorem d_law_7 : decode code 7 = .ok (.astore_n 1, 1) := by decide +kernel
theorem d_law_8 : decode code 8 = .ok (.new 67, 3) := by decide +kernel
theorem d_law_11 : decode code 11 = .ok (.dup, 1) := by decide +kernel
theorem d_law_12 : decode code 12 = .ok (.invokespecial 69, 3) := by decide +kernel
theorem d_law_15 : decode code 15 = .ok (.astore_n 2, 1) := by decide +kernel
theorem d_law_16 : decode code 16 = .ok (.iconst 1, 1) := by decide +kernel
theorem d_law_17 : decode code 17 = .ok (.newarray .long, 2) := by decide +kernel
theorem d_law_19 : decode code 19 = .ok (.astore_n 3, 1) := by decide +kernel
theorem d_law_20 : decode code 20 = .ok (.iconst 0, 1) := by decide +kernel
theorem d_law_21 : decode code 21 = .ok (.istore 4, 2) := by decide +kernel
theorem d_law_23 : decode code 23 = .ok (.iload 4, 2) := by decide +kernel
theorem d_law_25 : decode code 25 = .ok (.aload_n 0, 1) := by decide +kernel
theorem d_law_26 : decode code 26 = .ok (.arraylength, 1) := by decide +kernel
theorem d_law_27 : decode code 27 = .ok (.bipush 6, 2) := by decide +kernel
theorem d_law_29 : decode code 29 = .ok (.isub, 1) := by decide +kernel
theorem d_law_30 : decode code 30 = .ok (.if_icmp .gt 1004, 3) := by decide +kernel
theorem d_law_33 : decode code 33 = .ok (.aload_n 0, 1) := by decide +kernel
theorem d_law_34 : decode code 34 = .ok (.iload 4, 2) := by decide +kernel
theorem d_law_36 : decode code 36 = .ok (.iaload, 1) := by decide +kernel
theorem d_law_37 : decode code 37 = .ok (.bipush 15, 2) := by decide +kernel
theorem d_law_39 : decode code 39 = .ok (.iand, 1) := by decide +kernel
theorem d_law_40 : decode code 40 = .ok (.tableswitch 988 0 13 #[72, 132, 216, 304, 368, 424, 480, 536, 604, 660, 716, 772, 840, 908], 72) := by decide +kernel
theorem d_law_112 : decode code 112 = .ok (.aload_n 1, 1) := by decide +kernel
theorem d_law_113 : decode code 113 = .ok (.aload_n 0, 1) := by decide +kernel
theorem d_law_114 : decode code 114 = .ok (.iload 4, 2) := by decide +kernel
theorem d_law_116 : decode code 116 = .ok (.iconst 1, 1) := by decide +kernel
theorem d_law_117 : decode code 117 = .ok (.iadd, 1) := by decide +kernel
theorem d_law_118 : decode code 118 = .ok (.iaload, 1) := by decide +kernel
theorem d_law_119 : decode code 119 = .ok (.aload_n 0, 1) := by decide +kernel
theorem d_law_120 : decode code 120 = .ok (.iload 4, 2) := by decide +kernel
theorem d_law_122 : decode code 122 = .ok (.iconst 2, 1) := by decide +kernel
theorem d_law_123 : decode code 123 = .ok (.iadd, 1) := by decide +kernel
theorem d_law_124 : decode code 124 = .ok (.iaload, 1) := by decide +kernel
theorem d_law_125 : decode code 125 = .ok (.aload_n 0, 1) := by decide +kernel
theorem d_law_126 : decode code 126 = .ok (.iload 4, 2) := by decide +kernel
theorem d_law_128 : decode code 128 = .ok (.iconst 3, 1) := by decide +kernel
theorem d_law_129 : decode code 129 = .ok (.iadd, 1) := by decide +kernel
theorem d_law_130 : decode code 130 = .ok (.iaload, 1) := by decide +kernel
theorem d_law_131 : decode code 131 = .ok (.invokestatic 70, 3) := by decide +kernel
theorem d_law_134 : decode code 134 = .ok (.istore 5, 2) := by decide +kernel
theorem d_law_136 : decode code 136 = .ok (.aload_n 2, 1) := by decide +kernel
theorem d_law_137 : decode code 137 = .ok (.aload_n 0, 1) := by decide +kernel
theorem d_law_138 : decode code 138 = .ok (.iload 4, 2) := by decide +kernel
theorem d_law_140 : decode code 140 = .ok (.iconst 1, 1) := by decide +kernel
theorem d_law_141 : decode code 141 = .ok (.iadd, 1) := by decide +kernel
theorem d_law_142 : decode code 142 = .ok (.iaload, 1) := by decide +kernel
theorem d_law_143 : decode code 143 = .ok (.aload_n 0, 1) := by decide +kernel
theorem d_law_144 : decode code 144 = .ok (.iload 4, 2) := by decide +kernel
theorem d_law_146 : decode code 146 = .ok (.iconst 2, 1) := by decide +kernel
theorem d_law_147 : decode code 147 = .ok (.iadd, 1) := by decide +kernel
theorem d_law_148 : decode code 148 = .ok (.iaload, 1) := by decide +kernel
theorem d_law_149 : decode code 149 = .ok (.aload_n 0, 1) := by decide +kernel
theorem d_law_150 : decode code 150 = .ok (.iload 4, 2) := by decide +kernel
theorem d_law_152 : decode code 152 = .ok (.iconst 3, 1) := by decide +kernel
theorem d_law_153 : decode code 153 = .ok (.iadd, 1) := by decide +kernel
theorem d_law_154 : decode code 154 = .ok (.iaload, 1) := by decide +kernel
theorem d_law_155 : decode code 155 = .ok (.invokevirtual 75, 3) := by decide +kernel
theorem d_law_158 : decode code 158 = .ok (.aload_n 2, 1) := by decide +kernel
theorem d_law_159 : decode code 159 = .ok (.invokevirtual 76, 3) := by decide +kernel
theorem d_law_162 : decode code 162 = .ok (.iload 5, 2) := by decide +kernel
theorem d_law_164 : decode code 164 = .ok (.if_icmp .eq 5, 3) := by decide +kernel
theorem d_law_167 : decode code 167 = .ok (.iconst 0, 1) := by decide +kernel
theorem d_law_168 : decode code 168 = .ok (.ireturn, 1) := by decide +kernel
theorem d_law_169 : decode code 169 = .ok (.goto 859, 3) := by decide +kernel
theorem d_law_172 : decode code 172 = .ok (.aload_n 1, 1) := by decide +kernel
theorem d_law_173 : decode code 173 = .ok (.aload_n 0, 1) := by decide +kernel
theorem d_law_174 : decode code 174 = .ok (.iload 4, 2) := by decide +kernel
theorem d_law_176 : decode code 176 = .ok (.iconst 1, 1) := by decide +kernel
theorem d_law_177 : decode code 177 = .ok (.iadd, 1) := by decide +kernel
theorem d_law_178 : decode code 178 = .ok (.iaload, 1) := by decide +kernel
theorem d_law_179 : decode code 179 = .ok (.aload_n 0, 1) := by decide +kernel
theorem d_law_180 : decode code 180 = .ok (.iload 4, 2) := by decide +kernel
theorem d_law_182 : decode code 182 = .ok (.iconst 2, 1) := by decide +kernel
theorem d_law_183 : decode code 183 = .ok (.iadd, 1) := by decide +kernel
theorem d_law_184 : decode code 184 = .ok (.iaload, 1) := by decide +kernel
theorem d_law_185 : decode code 185 = .ok (.aload_n 0, 1) := by decide +kernel
theorem d_law_186 : decode code 186 = .ok (.iload 4, 2) := by decide +kernel
theorem d_law_188 : decode code 188 = .ok (.iconst 3, 1) := by decide +kernel
theorem d_law_189 : decode code 189 = .ok (.iadd, 1) := by decide +kernel
theorem d_law_190 : decode code 190 = .ok (.iaload, 1) := by decide +kernel
theorem d_law_191 : decode code 191 = .ok (.aload_n 0, 1) := by decide +kernel
theorem d_law_192 : decode code 192 = .ok (.iload 4, 2) := by decide +kernel
theorem d_law_194 : decode code 194 = .ok (.iconst 4, 1) := by decide +kernel
theorem d_law_195 : decode code 195 = .ok (.iadd, 1) := by decide +kernel
theorem d_law_196 : decode code 196 = .ok (.iaload, 1) := by decide +kernel
theorem d_law_197 : decode code 197 = .ok (.aload_n 0, 1) := by decide +kernel
theorem d_law_198 : decode code 198 = .ok (.iload 4, 2) := by decide +kernel
theorem d_law_200 : decode code 200 = .ok (.iconst 5, 1) := by decide +kernel
theorem d_law_201 : decode code 201 = .ok (.iadd, 1) := by decide +kernel
theorem d_law_202 : decode code 202 = .ok (.iaload, 1) := by decide +kernel
theorem d_law_203 : decode code 203 = .ok (.invokestatic 80, 3) := by decide +kernel
theorem d_law_206 : decode code 206 = .ok (.istore 5, 2) := by decide +kernel
theorem d_law_208 : decode code 208 = .ok (.aload_n 2, 1) := by decide +kernel
theorem d_law_209 : decode code 209 = .ok (.aload_n 0, 1) := by decide +kernel
theorem d_law_210 : decode code 210 = .ok (.iload 4, 2) := by decide +kernel
theorem d_law_212 : decode code 212 = .ok (.iconst 1, 1) := by decide +kernel
theorem d_law_213 : decode code 213 = .ok (.iadd, 1) := by decide +kernel
theorem d_law_214 : decode code 214 = .ok (.iaload, 1) := by decide +kernel
theorem d_law_215 : decode code 215 = .ok (.aload_n 0, 1) := by decide +kernel
theorem d_law_216 : decode code 216 = .ok (.iload 4, 2) := by decide +kernel
theorem d_law_218 : decode code 218 = .ok (.iconst 2, 1) := by decide +kernel
theorem d_law_219 : decode code 219 = .ok (.iadd, 1) := by decide +kernel
theorem d_law_220 : decode code 220 = .ok (.iaload, 1) := by decide +kernel
theorem d_law_221 : decode code 221 = .ok (.aload_n 0, 1) := by decide +kernel
theorem d_law_222 : decode code 222 = .ok (.iload 4, 2) := by decide +kernel
theorem d_law_224 : decode code 224 = .ok (.iconst 3, 1) := by decide +kernel
theorem d_law_225 : decode code 225 = .ok (.iadd, 1) := by decide +kernel
theorem d_law_226 : decode code 226 = .ok (.iaload, 1) := by decide +kernel
theorem d_law_227 : decode code 227 = .ok (.aload_n 0, 1) := by decide +kernel
theorem d_law_228 : decode code 228 = .ok (.iload 4, 2) := by decide +kernel
theorem d_law_230 : decode code 230 = .ok (.iconst 4, 1) := by decide +kernel
theorem d_law_231 : decode code 231 = .ok (.iadd, 1) := by decide +kernel
theorem d_law_232 : decode code 232 = .ok (.iaload, 1) := by decide +kernel
theorem d_law_233 : decode code 233 = .ok (.aload_n 0, 1) := by decide +kernel
theorem d_law_234 : decode code 234 = .ok (.iload 4, 2) := by decide +kernel
theorem d_law_236 : decode code 236 = .ok (.iconst 5, 1) := by decide +kernel
theorem d_law_237 : decode code 237 = .ok (.iadd, 1) := by decide +kernel
theorem d_law_238 : decode code 238 = .ok (.iaload, 1) := by decide +kernel
theorem d_law_239 : decode code 239 = .ok (.invokevirtual 83, 3) := by decide +kernel
theorem d_law_242 : decode code 242 = .ok (.aload_n 2, 1) := by decide +kernel
theorem d_law_243 : decode code 243 = .ok (.invokevirtual 76, 3) := by decide +kernel
theorem d_law_246 : decode code 246 = .ok (.iload 5, 2) := by decide +kernel
theorem d_law_248 : decode code 248 = .ok (.if_icmp .eq 5, 3) := by decide +kernel
theorem d_law_251 : decode code 251 = .ok (.iconst 0, 1) := by decide +kernel
theorem d_law_252 : decode code 252 = .ok (.ireturn, 1) := by decide +kernel
theorem d_law_253 : decode code 253 = .ok (.goto 775, 3) := by decide +kernel
theorem d_law_256 : decode code 256 = .ok (.aload_n 1, 1) := by decide +kernel
theorem d_law_257 : decode code 257 = .ok (.aload_n 0, 1) := by decide +kernel
theorem d_law_258 : decode code 258 = .ok (.iload 4, 2) := by decide +kernel
theorem d_law_260 : decode code 260 = .ok (.iconst 1, 1) := by decide +kernel
theorem d_law_261 : decode code 261 = .ok (.iadd, 1) := by decide +kernel
theorem d_law_262 : decode code 262 = .ok (.iaload, 1) := by decide +kernel
theorem d_law_263 : decode code 263 = .ok (.aload_n 0, 1) := by decide +kernel
theorem d_law_264 : decode code 264 = .ok (.iload 4, 2) := by decide +kernel
theorem d_law_266 : decode code 266 = .ok (.iconst 2, 1) := by decide +kernel
theorem d_law_267 : decode code 267 = .ok (.iadd, 1) := by decide +kernel
theorem d_law_268 : decode code 268 = .ok (.iaload, 1) := by decide +kernel
theorem d_law_269 : decode code 269 = .ok (.aload_n 0, 1) := by decide +kernel
theorem d_law_270 : decode code 270 = .ok (.iload 4, 2) := by decide +kernel
theorem d_law_272 : decode code 272 = .ok (.iconst 3, 1) := by decide +kernel
theorem d_law_273 : decode code 273 = .ok (.iadd, 1) := by decide +kernel
theorem d_law_274 : decode code 274 = .ok (.iaload, 1) := by decide +kernel
theorem d_law_275 : decode code 275 = .ok (.aload_n 0, 1) := by decide +kernel
theorem d_law_276 : decode code 276 = .ok (.iload 4, 2) := by decide +kernel
theorem d_law_278 : decode code 278 = .ok (.iconst 4, 1) := by decide +kernel
theorem d_law_279 : decode code 279 = .ok (.iadd, 1) := by decide +kernel
theorem d_law_280 : decode code 280 = .ok (.iaload, 1) := by decide +kernel
theorem d_law_281 : decode code 281 = .ok (.ifCond .eq 7, 3) := by decide +kernel
theorem d_law_284 : decode code 284 = .ok (.iconst 1, 1) := by decide +kernel
theorem d_law_285 : decode code 285 = .ok (.goto 4, 3) := by decide +kernel
theorem d_law_288 : decode code 288 = .ok (.iconst 0, 1) := by decide +kernel
theorem d_law_289 : decode code 289 = .ok (.invokestatic 84, 3) := by decide +kernel
theorem d_law_292 : decode code 292 = .ok (.istore 5, 2) := by decide +kernel
theorem d_law_294 : decode code 294 = .ok (.aload_n 2, 1) := by decide +kernel
theorem d_law_295 : decode code 295 = .ok (.aload_n 0, 1) := by decide +kernel
theorem d_law_296 : decode code 296 = .ok (.iload 4, 2) := by decide +kernel
theorem d_law_298 : decode code 298 = .ok (.iconst 1, 1) := by decide +kernel
theorem d_law_299 : decode code 299 = .ok (.iadd, 1) := by decide +kernel
theorem d_law_300 : decode code 300 = .ok (.iaload, 1) := by decide +kernel
theorem d_law_301 : decode code 301 = .ok (.aload_n 0, 1) := by decide +kernel
theorem d_law_302 : decode code 302 = .ok (.iload 4, 2) := by decide +kernel
theorem d_law_304 : decode code 304 = .ok (.iconst 2, 1) := by decide +kernel
theorem d_law_305 : decode code 305 = .ok (.iadd, 1) := by decide +kernel
theorem d_law_306 : decode code 306 = .ok (.iaload, 1) := by decide +kernel
theorem d_law_307 : decode code 307 = .ok (.aload_n 0, 1) := by decide +kernel
theorem d_law_308 : decode code 308 = .ok (.iload 4, 2) := by decide +kernel
theorem d_law_310 : decode code 310 = .ok (.iconst 3, 1) := by decide +kernel
theorem d_law_311 : decode code 311 = .ok (.iadd, 1) := by decide +kernel
theorem d_law_312 : decode code 312 = .ok (.iaload, 1) := by decide +kernel
theorem d_law_313 : decode code 313 = .ok (.aload_n 0, 1) := by decide +kernel
theorem d_law_314 : decode code 314 = .ok (.iload 4, 2) := by decide +kernel
theorem d_law_316 : decode code 316 = .ok (.iconst 4, 1) := by decide +kernel
theorem d_law_317 : decode code 317 = .ok (.iadd, 1) := by decide +kernel
theorem d_law_318 : decode code 318 = .ok (.iaload, 1) := by decide +kernel
theorem d_law_319 : decode code 319 = .ok (.ifCond .eq 7, 3) := by decide +kernel
theorem d_law_322 : decode code 322 = .ok (.iconst 1, 1) := by decide +kernel
theorem d_law_323 : decode code 323 = .ok (.goto 4, 3) := by decide +kernel
theorem d_law_326 : decode code 326 = .ok (.iconst 0, 1) := by decide +kernel
theorem d_law_327 : decode code 327 = .ok (.invokevirtual 87, 3) := by decide +kernel
theorem d_law_330 : decode code 330 = .ok (.aload_n 2, 1) := by decide +kernel
theorem d_law_331 : decode code 331 = .ok (.invokevirtual 76, 3) := by decide +kernel
theorem d_law_334 : decode code 334 = .ok (.iload 5, 2) := by decide +kernel
theorem d_law_336 : decode code 336 = .ok (.if_icmp .eq 5, 3) := by decide +kernel
theorem d_law_339 : decode code 339 = .ok (.iconst 0, 1) := by decide +kernel
theorem d_law_340 : decode code 340 = .ok (.ireturn, 1) := by decide +kernel
theorem d_law_341 : decode code 341 = .ok (.goto 687, 3) := by decide +kernel
theorem d_law_344 : decode code 344 = .ok (.aload_n 1, 1) := by decide +kernel
theorem d_law_345 : decode code 345 = .ok (.aload_n 0, 1) := by decide +kernel
theorem d_law_346 : decode code 346 = .ok (.iload 4, 2) := by decide +kernel
theorem d_law_348 : decode code 348 = .ok (.iconst 1, 1) := by decide +kernel
theorem d_law_349 : decode code 349 = .ok (.iadd, 1) := by decide +kernel
theorem d_law_350 : decode code 350 = .ok (.iaload, 1) := by decide +kernel
theorem d_law_351 : decode code 351 = .ok (.aload_n 0, 1) := by decide +kernel
theorem d_law_352 : decode code 352 = .ok (.iload 4, 2) := by decide +kernel
theorem d_law_354 : decode code 354 = .ok (.iconst 2, 1) := by decide +kernel
theorem d_law_355 : decode code 355 = .ok (.iadd, 1) := by decide +kernel
theorem d_law_356 : decode code 356 = .ok (.iaload, 1) := by decide +kernel
theorem d_law_357 : decode code 357 = .ok (.ifCond .eq 7, 3) := by decide +kernel
theorem d_law_360 : decode code 360 = .ok (.iconst 1, 1) := by decide +kernel
theorem d_law_361 : decode code 361 = .ok (.goto 4, 3) := by decide +kernel
theorem d_law_364 : decode code 364 = .ok (.iconst 0, 1) := by decide +kernel
theorem d_law_365 : decode code 365 = .ok (.invokestatic 88, 3) := by decide +kernel
theorem d_law_368 : decode code 368 = .ok (.istore 5, 2) := by decide +kernel
theorem d_law_370 : decode code 370 = .ok (.aload_n 2, 1) := by decide +kernel
theorem d_law_371 : decode code 371 = .ok (.aload_n 0, 1) := by decide +kernel
theorem d_law_372 : decode code 372 = .ok (.iload 4, 2) := by decide +kernel
theorem d_law_374 : decode code 374 = .ok (.iconst 1, 1) := by decide +kernel
theorem d_law_375 : decode code 375 = .ok (.iadd, 1) := by decide +kernel
theorem d_law_376 : decode code 376 = .ok (.iaload, 1) := by decide +kernel
theorem d_law_377 : decode code 377 = .ok (.aload_n 0, 1) := by decide +kernel
theorem d_law_378 : decode code 378 = .ok (.iload 4, 2) := by decide +kernel
theorem d_law_380 : decode code 380 = .ok (.iconst 2, 1) := by decide +kernel
theorem d_law_381 : decode code 381 = .ok (.iadd, 1) := by decide +kernel
theorem d_law_382 : decode code 382 = .ok (.iaload, 1) := by decide +kernel
theorem d_law_383 : decode code 383 = .ok (.ifCond .eq 7, 3) := by decide +kernel
theorem d_law_386 : decode code 386 = .ok (.iconst 1, 1) := by decide +kernel
theorem d_law_387 : decode code 387 = .ok (.goto 4, 3) := by decide +kernel
theorem d_law_390 : decode code 390 = .ok (.iconst 0, 1) := by decide +kernel
theorem d_law_391 : decode code 391 = .ok (.invokevirtual 91, 3) := by decide +kernel
theorem d_law_394 : decode code 394 = .ok (.aload_n 2, 1) := by decide +kernel
theorem d_law_395 : decode code 395 = .ok (.invokevirtual 76, 3) := by decide +kernel
theorem d_law_398 : decode code 398 = .ok (.iload 5, 2) := by decide +kernel
theorem d_law_400 : decode code 400 = .ok (.if_icmp .eq 5, 3) := by decide +kernel
theorem d_law_403 : decode code 403 = .ok (.iconst 0, 1) := by decide +kernel
theorem d_law_404 : decode code 404 = .ok (.ireturn, 1) := by decide +kernel
theorem d_law_405 : decode code 405 = .ok (.goto 623, 3) := by decide +kernel
theorem d_law_408 : decode code 408 = .ok (.aload_n 1, 1) := by decide +kernel
theorem d_law_409 : decode code 409 = .ok (.aload_n 0, 1) := by decide +kernel
theorem d_law_410 : decode code 410 = .ok (.iload 4, 2) := by decide +kernel
theorem d_law_412 : decode code 412 = .ok (.iconst 1, 1) := by decide +kernel
theorem d_law_413 : decode code 413 = .ok (.iadd, 1) := by decide +kernel
theorem d_law_414 : decode code 414 = .ok (.iaload, 1) := by decide +kernel
theorem d_law_415 : decode code 415 = .ok (.aload_n 3, 1) := by decide +kernel
theorem d_law_416 : decode code 416 = .ok (.invokestatic 92, 3) := by decide +kernel
theorem d_law_419 : decode code 419 = .ok (.istore 5, 2) := by decide +kernel
theorem d_law_421 : decode code 421 = .ok (.aload_n 2, 1) := by decide +kernel
theorem d_law_422 : decode code 422 = .ok (.aload_n 0, 1) := by decide +kernel
theorem d_law_423 : decode code 423 = .ok (.iload 4, 2) := by decide +kernel
theorem d_law_425 : decode code 425 = .ok (.iconst 1, 1) := by decide +kernel
theorem d_law_426 : decode code 426 = .ok (.iadd, 1) := by decide +kernel
theorem d_law_427 : decode code 427 = .ok (.iaload, 1) := by decide +kernel
theorem d_law_428 : decode code 428 = .ok (.invokevirtual 95, 3) := by decide +kernel
theorem d_law_431 : decode code 431 = .ok (.istore 6, 2) := by decide +kernel
theorem d_law_433 : decode code 433 = .ok (.aload_n 2, 1) := by decide +kernel
theorem d_law_434 : decode code 434 = .ok (.invokevirtual 76, 3) := by decide +kernel
theorem d_law_437 : decode code 437 = .ok (.iload 5, 2) := by decide +kernel
theorem d_law_439 : decode code 439 = .ok (.if_icmp .eq 5, 3) := by decide +kernel
theorem d_law_442 : decode code 442 = .ok (.iconst 0, 1) := by decide +kernel
theorem d_law_443 : decode code 443 = .ok (.ireturn, 1) := by decide +kernel
theorem d_law_444 : decode code 444 = .ok (.iload 5, 2) := by decide +kernel
theorem d_law_446 : decode code 446 = .ok (.ifCond .ne 15, 3) := by decide +kernel
theorem d_law_449 : decode code 449 = .ok (.aload_n 3, 1) := by decide +kernel
theorem d_law_450 : decode code 450 = .ok (.iconst 0, 1) := by decide +kernel
theorem d_law_451 : decode code 451 = .ok (.laload, 1) := by decide +kernel
theorem d_law_452 : decode code 452 = .ok (.iload 6, 2) := by decide +kernel
theorem d_law_454 : decode code 454 = .ok (.i2l, 1) := by decide +kernel
theorem d_law_455 : decode code 455 = .ok (.lcmp, 1) := by decide +kernel
theorem d_law_456 : decode code 456 = .ok (.ifCond .eq 5, 3) := by decide +kernel
theorem d_law_459 : decode code 459 = .ok (.iconst 0, 1) := by decide +kernel
theorem d_law_460 : decode code 460 = .ok (.ireturn, 1) := by decide +kernel
theorem d_law_461 : decode code 461 = .ok (.goto 567, 3) := by decide +kernel
theorem d_law_464 : decode code 464 = .ok (.aload_n 1, 1) := by decide +kernel
theorem d_law_465 : decode code 465 = .ok (.aload_n 0, 1) := by decide +kernel
theorem d_law_466 : decode code 466 = .ok (.iload 4, 2) := by decide +kernel
theorem d_law_468 : decode code 468 = .ok (.iconst 1, 1) := by decide +kernel
theorem d_law_469 : decode code 469 = .ok (.iadd, 1) := by decide +kernel
theorem d_law_470 : decode code 470 = .ok (.iaload, 1) := by decide +kernel
theorem d_law_471 : decode code 471 = .ok (.aload_n 3, 1) := by decide +kernel
theorem d_law_472 : decode code 472 = .ok (.invokestatic 96, 3) := by decide +kernel
theorem d_law_475 : decode code 475 = .ok (.istore 5, 2) := by decide +kernel
theorem d_law_477 : decode code 477 = .ok (.aload_n 2, 1) := by decide +kernel
theorem d_law_478 : decode code 478 = .ok (.aload_n 0, 1) := by decide +kernel
theorem d_law_479 : decode code 479 = .ok (.iload 4, 2) := by decide +kernel
theorem d_law_481 : decode code 481 = .ok (.iconst 1, 1) := by decide +kernel
theorem d_law_482 : decode code 482 = .ok (.iadd, 1) := by decide +kernel
theorem d_law_483 : decode code 483 = .ok (.iaload, 1) := by decide +kernel
theorem d_law_484 : decode code 484 = .ok (.invokevirtual 98, 3) := by decide +kernel
theorem d_law_487 : decode code 487 = .ok (.istore 6, 2) := by decide +kernel
theorem d_law_489 : decode code 489 = .ok (.aload_n 2, 1) := by decide +kernel
theorem d_law_490 : decode code 490 = .ok (.invokevirtual 76, 3) := by decide +kernel
theorem d_law_493 : decode code 493 = .ok (.iload 5, 2) := by decide +kernel
theorem d_law_495 : decode code 495 = .ok (.if_icmp .eq 5, 3) := by decide +kernel
theorem d_law_498 : decode code 498 = .ok (.iconst 0, 1) := by decide +kernel
theorem d_law_499 : decode code 499 = .ok (.ireturn, 1) := by decide +kernel
theorem d_law_500 : decode code 500 = .ok (.iload 5, 2) := by decide +kernel
theorem d_law_502 : decode code 502 = .ok (.ifCond .ne 15, 3) := by decide +kernel
theorem d_law_505 : decode code 505 = .ok (.aload_n 3, 1) := by decide +kernel
theorem d_law_506 : decode code 506 = .ok (.iconst 0, 1) := by decide +kernel
theorem d_law_507 : decode code 507 = .ok (.laload, 1) := by decide +kernel
theorem d_law_508 : decode code 508 = .ok (.iload 6, 2) := by decide +kernel
theorem d_law_510 : decode code 510 = .ok (.i2l, 1) := by decide +kernel
theorem d_law_511 : decode code 511 = .ok (.lcmp, 1) := by decide +kernel
theorem d_law_512 : decode code 512 = .ok (.ifCond .eq 5, 3) := by decide +kernel
theorem d_law_515 : decode code 515 = .ok (.iconst 0, 1) := by decide +kernel
theorem d_law_516 : decode code 516 = .ok (.ireturn, 1) := by decide +kernel
theorem d_law_517 : decode code 517 = .ok (.goto 511, 3) := by decide +kernel
theorem d_law_520 : decode code 520 = .ok (.aload_n 1, 1) := by decide +kernel
theorem d_law_521 : decode code 521 = .ok (.aload_n 0, 1) := by decide +kernel
theorem d_law_522 : decode code 522 = .ok (.iload 4, 2) := by decide +kernel
theorem d_law_524 : decode code 524 = .ok (.iconst 1, 1) := by decide +kernel
theorem d_law_525 : decode code 525 = .ok (.iadd, 1) := by decide +kernel
theorem d_law_526 : decode code 526 = .ok (.iaload, 1) := by decide +kernel
theorem d_law_527 : decode code 527 = .ok (.aload_n 3, 1) := by decide +kernel
theorem d_law_528 : decode code 528 = .ok (.invokestatic 99, 3) := by decide +kernel
theorem d_law_531 : decode code 531 = .ok (.istore 5, 2) := by decide +kernel
theorem d_law_533 : decode code 533 = .ok (.aload_n 2, 1) := by decide +kernel
theorem d_law_534 : decode code 534 = .ok (.aload_n 0, 1) := by decide +kernel
theorem d_law_535 : decode code 535 = .ok (.iload 4, 2) := by decide +kernel
theorem d_law_537 : decode code 537 = .ok (.iconst 1, 1) := by decide +kernel
theorem d_law_538 : decode code 538 = .ok (.iadd, 1) := by decide +kernel
theorem d_law_539 : decode code 539 = .ok (.iaload, 1) := by decide +kernel
theorem d_law_540 : decode code 540 = .ok (.invokevirtual 101, 3) := by decide +kernel
theorem d_law_543 : decode code 543 = .ok (.istore 6, 2) := by decide +kernel
theorem d_law_545 : decode code 545 = .ok (.aload_n 2, 1) := by decide +kernel
theorem d_law_546 : decode code 546 = .ok (.invokevirtual 76, 3) := by decide +kernel
theorem d_law_549 : decode code 549 = .ok (.iload 5, 2) := by decide +kernel
theorem d_law_551 : decode code 551 = .ok (.if_icmp .eq 5, 3) := by decide +kernel
theorem d_law_554 : decode code 554 = .ok (.iconst 0, 1) := by decide +kernel
theorem d_law_555 : decode code 555 = .ok (.ireturn, 1) := by decide +kernel
theorem d_law_556 : decode code 556 = .ok (.iload 5, 2) := by decide +kernel
theorem d_law_558 : decode code 558 = .ok (.ifCond .ne 15, 3) := by decide +kernel
theorem d_law_561 : decode code 561 = .ok (.aload_n 3, 1) := by decide +kernel
theorem d_law_562 : decode code 562 = .ok (.iconst 0, 1) := by decide +kernel
theorem d_law_563 : decode code 563 = .ok (.laload, 1) := by decide +kernel
theorem d_law_564 : decode code 564 = .ok (.iload 6, 2) := by decide +kernel
theorem d_law_566 : decode code 566 = .ok (.i2l, 1) := by decide +kernel
theorem d_law_567 : decode code 567 = .ok (.lcmp, 1) := by decide +kernel
theorem d_law_568 : decode code 568 = .ok (.ifCond .eq 5, 3) := by decide +kernel
theorem d_law_571 : decode code 571 = .ok (.iconst 0, 1) := by decide +kernel
theorem d_law_572 : decode code 572 = .ok (.ireturn, 1) := by decide +kernel
theorem d_law_573 : decode code 573 = .ok (.goto 455, 3) := by decide +kernel
theorem d_law_576 : decode code 576 = .ok (.aload_n 1, 1) := by decide +kernel
theorem d_law_577 : decode code 577 = .ok (.aload_n 0, 1) := by decide +kernel
theorem d_law_578 : decode code 578 = .ok (.iload 4, 2) := by decide +kernel
theorem d_law_580 : decode code 580 = .ok (.iconst 1, 1) := by decide +kernel
theorem d_law_581 : decode code 581 = .ok (.iadd, 1) := by decide +kernel
theorem d_law_582 : decode code 582 = .ok (.iaload, 1) := by decide +kernel
theorem d_law_583 : decode code 583 = .ok (.aload_n 0, 1) := by decide +kernel
theorem d_law_584 : decode code 584 = .ok (.iload 4, 2) := by decide +kernel
theorem d_law_586 : decode code 586 = .ok (.iconst 2, 1) := by decide +kernel
theorem d_law_587 : decode code 587 = .ok (.iadd, 1) := by decide +kernel
theorem d_law_588 : decode code 588 = .ok (.iaload, 1) := by decide +kernel
theorem d_law_589 : decode code 589 = .ok (.aload_n 3, 1) := by decide +kernel
theorem d_law_590 : decode code 590 = .ok (.invokestatic 102, 3) := by decide +kernel
theorem d_law_593 : decode code 593 = .ok (.istore 5, 2) := by decide +kernel
theorem d_law_595 : decode code 595 = .ok (.aload_n 2, 1) := by decide +kernel
theorem d_law_596 : decode code 596 = .ok (.aload_n 0, 1) := by decide +kernel
theorem d_law_597 : decode code 597 = .ok (.iload 4, 2) := by decide +kernel
theorem d_law_599 : decode code 599 = .ok (.iconst 1, 1) := by decide +kernel
theorem d_law_600 : decode code 600 = .ok (.iadd, 1) := by decide +kernel
theorem d_law_601 : decode code 601 = .ok (.iaload, 1) := by decide +kernel
theorem d_law_602 : decode code 602 = .ok (.aload_n 0, 1) := by decide +kernel
theorem d_law_603 : decode code 603 = .ok (.iload 4, 2) := by decide +kernel
theorem d_law_605 : decode code 605 = .ok (.iconst 2, 1) := by decide +kernel
theorem d_law_606 : decode code 606 = .ok (.iadd, 1) := by decide +kernel
theorem d_law_607 : decode code 607 = .ok (.iaload, 1) := by decide +kernel
theorem d_law_608 : decode code 608 = .ok (.invokevirtual 105, 3) := by decide +kernel
theorem d_law_611 : decode code 611 = .ok (.istore 6, 2) := by decide +kernel
theorem d_law_613 : decode code 613 = .ok (.aload_n 2, 1) := by decide +kernel
theorem d_law_614 : decode code 614 = .ok (.invokevirtual 76, 3) := by decide +kernel
theorem d_law_617 : decode code 617 = .ok (.iload 5, 2) := by decide +kernel
theorem d_law_619 : decode code 619 = .ok (.if_icmp .eq 5, 3) := by decide +kernel
theorem d_law_622 : decode code 622 = .ok (.iconst 0, 1) := by decide +kernel
theorem d_law_623 : decode code 623 = .ok (.ireturn, 1) := by decide +kernel
theorem d_law_624 : decode code 624 = .ok (.iload 5, 2) := by decide +kernel
theorem d_law_626 : decode code 626 = .ok (.ifCond .ne 15, 3) := by decide +kernel
theorem d_law_629 : decode code 629 = .ok (.aload_n 3, 1) := by decide +kernel
theorem d_law_630 : decode code 630 = .ok (.iconst 0, 1) := by decide +kernel
theorem d_law_631 : decode code 631 = .ok (.laload, 1) := by decide +kernel
theorem d_law_632 : decode code 632 = .ok (.iload 6, 2) := by decide +kernel
theorem d_law_634 : decode code 634 = .ok (.i2l, 1) := by decide +kernel
theorem d_law_635 : decode code 635 = .ok (.lcmp, 1) := by decide +kernel
theorem d_law_636 : decode code 636 = .ok (.ifCond .eq 5, 3) := by decide +kernel
theorem d_law_639 : decode code 639 = .ok (.iconst 0, 1) := by decide +kernel
theorem d_law_640 : decode code 640 = .ok (.ireturn, 1) := by decide +kernel
theorem d_law_641 : decode code 641 = .ok (.goto 387, 3) := by decide +kernel
theorem d_law_644 : decode code 644 = .ok (.aload_n 1, 1) := by decide +kernel
theorem d_law_645 : decode code 645 = .ok (.aload_n 0, 1) := by decide +kernel
theorem d_law_646 : decode code 646 = .ok (.iload 4, 2) := by decide +kernel
theorem d_law_648 : decode code 648 = .ok (.iconst 1, 1) := by decide +kernel
theorem d_law_649 : decode code 649 = .ok (.iadd, 1) := by decide +kernel
theorem d_law_650 : decode code 650 = .ok (.iaload, 1) := by decide +kernel
theorem d_law_651 : decode code 651 = .ok (.aload_n 3, 1) := by decide +kernel
theorem d_law_652 : decode code 652 = .ok (.invokestatic 106, 3) := by decide +kernel
theorem d_law_655 : decode code 655 = .ok (.istore 5, 2) := by decide +kernel
theorem d_law_657 : decode code 657 = .ok (.aload_n 2, 1) := by decide +kernel
theorem d_law_658 : decode code 658 = .ok (.aload_n 0, 1) := by decide +kernel
theorem d_law_659 : decode code 659 = .ok (.iload 4, 2) := by decide +kernel
theorem d_law_661 : decode code 661 = .ok (.iconst 1, 1) := by decide +kernel
theorem d_law_662 : decode code 662 = .ok (.iadd, 1) := by decide +kernel
theorem d_law_663 : decode code 663 = .ok (.iaload, 1) := by decide +kernel
theorem d_law_664 : decode code 664 = .ok (.invokevirtual 108, 3) := by decide +kernel
theorem d_law_667 : decode code 667 = .ok (.istore 6, 2) := by decide +kernel
theorem d_law_669 : decode code 669 = .ok (.aload_n 2, 1) := by decide +kernel
theorem d_law_670 : decode code 670 = .ok (.invokevirtual 76, 3) := by decide +kernel
theorem d_law_673 : decode code 673 = .ok (.iload 5, 2) := by decide +kernel
theorem d_law_675 : decode code 675 = .ok (.if_icmp .eq 5, 3) := by decide +kernel
theorem d_law_678 : decode code 678 = .ok (.iconst 0, 1) := by decide +kernel
theorem d_law_679 : decode code 679 = .ok (.ireturn, 1) := by decide +kernel
theorem d_law_680 : decode code 680 = .ok (.iload 5, 2) := by decide +kernel
theorem d_law_682 : decode code 682 = .ok (.ifCond .ne 15, 3) := by decide +kernel
theorem d_law_685 : decode code 685 = .ok (.aload_n 3, 1) := by decide +kernel
theorem d_law_686 : decode code 686 = .ok (.iconst 0, 1) := by decide +kernel
theorem d_law_687 : decode code 687 = .ok (.laload, 1) := by decide +kernel
theorem d_law_688 : decode code 688 = .ok (.iload 6, 2) := by decide +kernel
theorem d_law_690 : decode code 690 = .ok (.i2l, 1) := by decide +kernel
theorem d_law_691 : decode code 691 = .ok (.lcmp, 1) := by decide +kernel
theorem d_law_692 : decode code 692 = .ok (.ifCond .eq 5, 3) := by decide +kernel
theorem d_law_695 : decode code 695 = .ok (.iconst 0, 1) := by decide +kernel
theorem d_law_696 : decode code 696 = .ok (.ireturn, 1) := by decide +kernel
theorem d_law_697 : decode code 697 = .ok (.goto 331, 3) := by decide +kernel
theorem d_law_700 : decode code 700 = .ok (.aload_n 1, 1) := by decide +kernel
theorem d_law_701 : decode code 701 = .ok (.aload_n 0, 1) := by decide +kernel
theorem d_law_702 : decode code 702 = .ok (.iload 4, 2) := by decide +kernel
theorem d_law_704 : decode code 704 = .ok (.iconst 1, 1) := by decide +kernel
theorem d_law_705 : decode code 705 = .ok (.iadd, 1) := by decide +kernel
theorem d_law_706 : decode code 706 = .ok (.iaload, 1) := by decide +kernel
theorem d_law_707 : decode code 707 = .ok (.aload_n 3, 1) := by decide +kernel
theorem d_law_708 : decode code 708 = .ok (.invokestatic 109, 3) := by decide +kernel
theorem d_law_711 : decode code 711 = .ok (.istore 5, 2) := by decide +kernel
theorem d_law_713 : decode code 713 = .ok (.aload_n 2, 1) := by decide +kernel
theorem d_law_714 : decode code 714 = .ok (.aload_n 0, 1) := by decide +kernel
theorem d_law_715 : decode code 715 = .ok (.iload 4, 2) := by decide +kernel
theorem d_law_717 : decode code 717 = .ok (.iconst 1, 1) := by decide +kernel
theorem d_law_718 : decode code 718 = .ok (.iadd, 1) := by decide +kernel
theorem d_law_719 : decode code 719 = .ok (.iaload, 1) := by decide +kernel
theorem d_law_720 : decode code 720 = .ok (.invokevirtual 111, 3) := by decide +kernel
theorem d_law_723 : decode code 723 = .ok (.istore 6, 2) := by decide +kernel
theorem d_law_725 : decode code 725 = .ok (.aload_n 2, 1) := by decide +kernel
theorem d_law_726 : decode code 726 = .ok (.invokevirtual 76, 3) := by decide +kernel
theorem d_law_729 : decode code 729 = .ok (.iload 5, 2) := by decide +kernel
theorem d_law_731 : decode code 731 = .ok (.if_icmp .eq 5, 3) := by decide +kernel
theorem d_law_734 : decode code 734 = .ok (.iconst 0, 1) := by decide +kernel
theorem d_law_735 : decode code 735 = .ok (.ireturn, 1) := by decide +kernel
theorem d_law_736 : decode code 736 = .ok (.iload 5, 2) := by decide +kernel
theorem d_law_738 : decode code 738 = .ok (.ifCond .ne 15, 3) := by decide +kernel
theorem d_law_741 : decode code 741 = .ok (.aload_n 3, 1) := by decide +kernel
theorem d_law_742 : decode code 742 = .ok (.iconst 0, 1) := by decide +kernel
theorem d_law_743 : decode code 743 = .ok (.laload, 1) := by decide +kernel
theorem d_law_744 : decode code 744 = .ok (.iload 6, 2) := by decide +kernel
theorem d_law_746 : decode code 746 = .ok (.i2l, 1) := by decide +kernel
theorem d_law_747 : decode code 747 = .ok (.lcmp, 1) := by decide +kernel
theorem d_law_748 : decode code 748 = .ok (.ifCond .eq 5, 3) := by decide +kernel
theorem d_law_751 : decode code 751 = .ok (.iconst 0, 1) := by decide +kernel
theorem d_law_752 : decode code 752 = .ok (.ireturn, 1) := by decide +kernel
theorem d_law_753 : decode code 753 = .ok (.goto 275, 3) := by decide +kernel
theorem d_law_756 : decode code 756 = .ok (.aload_n 1, 1) := by decide +kernel
theorem d_law_757 : decode code 757 = .ok (.aload_n 0, 1) := by decide +kernel
theorem d_law_758 : decode code 758 = .ok (.iload 4, 2) := by decide +kernel
theorem d_law_760 : decode code 760 = .ok (.iconst 1, 1) := by decide +kernel
theorem d_law_761 : decode code 761 = .ok (.iadd, 1) := by decide +kernel
theorem d_law_762 : decode code 762 = .ok (.iaload, 1) := by decide +kernel
theorem d_law_763 : decode code 763 = .ok (.aload_n 3, 1) := by decide +kernel
theorem d_law_764 : decode code 764 = .ok (.invokestatic 112, 3) := by decide +kernel
theorem d_law_767 : decode code 767 = .ok (.istore 5, 2) := by decide +kernel
theorem d_law_769 : decode code 769 = .ok (.aload_n 2, 1) := by decide +kernel
theorem d_law_770 : decode code 770 = .ok (.aload_n 0, 1) := by decide +kernel
theorem d_law_771 : decode code 771 = .ok (.iload 4, 2) := by decide +kernel
theorem d_law_773 : decode code 773 = .ok (.iconst 1, 1) := by decide +kernel
theorem d_law_774 : decode code 774 = .ok (.iadd, 1) := by decide +kernel
theorem d_law_775 : decode code 775 = .ok (.iaload, 1) := by decide +kernel
theorem d_law_776 : decode code 776 = .ok (.invokevirtual 114, 3) := by decide +kernel
theorem d_law_779 : decode code 779 = .ok (.istore 6, 2) := by decide +kernel
theorem d_law_781 : decode code 781 = .ok (.aload_n 2, 1) := by decide +kernel
theorem d_law_782 : decode code 782 = .ok (.invokevirtual 76, 3) := by decide +kernel
theorem d_law_785 : decode code 785 = .ok (.iload 5, 2) := by decide +kernel
theorem d_law_787 : decode code 787 = .ok (.if_icmp .eq 5, 3) := by decide +kernel
theorem d_law_790 : decode code 790 = .ok (.iconst 0, 1) := by decide +kernel
theorem d_law_791 : decode code 791 = .ok (.ireturn, 1) := by decide +kernel
theorem d_law_792 : decode code 792 = .ok (.iload 5, 2) := by decide +kernel
theorem d_law_794 : decode code 794 = .ok (.ifCond .ne 15, 3) := by decide +kernel
theorem d_law_797 : decode code 797 = .ok (.aload_n 3, 1) := by decide +kernel
theorem d_law_798 : decode code 798 = .ok (.iconst 0, 1) := by decide +kernel
theorem d_law_799 : decode code 799 = .ok (.laload, 1) := by decide +kernel
theorem d_law_800 : decode code 800 = .ok (.iload 6, 2) := by decide +kernel
theorem d_law_802 : decode code 802 = .ok (.i2l, 1) := by decide +kernel
theorem d_law_803 : decode code 803 = .ok (.lcmp, 1) := by decide +kernel
theorem d_law_804 : decode code 804 = .ok (.ifCond .eq 5, 3) := by decide +kernel
theorem d_law_807 : decode code 807 = .ok (.iconst 0, 1) := by decide +kernel
theorem d_law_808 : decode code 808 = .ok (.ireturn, 1) := by decide +kernel
theorem d_law_809 : decode code 809 = .ok (.goto 219, 3) := by decide +kernel
theorem d_law_812 : decode code 812 = .ok (.aload_n 1, 1) := by decide +kernel
theorem d_law_813 : decode code 813 = .ok (.aload_n 0, 1) := by decide +kernel
theorem d_law_814 : decode code 814 = .ok (.iload 4, 2) := by decide +kernel
theorem d_law_816 : decode code 816 = .ok (.iconst 1, 1) := by decide +kernel
theorem d_law_817 : decode code 817 = .ok (.iadd, 1) := by decide +kernel
theorem d_law_818 : decode code 818 = .ok (.iaload, 1) := by decide +kernel
theorem d_law_819 : decode code 819 = .ok (.aload_n 0, 1) := by decide +kernel
theorem d_law_820 : decode code 820 = .ok (.iload 4, 2) := by decide +kernel
theorem d_law_822 : decode code 822 = .ok (.iconst 2, 1) := by decide +kernel
theorem d_law_823 : decode code 823 = .ok (.iadd, 1) := by decide +kernel
theorem d_law_824 : decode code 824 = .ok (.iaload, 1) := by decide +kernel
theorem d_law_825 : decode code 825 = .ok (.aload_n 3, 1) := by decide +kernel
theorem d_law_826 : decode code 826 = .ok (.invokestatic 115, 3) := by decide +kernel
theorem d_law_829 : decode code 829 = .ok (.istore 5, 2) := by decide +kernel
theorem d_law_831 : decode code 831 = .ok (.aload_n 2, 1) := by decide +kernel
theorem d_law_832 : decode code 832 = .ok (.aload_n 0, 1) := by decide +kernel
theorem d_law_833 : decode code 833 = .ok (.iload 4, 2) := by decide +kernel
theorem d_law_835 : decode code 835 = .ok (.iconst 1, 1) := by decide +kernel
theorem d_law_836 : decode code 836 = .ok (.iadd, 1) := by decide +kernel
theorem d_law_837 : decode code 837 = .ok (.iaload, 1) := by decide +kernel
theorem d_law_838 : decode code 838 = .ok (.aload_n 0, 1) := by decide +kernel
theorem d_law_839 : decode code 839 = .ok (.iload 4, 2) := by decide +kernel
theorem d_law_841 : decode code 841 = .ok (.iconst 2, 1) := by decide +kernel
theorem d_law_842 : decode code 842 = .ok (.iadd, 1) := by decide +kernel
theorem d_law_843 : decode code 843 = .ok (.iaload, 1) := by decide +kernel
theorem d_law_844 : decode code 844 = .ok (.invokevirtual 117, 3) := by decide +kernel
theorem d_law_847 : decode code 847 = .ok (.istore 6, 2) := by decide +kernel
theorem d_law_849 : decode code 849 = .ok (.aload_n 2, 1) := by decide +kernel
theorem d_law_850 : decode code 850 = .ok (.invokevirtual 76, 3) := by decide +kernel
theorem d_law_853 : decode code 853 = .ok (.iload 5, 2) := by decide +kernel
theorem d_law_855 : decode code 855 = .ok (.if_icmp .eq 5, 3) := by decide +kernel
theorem d_law_858 : decode code 858 = .ok (.iconst 0, 1) := by decide +kernel
theorem d_law_859 : decode code 859 = .ok (.ireturn, 1) := by decide +kernel
theorem d_law_860 : decode code 860 = .ok (.iload 5, 2) := by decide +kernel
theorem d_law_862 : decode code 862 = .ok (.ifCond .ne 15, 3) := by decide +kernel
theorem d_law_865 : decode code 865 = .ok (.aload_n 3, 1) := by decide +kernel
theorem d_law_866 : decode code 866 = .ok (.iconst 0, 1) := by decide +kernel
theorem d_law_867 : decode code 867 = .ok (.laload, 1) := by decide +kernel
theorem d_law_868 : decode code 868 = .ok (.iload 6, 2) := by decide +kernel
theorem d_law_870 : decode code 870 = .ok (.i2l, 1) := by decide +kernel
theorem d_law_871 : decode code 871 = .ok (.lcmp, 1) := by decide +kernel
theorem d_law_872 : decode code 872 = .ok (.ifCond .eq 5, 3) := by decide +kernel
theorem d_law_875 : decode code 875 = .ok (.iconst 0, 1) := by decide +kernel
theorem d_law_876 : decode code 876 = .ok (.ireturn, 1) := by decide +kernel
theorem d_law_877 : decode code 877 = .ok (.goto 151, 3) := by decide +kernel
theorem d_law_880 : decode code 880 = .ok (.aload_n 1, 1) := by decide +kernel
theorem d_law_881 : decode code 881 = .ok (.aload_n 0, 1) := by decide +kernel
theorem d_law_882 : decode code 882 = .ok (.iload 4, 2) := by decide +kernel
theorem d_law_884 : decode code 884 = .ok (.iconst 1, 1) := by decide +kernel
theorem d_law_885 : decode code 885 = .ok (.iadd, 1) := by decide +kernel
theorem d_law_886 : decode code 886 = .ok (.iaload, 1) := by decide +kernel
theorem d_law_887 : decode code 887 = .ok (.aload_n 0, 1) := by decide +kernel
theorem d_law_888 : decode code 888 = .ok (.iload 4, 2) := by decide +kernel
theorem d_law_890 : decode code 890 = .ok (.iconst 2, 1) := by decide +kernel
theorem d_law_891 : decode code 891 = .ok (.iadd, 1) := by decide +kernel
theorem d_law_892 : decode code 892 = .ok (.iaload, 1) := by decide +kernel
theorem d_law_893 : decode code 893 = .ok (.aload_n 3, 1) := by decide +kernel
theorem d_law_894 : decode code 894 = .ok (.invokestatic 118, 3) := by decide +kernel
theorem d_law_897 : decode code 897 = .ok (.istore 5, 2) := by decide +kernel
theorem d_law_899 : decode code 899 = .ok (.aload_n 2, 1) := by decide +kernel
theorem d_law_900 : decode code 900 = .ok (.aload_n 0, 1) := by decide +kernel
theorem d_law_901 : decode code 901 = .ok (.iload 4, 2) := by decide +kernel
theorem d_law_903 : decode code 903 = .ok (.iconst 1, 1) := by decide +kernel
theorem d_law_904 : decode code 904 = .ok (.iadd, 1) := by decide +kernel
theorem d_law_905 : decode code 905 = .ok (.iaload, 1) := by decide +kernel
theorem d_law_906 : decode code 906 = .ok (.aload_n 0, 1) := by decide +kernel
theorem d_law_907 : decode code 907 = .ok (.iload 4, 2) := by decide +kernel
theorem d_law_909 : decode code 909 = .ok (.iconst 2, 1) := by decide +kernel
theorem d_law_910 : decode code 910 = .ok (.iadd, 1) := by decide +kernel
theorem d_law_911 : decode code 911 = .ok (.iaload, 1) := by decide +kernel
theorem d_law_912 : decode code 912 = .ok (.invokevirtual 120, 3) := by decide +kernel
theorem d_law_915 : decode code 915 = .ok (.istore 6, 2) := by decide +kernel
theorem d_law_917 : decode code 917 = .ok (.aload_n 2, 1) := by decide +kernel
theorem d_law_918 : decode code 918 = .ok (.invokevirtual 76, 3) := by decide +kernel
theorem d_law_921 : decode code 921 = .ok (.iload 5, 2) := by decide +kernel
theorem d_law_923 : decode code 923 = .ok (.if_icmp .eq 5, 3) := by decide +kernel
theorem d_law_926 : decode code 926 = .ok (.iconst 0, 1) := by decide +kernel
theorem d_law_927 : decode code 927 = .ok (.ireturn, 1) := by decide +kernel
theorem d_law_928 : decode code 928 = .ok (.iload 5, 2) := by decide +kernel
theorem d_law_930 : decode code 930 = .ok (.ifCond .ne 15, 3) := by decide +kernel
theorem d_law_933 : decode code 933 = .ok (.aload_n 3, 1) := by decide +kernel
theorem d_law_934 : decode code 934 = .ok (.iconst 0, 1) := by decide +kernel
theorem d_law_935 : decode code 935 = .ok (.laload, 1) := by decide +kernel
theorem d_law_936 : decode code 936 = .ok (.iload 6, 2) := by decide +kernel
theorem d_law_938 : decode code 938 = .ok (.i2l, 1) := by decide +kernel
theorem d_law_939 : decode code 939 = .ok (.lcmp, 1) := by decide +kernel
theorem d_law_940 : decode code 940 = .ok (.ifCond .eq 5, 3) := by decide +kernel
theorem d_law_943 : decode code 943 = .ok (.iconst 0, 1) := by decide +kernel
theorem d_law_944 : decode code 944 = .ok (.ireturn, 1) := by decide +kernel
theorem d_law_945 : decode code 945 = .ok (.goto 83, 3) := by decide +kernel
theorem d_law_948 : decode code 948 = .ok (.aload_n 1, 1) := by decide +kernel
theorem d_law_949 : decode code 949 = .ok (.aload_n 0, 1) := by decide +kernel
theorem d_law_950 : decode code 950 = .ok (.iload 4, 2) := by decide +kernel
theorem d_law_952 : decode code 952 = .ok (.iconst 1, 1) := by decide +kernel
theorem d_law_953 : decode code 953 = .ok (.iadd, 1) := by decide +kernel
theorem d_law_954 : decode code 954 = .ok (.iaload, 1) := by decide +kernel
theorem d_law_955 : decode code 955 = .ok (.aload_n 0, 1) := by decide +kernel
theorem d_law_956 : decode code 956 = .ok (.iload 4, 2) := by decide +kernel
theorem d_law_958 : decode code 958 = .ok (.iconst 2, 1) := by decide +kernel
theorem d_law_959 : decode code 959 = .ok (.iadd, 1) := by decide +kernel
theorem d_law_960 : decode code 960 = .ok (.iaload, 1) := by decide +kernel
theorem d_law_961 : decode code 961 = .ok (.aload_n 0, 1) := by decide +kernel
theorem d_law_962 : decode code 962 = .ok (.iload 4, 2) := by decide +kernel
theorem d_law_964 : decode code 964 = .ok (.iconst 3, 1) := by decide +kernel
theorem d_law_965 : decode code 965 = .ok (.iadd, 1) := by decide +kernel
theorem d_law_966 : decode code 966 = .ok (.iaload, 1) := by decide +kernel
theorem d_law_967 : decode code 967 = .ok (.aload_n 3, 1) := by decide +kernel
theorem d_law_968 : decode code 968 = .ok (.invokestatic 121, 3) := by decide +kernel
theorem d_law_971 : decode code 971 = .ok (.istore 5, 2) := by decide +kernel
theorem d_law_973 : decode code 973 = .ok (.aload_n 2, 1) := by decide +kernel
theorem d_law_974 : decode code 974 = .ok (.aload_n 0, 1) := by decide +kernel
theorem d_law_975 : decode code 975 = .ok (.iload 4, 2) := by decide +kernel
theorem d_law_977 : decode code 977 = .ok (.iconst 1, 1) := by decide +kernel
theorem d_law_978 : decode code 978 = .ok (.iadd, 1) := by decide +kernel
theorem d_law_979 : decode code 979 = .ok (.iaload, 1) := by decide +kernel
theorem d_law_980 : decode code 980 = .ok (.aload_n 0, 1) := by decide +kernel
theorem d_law_981 : decode code 981 = .ok (.iload 4, 2) := by decide +kernel
theorem d_law_983 : decode code 983 = .ok (.iconst 2, 1) := by decide +kernel
theorem d_law_984 : decode code 984 = .ok (.iadd, 1) := by decide +kernel
theorem d_law_985 : decode code 985 = .ok (.iaload, 1) := by decide +kernel
theorem d_law_986 : decode code 986 = .ok (.aload_n 0, 1) := by decide +kernel
theorem d_law_987 : decode code 987 = .ok (.iload 4, 2) := by decide +kernel
theorem d_law_989 : decode code 989 = .ok (.iconst 3, 1) := by decide +kernel
theorem d_law_990 : decode code 990 = .ok (.iadd, 1) := by decide +kernel
theorem d_law_991 : decode code 991 = .ok (.iaload, 1) := by decide +kernel
theorem d_law_992 : decode code 992 = .ok (.invokevirtual 124, 3) := by decide +kernel
theorem d_law_995 : decode code 995 = .ok (.istore 6, 2) := by decide +kernel
theorem d_law_997 : decode code 997 = .ok (.aload_n 2, 1) := by decide +kernel
theorem d_law_998 : decode code 998 = .ok (.invokevirtual 76, 3) := by decide +kernel
theorem d_law_1001 : decode code 1001 = .ok (.iload 5, 2) := by decide +kernel
theorem d_law_1003 : decode code 1003 = .ok (.if_icmp .eq 5, 3) := by decide +kernel
theorem d_law_1006 : decode code 1006 = .ok (.iconst 0, 1) := by decide +kernel
theorem d_law_1007 : decode code 1007 = .ok (.ireturn, 1) := by decide +kernel
theorem d_law_1008 : decode code 1008 = .ok (.iload 5, 2) := by decide +kernel
theorem d_law_1010 : decode code 1010 = .ok (.ifCond .ne 15, 3) := by decide +kernel
theorem d_law_1013 : decode code 1013 = .ok (.aload_n 3, 1) := by decide +kernel
theorem d_law_1014 : decode code 1014 = .ok (.iconst 0, 1) := by decide +kernel
theorem d_law_1015 : decode code 1015 = .ok (.laload, 1) := by decide +kernel
theorem d_law_1016 : decode code 1016 = .ok (.iload 6, 2) := by decide +kernel
theorem d_law_1018 : decode code 1018 = .ok (.i2l, 1) := by decide +kernel
theorem d_law_1019 : decode code 1019 = .ok (.lcmp, 1) := by decide +kernel
theorem d_law_1020 : decode code 1020 = .ok (.ifCond .eq 5, 3) := by decide +kernel
theorem d_law_1023 : decode code 1023 = .ok (.iconst 0, 1) := by decide +kernel
theorem d_law_1024 : decode code 1024 = .ok (.ireturn, 1) := by decide +kernel
theorem d_law_1025 : decode code 1025 = .ok (.goto 3, 3) := by decide +kernel
theorem d_law_1028 : decode code 1028 = .ok (.iinc 4 6, 3) := by decide +kernel
theorem d_law_1031 : decode code 1031 = .ok (.goto (-1008), 3) := by decide +kernel
theorem d_law_1034 : decode code 1034 = .ok (.iconst 1, 1) := by decide +kernel
theorem d_law_1035 : decode code 1035 = .ok (.ireturn, 1) := by decide +kernel
