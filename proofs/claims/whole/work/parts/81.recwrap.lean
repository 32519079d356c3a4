/-! the wrappers of receipts (by program) -/
abbrev b_Law_giveBackN : ByteArray := b_Law_giveBack
abbrev y_Law_giveBackN : MethodName := y_Law_giveBack
theorem d_Law_giveBackN_0 : decode b_Law_giveBackN 0 = .ok (.aload_n 3, 1) := d_Law_giveBack_0
theorem d_Law_giveBackN_1 : decode b_Law_giveBackN 1 = .ok (.iconst 0, 1) := d_Law_giveBack_1
theorem d_Law_giveBackN_2 : decode b_Law_giveBackN 2 = .ok (.aload_n 0, 1) := d_Law_giveBack_2
theorem d_Law_giveBackN_3 : decode b_Law_giveBackN 3 = .ok (.iload_n 1, 1) := d_Law_giveBack_3
theorem d_Law_giveBackN_4 : decode b_Law_giveBackN 4 = .ok (.iload_n 2, 1) := d_Law_giveBack_4
theorem d_Law_giveBackN_5 : decode b_Law_giveBackN 5 = .ok (.invokevirtual 56, 3) := d_Law_giveBack_5
theorem d_Law_giveBackN_8 : decode b_Law_giveBackN 8 = .ok (.i2l, 1) := d_Law_giveBack_8
theorem d_Law_giveBackN_9 : decode b_Law_giveBackN 9 = .ok (.lastore, 1) := d_Law_giveBack_9
theorem d_Law_giveBackN_10 : decode b_Law_giveBackN 10 = .ok (.goto 11, 3) := d_Law_giveBack_10
theorem d_Law_giveBackN_13 : decode b_Law_giveBackN 13 = .ok (.astore 4, 2) := d_Law_giveBack_13
theorem d_Law_giveBackN_15 : decode b_Law_giveBackN 15 = .ok (.iconst 1, 1) := d_Law_giveBack_15
theorem d_Law_giveBackN_16 : decode b_Law_giveBackN 16 = .ok (.ireturn, 1) := d_Law_giveBack_16
theorem d_Law_giveBackN_17 : decode b_Law_giveBackN 17 = .ok (.astore 4, 2) := d_Law_giveBack_17
theorem d_Law_giveBackN_19 : decode b_Law_giveBackN 19 = .ok (.iconst 2, 1) := d_Law_giveBack_19
theorem d_Law_giveBackN_20 : decode b_Law_giveBackN 20 = .ok (.ireturn, 1) := d_Law_giveBack_20
theorem d_Law_giveBackN_21 : decode b_Law_giveBackN 21 = .ok (.iconst 0, 1) := d_Law_giveBack_21
theorem d_Law_giveBackN_22 : decode b_Law_giveBackN 22 = .ok (.ireturn, 1) := d_Law_giveBack_22
abbrev b_Law_receiptN : ByteArray := b_Law_receipt
abbrev y_Law_receiptN : MethodName := y_Law_receipt
theorem d_Law_receiptN_0 : decode b_Law_receiptN 0 = .ok (.aload_n 3, 1) := d_Law_receipt_0
theorem d_Law_receiptN_1 : decode b_Law_receiptN 1 = .ok (.iconst 0, 1) := d_Law_receipt_1
theorem d_Law_receiptN_2 : decode b_Law_receiptN 2 = .ok (.aload_n 0, 1) := d_Law_receipt_2
theorem d_Law_receiptN_3 : decode b_Law_receiptN 3 = .ok (.iload_n 1, 1) := d_Law_receipt_3
theorem d_Law_receiptN_4 : decode b_Law_receiptN 4 = .ok (.iload_n 2, 1) := d_Law_receipt_4
theorem d_Law_receiptN_5 : decode b_Law_receiptN 5 = .ok (.invokevirtual 59, 3) := d_Law_receipt_5
theorem d_Law_receiptN_8 : decode b_Law_receiptN 8 = .ok (.i2l, 1) := d_Law_receipt_8
theorem d_Law_receiptN_9 : decode b_Law_receiptN 9 = .ok (.lastore, 1) := d_Law_receipt_9
theorem d_Law_receiptN_10 : decode b_Law_receiptN 10 = .ok (.goto 11, 3) := d_Law_receipt_10
theorem d_Law_receiptN_13 : decode b_Law_receiptN 13 = .ok (.astore 4, 2) := d_Law_receipt_13
theorem d_Law_receiptN_15 : decode b_Law_receiptN 15 = .ok (.iconst 1, 1) := d_Law_receipt_15
theorem d_Law_receiptN_16 : decode b_Law_receiptN 16 = .ok (.ireturn, 1) := d_Law_receipt_16
theorem d_Law_receiptN_17 : decode b_Law_receiptN 17 = .ok (.astore 4, 2) := d_Law_receipt_17
theorem d_Law_receiptN_19 : decode b_Law_receiptN 19 = .ok (.iconst 2, 1) := d_Law_receipt_19
theorem d_Law_receiptN_20 : decode b_Law_receiptN 20 = .ok (.ireturn, 1) := d_Law_receipt_20
theorem d_Law_receiptN_21 : decode b_Law_receiptN 21 = .ok (.iconst 0, 1) := d_Law_receipt_21
theorem d_Law_receiptN_22 : decode b_Law_receiptN 22 = .ok (.ireturn, 1) := d_Law_receipt_22
abbrev b_Law_lineN : ByteArray := b_Law_line
abbrev y_Law_lineN : MethodName := y_Law_line
theorem d_Law_lineN_0 : decode b_Law_lineN 0 = .ok (.aload 4, 2) := d_Law_line_0
theorem d_Law_lineN_2 : decode b_Law_lineN 2 = .ok (.iconst 0, 1) := d_Law_line_2
theorem d_Law_lineN_3 : decode b_Law_lineN 3 = .ok (.aload_n 0, 1) := d_Law_line_3
theorem d_Law_lineN_4 : decode b_Law_lineN 4 = .ok (.iload_n 1, 1) := d_Law_line_4
theorem d_Law_lineN_5 : decode b_Law_lineN 5 = .ok (.iload_n 2, 1) := d_Law_line_5
theorem d_Law_lineN_6 : decode b_Law_lineN 6 = .ok (.iload_n 3, 1) := d_Law_line_6
theorem d_Law_lineN_7 : decode b_Law_lineN 7 = .ok (.invokevirtual 62, 3) := d_Law_line_7
theorem d_Law_lineN_10 : decode b_Law_lineN 10 = .ok (.i2l, 1) := d_Law_line_10
theorem d_Law_lineN_11 : decode b_Law_lineN 11 = .ok (.lastore, 1) := d_Law_line_11
theorem d_Law_lineN_12 : decode b_Law_lineN 12 = .ok (.goto 11, 3) := d_Law_line_12
theorem d_Law_lineN_15 : decode b_Law_lineN 15 = .ok (.astore 5, 2) := d_Law_line_15
theorem d_Law_lineN_17 : decode b_Law_lineN 17 = .ok (.iconst 1, 1) := d_Law_line_17
theorem d_Law_lineN_18 : decode b_Law_lineN 18 = .ok (.ireturn, 1) := d_Law_line_18
theorem d_Law_lineN_19 : decode b_Law_lineN 19 = .ok (.astore 5, 2) := d_Law_line_19
theorem d_Law_lineN_21 : decode b_Law_lineN 21 = .ok (.iconst 2, 1) := d_Law_line_21
theorem d_Law_lineN_22 : decode b_Law_lineN 22 = .ok (.ireturn, 1) := d_Law_line_22
theorem d_Law_lineN_23 : decode b_Law_lineN 23 = .ok (.iconst 0, 1) := d_Law_line_23
theorem d_Law_lineN_24 : decode b_Law_lineN 24 = .ok (.ireturn, 1) := d_Law_line_24
def wp_Law_giveBack (N : Nat) (θ : St) (α : St) (ε : St) (χ : St) (β2 : St) (τ : St) (ω : Nat → St) (β : St) (κ : St) (υ : St) (ο : Nat → Int64) (x1 : Int32) (x2 : Int32) (post : Int32 → ((St) × (St) × (St) × (St) × (St) × (Nat → Int64)) → Prop) : Prop := wp_Till_giveBack N θ α ε χ β2 τ ω β κ υ x1 x2 (fun r2 u1 => (vp_in 0 1 ∧ (∀ ο4, ο4 = vp_updL ο (Int32.toNatClampNeg 0) (Int32.toInt64 r2) → post 0 (u1.1, u1.2.1, u1.2.2.1, u1.2.2.2.1, u1.2.2.2.2, ο4)))) (fun E u1 => (E = eIO ∧ post 1 (u1.1, u1.2.1, u1.2.2.1, u1.2.2.2.1, u1.2.2.2.2, ο)) ∨ (E = eIS ∧ post 2 (u1.1, u1.2.1, u1.2.2.1, u1.2.2.2.1, u1.2.2.2.2, ο)))
abbrev rm_Law_giveBack : Room := { frames := 15, cells := 3, slots := 18, locals := 402 }
theorem hd_Law_giveBack : y_Law_giveBack.cls = "PromotionTillLaw" ∧ y_Law_giveBack.cls ≠ "java/lang/invoke/MethodHandle" ∧ y_Law_giveBack.cls ≠ "java/lang/invoke/VarHandle" ∧ (parseMethodDescriptor y_Law_giveBack.desc).map (fun d => d.parameters.length) = some 4 := by decide +kernel
def wp_Law_giveBackN (N : Nat) (θ : St) (α : St) (ο : Nat → Int64) (x1 : Int32) (x2 : Int32) (post : Int32 → ((Nat → Int64)) → Prop) : Prop := wp_Till_giveBackN N θ α x1 x2 (fun r2 u1 => (vp_in 0 1 ∧ (∀ ο4, ο4 = vp_updL ο (Int32.toNatClampNeg 0) (Int32.toInt64 r2) → post 0 ο4))) (fun E u1 => (E = eIO ∧ post 1 ο) ∨ (E = eIS ∧ post 2 ο))
abbrev rm_Law_giveBackN : Room := { frames := 9, cells := 1, slots := 6, locals := 166 }
theorem hd_Law_giveBackN : y_Law_giveBackN.cls = "PromotionTillLaw" ∧ y_Law_giveBackN.cls ≠ "java/lang/invoke/MethodHandle" ∧ y_Law_giveBackN.cls ≠ "java/lang/invoke/VarHandle" ∧ (parseMethodDescriptor y_Law_giveBackN.desc).map (fun d => d.parameters.length) = some 4 := by decide +kernel
def wp_Law_receipt (N : Nat) (θ : St) (α : St) (ε : St) (χ : St) (β2 : St) (ο : Nat → Int64) (x1 : Int32) (x2 : Int32) (post : Int32 → ((Nat → Int64)) → Prop) : Prop := wp_Till_receipt N θ α ε χ β2 x1 x2 (fun r2 u1 => (vp_in 0 1 ∧ (∀ ο4, ο4 = vp_updL ο (Int32.toNatClampNeg 0) (Int32.toInt64 r2) → post 0 ο4))) (fun E u1 => (E = eIA ∧ post 1 ο) ∨ (E = eIO ∧ post 2 ο))
abbrev rm_Law_receipt : Room := { frames := 9, cells := 2, slots := 12, locals := 165 }
theorem hd_Law_receipt : y_Law_receipt.cls = "PromotionTillLaw" ∧ y_Law_receipt.cls ≠ "java/lang/invoke/MethodHandle" ∧ y_Law_receipt.cls ≠ "java/lang/invoke/VarHandle" ∧ (parseMethodDescriptor y_Law_receipt.desc).map (fun d => d.parameters.length) = some 4 := by decide +kernel
def wp_Law_receiptN (N : Nat) (θ : St) (α : St) (ο : Nat → Int64) (x1 : Int32) (x2 : Int32) (post : Int32 → ((Nat → Int64)) → Prop) : Prop := wp_Till_receiptN N θ α x1 x2 (fun r2 u1 => (vp_in 0 1 ∧ (∀ ο4, ο4 = vp_updL ο (Int32.toNatClampNeg 0) (Int32.toInt64 r2) → post 0 ο4))) (fun E u1 => (E = eIA ∧ post 1 ο) ∨ (E = eIO ∧ post 2 ο))
abbrev rm_Law_receiptN : Room := { frames := 9, cells := 2, slots := 12, locals := 165 }
theorem hd_Law_receiptN : y_Law_receiptN.cls = "PromotionTillLaw" ∧ y_Law_receiptN.cls ≠ "java/lang/invoke/MethodHandle" ∧ y_Law_receiptN.cls ≠ "java/lang/invoke/VarHandle" ∧ (parseMethodDescriptor y_Law_receiptN.desc).map (fun d => d.parameters.length) = some 4 := by decide +kernel
def wp_Law_line (N : Nat) (θ : St) (α : St) (ε : St) (χ : St) (β2 : St) (ο : Nat → Int64) (x1 : Int32) (x2 : Int32) (x3 : Int32) (post : Int32 → ((Nat → Int64)) → Prop) : Prop := wp_Till_line N θ α ε χ β2 x1 x2 x3 (fun r2 u1 => (vp_in 0 1 ∧ (∀ ο4, ο4 = vp_updL ο (Int32.toNatClampNeg 0) (Int32.toInt64 r2) → post 0 ο4))) (fun E u1 => (E = eIO ∧ post 1 ο) ∨ (E = eIA ∧ post 2 ο))
abbrev rm_Law_line : Room := { frames := 9, cells := 3, slots := 18, locals := 166 }
theorem hd_Law_line : y_Law_line.cls = "PromotionTillLaw" ∧ y_Law_line.cls ≠ "java/lang/invoke/MethodHandle" ∧ y_Law_line.cls ≠ "java/lang/invoke/VarHandle" ∧ (parseMethodDescriptor y_Law_line.desc).map (fun d => d.parameters.length) = some 5 := by decide +kernel
def wp_Law_lineN (N : Nat) (θ : St) (α : St) (ο : Nat → Int64) (x1 : Int32) (x2 : Int32) (x3 : Int32) (post : Int32 → ((Nat → Int64)) → Prop) : Prop := wp_Till_lineN N θ α x1 x2 x3 (fun r2 u1 => (vp_in 0 1 ∧ (∀ ο4, ο4 = vp_updL ο (Int32.toNatClampNeg 0) (Int32.toInt64 r2) → post 0 ο4))) (fun E u1 => (E = eIO ∧ post 1 ο) ∨ (E = eIA ∧ post 2 ο))
abbrev rm_Law_lineN : Room := { frames := 9, cells := 1, slots := 6, locals := 166 }
theorem hd_Law_lineN : y_Law_lineN.cls = "PromotionTillLaw" ∧ y_Law_lineN.cls ≠ "java/lang/invoke/MethodHandle" ∧ y_Law_lineN.cls ≠ "java/lang/invoke/VarHandle" ∧ (parseMethodDescriptor y_Law_lineN.desc).map (fun d => d.parameters.length) = some 5 := by decide +kernel
set_option maxHeartbeats 4000000 in
set_option maxRecDepth 100000 in
theorem m_Law_giveBack {l : Launch} {D : va_G} {k : Nat → ClassId} (hlt : l.stackTraces = false) (N : Nat) (gX : Nat → Nat) (gA : Nat → Nat) (gE : Nat → Nat) (gC : Nat → Nat) (gB2 : Nat → Nat) (gT : Nat → Nat) (go : Nat → Nat → Nat) (gB : Nat → Nat) (gL : Nat → Nat) (gU : Nat → Nat) (gQ : Nat → Nat) (x_tariff : Nat) (x_basket : Nat) (x_plan : Nat) (fE : Nat → Option Nat) (nE : Nat) (θ : St) (α : St) (ε : St) (χ : St) (β2 : St) (τ : St) (ω : Nat → St) (β : St) (κ : St) (υ : St) (ο : Nat → Int64) (x1 : Int32) (x2 : Int32) (hno : fE (Int32.toNatClampNeg x1) = some (gC 0)) (hne : vp_in x1 nE) (post : Int32 → ((St) × (St) × (St) × (St) × (St) × (Nat → Int64)) → Prop) (h : wp_Law_giveBack N  θ α ε χ β2 τ ω β κ υ ο x1 x2 post) : CW l D k y_Law_giveBack b_Law_giveBack 5 [(0, 10, 13, 38), (0, 10, 17, 15)] rm_Law_giveBack [.ref (gX 0), .int x1, .int x2, .ref (gQ 0)] (wTill k gX θ x_tariff x_basket (gB 0) (gL 0) x_plan (gA 0) ++ (wAL k gA α (gE 0) ++ (wEl k gE ε fE nE ++ (wRec k gC χ (gT 0) (gB2 0) ++ (wBasket k gB2 β2 ++ (wTariff k gT τ (fun i => some (go i 0)) ++ (wOffer k (go 0) (ω 0) ++ (wOffer k (go 1) (ω 1) ++ (wOffer k (go 2) (ω 2) ++ (wOffer k (go 3) (ω 3) ++ (wOffer k (go 4) (ω 4) ++ (wOffer k (go 5) (ω 5) ++ (wBasket k gB β ++ (wPlanner k gL κ (gU 0) ++ (wUses k gU υ ++ (wOut k gQ ο)))))))))))))))) (fun u : (St) × (St) × (St) × (St) × (St) × (Nat → Int64) => wTill k gX u.1 x_tariff x_basket (gB 0) (gL 0) x_plan (gA 0) ++ (wAL k gA α (gE 0) ++ (wEl k gE ε fE nE ++ (wRec k gC u.2.1 (gT 0) (gB2 0) ++ (wBasket k gB2 β2 ++ (wTariff k gT τ (fun i => some (go i 0)) ++ (wOffer k (go 0) (ω 0) ++ (wOffer k (go 1) (ω 1) ++ (wOffer k (go 2) (ω 2) ++ (wOffer k (go 3) (ω 3) ++ (wOffer k (go 4) (ω 4) ++ (wOffer k (go 5) (ω 5) ++ (wBasket k gB u.2.2.1 ++ (wPlanner k gL u.2.2.2.1 (gU 0) ++ (wUses k gU u.2.2.2.2.1 ++ (wOut k gQ u.2.2.2.2.2)))))))))))))))) (fun v (u : (St) × (St) × (St) × (St) × (St) × (Nat → Int64)) => ∃ r : Int32, v = some (.int r) ∧ post r u) := by
  refine CW.of (by decide) (Nat.le_of_ble_eq_true rfl) ?_
  intro p e s m below meth c A H locs ls C hX hcx hP hD hS hl
  obtain ⟨hx, hb, hr, hlk, hml, hown, hts, hK, hA⟩ := id C
  obtain ⟨t9, hZ9, hT9, hE9⟩ := id hX.2
  replace hl : lv_has ls 5 [(0, .ref (gX 0)), (1, .int x1), (2, .int x2), (3, .ref (gQ 0))] := hl
  unfold wp_Law_giveBack at h
  refine lv_aload_n hx hb d_Law_giveBack_0 rfl (lv_at hl 3 rfl) ?_
  refine lv_iconst (v := 0) hx hb d_Law_giveBack_1 (by decide) ?_
  refine lv_aload_n hx hb d_Law_giveBack_2 rfl (lv_at hl 0 rfl) ?_
  refine lv_iload_n hx hb d_Law_giveBack_3 rfl (lv_at hl 1 rfl) ?_
  refine lv_iload_n hx hb d_Law_giveBack_4 rfl (lv_at hl 2 rfl) ?_
  refine callXV (As := [.int x1, .int x2]) (rest := [.int 0, .ref (gQ 0)]) C hX hS (Jn.part (wr := [(gQ 0, .inl (k 2, 1, .inr (.inl ο)))]) (wn := (fun u1 : (St) × (St) × (St) × (St) × (St) => wTill k gX u1.1 x_tariff x_basket (gB 0) (gL 0) x_plan (gA 0) ++ (wAL k gA α (gE 0) ++ (wEl k gE ε fE nE ++ (wRec k gC u1.2.1 (gT 0) (gB2 0) ++ (wBasket k gB2 β2 ++ (wTariff k gT τ (fun i => some (go i 0)) ++ (wOffer k (go 0) (ω 0) ++ (wOffer k (go 1) (ω 1) ++ (wOffer k (go 2) (ω 2) ++ (wOffer k (go 3) (ω 3) ++ (wOffer k (go 4) (ω 4) ++ (wOffer k (go 5) (ω 5) ++ (wBasket k gB u1.2.2.1 ++ (wPlanner k gL u1.2.2.2.1 (gU 0) ++ (wUses k gU u1.2.2.2.2 ++ (wOut k gQ ο))))))))))))))))) hP hD hS hA [0, 1, 2, 3, 4, 5, 6, 7, 8, 9, 10, 11, 12, 13, 14, 15, 16, 17, 18, 19, 20, 21, 22, 23, 24, 25, 26, 27, 28, 29, 30, 31, 32, 33, 34, 35, 36, 37, 38, 39, 40] [41] [1, 2, 3, 4, 5, 6, 7, 8, 9, 10, 11, 12, 13, 14, 15, 16, 17, 18, 19, 20, 21, 22, 23, 24, 25, 26, 27, 28, 29, 30, 31, 32, 33, 34, 35, 36, 37, 38, 39, 40, 41, 0] rfl (by decide) rfl (by decide) (by decide) (fun _ => rfl) (by decide)) (m_Till_giveBack hlt N gX gA gE gC gB2 gT go gB gL gU x_tariff x_basket x_plan fE nE θ α ε χ β2 τ ω β κ υ x1 x2 hno hne _ _ h) kw_806 kw_807 kw_808 kw_1 kw_809 hd_Till_giveBack 0 rfl rfl rfl rfl ⟨Nat.le_of_ble_eq_true rfl, Nat.le_of_ble_eq_true rfl⟩ ⟨Nat.le_of_ble_eq_true rfl, Nat.le_of_ble_eq_true rfl⟩ hl.1 (Nat.le_of_ble_eq_true rfl) d_Law_giveBack_5 (fun v9 u1 H locs h hP hD hS => ?_) (fun q9 E9 u1 ce9 H locs h hP hD hS hce9 hcv9 hcl9 => ?_)
  rotate_left
  · rcases h with ⟨rfl, h⟩ | ⟨rfl, h⟩
    · refine catchX C hX [] { startPc := 0, endPc := 10, handlerPc := 13, catchType := 38 } [{ startPc := 0, endPc := 10, handlerPc := 17, catchType := 15 }] hcx (fun z hz => by cases hz) (by decide) (by decide) kw_463 (by decide +kernel) hce9 hcv9 hcl9 ?_
      refine W.eq (g2 := F0 m 13 ls [.ref q9]) rfl ?_
      replace hP : va_P D CL (wTill k gX u1.1 x_tariff x_basket (gB 0) (gL 0) x_plan (gA 0) ++ (wAL k gA α (gE 0) ++ (wEl k gE ε fE nE ++ (wRec k gC u1.2.1 (gT 0) (gB2 0) ++ (wBasket k gB2 β2 ++ (wTariff k gT τ (fun i => some (go i 0)) ++ (wOffer k (go 0) (ω 0) ++ (wOffer k (go 1) (ω 1) ++ (wOffer k (go 2) (ω 2) ++ (wOffer k (go 3) (ω 3) ++ (wOffer k (go 4) (ω 4) ++ (wOffer k (go 5) (ω 5) ++ (wBasket k gB u1.2.2.1 ++ (wPlanner k gL u1.2.2.2.1 (gU 0) ++ (wUses k gU u1.2.2.2.2 ++ (wOut k gQ ο)))))))))))))))) H := hP
      replace hD : va_D A (wTill k gX u1.1 x_tariff x_basket (gB 0) (gL 0) x_plan (gA 0) ++ (wAL k gA α (gE 0) ++ (wEl k gE ε fE nE ++ (wRec k gC u1.2.1 (gT 0) (gB2 0) ++ (wBasket k gB2 β2 ++ (wTariff k gT τ (fun i => some (go i 0)) ++ (wOffer k (go 0) (ω 0) ++ (wOffer k (go 1) (ω 1) ++ (wOffer k (go 2) (ω 2) ++ (wOffer k (go 3) (ω 3) ++ (wOffer k (go 4) (ω 4) ++ (wOffer k (go 5) (ω 5) ++ (wBasket k gB u1.2.2.1 ++ (wPlanner k gL u1.2.2.2.1 (gU 0) ++ (wUses k gU u1.2.2.2.2 ++ (wOut k gQ ο)))))))))))))))) := hD
      refine lv_astore (lv' := [(4, .ref q9), (0, .ref (gX 0)), (1, .int x1), (2, .int x2), (3, .ref (gQ 0))]) hx hb d_Law_giveBack_13 hl (by decide) rfl (fun ls hl => ?_)
      refine lv_iconst (v := 1) hx hb d_Law_giveBack_15 (by decide) ?_
      exact retX_i (u := (u1.1, u1.2.1, u1.2.2.1, u1.2.2.2.1, u1.2.2.2.2, ο)) (wf := (fun u : (St) × (St) × (St) × (St) × (St) × (Nat → Int64) => wTill k gX u.1 x_tariff x_basket (gB 0) (gL 0) x_plan (gA 0) ++ (wAL k gA α (gE 0) ++ (wEl k gE ε fE nE ++ (wRec k gC u.2.1 (gT 0) (gB2 0) ++ (wBasket k gB2 β2 ++ (wTariff k gT τ (fun i => some (go i 0)) ++ (wOffer k (go 0) (ω 0) ++ (wOffer k (go 1) (ω 1) ++ (wOffer k (go 2) (ω 2) ++ (wOffer k (go 3) (ω 3) ++ (wOffer k (go 4) (ω 4) ++ (wOffer k (go 5) (ω 5) ++ (wBasket k gB u.2.2.1 ++ (wPlanner k gL u.2.2.2.1 (gU 0) ++ (wUses k gU u.2.2.2.2.1 ++ (wOut k gQ u.2.2.2.2.2))))))))))))))))) C hP hD hS (Nat.le_of_ble_eq_true rfl) (Nat.le_of_ble_eq_true rfl) ⟨_, rfl, h⟩ d_Law_giveBack_16
    · refine catchX C hX [{ startPc := 0, endPc := 10, handlerPc := 13, catchType := 38 }] { startPc := 0, endPc := 10, handlerPc := 17, catchType := 15 } [] hcx (fun z hz => by rw [List.mem_singleton] at hz; subst hz; exact ⟨by decide, _, kw_463, va_Nc.of (hX.1 s #[] (State.WarmedH.refl s) (fun _ _ _ => rfl) _ (by decide +kernel : Cond.not (.castable eIS eIO) ∈ xW))⟩) (by decide) (by decide) kw_268 (by decide +kernel) hce9 hcv9 hcl9 ?_
      refine W.eq (g2 := F0 m 17 ls [.ref q9]) rfl ?_
      replace hP : va_P D CL (wTill k gX u1.1 x_tariff x_basket (gB 0) (gL 0) x_plan (gA 0) ++ (wAL k gA α (gE 0) ++ (wEl k gE ε fE nE ++ (wRec k gC u1.2.1 (gT 0) (gB2 0) ++ (wBasket k gB2 β2 ++ (wTariff k gT τ (fun i => some (go i 0)) ++ (wOffer k (go 0) (ω 0) ++ (wOffer k (go 1) (ω 1) ++ (wOffer k (go 2) (ω 2) ++ (wOffer k (go 3) (ω 3) ++ (wOffer k (go 4) (ω 4) ++ (wOffer k (go 5) (ω 5) ++ (wBasket k gB u1.2.2.1 ++ (wPlanner k gL u1.2.2.2.1 (gU 0) ++ (wUses k gU u1.2.2.2.2 ++ (wOut k gQ ο)))))))))))))))) H := hP
      replace hD : va_D A (wTill k gX u1.1 x_tariff x_basket (gB 0) (gL 0) x_plan (gA 0) ++ (wAL k gA α (gE 0) ++ (wEl k gE ε fE nE ++ (wRec k gC u1.2.1 (gT 0) (gB2 0) ++ (wBasket k gB2 β2 ++ (wTariff k gT τ (fun i => some (go i 0)) ++ (wOffer k (go 0) (ω 0) ++ (wOffer k (go 1) (ω 1) ++ (wOffer k (go 2) (ω 2) ++ (wOffer k (go 3) (ω 3) ++ (wOffer k (go 4) (ω 4) ++ (wOffer k (go 5) (ω 5) ++ (wBasket k gB u1.2.2.1 ++ (wPlanner k gL u1.2.2.2.1 (gU 0) ++ (wUses k gU u1.2.2.2.2 ++ (wOut k gQ ο)))))))))))))))) := hD
      refine lv_astore (lv' := [(4, .ref q9), (0, .ref (gX 0)), (1, .int x1), (2, .int x2), (3, .ref (gQ 0))]) hx hb d_Law_giveBack_17 hl (by decide) rfl (fun ls hl => ?_)
      refine lv_iconst (v := 2) hx hb d_Law_giveBack_19 (by decide) ?_
      exact retX_i (u := (u1.1, u1.2.1, u1.2.2.1, u1.2.2.2.1, u1.2.2.2.2, ο)) (wf := (fun u : (St) × (St) × (St) × (St) × (St) × (Nat → Int64) => wTill k gX u.1 x_tariff x_basket (gB 0) (gL 0) x_plan (gA 0) ++ (wAL k gA α (gE 0) ++ (wEl k gE ε fE nE ++ (wRec k gC u.2.1 (gT 0) (gB2 0) ++ (wBasket k gB2 β2 ++ (wTariff k gT τ (fun i => some (go i 0)) ++ (wOffer k (go 0) (ω 0) ++ (wOffer k (go 1) (ω 1) ++ (wOffer k (go 2) (ω 2) ++ (wOffer k (go 3) (ω 3) ++ (wOffer k (go 4) (ω 4) ++ (wOffer k (go 5) (ω 5) ++ (wBasket k gB u.2.2.1 ++ (wPlanner k gL u.2.2.2.1 (gU 0) ++ (wUses k gU u.2.2.2.2.1 ++ (wOut k gQ u.2.2.2.2.2))))))))))))))))) C hP hD hS (Nat.le_of_ble_eq_true rfl) (Nat.le_of_ble_eq_true rfl) ⟨_, rfl, h⟩ d_Law_giveBack_20
  obtain ⟨r2, rfl, h⟩ := h
  refine W.eq (g2 := F0 m 8 ls [.int r2, .int 0, .ref (gQ 0)]) rfl ?_
  replace hP : va_P D CL (wTill k gX u1.1 x_tariff x_basket (gB 0) (gL 0) x_plan (gA 0) ++ (wAL k gA α (gE 0) ++ (wEl k gE ε fE nE ++ (wRec k gC u1.2.1 (gT 0) (gB2 0) ++ (wBasket k gB2 β2 ++ (wTariff k gT τ (fun i => some (go i 0)) ++ (wOffer k (go 0) (ω 0) ++ (wOffer k (go 1) (ω 1) ++ (wOffer k (go 2) (ω 2) ++ (wOffer k (go 3) (ω 3) ++ (wOffer k (go 4) (ω 4) ++ (wOffer k (go 5) (ω 5) ++ (wBasket k gB u1.2.2.1 ++ (wPlanner k gL u1.2.2.2.1 (gU 0) ++ (wUses k gU u1.2.2.2.2 ++ (wOut k gQ ο)))))))))))))))) H := hP
  replace hD : va_D A (wTill k gX u1.1 x_tariff x_basket (gB 0) (gL 0) x_plan (gA 0) ++ (wAL k gA α (gE 0) ++ (wEl k gE ε fE nE ++ (wRec k gC u1.2.1 (gT 0) (gB2 0) ++ (wBasket k gB2 β2 ++ (wTariff k gT τ (fun i => some (go i 0)) ++ (wOffer k (go 0) (ω 0) ++ (wOffer k (go 1) (ω 1) ++ (wOffer k (go 2) (ω 2) ++ (wOffer k (go 3) (ω 3) ++ (wOffer k (go 4) (ω 4) ++ (wOffer k (go 5) (ω 5) ++ (wBasket k gB u1.2.2.1 ++ (wPlanner k gL u1.2.2.2.1 (gU 0) ++ (wUses k gU u1.2.2.2.2 ++ (wOut k gQ ο)))))))))))))))) := hD
  try dsimp only at h
  refine lv_i2l hx hb d_Law_giveBack_8 rfl ?_
  obtain ⟨hi3, h⟩ := h
  refine va_last hx hb hK hP hD hS 41 2 rfl rfl hi3 d_Law_giveBack_9 (fun H locs hP hD hS => ?_)
  obtain ⟨ο4, eο4⟩ : ∃ z, z = vp_updL ο (Int32.toNatClampNeg 0) (Int32.toInt64 r2) := ⟨_, rfl⟩
  replace hP : va_P D CL (wTill k gX u1.1 x_tariff x_basket (gB 0) (gL 0) x_plan (gA 0) ++ (wAL k gA α (gE 0) ++ (wEl k gE ε fE nE ++ (wRec k gC u1.2.1 (gT 0) (gB2 0) ++ (wBasket k gB2 β2 ++ (wTariff k gT τ (fun i => some (go i 0)) ++ (wOffer k (go 0) (ω 0) ++ (wOffer k (go 1) (ω 1) ++ (wOffer k (go 2) (ω 2) ++ (wOffer k (go 3) (ω 3) ++ (wOffer k (go 4) (ω 4) ++ (wOffer k (go 5) (ω 5) ++ (wBasket k gB u1.2.2.1 ++ (wPlanner k gL u1.2.2.2.1 (gU 0) ++ (wUses k gU u1.2.2.2.2 ++ (wOut k gQ ο4)))))))))))))))) H := by rw [eο4]; exact hP
  replace hD : va_D A (wTill k gX u1.1 x_tariff x_basket (gB 0) (gL 0) x_plan (gA 0) ++ (wAL k gA α (gE 0) ++ (wEl k gE ε fE nE ++ (wRec k gC u1.2.1 (gT 0) (gB2 0) ++ (wBasket k gB2 β2 ++ (wTariff k gT τ (fun i => some (go i 0)) ++ (wOffer k (go 0) (ω 0) ++ (wOffer k (go 1) (ω 1) ++ (wOffer k (go 2) (ω 2) ++ (wOffer k (go 3) (ω 3) ++ (wOffer k (go 4) (ω 4) ++ (wOffer k (go 5) (ω 5) ++ (wBasket k gB u1.2.2.1 ++ (wPlanner k gL u1.2.2.2.1 (gU 0) ++ (wUses k gU u1.2.2.2.2 ++ (wOut k gQ ο4)))))))))))))))) := by rw [eο4]; exact hD
  replace h := h ο4 eο4
  refine lv_goto (tgt := 21) hx hb d_Law_giveBack_10 (by decide) ?_
  refine lv_iconst (v := 0) hx hb d_Law_giveBack_21 (by decide) ?_
  exact retX_i (u := (u1.1, u1.2.1, u1.2.2.1, u1.2.2.2.1, u1.2.2.2.2, ο4)) (wf := (fun u : (St) × (St) × (St) × (St) × (St) × (Nat → Int64) => wTill k gX u.1 x_tariff x_basket (gB 0) (gL 0) x_plan (gA 0) ++ (wAL k gA α (gE 0) ++ (wEl k gE ε fE nE ++ (wRec k gC u.2.1 (gT 0) (gB2 0) ++ (wBasket k gB2 β2 ++ (wTariff k gT τ (fun i => some (go i 0)) ++ (wOffer k (go 0) (ω 0) ++ (wOffer k (go 1) (ω 1) ++ (wOffer k (go 2) (ω 2) ++ (wOffer k (go 3) (ω 3) ++ (wOffer k (go 4) (ω 4) ++ (wOffer k (go 5) (ω 5) ++ (wBasket k gB u.2.2.1 ++ (wPlanner k gL u.2.2.2.1 (gU 0) ++ (wUses k gU u.2.2.2.2.1 ++ (wOut k gQ u.2.2.2.2.2))))))))))))))))) C hP hD hS (Nat.le_of_ble_eq_true rfl) (Nat.le_of_ble_eq_true rfl) ⟨_, rfl, h⟩ d_Law_giveBack_22
set_option maxHeartbeats 4000000 in
set_option maxRecDepth 100000 in
theorem m_Law_giveBackN {l : Launch} {D : va_G} {k : Nat → ClassId} (hlt : l.stackTraces = false) (N : Nat) (gX : Nat → Nat) (gA : Nat → Nat) (gQ : Nat → Nat) (x_tariff : Nat) (x_basket : Nat) (x_keptUnits : Nat) (x_planner : Nat) (x_plan : Nat) (xe : Nat) (θ : St) (α : St) (ο : Nat → Int64) (x1 : Int32) (x2 : Int32) (post : Int32 → ((Nat → Int64)) → Prop) (h : wp_Law_giveBackN N  θ α ο x1 x2 post) : CW l D k y_Law_giveBackN b_Law_giveBackN 5 [(0, 10, 13, 38), (0, 10, 17, 15)] rm_Law_giveBackN [.ref (gX 0), .int x1, .int x2, .ref (gQ 0)] (wTill k gX θ x_tariff x_basket x_keptUnits x_planner x_plan (gA 0) ++ (wAL k gA α xe ++ (wOut k gQ ο))) (fun u : (Nat → Int64) => wTill k gX θ x_tariff x_basket x_keptUnits x_planner x_plan (gA 0) ++ (wAL k gA α xe ++ (wOut k gQ u))) (fun v (u : (Nat → Int64)) => ∃ r : Int32, v = some (.int r) ∧ post r u) := by
  refine CW.of (by decide) (Nat.le_of_ble_eq_true rfl) ?_
  intro p e s m below meth c A H locs ls C hX hcx hP hD hS hl
  obtain ⟨hx, hb, hr, hlk, hml, hown, hts, hK, hA⟩ := id C
  obtain ⟨t9, hZ9, hT9, hE9⟩ := id hX.2
  replace hl : lv_has ls 5 [(0, .ref (gX 0)), (1, .int x1), (2, .int x2), (3, .ref (gQ 0))] := hl
  unfold wp_Law_giveBackN at h
  refine lv_aload_n hx hb d_Law_giveBackN_0 rfl (lv_at hl 3 rfl) ?_
  refine lv_iconst (v := 0) hx hb d_Law_giveBackN_1 (by decide) ?_
  refine lv_aload_n hx hb d_Law_giveBackN_2 rfl (lv_at hl 0 rfl) ?_
  refine lv_iload_n hx hb d_Law_giveBackN_3 rfl (lv_at hl 1 rfl) ?_
  refine lv_iload_n hx hb d_Law_giveBackN_4 rfl (lv_at hl 2 rfl) ?_
  refine callXV (As := [.int x1, .int x2]) (rest := [.int 0, .ref (gQ 0)]) C hX hS (Jn.part (wr := [(gQ 0, .inl (k 2, 1, .inr (.inl ο)))]) (wn := (fun u1 : Unit => wTill k gX θ x_tariff x_basket x_keptUnits x_planner x_plan (gA 0) ++ (wAL k gA α xe ++ (wOut k gQ ο)))) hP hD hS hA [0, 1, 2] [3] [1, 2, 3, 0] rfl (by decide) rfl (by decide) (by decide) (fun _ => rfl) (by decide)) (m_Till_giveBackN hlt N gX gA x_tariff x_basket x_keptUnits x_planner x_plan xe θ α x1 x2  _ _ h) kw_806 kw_807 kw_808 kw_1 kw_809 hd_Till_giveBackN 0 rfl rfl rfl rfl ⟨Nat.le_of_ble_eq_true rfl, Nat.le_of_ble_eq_true rfl⟩ ⟨Nat.le_of_ble_eq_true rfl, Nat.le_of_ble_eq_true rfl⟩ hl.1 (Nat.le_of_ble_eq_true rfl) d_Law_giveBackN_5 (fun v9 u1 H locs h hP hD hS => ?_) (fun q9 E9 u1 ce9 H locs h hP hD hS hce9 hcv9 hcl9 => ?_)
  rotate_left
  · rcases h with ⟨rfl, h⟩ | ⟨rfl, h⟩
    · refine catchX C hX [] { startPc := 0, endPc := 10, handlerPc := 13, catchType := 38 } [{ startPc := 0, endPc := 10, handlerPc := 17, catchType := 15 }] hcx (fun z hz => by cases hz) (by decide) (by decide) kw_463 (by decide +kernel) hce9 hcv9 hcl9 ?_
      refine W.eq (g2 := F0 m 13 ls [.ref q9]) rfl ?_
      replace hP : va_P D CL (wTill k gX θ x_tariff x_basket x_keptUnits x_planner x_plan (gA 0) ++ (wAL k gA α xe ++ (wOut k gQ ο))) H := hP
      replace hD : va_D A (wTill k gX θ x_tariff x_basket x_keptUnits x_planner x_plan (gA 0) ++ (wAL k gA α xe ++ (wOut k gQ ο))) := hD
      refine lv_astore (lv' := [(4, .ref q9), (0, .ref (gX 0)), (1, .int x1), (2, .int x2), (3, .ref (gQ 0))]) hx hb d_Law_giveBackN_13 hl (by decide) rfl (fun ls hl => ?_)
      refine lv_iconst (v := 1) hx hb d_Law_giveBackN_15 (by decide) ?_
      exact retX_i (u := ο) (wf := (fun u : (Nat → Int64) => wTill k gX θ x_tariff x_basket x_keptUnits x_planner x_plan (gA 0) ++ (wAL k gA α xe ++ (wOut k gQ u)))) C hP hD hS (Nat.le_of_ble_eq_true rfl) (Nat.le_of_ble_eq_true rfl) ⟨_, rfl, h⟩ d_Law_giveBackN_16
    · refine catchX C hX [{ startPc := 0, endPc := 10, handlerPc := 13, catchType := 38 }] { startPc := 0, endPc := 10, handlerPc := 17, catchType := 15 } [] hcx (fun z hz => by rw [List.mem_singleton] at hz; subst hz; exact ⟨by decide, _, kw_463, va_Nc.of (hX.1 s #[] (State.WarmedH.refl s) (fun _ _ _ => rfl) _ (by decide +kernel : Cond.not (.castable eIS eIO) ∈ xW))⟩) (by decide) (by decide) kw_268 (by decide +kernel) hce9 hcv9 hcl9 ?_
      refine W.eq (g2 := F0 m 17 ls [.ref q9]) rfl ?_
      replace hP : va_P D CL (wTill k gX θ x_tariff x_basket x_keptUnits x_planner x_plan (gA 0) ++ (wAL k gA α xe ++ (wOut k gQ ο))) H := hP
      replace hD : va_D A (wTill k gX θ x_tariff x_basket x_keptUnits x_planner x_plan (gA 0) ++ (wAL k gA α xe ++ (wOut k gQ ο))) := hD
      refine lv_astore (lv' := [(4, .ref q9), (0, .ref (gX 0)), (1, .int x1), (2, .int x2), (3, .ref (gQ 0))]) hx hb d_Law_giveBackN_17 hl (by decide) rfl (fun ls hl => ?_)
      refine lv_iconst (v := 2) hx hb d_Law_giveBackN_19 (by decide) ?_
      exact retX_i (u := ο) (wf := (fun u : (Nat → Int64) => wTill k gX θ x_tariff x_basket x_keptUnits x_planner x_plan (gA 0) ++ (wAL k gA α xe ++ (wOut k gQ u)))) C hP hD hS (Nat.le_of_ble_eq_true rfl) (Nat.le_of_ble_eq_true rfl) ⟨_, rfl, h⟩ d_Law_giveBackN_20
  obtain ⟨r2, rfl, h⟩ := h
  refine W.eq (g2 := F0 m 8 ls [.int r2, .int 0, .ref (gQ 0)]) rfl ?_
  replace hP : va_P D CL (wTill k gX θ x_tariff x_basket x_keptUnits x_planner x_plan (gA 0) ++ (wAL k gA α xe ++ (wOut k gQ ο))) H := hP
  replace hD : va_D A (wTill k gX θ x_tariff x_basket x_keptUnits x_planner x_plan (gA 0) ++ (wAL k gA α xe ++ (wOut k gQ ο))) := hD
  try dsimp only at h
  refine lv_i2l hx hb d_Law_giveBackN_8 rfl ?_
  obtain ⟨hi3, h⟩ := h
  refine va_last hx hb hK hP hD hS 3 2 rfl rfl hi3 d_Law_giveBackN_9 (fun H locs hP hD hS => ?_)
  obtain ⟨ο4, eο4⟩ : ∃ z, z = vp_updL ο (Int32.toNatClampNeg 0) (Int32.toInt64 r2) := ⟨_, rfl⟩
  replace hP : va_P D CL (wTill k gX θ x_tariff x_basket x_keptUnits x_planner x_plan (gA 0) ++ (wAL k gA α xe ++ (wOut k gQ ο4))) H := by rw [eο4]; exact hP
  replace hD : va_D A (wTill k gX θ x_tariff x_basket x_keptUnits x_planner x_plan (gA 0) ++ (wAL k gA α xe ++ (wOut k gQ ο4))) := by rw [eο4]; exact hD
  replace h := h ο4 eο4
  refine lv_goto (tgt := 21) hx hb d_Law_giveBackN_10 (by decide) ?_
  refine lv_iconst (v := 0) hx hb d_Law_giveBackN_21 (by decide) ?_
  exact retX_i (u := ο4) (wf := (fun u : (Nat → Int64) => wTill k gX θ x_tariff x_basket x_keptUnits x_planner x_plan (gA 0) ++ (wAL k gA α xe ++ (wOut k gQ u)))) C hP hD hS (Nat.le_of_ble_eq_true rfl) (Nat.le_of_ble_eq_true rfl) ⟨_, rfl, h⟩ d_Law_giveBackN_22
set_option maxHeartbeats 4000000 in
set_option maxRecDepth 100000 in
theorem m_Law_receipt {l : Launch} {D : va_G} {k : Nat → ClassId} (hlt : l.stackTraces = false) (N : Nat) (gX : Nat → Nat) (gA : Nat → Nat) (gE : Nat → Nat) (gC : Nat → Nat) (gB2 : Nat → Nat) (gQ : Nat → Nat) (x_tariff : Nat) (x_basket : Nat) (x_keptUnits : Nat) (x_planner : Nat) (x_plan : Nat) (fE : Nat → Option Nat) (nE : Nat) (xt : Nat) (θ : St) (α : St) (ε : St) (χ : St) (β2 : St) (ο : Nat → Int64) (x1 : Int32) (x2 : Int32) (hno : fE (Int32.toNatClampNeg x1) = some (gC 0)) (hne : vp_in x1 nE) (post : Int32 → ((Nat → Int64)) → Prop) (h : wp_Law_receipt N  θ α ε χ β2 ο x1 x2 post) : CW l D k y_Law_receipt b_Law_receipt 5 [(0, 10, 13, 13), (0, 10, 17, 38)] rm_Law_receipt [.ref (gX 0), .int x1, .int x2, .ref (gQ 0)] (wTill k gX θ x_tariff x_basket x_keptUnits x_planner x_plan (gA 0) ++ (wAL k gA α (gE 0) ++ (wEl k gE ε fE nE ++ (wRec k gC χ xt (gB2 0) ++ (wBasket k gB2 β2 ++ (wOut k gQ ο)))))) (fun u : (Nat → Int64) => wTill k gX θ x_tariff x_basket x_keptUnits x_planner x_plan (gA 0) ++ (wAL k gA α (gE 0) ++ (wEl k gE ε fE nE ++ (wRec k gC χ xt (gB2 0) ++ (wBasket k gB2 β2 ++ (wOut k gQ u)))))) (fun v (u : (Nat → Int64)) => ∃ r : Int32, v = some (.int r) ∧ post r u) := by
  refine CW.of (by decide) (Nat.le_of_ble_eq_true rfl) ?_
  intro p e s m below meth c A H locs ls C hX hcx hP hD hS hl
  obtain ⟨hx, hb, hr, hlk, hml, hown, hts, hK, hA⟩ := id C
  obtain ⟨t9, hZ9, hT9, hE9⟩ := id hX.2
  replace hl : lv_has ls 5 [(0, .ref (gX 0)), (1, .int x1), (2, .int x2), (3, .ref (gQ 0))] := hl
  unfold wp_Law_receipt at h
  refine lv_aload_n hx hb d_Law_receipt_0 rfl (lv_at hl 3 rfl) ?_
  refine lv_iconst (v := 0) hx hb d_Law_receipt_1 (by decide) ?_
  refine lv_aload_n hx hb d_Law_receipt_2 rfl (lv_at hl 0 rfl) ?_
  refine lv_iload_n hx hb d_Law_receipt_3 rfl (lv_at hl 1 rfl) ?_
  refine lv_iload_n hx hb d_Law_receipt_4 rfl (lv_at hl 2 rfl) ?_
  refine callXV (As := [.int x1, .int x2]) (rest := [.int 0, .ref (gQ 0)]) C hX hS (Jn.part (wr := [(gQ 0, .inl (k 2, 1, .inr (.inl ο)))]) (wn := (fun u1 : Unit => wTill k gX θ x_tariff x_basket x_keptUnits x_planner x_plan (gA 0) ++ (wAL k gA α (gE 0) ++ (wEl k gE ε fE nE ++ (wRec k gC χ xt (gB2 0) ++ (wBasket k gB2 β2 ++ (wOut k gQ ο))))))) hP hD hS hA [0, 1, 2, 3, 4, 5, 6, 7, 8, 9] [10] [1, 2, 3, 4, 5, 6, 7, 8, 9, 10, 0] rfl (by decide) rfl (by decide) (by decide) (fun _ => rfl) (by decide)) (m_Till_receipt hlt N gX gA gE gC gB2 x_tariff x_basket x_keptUnits x_planner x_plan fE nE xt θ α ε χ β2 x1 x2 hno hne _ _ h) kw_841 kw_842 kw_843 kw_1 kw_844 hd_Till_receipt 0 rfl rfl rfl rfl ⟨Nat.le_of_ble_eq_true rfl, Nat.le_of_ble_eq_true rfl⟩ ⟨Nat.le_of_ble_eq_true rfl, Nat.le_of_ble_eq_true rfl⟩ hl.1 (Nat.le_of_ble_eq_true rfl) d_Law_receipt_5 (fun v9 u1 H locs h hP hD hS => ?_) (fun q9 E9 u1 ce9 H locs h hP hD hS hce9 hcv9 hcl9 => ?_)
  rotate_left
  · rcases h with ⟨rfl, h⟩ | ⟨rfl, h⟩
    · refine catchX C hX [] { startPc := 0, endPc := 10, handlerPc := 13, catchType := 13 } [{ startPc := 0, endPc := 10, handlerPc := 17, catchType := 38 }] hcx (fun z hz => by cases hz) (by decide) (by decide) kw_267 (by decide +kernel) hce9 hcv9 hcl9 ?_
      refine W.eq (g2 := F0 m 13 ls [.ref q9]) rfl ?_
      replace hP : va_P D CL (wTill k gX θ x_tariff x_basket x_keptUnits x_planner x_plan (gA 0) ++ (wAL k gA α (gE 0) ++ (wEl k gE ε fE nE ++ (wRec k gC χ xt (gB2 0) ++ (wBasket k gB2 β2 ++ (wOut k gQ ο)))))) H := hP
      replace hD : va_D A (wTill k gX θ x_tariff x_basket x_keptUnits x_planner x_plan (gA 0) ++ (wAL k gA α (gE 0) ++ (wEl k gE ε fE nE ++ (wRec k gC χ xt (gB2 0) ++ (wBasket k gB2 β2 ++ (wOut k gQ ο)))))) := hD
      refine lv_astore (lv' := [(4, .ref q9), (0, .ref (gX 0)), (1, .int x1), (2, .int x2), (3, .ref (gQ 0))]) hx hb d_Law_receipt_13 hl (by decide) rfl (fun ls hl => ?_)
      refine lv_iconst (v := 1) hx hb d_Law_receipt_15 (by decide) ?_
      exact retX_i (u := ο) (wf := (fun u : (Nat → Int64) => wTill k gX θ x_tariff x_basket x_keptUnits x_planner x_plan (gA 0) ++ (wAL k gA α (gE 0) ++ (wEl k gE ε fE nE ++ (wRec k gC χ xt (gB2 0) ++ (wBasket k gB2 β2 ++ (wOut k gQ u))))))) C hP hD hS (Nat.le_of_ble_eq_true rfl) (Nat.le_of_ble_eq_true rfl) ⟨_, rfl, h⟩ d_Law_receipt_16
    · refine catchX C hX [{ startPc := 0, endPc := 10, handlerPc := 13, catchType := 13 }] { startPc := 0, endPc := 10, handlerPc := 17, catchType := 38 } [] hcx (fun z hz => by rw [List.mem_singleton] at hz; subst hz; exact ⟨by decide, _, kw_267, va_Nc.of (hX.1 s #[] (State.WarmedH.refl s) (fun _ _ _ => rfl) _ (by decide +kernel : Cond.not (.castable eIO eIA) ∈ xW))⟩) (by decide) (by decide) kw_463 (by decide +kernel) hce9 hcv9 hcl9 ?_
      refine W.eq (g2 := F0 m 17 ls [.ref q9]) rfl ?_
      replace hP : va_P D CL (wTill k gX θ x_tariff x_basket x_keptUnits x_planner x_plan (gA 0) ++ (wAL k gA α (gE 0) ++ (wEl k gE ε fE nE ++ (wRec k gC χ xt (gB2 0) ++ (wBasket k gB2 β2 ++ (wOut k gQ ο)))))) H := hP
      replace hD : va_D A (wTill k gX θ x_tariff x_basket x_keptUnits x_planner x_plan (gA 0) ++ (wAL k gA α (gE 0) ++ (wEl k gE ε fE nE ++ (wRec k gC χ xt (gB2 0) ++ (wBasket k gB2 β2 ++ (wOut k gQ ο)))))) := hD
      refine lv_astore (lv' := [(4, .ref q9), (0, .ref (gX 0)), (1, .int x1), (2, .int x2), (3, .ref (gQ 0))]) hx hb d_Law_receipt_17 hl (by decide) rfl (fun ls hl => ?_)
      refine lv_iconst (v := 2) hx hb d_Law_receipt_19 (by decide) ?_
      exact retX_i (u := ο) (wf := (fun u : (Nat → Int64) => wTill k gX θ x_tariff x_basket x_keptUnits x_planner x_plan (gA 0) ++ (wAL k gA α (gE 0) ++ (wEl k gE ε fE nE ++ (wRec k gC χ xt (gB2 0) ++ (wBasket k gB2 β2 ++ (wOut k gQ u))))))) C hP hD hS (Nat.le_of_ble_eq_true rfl) (Nat.le_of_ble_eq_true rfl) ⟨_, rfl, h⟩ d_Law_receipt_20
  obtain ⟨r2, rfl, h⟩ := h
  refine W.eq (g2 := F0 m 8 ls [.int r2, .int 0, .ref (gQ 0)]) rfl ?_
  replace hP : va_P D CL (wTill k gX θ x_tariff x_basket x_keptUnits x_planner x_plan (gA 0) ++ (wAL k gA α (gE 0) ++ (wEl k gE ε fE nE ++ (wRec k gC χ xt (gB2 0) ++ (wBasket k gB2 β2 ++ (wOut k gQ ο)))))) H := hP
  replace hD : va_D A (wTill k gX θ x_tariff x_basket x_keptUnits x_planner x_plan (gA 0) ++ (wAL k gA α (gE 0) ++ (wEl k gE ε fE nE ++ (wRec k gC χ xt (gB2 0) ++ (wBasket k gB2 β2 ++ (wOut k gQ ο)))))) := hD
  try dsimp only at h
  refine lv_i2l hx hb d_Law_receipt_8 rfl ?_
  obtain ⟨hi3, h⟩ := h
  refine va_last hx hb hK hP hD hS 10 2 rfl rfl hi3 d_Law_receipt_9 (fun H locs hP hD hS => ?_)
  obtain ⟨ο4, eο4⟩ : ∃ z, z = vp_updL ο (Int32.toNatClampNeg 0) (Int32.toInt64 r2) := ⟨_, rfl⟩
  replace hP : va_P D CL (wTill k gX θ x_tariff x_basket x_keptUnits x_planner x_plan (gA 0) ++ (wAL k gA α (gE 0) ++ (wEl k gE ε fE nE ++ (wRec k gC χ xt (gB2 0) ++ (wBasket k gB2 β2 ++ (wOut k gQ ο4)))))) H := by rw [eο4]; exact hP
  replace hD : va_D A (wTill k gX θ x_tariff x_basket x_keptUnits x_planner x_plan (gA 0) ++ (wAL k gA α (gE 0) ++ (wEl k gE ε fE nE ++ (wRec k gC χ xt (gB2 0) ++ (wBasket k gB2 β2 ++ (wOut k gQ ο4)))))) := by rw [eο4]; exact hD
  replace h := h ο4 eο4
  refine lv_goto (tgt := 21) hx hb d_Law_receipt_10 (by decide) ?_
  refine lv_iconst (v := 0) hx hb d_Law_receipt_21 (by decide) ?_
  exact retX_i (u := ο4) (wf := (fun u : (Nat → Int64) => wTill k gX θ x_tariff x_basket x_keptUnits x_planner x_plan (gA 0) ++ (wAL k gA α (gE 0) ++ (wEl k gE ε fE nE ++ (wRec k gC χ xt (gB2 0) ++ (wBasket k gB2 β2 ++ (wOut k gQ u))))))) C hP hD hS (Nat.le_of_ble_eq_true rfl) (Nat.le_of_ble_eq_true rfl) ⟨_, rfl, h⟩ d_Law_receipt_22
set_option maxHeartbeats 4000000 in
set_option maxRecDepth 100000 in
theorem m_Law_receiptN {l : Launch} {D : va_G} {k : Nat → ClassId} (hlt : l.stackTraces = false) (N : Nat) (gX : Nat → Nat) (gA : Nat → Nat) (gQ : Nat → Nat) (x_tariff : Nat) (x_basket : Nat) (x_keptUnits : Nat) (x_planner : Nat) (x_plan : Nat) (xe : Nat) (θ : St) (α : St) (ο : Nat → Int64) (x1 : Int32) (x2 : Int32) (post : Int32 → ((Nat → Int64)) → Prop) (h : wp_Law_receiptN N  θ α ο x1 x2 post) : CW l D k y_Law_receiptN b_Law_receiptN 5 [(0, 10, 13, 13), (0, 10, 17, 38)] rm_Law_receiptN [.ref (gX 0), .int x1, .int x2, .ref (gQ 0)] (wTill k gX θ x_tariff x_basket x_keptUnits x_planner x_plan (gA 0) ++ (wAL k gA α xe ++ (wOut k gQ ο))) (fun u : (Nat → Int64) => wTill k gX θ x_tariff x_basket x_keptUnits x_planner x_plan (gA 0) ++ (wAL k gA α xe ++ (wOut k gQ u))) (fun v (u : (Nat → Int64)) => ∃ r : Int32, v = some (.int r) ∧ post r u) := by
  refine CW.of (by decide) (Nat.le_of_ble_eq_true rfl) ?_
  intro p e s m below meth c A H locs ls C hX hcx hP hD hS hl
  obtain ⟨hx, hb, hr, hlk, hml, hown, hts, hK, hA⟩ := id C
  obtain ⟨t9, hZ9, hT9, hE9⟩ := id hX.2
  replace hl : lv_has ls 5 [(0, .ref (gX 0)), (1, .int x1), (2, .int x2), (3, .ref (gQ 0))] := hl
  unfold wp_Law_receiptN at h
  refine lv_aload_n hx hb d_Law_receiptN_0 rfl (lv_at hl 3 rfl) ?_
  refine lv_iconst (v := 0) hx hb d_Law_receiptN_1 (by decide) ?_
  refine lv_aload_n hx hb d_Law_receiptN_2 rfl (lv_at hl 0 rfl) ?_
  refine lv_iload_n hx hb d_Law_receiptN_3 rfl (lv_at hl 1 rfl) ?_
  refine lv_iload_n hx hb d_Law_receiptN_4 rfl (lv_at hl 2 rfl) ?_
  refine callXV (As := [.int x1, .int x2]) (rest := [.int 0, .ref (gQ 0)]) C hX hS (Jn.part (wr := [(gQ 0, .inl (k 2, 1, .inr (.inl ο)))]) (wn := (fun u1 : Unit => wTill k gX θ x_tariff x_basket x_keptUnits x_planner x_plan (gA 0) ++ (wAL k gA α xe ++ (wOut k gQ ο)))) hP hD hS hA [0, 1, 2] [3] [1, 2, 3, 0] rfl (by decide) rfl (by decide) (by decide) (fun _ => rfl) (by decide)) (m_Till_receiptN hlt N gX gA x_tariff x_basket x_keptUnits x_planner x_plan xe θ α x1 x2  _ _ h) kw_841 kw_842 kw_843 kw_1 kw_844 hd_Till_receiptN 0 rfl rfl rfl rfl ⟨Nat.le_of_ble_eq_true rfl, Nat.le_of_ble_eq_true rfl⟩ ⟨Nat.le_of_ble_eq_true rfl, Nat.le_of_ble_eq_true rfl⟩ hl.1 (Nat.le_of_ble_eq_true rfl) d_Law_receiptN_5 (fun v9 u1 H locs h hP hD hS => ?_) (fun q9 E9 u1 ce9 H locs h hP hD hS hce9 hcv9 hcl9 => ?_)
  rotate_left
  · rcases h with ⟨rfl, h⟩ | ⟨rfl, h⟩
    · refine catchX C hX [] { startPc := 0, endPc := 10, handlerPc := 13, catchType := 13 } [{ startPc := 0, endPc := 10, handlerPc := 17, catchType := 38 }] hcx (fun z hz => by cases hz) (by decide) (by decide) kw_267 (by decide +kernel) hce9 hcv9 hcl9 ?_
      refine W.eq (g2 := F0 m 13 ls [.ref q9]) rfl ?_
      replace hP : va_P D CL (wTill k gX θ x_tariff x_basket x_keptUnits x_planner x_plan (gA 0) ++ (wAL k gA α xe ++ (wOut k gQ ο))) H := hP
      replace hD : va_D A (wTill k gX θ x_tariff x_basket x_keptUnits x_planner x_plan (gA 0) ++ (wAL k gA α xe ++ (wOut k gQ ο))) := hD
      refine lv_astore (lv' := [(4, .ref q9), (0, .ref (gX 0)), (1, .int x1), (2, .int x2), (3, .ref (gQ 0))]) hx hb d_Law_receiptN_13 hl (by decide) rfl (fun ls hl => ?_)
      refine lv_iconst (v := 1) hx hb d_Law_receiptN_15 (by decide) ?_
      exact retX_i (u := ο) (wf := (fun u : (Nat → Int64) => wTill k gX θ x_tariff x_basket x_keptUnits x_planner x_plan (gA 0) ++ (wAL k gA α xe ++ (wOut k gQ u)))) C hP hD hS (Nat.le_of_ble_eq_true rfl) (Nat.le_of_ble_eq_true rfl) ⟨_, rfl, h⟩ d_Law_receiptN_16
    · refine catchX C hX [{ startPc := 0, endPc := 10, handlerPc := 13, catchType := 13 }] { startPc := 0, endPc := 10, handlerPc := 17, catchType := 38 } [] hcx (fun z hz => by rw [List.mem_singleton] at hz; subst hz; exact ⟨by decide, _, kw_267, va_Nc.of (hX.1 s #[] (State.WarmedH.refl s) (fun _ _ _ => rfl) _ (by decide +kernel : Cond.not (.castable eIO eIA) ∈ xW))⟩) (by decide) (by decide) kw_463 (by decide +kernel) hce9 hcv9 hcl9 ?_
      refine W.eq (g2 := F0 m 17 ls [.ref q9]) rfl ?_
      replace hP : va_P D CL (wTill k gX θ x_tariff x_basket x_keptUnits x_planner x_plan (gA 0) ++ (wAL k gA α xe ++ (wOut k gQ ο))) H := hP
      replace hD : va_D A (wTill k gX θ x_tariff x_basket x_keptUnits x_planner x_plan (gA 0) ++ (wAL k gA α xe ++ (wOut k gQ ο))) := hD
      refine lv_astore (lv' := [(4, .ref q9), (0, .ref (gX 0)), (1, .int x1), (2, .int x2), (3, .ref (gQ 0))]) hx hb d_Law_receiptN_17 hl (by decide) rfl (fun ls hl => ?_)
      refine lv_iconst (v := 2) hx hb d_Law_receiptN_19 (by decide) ?_
      exact retX_i (u := ο) (wf := (fun u : (Nat → Int64) => wTill k gX θ x_tariff x_basket x_keptUnits x_planner x_plan (gA 0) ++ (wAL k gA α xe ++ (wOut k gQ u)))) C hP hD hS (Nat.le_of_ble_eq_true rfl) (Nat.le_of_ble_eq_true rfl) ⟨_, rfl, h⟩ d_Law_receiptN_20
  obtain ⟨r2, rfl, h⟩ := h
  refine W.eq (g2 := F0 m 8 ls [.int r2, .int 0, .ref (gQ 0)]) rfl ?_
  replace hP : va_P D CL (wTill k gX θ x_tariff x_basket x_keptUnits x_planner x_plan (gA 0) ++ (wAL k gA α xe ++ (wOut k gQ ο))) H := hP
  replace hD : va_D A (wTill k gX θ x_tariff x_basket x_keptUnits x_planner x_plan (gA 0) ++ (wAL k gA α xe ++ (wOut k gQ ο))) := hD
  try dsimp only at h
  refine lv_i2l hx hb d_Law_receiptN_8 rfl ?_
  obtain ⟨hi3, h⟩ := h
  refine va_last hx hb hK hP hD hS 3 2 rfl rfl hi3 d_Law_receiptN_9 (fun H locs hP hD hS => ?_)
  obtain ⟨ο4, eο4⟩ : ∃ z, z = vp_updL ο (Int32.toNatClampNeg 0) (Int32.toInt64 r2) := ⟨_, rfl⟩
  replace hP : va_P D CL (wTill k gX θ x_tariff x_basket x_keptUnits x_planner x_plan (gA 0) ++ (wAL k gA α xe ++ (wOut k gQ ο4))) H := by rw [eο4]; exact hP
  replace hD : va_D A (wTill k gX θ x_tariff x_basket x_keptUnits x_planner x_plan (gA 0) ++ (wAL k gA α xe ++ (wOut k gQ ο4))) := by rw [eο4]; exact hD
  replace h := h ο4 eο4
  refine lv_goto (tgt := 21) hx hb d_Law_receiptN_10 (by decide) ?_
  refine lv_iconst (v := 0) hx hb d_Law_receiptN_21 (by decide) ?_
  exact retX_i (u := ο4) (wf := (fun u : (Nat → Int64) => wTill k gX θ x_tariff x_basket x_keptUnits x_planner x_plan (gA 0) ++ (wAL k gA α xe ++ (wOut k gQ u)))) C hP hD hS (Nat.le_of_ble_eq_true rfl) (Nat.le_of_ble_eq_true rfl) ⟨_, rfl, h⟩ d_Law_receiptN_22
set_option maxHeartbeats 4000000 in
set_option maxRecDepth 100000 in
theorem m_Law_line {l : Launch} {D : va_G} {k : Nat → ClassId} (hlt : l.stackTraces = false) (N : Nat) (gX : Nat → Nat) (gA : Nat → Nat) (gE : Nat → Nat) (gC : Nat → Nat) (gB2 : Nat → Nat) (gQ : Nat → Nat) (x_tariff : Nat) (x_basket : Nat) (x_keptUnits : Nat) (x_planner : Nat) (x_plan : Nat) (fE : Nat → Option Nat) (nE : Nat) (xt : Nat) (θ : St) (α : St) (ε : St) (χ : St) (β2 : St) (ο : Nat → Int64) (x1 : Int32) (x2 : Int32) (x3 : Int32) (hno : fE (Int32.toNatClampNeg x1) = some (gC 0)) (hne : vp_in x1 nE) (post : Int32 → ((Nat → Int64)) → Prop) (h : wp_Law_line N  θ α ε χ β2 ο x1 x2 x3 post) : CW l D k y_Law_line b_Law_line 6 [(0, 12, 15, 38), (0, 12, 19, 13)] rm_Law_line [.ref (gX 0), .int x1, .int x2, .int x3, .ref (gQ 0)] (wTill k gX θ x_tariff x_basket x_keptUnits x_planner x_plan (gA 0) ++ (wAL k gA α (gE 0) ++ (wEl k gE ε fE nE ++ (wRec k gC χ xt (gB2 0) ++ (wBasket k gB2 β2 ++ (wOut k gQ ο)))))) (fun u : (Nat → Int64) => wTill k gX θ x_tariff x_basket x_keptUnits x_planner x_plan (gA 0) ++ (wAL k gA α (gE 0) ++ (wEl k gE ε fE nE ++ (wRec k gC χ xt (gB2 0) ++ (wBasket k gB2 β2 ++ (wOut k gQ u)))))) (fun v (u : (Nat → Int64)) => ∃ r : Int32, v = some (.int r) ∧ post r u) := by
  refine CW.of (by decide) (Nat.le_of_ble_eq_true rfl) ?_
  intro p e s m below meth c A H locs ls C hX hcx hP hD hS hl
  obtain ⟨hx, hb, hr, hlk, hml, hown, hts, hK, hA⟩ := id C
  obtain ⟨t9, hZ9, hT9, hE9⟩ := id hX.2
  replace hl : lv_has ls 6 [(0, .ref (gX 0)), (1, .int x1), (2, .int x2), (3, .int x3), (4, .ref (gQ 0))] := hl
  unfold wp_Law_line at h
  refine lv_aload hx hb d_Law_line_0 (lv_at hl 4 rfl) ?_
  refine lv_iconst (v := 0) hx hb d_Law_line_2 (by decide) ?_
  refine lv_aload_n hx hb d_Law_line_3 rfl (lv_at hl 0 rfl) ?_
  refine lv_iload_n hx hb d_Law_line_4 rfl (lv_at hl 1 rfl) ?_
  refine lv_iload_n hx hb d_Law_line_5 rfl (lv_at hl 2 rfl) ?_
  refine lv_iload_n hx hb d_Law_line_6 rfl (lv_at hl 3 rfl) ?_
  refine callXV (As := [.int x1, .int x2, .int x3]) (rest := [.int 0, .ref (gQ 0)]) C hX hS (Jn.part (wr := [(gQ 0, .inl (k 2, 1, .inr (.inl ο)))]) (wn := (fun u1 : Unit => wTill k gX θ x_tariff x_basket x_keptUnits x_planner x_plan (gA 0) ++ (wAL k gA α (gE 0) ++ (wEl k gE ε fE nE ++ (wRec k gC χ xt (gB2 0) ++ (wBasket k gB2 β2 ++ (wOut k gQ ο))))))) hP hD hS hA [0, 1, 2, 3, 4, 5, 6, 7, 8, 9] [10] [1, 2, 3, 4, 5, 6, 7, 8, 9, 10, 0] rfl (by decide) rfl (by decide) (by decide) (fun _ => rfl) (by decide)) (m_Till_line hlt N gX gA gE gC gB2 x_tariff x_basket x_keptUnits x_planner x_plan fE nE xt θ α ε χ β2 x1 x2 x3 hno hne _ _ h) kw_852 kw_853 kw_854 kw_1 kw_855 hd_Till_line 0 rfl rfl rfl rfl ⟨Nat.le_of_ble_eq_true rfl, Nat.le_of_ble_eq_true rfl⟩ ⟨Nat.le_of_ble_eq_true rfl, Nat.le_of_ble_eq_true rfl⟩ hl.1 (Nat.le_of_ble_eq_true rfl) d_Law_line_7 (fun v9 u1 H locs h hP hD hS => ?_) (fun q9 E9 u1 ce9 H locs h hP hD hS hce9 hcv9 hcl9 => ?_)
  rotate_left
  · rcases h with ⟨rfl, h⟩ | ⟨rfl, h⟩
    · refine catchX C hX [] { startPc := 0, endPc := 12, handlerPc := 15, catchType := 38 } [{ startPc := 0, endPc := 12, handlerPc := 19, catchType := 13 }] hcx (fun z hz => by cases hz) (by decide) (by decide) kw_463 (by decide +kernel) hce9 hcv9 hcl9 ?_
      refine W.eq (g2 := F0 m 15 ls [.ref q9]) rfl ?_
      replace hP : va_P D CL (wTill k gX θ x_tariff x_basket x_keptUnits x_planner x_plan (gA 0) ++ (wAL k gA α (gE 0) ++ (wEl k gE ε fE nE ++ (wRec k gC χ xt (gB2 0) ++ (wBasket k gB2 β2 ++ (wOut k gQ ο)))))) H := hP
      replace hD : va_D A (wTill k gX θ x_tariff x_basket x_keptUnits x_planner x_plan (gA 0) ++ (wAL k gA α (gE 0) ++ (wEl k gE ε fE nE ++ (wRec k gC χ xt (gB2 0) ++ (wBasket k gB2 β2 ++ (wOut k gQ ο)))))) := hD
      refine lv_astore (lv' := [(5, .ref q9), (0, .ref (gX 0)), (1, .int x1), (2, .int x2), (3, .int x3), (4, .ref (gQ 0))]) hx hb d_Law_line_15 hl (by decide) rfl (fun ls hl => ?_)
      refine lv_iconst (v := 1) hx hb d_Law_line_17 (by decide) ?_
      exact retX_i (u := ο) (wf := (fun u : (Nat → Int64) => wTill k gX θ x_tariff x_basket x_keptUnits x_planner x_plan (gA 0) ++ (wAL k gA α (gE 0) ++ (wEl k gE ε fE nE ++ (wRec k gC χ xt (gB2 0) ++ (wBasket k gB2 β2 ++ (wOut k gQ u))))))) C hP hD hS (Nat.le_of_ble_eq_true rfl) (Nat.le_of_ble_eq_true rfl) ⟨_, rfl, h⟩ d_Law_line_18
    · refine catchX C hX [{ startPc := 0, endPc := 12, handlerPc := 15, catchType := 38 }] { startPc := 0, endPc := 12, handlerPc := 19, catchType := 13 } [] hcx (fun z hz => by rw [List.mem_singleton] at hz; subst hz; exact ⟨by decide, _, kw_463, va_Nc.of (hX.1 s #[] (State.WarmedH.refl s) (fun _ _ _ => rfl) _ (by decide +kernel : Cond.not (.castable eIA eIO) ∈ xW))⟩) (by decide) (by decide) kw_267 (by decide +kernel) hce9 hcv9 hcl9 ?_
      refine W.eq (g2 := F0 m 19 ls [.ref q9]) rfl ?_
      replace hP : va_P D CL (wTill k gX θ x_tariff x_basket x_keptUnits x_planner x_plan (gA 0) ++ (wAL k gA α (gE 0) ++ (wEl k gE ε fE nE ++ (wRec k gC χ xt (gB2 0) ++ (wBasket k gB2 β2 ++ (wOut k gQ ο)))))) H := hP
      replace hD : va_D A (wTill k gX θ x_tariff x_basket x_keptUnits x_planner x_plan (gA 0) ++ (wAL k gA α (gE 0) ++ (wEl k gE ε fE nE ++ (wRec k gC χ xt (gB2 0) ++ (wBasket k gB2 β2 ++ (wOut k gQ ο)))))) := hD
      refine lv_astore (lv' := [(5, .ref q9), (0, .ref (gX 0)), (1, .int x1), (2, .int x2), (3, .int x3), (4, .ref (gQ 0))]) hx hb d_Law_line_19 hl (by decide) rfl (fun ls hl => ?_)
      refine lv_iconst (v := 2) hx hb d_Law_line_21 (by decide) ?_
      exact retX_i (u := ο) (wf := (fun u : (Nat → Int64) => wTill k gX θ x_tariff x_basket x_keptUnits x_planner x_plan (gA 0) ++ (wAL k gA α (gE 0) ++ (wEl k gE ε fE nE ++ (wRec k gC χ xt (gB2 0) ++ (wBasket k gB2 β2 ++ (wOut k gQ u))))))) C hP hD hS (Nat.le_of_ble_eq_true rfl) (Nat.le_of_ble_eq_true rfl) ⟨_, rfl, h⟩ d_Law_line_22
  obtain ⟨r2, rfl, h⟩ := h
  refine W.eq (g2 := F0 m 10 ls [.int r2, .int 0, .ref (gQ 0)]) rfl ?_
  replace hP : va_P D CL (wTill k gX θ x_tariff x_basket x_keptUnits x_planner x_plan (gA 0) ++ (wAL k gA α (gE 0) ++ (wEl k gE ε fE nE ++ (wRec k gC χ xt (gB2 0) ++ (wBasket k gB2 β2 ++ (wOut k gQ ο)))))) H := hP
  replace hD : va_D A (wTill k gX θ x_tariff x_basket x_keptUnits x_planner x_plan (gA 0) ++ (wAL k gA α (gE 0) ++ (wEl k gE ε fE nE ++ (wRec k gC χ xt (gB2 0) ++ (wBasket k gB2 β2 ++ (wOut k gQ ο)))))) := hD
  try dsimp only at h
  refine lv_i2l hx hb d_Law_line_10 rfl ?_
  obtain ⟨hi3, h⟩ := h
  refine va_last hx hb hK hP hD hS 10 2 rfl rfl hi3 d_Law_line_11 (fun H locs hP hD hS => ?_)
  obtain ⟨ο4, eο4⟩ : ∃ z, z = vp_updL ο (Int32.toNatClampNeg 0) (Int32.toInt64 r2) := ⟨_, rfl⟩
  replace hP : va_P D CL (wTill k gX θ x_tariff x_basket x_keptUnits x_planner x_plan (gA 0) ++ (wAL k gA α (gE 0) ++ (wEl k gE ε fE nE ++ (wRec k gC χ xt (gB2 0) ++ (wBasket k gB2 β2 ++ (wOut k gQ ο4)))))) H := by rw [eο4]; exact hP
  replace hD : va_D A (wTill k gX θ x_tariff x_basket x_keptUnits x_planner x_plan (gA 0) ++ (wAL k gA α (gE 0) ++ (wEl k gE ε fE nE ++ (wRec k gC χ xt (gB2 0) ++ (wBasket k gB2 β2 ++ (wOut k gQ ο4)))))) := by rw [eο4]; exact hD
  replace h := h ο4 eο4
  refine lv_goto (tgt := 23) hx hb d_Law_line_12 (by decide) ?_
  refine lv_iconst (v := 0) hx hb d_Law_line_23 (by decide) ?_
  exact retX_i (u := ο4) (wf := (fun u : (Nat → Int64) => wTill k gX θ x_tariff x_basket x_keptUnits x_planner x_plan (gA 0) ++ (wAL k gA α (gE 0) ++ (wEl k gE ε fE nE ++ (wRec k gC χ xt (gB2 0) ++ (wBasket k gB2 β2 ++ (wOut k gQ u))))))) C hP hD hS (Nat.le_of_ble_eq_true rfl) (Nat.le_of_ble_eq_true rfl) ⟨_, rfl, h⟩ d_Law_line_24
set_option maxHeartbeats 4000000 in
set_option maxRecDepth 100000 in
theorem m_Law_lineN {l : Launch} {D : va_G} {k : Nat → ClassId} (hlt : l.stackTraces = false) (N : Nat) (gX : Nat → Nat) (gA : Nat → Nat) (gQ : Nat → Nat) (x_tariff : Nat) (x_basket : Nat) (x_keptUnits : Nat) (x_planner : Nat) (x_plan : Nat) (xe : Nat) (θ : St) (α : St) (ο : Nat → Int64) (x1 : Int32) (x2 : Int32) (x3 : Int32) (post : Int32 → ((Nat → Int64)) → Prop) (h : wp_Law_lineN N  θ α ο x1 x2 x3 post) : CW l D k y_Law_lineN b_Law_lineN 6 [(0, 12, 15, 38), (0, 12, 19, 13)] rm_Law_lineN [.ref (gX 0), .int x1, .int x2, .int x3, .ref (gQ 0)] (wTill k gX θ x_tariff x_basket x_keptUnits x_planner x_plan (gA 0) ++ (wAL k gA α xe ++ (wOut k gQ ο))) (fun u : (Nat → Int64) => wTill k gX θ x_tariff x_basket x_keptUnits x_planner x_plan (gA 0) ++ (wAL k gA α xe ++ (wOut k gQ u))) (fun v (u : (Nat → Int64)) => ∃ r : Int32, v = some (.int r) ∧ post r u) := by
  refine CW.of (by decide) (Nat.le_of_ble_eq_true rfl) ?_
  intro p e s m below meth c A H locs ls C hX hcx hP hD hS hl
  obtain ⟨hx, hb, hr, hlk, hml, hown, hts, hK, hA⟩ := id C
  obtain ⟨t9, hZ9, hT9, hE9⟩ := id hX.2
  replace hl : lv_has ls 6 [(0, .ref (gX 0)), (1, .int x1), (2, .int x2), (3, .int x3), (4, .ref (gQ 0))] := hl
  unfold wp_Law_lineN at h
  refine lv_aload hx hb d_Law_lineN_0 (lv_at hl 4 rfl) ?_
  refine lv_iconst (v := 0) hx hb d_Law_lineN_2 (by decide) ?_
  refine lv_aload_n hx hb d_Law_lineN_3 rfl (lv_at hl 0 rfl) ?_
  refine lv_iload_n hx hb d_Law_lineN_4 rfl (lv_at hl 1 rfl) ?_
  refine lv_iload_n hx hb d_Law_lineN_5 rfl (lv_at hl 2 rfl) ?_
  refine lv_iload_n hx hb d_Law_lineN_6 rfl (lv_at hl 3 rfl) ?_
  refine callXV (As := [.int x1, .int x2, .int x3]) (rest := [.int 0, .ref (gQ 0)]) C hX hS (Jn.part (wr := [(gQ 0, .inl (k 2, 1, .inr (.inl ο)))]) (wn := (fun u1 : Unit => wTill k gX θ x_tariff x_basket x_keptUnits x_planner x_plan (gA 0) ++ (wAL k gA α xe ++ (wOut k gQ ο)))) hP hD hS hA [0, 1, 2] [3] [1, 2, 3, 0] rfl (by decide) rfl (by decide) (by decide) (fun _ => rfl) (by decide)) (m_Till_lineN hlt N gX gA x_tariff x_basket x_keptUnits x_planner x_plan xe θ α x1 x2 x3  _ _ h) kw_852 kw_853 kw_854 kw_1 kw_855 hd_Till_lineN 0 rfl rfl rfl rfl ⟨Nat.le_of_ble_eq_true rfl, Nat.le_of_ble_eq_true rfl⟩ ⟨Nat.le_of_ble_eq_true rfl, Nat.le_of_ble_eq_true rfl⟩ hl.1 (Nat.le_of_ble_eq_true rfl) d_Law_lineN_7 (fun v9 u1 H locs h hP hD hS => ?_) (fun q9 E9 u1 ce9 H locs h hP hD hS hce9 hcv9 hcl9 => ?_)
  rotate_left
  · rcases h with ⟨rfl, h⟩ | ⟨rfl, h⟩
    · refine catchX C hX [] { startPc := 0, endPc := 12, handlerPc := 15, catchType := 38 } [{ startPc := 0, endPc := 12, handlerPc := 19, catchType := 13 }] hcx (fun z hz => by cases hz) (by decide) (by decide) kw_463 (by decide +kernel) hce9 hcv9 hcl9 ?_
      refine W.eq (g2 := F0 m 15 ls [.ref q9]) rfl ?_
      replace hP : va_P D CL (wTill k gX θ x_tariff x_basket x_keptUnits x_planner x_plan (gA 0) ++ (wAL k gA α xe ++ (wOut k gQ ο))) H := hP
      replace hD : va_D A (wTill k gX θ x_tariff x_basket x_keptUnits x_planner x_plan (gA 0) ++ (wAL k gA α xe ++ (wOut k gQ ο))) := hD
      refine lv_astore (lv' := [(5, .ref q9), (0, .ref (gX 0)), (1, .int x1), (2, .int x2), (3, .int x3), (4, .ref (gQ 0))]) hx hb d_Law_lineN_15 hl (by decide) rfl (fun ls hl => ?_)
      refine lv_iconst (v := 1) hx hb d_Law_lineN_17 (by decide) ?_
      exact retX_i (u := ο) (wf := (fun u : (Nat → Int64) => wTill k gX θ x_tariff x_basket x_keptUnits x_planner x_plan (gA 0) ++ (wAL k gA α xe ++ (wOut k gQ u)))) C hP hD hS (Nat.le_of_ble_eq_true rfl) (Nat.le_of_ble_eq_true rfl) ⟨_, rfl, h⟩ d_Law_lineN_18
    · refine catchX C hX [{ startPc := 0, endPc := 12, handlerPc := 15, catchType := 38 }] { startPc := 0, endPc := 12, handlerPc := 19, catchType := 13 } [] hcx (fun z hz => by rw [List.mem_singleton] at hz; subst hz; exact ⟨by decide, _, kw_463, va_Nc.of (hX.1 s #[] (State.WarmedH.refl s) (fun _ _ _ => rfl) _ (by decide +kernel : Cond.not (.castable eIA eIO) ∈ xW))⟩) (by decide) (by decide) kw_267 (by decide +kernel) hce9 hcv9 hcl9 ?_
      refine W.eq (g2 := F0 m 19 ls [.ref q9]) rfl ?_
      replace hP : va_P D CL (wTill k gX θ x_tariff x_basket x_keptUnits x_planner x_plan (gA 0) ++ (wAL k gA α xe ++ (wOut k gQ ο))) H := hP
      replace hD : va_D A (wTill k gX θ x_tariff x_basket x_keptUnits x_planner x_plan (gA 0) ++ (wAL k gA α xe ++ (wOut k gQ ο))) := hD
      refine lv_astore (lv' := [(5, .ref q9), (0, .ref (gX 0)), (1, .int x1), (2, .int x2), (3, .int x3), (4, .ref (gQ 0))]) hx hb d_Law_lineN_19 hl (by decide) rfl (fun ls hl => ?_)
      refine lv_iconst (v := 2) hx hb d_Law_lineN_21 (by decide) ?_
      exact retX_i (u := ο) (wf := (fun u : (Nat → Int64) => wTill k gX θ x_tariff x_basket x_keptUnits x_planner x_plan (gA 0) ++ (wAL k gA α xe ++ (wOut k gQ u)))) C hP hD hS (Nat.le_of_ble_eq_true rfl) (Nat.le_of_ble_eq_true rfl) ⟨_, rfl, h⟩ d_Law_lineN_22
  obtain ⟨r2, rfl, h⟩ := h
  refine W.eq (g2 := F0 m 10 ls [.int r2, .int 0, .ref (gQ 0)]) rfl ?_
  replace hP : va_P D CL (wTill k gX θ x_tariff x_basket x_keptUnits x_planner x_plan (gA 0) ++ (wAL k gA α xe ++ (wOut k gQ ο))) H := hP
  replace hD : va_D A (wTill k gX θ x_tariff x_basket x_keptUnits x_planner x_plan (gA 0) ++ (wAL k gA α xe ++ (wOut k gQ ο))) := hD
  try dsimp only at h
  refine lv_i2l hx hb d_Law_lineN_10 rfl ?_
  obtain ⟨hi3, h⟩ := h
  refine va_last hx hb hK hP hD hS 3 2 rfl rfl hi3 d_Law_lineN_11 (fun H locs hP hD hS => ?_)
  obtain ⟨ο4, eο4⟩ : ∃ z, z = vp_updL ο (Int32.toNatClampNeg 0) (Int32.toInt64 r2) := ⟨_, rfl⟩
  replace hP : va_P D CL (wTill k gX θ x_tariff x_basket x_keptUnits x_planner x_plan (gA 0) ++ (wAL k gA α xe ++ (wOut k gQ ο4))) H := by rw [eο4]; exact hP
  replace hD : va_D A (wTill k gX θ x_tariff x_basket x_keptUnits x_planner x_plan (gA 0) ++ (wAL k gA α xe ++ (wOut k gQ ο4))) := by rw [eο4]; exact hD
  replace h := h ο4 eο4
  refine lv_goto (tgt := 23) hx hb d_Law_lineN_12 (by decide) ?_
  refine lv_iconst (v := 0) hx hb d_Law_lineN_23 (by decide) ?_
  exact retX_i (u := ο4) (wf := (fun u : (Nat → Int64) => wTill k gX θ x_tariff x_basket x_keptUnits x_planner x_plan (gA 0) ++ (wAL k gA α xe ++ (wOut k gQ u)))) C hP hD hS (Nat.le_of_ble_eq_true rfl) (Nat.le_of_ble_eq_true rfl) ⟨_, rfl, h⟩ d_Law_lineN_24
