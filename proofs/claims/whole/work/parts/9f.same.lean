/-! calls that leave the receipts as they are -/
abbrev rcp (A : AS) := A.2.2.2.2.2
theorem cif_or {α : Type} (P : Prop) (a b : α) (q : α → Prop) (ha : q a) (hb : q b) : q (cif P a b) := by
  by_cases h : P
  · rw [cif_pos h]; exact ha
  · rw [cif_neg h]; exact hb
theorem sr_Art (A : AS) (x1 x2 x3 : Int32) : rcp (rArt A x1 x2 x3).2.1 = rcp A := by
  unfold rArt
  exact cif_or _ _ _ (fun z : RT => rcp z.2.1 = rcp A) (cif_or _ _ _ (fun z : RT => rcp z.2.1 = rcp A) rfl rfl) rfl
theorem sr_Off (A : AS) (x1 x2 x3 x4 x5 : Int32) : rcp (rOff A x1 x2 x3 x4 x5).2.1 = rcp A := by
  unfold rOff
  exact cif_or _ _ _ (fun z : RT => rcp z.2.1 = rcp A) (cif_or _ _ _ (fun z : RT => rcp z.2.1 = rcp A) rfl rfl) rfl
theorem sr_Mem (A : AS) (x1 x2 x3 x4 : Int32) : rcp (rMem A x1 x2 x3 x4).2.1 = rcp A := by
  unfold rMem
  exact cif_or _ _ _ (fun z : RT => rcp z.2.1 = rcp A) (cif_or _ _ _ (fun z : RT => rcp z.2.1 = rcp A) rfl rfl) rfl
theorem sr_Run (A : AS) (x1 : Int32) (v : Nat) : rcp (rRun A x1 v).2.1 = rcp A := by
  unfold rRun
  exact cif_or _ _ _ (fun z : RT => rcp z.2.1 = rcp A) (cif_or _ _ _ (fun z : RT => rcp z.2.1 = rcp A) rfl rfl) rfl
theorem sr_Scan (A : AS) (x1 : Int32) : rcp (rScan A x1).2.1 = rcp A := by
  unfold rScan
  exact cif_or _ _ _ (fun z : RT => rcp z.2.1 = rcp A) (cif_or _ _ _ (fun z : RT => rcp z.2.1 = rcp A) rfl (cif_or _ _ _ (fun z : RT => rcp z.2.1 = rcp A) rfl rfl)) rfl
theorem sr_Uns (A : AS) (x1 : Int32) : rcp (rUns A x1).2.1 = rcp A := by
  unfold rUns
  exact cif_or _ _ _ (fun z : RT => rcp z.2.1 = rcp A) rfl rfl
theorem st_Tot (A : AS) (x1 : Int32) : (rTot A x1).2.1 = A := by
  unfold rTot
  exact cif_or _ _ _ (fun z : RT => z.2.1 = A) rfl rfl
theorem st_Uni (A : AS) (x1 x2 : Int32) : (rUni A x1 x2).2.1 = A := by
  unfold rUni
  exact cif_or _ _ _ (fun z : RT => z.2.1 = A) (cif_or _ _ _ (fun z : RT => z.2.1 = A) rfl rfl) rfl
theorem st_Tax (A : AS) (x1 : Int32) : (rTax A x1).2.1 = A := by
  unfold rTax
  exact cif_or _ _ _ (fun z : RT => z.2.1 = A) rfl rfl
theorem st_Try (A : AS) (x1 : Int32) : (rTry A x1).2.1 = A := by
  unfold rTry
  exact cif_or _ _ _ (fun z : RT => z.2.1 = A) (cif_or _ _ _ (fun z : RT => z.2.1 = A) rfl rfl) rfl
/-- a receipt is told by the receipts alone -/
theorem rcS_same {A B : AS} (h : rcp B = rcp A) {r : Nat} {χ β2 τ2 : St} {ω2 : Nat → St} (hc : rcS A r χ β2 τ2 ω2) : rcS B r χ β2 τ2 ω2 := by
  unfold rcS Arb Arz ArC ArO Arf Ary Ark Arp Arr at *
  unfold rcp at h
  rw [h]
  exact hc
