/-! the class, its uses: predicates and contracts (by program) -/
def wIA12 (k : Nat → ClassId) (g : Nat → Nat) (σ : St) : va_W := [(g 0, .inl (k 0, 12, .inl (σ 0)))]
abbrev b_J_fill12 : ByteArray := prog_27_method_103_code
def y_J_fill12 : MethodName := ⟨"java/util/Arrays", "fill", "([II)V"⟩
theorem d_J_fill12_0 : decode b_J_fill12 0 = .ok (.iconst 0, 1) := by decide +kernel
theorem d_J_fill12_1 : decode b_J_fill12 1 = .ok (.istore_n 2, 1) := by decide +kernel
theorem d_J_fill12_2 : decode b_J_fill12 2 = .ok (.aload_n 0, 1) := by decide +kernel
theorem d_J_fill12_3 : decode b_J_fill12 3 = .ok (.arraylength, 1) := by decide +kernel
theorem d_J_fill12_4 : decode b_J_fill12 4 = .ok (.istore_n 3, 1) := by decide +kernel
theorem d_J_fill12_5 : decode b_J_fill12 5 = .ok (.iload_n 2, 1) := by decide +kernel
theorem d_J_fill12_6 : decode b_J_fill12 6 = .ok (.iload_n 3, 1) := by decide +kernel
theorem d_J_fill12_7 : decode b_J_fill12 7 = .ok (.if_icmp .ge 13, 3) := by decide +kernel
theorem d_J_fill12_10 : decode b_J_fill12 10 = .ok (.aload_n 0, 1) := by decide +kernel
theorem d_J_fill12_11 : decode b_J_fill12 11 = .ok (.iload_n 2, 1) := by decide +kernel
theorem d_J_fill12_12 : decode b_J_fill12 12 = .ok (.iload_n 1, 1) := by decide +kernel
theorem d_J_fill12_13 : decode b_J_fill12 13 = .ok (.iastore, 1) := by decide +kernel
theorem d_J_fill12_14 : decode b_J_fill12 14 = .ok (.iinc 2 1, 3) := by decide +kernel
theorem d_J_fill12_17 : decode b_J_fill12 17 = .ok (.goto (-12), 3) := by decide +kernel
theorem d_J_fill12_20 : decode b_J_fill12 20 = .ok (.return_, 1) := by decide +kernel
abbrev b_J_fill18 : ByteArray := prog_27_method_103_code
def y_J_fill18 : MethodName := ⟨"java/util/Arrays", "fill", "([II)V"⟩
theorem d_J_fill18_0 : decode b_J_fill18 0 = .ok (.iconst 0, 1) := by decide +kernel
theorem d_J_fill18_1 : decode b_J_fill18 1 = .ok (.istore_n 2, 1) := by decide +kernel
theorem d_J_fill18_2 : decode b_J_fill18 2 = .ok (.aload_n 0, 1) := by decide +kernel
theorem d_J_fill18_3 : decode b_J_fill18 3 = .ok (.arraylength, 1) := by decide +kernel
theorem d_J_fill18_4 : decode b_J_fill18 4 = .ok (.istore_n 3, 1) := by decide +kernel
theorem d_J_fill18_5 : decode b_J_fill18 5 = .ok (.iload_n 2, 1) := by decide +kernel
theorem d_J_fill18_6 : decode b_J_fill18 6 = .ok (.iload_n 3, 1) := by decide +kernel
theorem d_J_fill18_7 : decode b_J_fill18 7 = .ok (.if_icmp .ge 13, 3) := by decide +kernel
theorem d_J_fill18_10 : decode b_J_fill18 10 = .ok (.aload_n 0, 1) := by decide +kernel
theorem d_J_fill18_11 : decode b_J_fill18 11 = .ok (.iload_n 2, 1) := by decide +kernel
theorem d_J_fill18_12 : decode b_J_fill18 12 = .ok (.iload_n 1, 1) := by decide +kernel
theorem d_J_fill18_13 : decode b_J_fill18 13 = .ok (.iastore, 1) := by decide +kernel
theorem d_J_fill18_14 : decode b_J_fill18 14 = .ok (.iinc 2 1, 3) := by decide +kernel
theorem d_J_fill18_17 : decode b_J_fill18 17 = .ok (.goto (-12), 3) := by decide +kernel
theorem d_J_fill18_20 : decode b_J_fill18 20 = .ok (.return_, 1) := by decide +kernel
abbrev rmP (d : Nat) : Room := { frames := 2 * d + 2, cells := 0, slots := 0, locals := 55 * d + 60 }
abbrev rmB (d : Nat) : Room := { frames := 2 * d + 3, cells := 0, slots := 0, locals := 55 * d + 88 }
def wp_J_fill12_5 (N : Nat) (post : ((St)) → Prop) : Nat → Int32 → Int32 → Int32 → (St) → Prop
  | 0, _, _, _, _ => False
  | n + 1, x1, x2, x3, α => ((x3 ≤ x2 → post α) ∧ (¬ (x3 ≤ x2) → (vp_in x2 12 ∧ (∀ α3, α3 = s2 α 0 (Int32.toNatClampNeg x2) x1 → (wp_J_fill12_5 N post n x1 (x2 + 1) x3 α3)))))
def wp_J_fill12 (N : Nat) (α : St) (x1 : Int32) (post : ((St)) → Prop) : Prop := (wp_J_fill12_5 N post  N x1 0 12 α)
abbrev rm_J_fill12 : Room := { frames := 0, cells := 0, slots := 0, locals := 0 }
theorem hd_J_fill12 : y_J_fill12.cls = "java/util/Arrays" ∧ y_J_fill12.cls ≠ "java/lang/invoke/MethodHandle" ∧ y_J_fill12.cls ≠ "java/lang/invoke/VarHandle" ∧ (parseMethodDescriptor y_J_fill12.desc).map (fun d => d.parameters.length) = some 2 := by decide +kernel
def wp_J_fill18_5 (N : Nat) (post : ((St)) → Prop) : Nat → Int32 → Int32 → Int32 → (St) → Prop
  | 0, _, _, _, _ => False
  | n + 1, x1, x2, x3, α => ((x3 ≤ x2 → post α) ∧ (¬ (x3 ≤ x2) → (vp_in x2 18 ∧ (∀ α3, α3 = s2 α 0 (Int32.toNatClampNeg x2) x1 → (wp_J_fill18_5 N post n x1 (x2 + 1) x3 α3)))))
def wp_J_fill18 (N : Nat) (α : St) (x1 : Int32) (post : ((St)) → Prop) : Prop := (wp_J_fill18_5 N post  N x1 0 18 α)
abbrev rm_J_fill18 : Room := { frames := 0, cells := 0, slots := 0, locals := 0 }
theorem hd_J_fill18 : y_J_fill18.cls = "java/util/Arrays" ∧ y_J_fill18.cls ≠ "java/lang/invoke/MethodHandle" ∧ y_J_fill18.cls ≠ "java/lang/invoke/VarHandle" ∧ (parseMethodDescriptor y_J_fill18.desc).map (fun d => d.parameters.length) = some 2 := by decide +kernel
def wp_Uses_keep_197 (N : Nat) (τ : St) (ω : St) (ϕ : St) (x2 : Int32) (post : ((St)) → Prop) : Int32 → Int32 → (St) → Prop := fun y0 y1 υ => (vp_in y1 1260 ∧ (∀ υ28, υ28 = s2 υ 2 (Int32.toNatClampNeg y1) y0 → (vp_in (υ28 9 0) 1260 ∧ wp_Uses_link N υ28 ((υ28 0 (Int32.toNatClampNeg (υ28 9 0))) &&& 15) (fun u30 => (∀ υ32, υ32 = s2 u30 9 0 ((u30 9 0) + 1) → post υ32)))))
def wp_Uses_keep_143 (N : Nat) (τ : St) (ω : St) (ϕ : St) (x2 : Int32) (post : ((St)) → Prop) : Int32 → Int32 → Int32 → (St) → Prop := fun x4 x7 y0 υ => wp_Uses_packTaken N υ x2 (fun r20 u19 => (vp_in (υ 9 0) 1260 ∧ (∀ υ22, υ22 = s2 υ 0 (Int32.toNatClampNeg (υ 9 0)) r20 → (vp_in (υ22 9 0) 1260 ∧ (∀ υ24, υ24 = s2 υ22 1 (Int32.toNatClampNeg (υ22 9 0)) x7 → ((y0 = 0 → (wp_Uses_keep_197 N τ ω ϕ x2 post x4 (υ24 9 0) υ24)) ∧ (¬ (y0 = 0) → (vp_in (12 + x2) 18 ∧ (wp_Uses_keep_197 N τ ω ϕ x2 post (x4 + (ϕ 0 (Int32.toNatClampNeg (12 + x2)))) (υ24 9 0) υ24)))))))))
def wp_Uses_keep_81 (N : Nat) (τ : St) (ω : St) (ϕ : St) (x2 : Int32) (post : ((St)) → Prop) (K_13 : Int32 → Int32 → Int32 → Int32 → (St) → Prop) : Int32 → Int32 → Int32 → Int32 → (St) → Prop := fun x4 x5 x6 x7 υ => (K_13 x4 x5 x6 (x7 + 1) υ)
def wp_Uses_keep_13 (N : Nat) (τ : St) (ω : St) (ϕ : St) (x2 : Int32) (post : ((St)) → Prop) : Nat → Int32 → Int32 → Int32 → Int32 → (St) → Prop
  | 0, _, _, _, _, _ => False
  | n + 1, x4, x5, x6, x7, υ => ((12 ≤ x7 → (vp_in x2 6 ∧ wp_Offer_savingOn N ω x5 x6 (fun r4 u3 => ((r4 ≤ 0 → post υ) ∧ (¬ (r4 ≤ 0) → wp_Uses_isNew N υ x4 (fun r7 u6 => ((r7 = 0 → post u6) ∧ (¬ (r7 = 0) → ((1260 ≤ (u6 9 0) → post u6) ∧ (¬ (1260 ≤ (u6 9 0)) → (vp_in x2 6 ∧ (((ω 3 0) ≤ 0 → (wp_Uses_keep_143 N τ ω ϕ x2 post x4 r4 0 u6)) ∧ (¬ ((ω 3 0) ≤ 0) → (wp_Uses_keep_143 N τ ω ϕ x2 post x4 r4 1 u6)))))))))))))) ∧ (¬ (12 ≤ x7) → (vp_in x7 12 ∧ (((υ 6 (Int32.toNatClampNeg x7)) ≤ 0 → (wp_Uses_keep_81 N τ ω ϕ x2 post (wp_Uses_keep_13 N τ ω ϕ x2 post n) x4 x5 x6 x7 υ)) ∧ (¬ ((υ 6 (Int32.toNatClampNeg x7)) ≤ 0) → (vp_in x7 12 ∧ (vp_in x7 18 ∧ (vp_in x7 12 ∧ (vp_in x7 12 ∧ (vp_in x7 12 ∧ (wp_Uses_keep_81 N τ ω ϕ x2 post (wp_Uses_keep_13 N τ ω ϕ x2 post n) (x4 + ((υ 6 (Int32.toNatClampNeg x7)) * (ϕ 0 (Int32.toNatClampNeg x7)))) (x5 + ((υ 6 (Int32.toNatClampNeg x7)) * (τ 0 (Int32.toNatClampNeg x7)))) (if (τ 0 (Int32.toNatClampNeg x7)) < x6 then (τ 0 (Int32.toNatClampNeg x7)) else x6) x7 υ)))))))))))
def wp_Uses_keep (N : Nat) (υ : St) (τ : St) (ω : St) (ϕ : St) (x2 : Int32) (post : ((St)) → Prop) : Prop := (wp_Uses_keep_13 N τ ω ϕ x2 post  N 0 0 100000 0 υ)
abbrev rm_Uses_keep : Room := { frames := 1, cells := 0, slots := 0, locals := 25 }
theorem hd_Uses_keep : y_Uses_keep.cls = "PromotionTill$Uses" ∧ y_Uses_keep.cls ≠ "java/lang/invoke/MethodHandle" ∧ y_Uses_keep.cls ≠ "java/lang/invoke/VarHandle" ∧ (parseMethodDescriptor y_Uses_keep.desc).map (fun d => d.parameters.length) = some 3 := by decide +kernel
def wp_Uses_chooseBehind_45 (N : Nat) (cP : St → Int32 → Int32 → (St → Prop) → Prop) (τ : St) (ω : St) (ι : St) (ϕ : St) (x4 : Int32) (post : ((St)) → Prop) : Int32 → Int32 → Int32 → (St) → Prop := fun x2 y0 y1 υ => cP υ y1 y0 (fun u7 => (vp_in x2 12 ∧ (vp_in x2 12 ∧ (∀ υ11, υ11 = s2 u7 6 (Int32.toNatClampNeg x2) ((u7 6 (Int32.toNatClampNeg x2)) - 1) → post υ11))))
def wp_Uses_chooseBehind_19 (N : Nat) (cP : St → Int32 → Int32 → (St → Prop) → Prop) (τ : St) (ω : St) (ι : St) (ϕ : St) (x4 : Int32) (post : ((St)) → Prop) : Int32 → Int32 → Int32 → (St) → Prop := fun x1 x2 y0 υ => (vp_in x2 12 ∧ (vp_in x2 12 ∧ (∀ υ5, υ5 = s2 υ 6 (Int32.toNatClampNeg x2) ((υ 6 (Int32.toNatClampNeg x2)) + 1) → ((y0 = 0 → (wp_Uses_chooseBehind_45 N cP τ ω ι ϕ x4 post x2 0 (x1 + 1) υ5)) ∧ (¬ (y0 = 0) → (wp_Uses_chooseBehind_45 N cP τ ω ι ϕ x4 post x2 x2 (x1 + 1) υ5))))))
def wp_Uses_chooseBehind (N : Nat) (cP : St → Int32 → Int32 → (St → Prop) → Prop) (υ : St) (τ : St) (ω : St) (ι : St) (ϕ : St) (x1 : Int32) (x2 : Int32) (x4 : Int32) (post : ((St)) → Prop) : Prop := (vp_in x4 6 ∧ (((ω 0 0) = 2 → (wp_Uses_chooseBehind_19 N cP τ ω ι ϕ x4 post x1 x2 0 υ)) ∧ (¬ ((ω 0 0) = 2) → (wp_Uses_chooseBehind_19 N cP τ ω ι ϕ x4 post x1 x2 1 υ))))
theorem hd_Uses_chooseBehind : y_Uses_chooseBehind.cls = "PromotionTill$Uses" ∧ y_Uses_chooseBehind.cls ≠ "java/lang/invoke/MethodHandle" ∧ y_Uses_chooseBehind.cls ≠ "java/lang/invoke/VarHandle" ∧ (parseMethodDescriptor y_Uses_chooseBehind.desc).map (fun d => d.parameters.length) = some 6 := by decide +kernel
def wp_Uses_choosePlace_83 (N : Nat) (cB : St → Int32 → Int32 → (St → Prop) → Prop) (τ : St) (ω : St) (ι : St) (ϕ : St) (x4 : Int32) (post : ((St)) → Prop) (K_36 : Int32 → Int32 → (St) → Prop) : Int32 → Int32 → (St) → Prop := fun x1 x8 υ => (K_36 x1 (x8 + 1) υ)
def wp_Uses_choosePlace_36 (N : Nat) (cB : St → Int32 → Int32 → (St → Prop) → Prop) (τ : St) (ω : St) (ι : St) (ϕ : St) (x4 : Int32) (post : ((St)) → Prop) : Nat → Int32 → Int32 → (St) → Prop
  | 0, _, _, _ => False
  | n + 1, x1, x8, υ => ((12 ≤ x8 → post υ) ∧ (¬ (12 ≤ x8) → (vp_in x8 12 ∧ (vp_in x8 18 ∧ (((ι 0 (Int32.toNatClampNeg x8)) ≤ (υ 6 (Int32.toNatClampNeg x8)) → (wp_Uses_choosePlace_83 N cB τ ω ι ϕ x4 post (wp_Uses_choosePlace_36 N cB τ ω ι ϕ x4 post n) x1 x8 υ)) ∧ (¬ ((ι 0 (Int32.toNatClampNeg x8)) ≤ (υ 6 (Int32.toNatClampNeg x8))) → wp_Offer_takesAt N ω x1 x8 (fun r11 u10 => ((r11 = 0 → (wp_Uses_choosePlace_83 N cB τ ω ι ϕ x4 post (wp_Uses_choosePlace_36 N cB τ ω ι ϕ x4 post n) x1 x8 υ)) ∧ (¬ (r11 = 0) → cB υ x1 x8 (fun u13 => (wp_Uses_choosePlace_83 N cB τ ω ι ϕ x4 post (wp_Uses_choosePlace_36 N cB τ ω ι ϕ x4 post n) x1 x8 u13)))))))))))
def wp_Uses_choosePlace_23 (N : Nat) (cB : St → Int32 → Int32 → (St → Prop) → Prop) (τ : St) (ω : St) (ι : St) (ϕ : St) (x4 : Int32) (post : ((St)) → Prop) : (St) → Prop := fun υ => wp_Uses_keep N υ τ ω ϕ x4 (fun u15 => post u15)
def wp_Uses_choosePlace (N : Nat) (cB : St → Int32 → Int32 → (St → Prop) → Prop) (υ : St) (τ : St) (ω : St) (ι : St) (ϕ : St) (x1 : Int32) (x2 : Int32) (x4 : Int32) (post : ((St)) → Prop) : Prop := (vp_in x4 6 ∧ wp_Offer_unitsOfUse N ω (fun r3 u2 => ((r3 ≤ x1 → (wp_Uses_choosePlace_23 N cB τ ω ι ϕ x4 post υ)) ∧ (¬ (r3 ≤ x1) → ((x1 < 4 → (wp_Uses_choosePlace_36 N cB τ ω ι ϕ x4 post  N x1 x2 υ)) ∧ (¬ (x1 < 4) → (wp_Uses_choosePlace_23 N cB τ ω ι ϕ x4 post υ)))))))
theorem hd_Uses_choosePlace : y_Uses_choosePlace.cls = "PromotionTill$Uses" ∧ y_Uses_choosePlace.cls ≠ "java/lang/invoke/MethodHandle" ∧ y_Uses_choosePlace.cls ≠ "java/lang/invoke/VarHandle" ∧ (parseMethodDescriptor y_Uses_choosePlace.desc).map (fun d => d.parameters.length) = some 6 := by decide +kernel
set_option maxHeartbeats 4000000 in
set_option maxRecDepth 100000 in
theorem t_J_fill12_5 {p : Program} {l : Launch} {e : Env} {s : State} {m : MethodId} {args : Array Value} {below : List Frame} {meth : Method} {c : Code} {A : Nat → Prop} {D : va_G} {k : Nat → ClassId} {gA : Nat → Nat} (C : Cx p s m args meth c D k "java/util/Arrays" b_J_fill12 4 none A) (N : Nat) (post : ((St)) → Prop) :
    ∀ (n : Nat) (x1 : Int32) (x2 : Int32) (x3 : Int32) (α : (St)) (H : Heap) (locs : List Loc) (ls : Array Slot), va_P D CL (wIA12 k gA α) H → va_D A (wIA12 k gA α) → va_S A s.heap H locs → lv_has ls 4 [(0, .ref (gA 0)), (1, .int x1), (2, .int x2), (3, .int x3)] → wp_J_fill12_5 N post n x1 x2 x3 α → W p l e rm_J_fill12 s m args below meth c H locs 0 0 (MQ below (va_Qv post (fun (u : (St)) t => va_P D CL (wIA12 k gA u) t.heap ∧ va_D A (wIA12 k gA u)) A) args s rm_J_fill12.cells rm_J_fill12.slots A) (F0 m 5 ls []) := by
  obtain ⟨hx, hb, hr, hlk, hml, hown, hts, hK, hA⟩ := id C
  intro n
  induction n with
  | zero =>
    intro x1 x2 x3 α H locs ls hP hD hS hl h
    exact absurd h (by simp [wp_J_fill12_5])
  | succ n ih =>
    intro x1 x2 x3 α H locs ls hP hD hS hl h
    rw [wp_J_fill12_5] at h
    refine lv_iload_n hx hb d_J_fill12_5 rfl (lv_at hl 2 rfl) ?_
    refine lv_iload_n hx hb d_J_fill12_6 rfl (lv_at hl 3 rfl) ?_
    refine lv_icmp_ge (tgt := 20) hx hb d_J_fill12_7 (by decide) (fun c1 => ?_) (fun c1 => ?_)
    · replace h := h.1 c1
      exact ret_v (u := α) (wf := (fun u : (St) => wIA12 k gA u)) C hP hD hS (Nat.zero_le _) (Nat.zero_le _) h d_J_fill12_20
    · replace h := h.2 c1
      refine lv_aload_n hx hb d_J_fill12_10 rfl (lv_at hl 0 rfl) ?_
      refine lv_iload_n hx hb d_J_fill12_11 rfl (lv_at hl 2 rfl) ?_
      refine lv_iload_n hx hb d_J_fill12_12 rfl (lv_at hl 1 rfl) ?_
      obtain ⟨hi2, h⟩ := h
      refine va_iast hx hb hK hP hD hS 0 0 rfl rfl hi2 d_J_fill12_13 (fun H locs hP hD hS => ?_)
      obtain ⟨α3, eα3⟩ : ∃ z, z = s2 α 0 (Int32.toNatClampNeg x2) x1 := ⟨_, rfl⟩
      replace hP : va_P D CL (wIA12 k gA α3) H := by rw [eα3]; exact hP
      replace hD : va_D A (wIA12 k gA α3) := by rw [eα3]; exact hD
      replace h := h α3 eα3
      refine lv_iinc (v := x2 + 1) (lv' := [(2, .int (x2 + 1)), (0, .ref (gA 0)), (1, .int x1), (3, .int x3)]) hx hb d_J_fill12_14 hl (k := 2) rfl rfl (by decide) rfl (fun ls hl => ?_)
      refine lv_goto (tgt := 5) hx hb d_J_fill12_17 (by decide) ?_
      exact ih x1 (x2 + 1) x3 α3 _ _ _ hP hD hS (lv_sub hl [1, 2, 0, 3] rfl) h
set_option maxHeartbeats 4000000 in
set_option maxRecDepth 100000 in
theorem m_J_fill12 {l : Launch} {D : va_G} {k : Nat → ClassId} (N : Nat) (gA : Nat → Nat) (α : St) (x1 : Int32) (post : ((St)) → Prop) (h : wp_J_fill12 N  α x1 post) : Cv l D k y_J_fill12 b_J_fill12 4 rm_J_fill12 [.ref (gA 0), .int x1] (wIA12 k gA α) (fun u : (St) => wIA12 k gA u) post := by
  refine Cv.of (by decide) (Nat.le_of_ble_eq_true rfl) ?_
  intro p e s m below meth c A H locs ls C hP hD hS hl
  obtain ⟨hx, hb, hr, hlk, hml, hown, hts, hK, hA⟩ := id C
  replace hl : lv_has ls 4 [(0, .ref (gA 0)), (1, .int x1)] := hl
  unfold wp_J_fill12 at h
  refine lv_iconst (v := 0) hx hb d_J_fill12_0 (by decide) ?_
  refine lv_istore_n (lv' := [(2, .int 0), (0, .ref (gA 0)), (1, .int x1)]) hx hb d_J_fill12_1 rfl hl (by decide) rfl (fun ls hl => ?_)
  refine lv_aload_n hx hb d_J_fill12_2 rfl (lv_at hl 1 rfl) ?_
  refine va_alen (v := 12) hx hb hK hP 0 0 rfl rfl rfl d_J_fill12_3 ?_
  refine lv_istore_n (lv' := [(3, .int 12), (2, .int 0), (0, .ref (gA 0)), (1, .int x1)]) hx hb d_J_fill12_4 rfl hl (by decide) rfl (fun ls hl => ?_)
  exact t_J_fill12_5 C N post   N x1 0 12 α _ _ _ hP hD hS (lv_sub hl [2, 3, 1, 0] rfl) h
set_option maxHeartbeats 4000000 in
set_option maxRecDepth 100000 in
theorem t_J_fill18_5 {p : Program} {l : Launch} {e : Env} {s : State} {m : MethodId} {args : Array Value} {below : List Frame} {meth : Method} {c : Code} {A : Nat → Prop} {D : va_G} {k : Nat → ClassId} {gA : Nat → Nat} (C : Cx p s m args meth c D k "java/util/Arrays" b_J_fill18 4 none A) (N : Nat) (post : ((St)) → Prop) :
    ∀ (n : Nat) (x1 : Int32) (x2 : Int32) (x3 : Int32) (α : (St)) (H : Heap) (locs : List Loc) (ls : Array Slot), va_P D CL (wIA18 k gA α) H → va_D A (wIA18 k gA α) → va_S A s.heap H locs → lv_has ls 4 [(0, .ref (gA 0)), (1, .int x1), (2, .int x2), (3, .int x3)] → wp_J_fill18_5 N post n x1 x2 x3 α → W p l e rm_J_fill18 s m args below meth c H locs 0 0 (MQ below (va_Qv post (fun (u : (St)) t => va_P D CL (wIA18 k gA u) t.heap ∧ va_D A (wIA18 k gA u)) A) args s rm_J_fill18.cells rm_J_fill18.slots A) (F0 m 5 ls []) := by
  obtain ⟨hx, hb, hr, hlk, hml, hown, hts, hK, hA⟩ := id C
  intro n
  induction n with
  | zero =>
    intro x1 x2 x3 α H locs ls hP hD hS hl h
    exact absurd h (by simp [wp_J_fill18_5])
  | succ n ih =>
    intro x1 x2 x3 α H locs ls hP hD hS hl h
    rw [wp_J_fill18_5] at h
    refine lv_iload_n hx hb d_J_fill18_5 rfl (lv_at hl 2 rfl) ?_
    refine lv_iload_n hx hb d_J_fill18_6 rfl (lv_at hl 3 rfl) ?_
    refine lv_icmp_ge (tgt := 20) hx hb d_J_fill18_7 (by decide) (fun c1 => ?_) (fun c1 => ?_)
    · replace h := h.1 c1
      exact ret_v (u := α) (wf := (fun u : (St) => wIA18 k gA u)) C hP hD hS (Nat.zero_le _) (Nat.zero_le _) h d_J_fill18_20
    · replace h := h.2 c1
      refine lv_aload_n hx hb d_J_fill18_10 rfl (lv_at hl 0 rfl) ?_
      refine lv_iload_n hx hb d_J_fill18_11 rfl (lv_at hl 2 rfl) ?_
      refine lv_iload_n hx hb d_J_fill18_12 rfl (lv_at hl 1 rfl) ?_
      obtain ⟨hi2, h⟩ := h
      refine va_iast hx hb hK hP hD hS 0 0 rfl rfl hi2 d_J_fill18_13 (fun H locs hP hD hS => ?_)
      obtain ⟨α3, eα3⟩ : ∃ z, z = s2 α 0 (Int32.toNatClampNeg x2) x1 := ⟨_, rfl⟩
      replace hP : va_P D CL (wIA18 k gA α3) H := by rw [eα3]; exact hP
      replace hD : va_D A (wIA18 k gA α3) := by rw [eα3]; exact hD
      replace h := h α3 eα3
      refine lv_iinc (v := x2 + 1) (lv' := [(2, .int (x2 + 1)), (0, .ref (gA 0)), (1, .int x1), (3, .int x3)]) hx hb d_J_fill18_14 hl (k := 2) rfl rfl (by decide) rfl (fun ls hl => ?_)
      refine lv_goto (tgt := 5) hx hb d_J_fill18_17 (by decide) ?_
      exact ih x1 (x2 + 1) x3 α3 _ _ _ hP hD hS (lv_sub hl [1, 2, 0, 3] rfl) h
set_option maxHeartbeats 4000000 in
set_option maxRecDepth 100000 in
theorem m_J_fill18 {l : Launch} {D : va_G} {k : Nat → ClassId} (N : Nat) (gA : Nat → Nat) (α : St) (x1 : Int32) (post : ((St)) → Prop) (h : wp_J_fill18 N  α x1 post) : Cv l D k y_J_fill18 b_J_fill18 4 rm_J_fill18 [.ref (gA 0), .int x1] (wIA18 k gA α) (fun u : (St) => wIA18 k gA u) post := by
  refine Cv.of (by decide) (Nat.le_of_ble_eq_true rfl) ?_
  intro p e s m below meth c A H locs ls C hP hD hS hl
  obtain ⟨hx, hb, hr, hlk, hml, hown, hts, hK, hA⟩ := id C
  replace hl : lv_has ls 4 [(0, .ref (gA 0)), (1, .int x1)] := hl
  unfold wp_J_fill18 at h
  refine lv_iconst (v := 0) hx hb d_J_fill18_0 (by decide) ?_
  refine lv_istore_n (lv' := [(2, .int 0), (0, .ref (gA 0)), (1, .int x1)]) hx hb d_J_fill18_1 rfl hl (by decide) rfl (fun ls hl => ?_)
  refine lv_aload_n hx hb d_J_fill18_2 rfl (lv_at hl 1 rfl) ?_
  refine va_alen (v := 18) hx hb hK hP 0 0 rfl rfl rfl d_J_fill18_3 ?_
  refine lv_istore_n (lv' := [(3, .int 18), (2, .int 0), (0, .ref (gA 0)), (1, .int x1)]) hx hb d_J_fill18_4 rfl hl (by decide) rfl (fun ls hl => ?_)
  exact t_J_fill18_5 C N post   N x1 0 18 α _ _ _ hP hD hS (lv_sub hl [2, 3, 1, 0] rfl) h
set_option maxHeartbeats 4000000 in
set_option maxRecDepth 100000 in
theorem t_Uses_keep_197 {p : Program} {l : Launch} {e : Env} {s : State} {m : MethodId} {args : Array Value} {below : List Frame} {meth : Method} {c : Code} {A : Nat → Prop} {D : va_G} {k : Nat → ClassId} {gU : Nat → Nat} {gT : Nat → Nat} {gO : Nat → Nat} {gJ : Nat → Nat} {f : Nat → Option Nat} {x2 : Int32} (hno : f (Int32.toNatClampNeg x2) = some (gO 0)) (C : Cx p s m args meth c D k "PromotionTill$Uses" b_Uses_keep 9 none A) (N : Nat) (τ : St) (ω : St) (ϕ : St) (post : ((St)) → Prop) :
    ∀ (y0 : Int32) (y1 : Int32) (υ : (St)) (H : Heap) (locs : List Loc) (ls : Array Slot), va_P D CL (wUses k gU υ ++ (wTariff k gT τ f ++ (wOffer k gO ω ++ (wIA18 k gJ ϕ)))) H → va_D A (wUses k gU υ ++ (wTariff k gT τ f ++ (wOffer k gO ω ++ (wIA18 k gJ ϕ)))) → va_S A s.heap H locs → lv_has ls 9 [(0, .ref (gU 0))] → wp_Uses_keep_197 N τ ω ϕ x2 post y0 y1 υ → W p l e rm_Uses_keep s m args below meth c H locs 0 0 (MQ below (va_Qv post (fun (u : (St)) t => va_P D CL (wUses k gU u ++ (wTariff k gT τ f ++ (wOffer k gO ω ++ (wIA18 k gJ ϕ)))) t.heap ∧ va_D A (wUses k gU u ++ (wTariff k gT τ f ++ (wOffer k gO ω ++ (wIA18 k gJ ϕ))))) A) args s rm_Uses_keep.cells rm_Uses_keep.slots A) (F0 m 197 ls [.int y0, .int y1, .ref (gU 3)]) := by
  obtain ⟨hx, hb, hr, hlk, hml, hown, hts, hK, hA⟩ := id C
  intro y0 y1 υ H locs ls hP hD hS hl h
  unfold wp_Uses_keep_197 at h
  obtain ⟨hi27, h⟩ := h
  refine va_iast hx hb hK hP hD hS 3 0 rfl rfl hi27 d_Uses_keep_197 (fun H locs hP hD hS => ?_)
  obtain ⟨υ28, eυ28⟩ : ∃ z, z = s2 υ 2 (Int32.toNatClampNeg y1) y0 := ⟨_, rfl⟩
  replace hP : va_P D CL (wUses k gU υ28 ++ (wTariff k gT τ f ++ (wOffer k gO ω ++ (wIA18 k gJ ϕ)))) H := by rw [eυ28]; exact hP
  replace hD : va_D A (wUses k gU υ28 ++ (wTariff k gT τ f ++ (wOffer k gO ω ++ (wIA18 k gJ ϕ)))) := by rw [eυ28]; exact hD
  replace h := h υ28 eυ28
  refine lv_aload_n hx hb d_Uses_keep_198 rfl (lv_at hl 0 rfl) ?_
  refine lv_aload_n hx hb d_Uses_keep_199 rfl (lv_at hl 0 rfl) ?_
  refine va_get (D := D) (ci := 6) (v := .ref (gU 1)) (C := R_Uses) (T := F_Uses) (N := 10) hx hb hts in_Uses hown hK hP 0 rfl rfl 0 (by decide) (hts _ kw_127) (fun _ h9 => h9) rfl d_Uses_keep_200 ?_
  refine lv_aload_n hx hb d_Uses_keep_203 rfl (lv_at hl 0 rfl) ?_
  refine va_get (D := D) (ci := 6) (v := .int (υ28 9 0)) (C := R_Uses) (T := F_Uses) (N := 10) hx hb hts in_Uses hown hK hP 0 rfl rfl 9 (by decide) (hts _ kw_136) (fun _ h9 => h9) rfl d_Uses_keep_204 ?_
  obtain ⟨hi29, h⟩ := h
  refine va_iald hx hb hK hP 1 0 rfl rfl hi29 d_Uses_keep_207 ?_
  refine lv_bipush (v := 15) hx hb d_Uses_keep_208 (by decide) ?_
  refine lv_iand hx hb d_Uses_keep_210 ?_
  refine call_v (wr := [(gT 0, .inr (5, [.ref (gT 1), .ref (gT 2)])), (gT 1, .inl (k 0, 12, .inl (τ 0))), (gT 2, .inl (k 3, 6, .inr (.inr (.inr (.inr f))))), (gO 0, .inr (1, [.int (ω 0 0), .int (ω 1 0), .int (ω 2 0), .int (ω 3 0), .int (ω 4 0), .ref (gO 1)])), (gO 1, .inl (k 0, 4, .inl (ω 5))), (gJ 0, .inl (k 0, 18, .inl (ϕ 0)))]) (wn := (fun u30 : (St) => wUses k gU u30 ++ (wTariff k gT τ f ++ (wOffer k gO ω ++ (wIA18 k gJ ϕ))))) C hP hD hS [0, 1, 2, 3, 4, 5, 6, 7, 8] [9, 10, 11, 12, 13, 14] [6, 7, 8, 9, 10, 11, 12, 13, 14, 0, 1, 2, 3, 4, 5] rfl rfl (by decide) (by decide) (fun _ => rfl) (by decide) (runV (As := [.int ((υ28 0 (Int32.toNatClampNeg (υ28 9 0))) &&& 15)]) (rest := []) C (hP.sub [0, 1, 2, 3, 4, 5, 6, 7, 8] rfl) (hD.sub [0, 1, 2, 3, 4, 5, 6, 7, 8] (by decide) rfl) (m_Uses_link N gU υ28 ((υ28 0 (Int32.toNatClampNeg (υ28 9 0))) &&& 15)  _ h H.size) kw_542 kw_544 kp_7 kw_7 kw_545 hd_Uses_link ⟨Nat.le_of_ble_eq_true rfl, Nat.le_of_ble_eq_true rfl⟩ ⟨Nat.le_of_ble_eq_true rfl, Nat.le_of_ble_eq_true rfl⟩ 0 rfl rfl rfl rfl hl.1 (Nat.le_of_ble_eq_true rfl) d_Uses_keep_211) (fun u30 H locs h hP hD hS => ?_)
  try dsimp only at h
  refine lv_aload_n hx hb d_Uses_keep_214 rfl (lv_at hl 0 rfl) ?_
  refine lv_dup hx hb d_Uses_keep_215 rfl ?_
  refine va_get (D := D) (ci := 6) (v := .int (u30 9 0)) (C := R_Uses) (T := F_Uses) (N := 10) hx hb hts in_Uses hown hK hP 0 rfl rfl 9 (by decide) (hts _ kw_136) (fun _ h9 => h9) rfl d_Uses_keep_216 ?_
  refine lv_iconst (v := 1) hx hb d_Uses_keep_219 (by decide) ?_
  refine lv_iadd hx hb d_Uses_keep_220 ?_
  refine va_put (D := D) (ci := 6) (v := .int ((u30 9 0) + 1)) (ty := .int) (C := R_Uses) (T := F_Uses) (N := 10) hx hb hts in_Uses t_Uses tt_Uses n_Uses hown hK hP hD hS 0 rfl rfl 9 (by decide) (hts _ kw_136) (fun _ h9 => h9) rfl (by decide +kernel) rfl rfl (Nat.le_of_ble_eq_true rfl) d_Uses_keep_221 (fun H locs hP hD hS => ?_)
  obtain ⟨υ32, eυ32⟩ : ∃ z, z = s2 u30 9 0 ((u30 9 0) + 1) := ⟨_, rfl⟩
  replace hP : va_P D CL (wUses k gU υ32 ++ (wTariff k gT τ f ++ (wOffer k gO ω ++ (wIA18 k gJ ϕ)))) H := by rw [eυ32]; exact hP
  replace hD : va_D A (wUses k gU υ32 ++ (wTariff k gT τ f ++ (wOffer k gO ω ++ (wIA18 k gJ ϕ)))) := by rw [eυ32]; exact hD
  replace h := h υ32 eυ32
  exact ret_v (u := υ32) (wf := (fun u : (St) => wUses k gU u ++ (wTariff k gT τ f ++ (wOffer k gO ω ++ (wIA18 k gJ ϕ))))) C hP hD hS (Nat.zero_le _) (Nat.zero_le _) h d_Uses_keep_224
set_option maxHeartbeats 4000000 in
set_option maxRecDepth 100000 in
theorem t_Uses_keep_143 {p : Program} {l : Launch} {e : Env} {s : State} {m : MethodId} {args : Array Value} {below : List Frame} {meth : Method} {c : Code} {A : Nat → Prop} {D : va_G} {k : Nat → ClassId} {gU : Nat → Nat} {gT : Nat → Nat} {gO : Nat → Nat} {gJ : Nat → Nat} {f : Nat → Option Nat} {x2 : Int32} (hno : f (Int32.toNatClampNeg x2) = some (gO 0)) (C : Cx p s m args meth c D k "PromotionTill$Uses" b_Uses_keep 9 none A) (N : Nat) (τ : St) (ω : St) (ϕ : St) (post : ((St)) → Prop) :
    ∀ (x4 : Int32) (x7 : Int32) (y0 : Int32) (υ : (St)) (H : Heap) (locs : List Loc) (ls : Array Slot), va_P D CL (wUses k gU υ ++ (wTariff k gT τ f ++ (wOffer k gO ω ++ (wIA18 k gJ ϕ)))) H → va_D A (wUses k gU υ ++ (wTariff k gT τ f ++ (wOffer k gO ω ++ (wIA18 k gJ ϕ)))) → va_S A s.heap H locs → lv_has ls 9 [(0, .ref (gU 0)), (2, .int x2), (3, .ref (gJ 0)), (4, .int x4), (7, .int x7)] → wp_Uses_keep_143 N τ ω ϕ x2 post x4 x7 y0 υ → W p l e rm_Uses_keep s m args below meth c H locs 0 0 (MQ below (va_Qv post (fun (u : (St)) t => va_P D CL (wUses k gU u ++ (wTariff k gT τ f ++ (wOffer k gO ω ++ (wIA18 k gJ ϕ)))) t.heap ∧ va_D A (wUses k gU u ++ (wTariff k gT τ f ++ (wOffer k gO ω ++ (wIA18 k gJ ϕ))))) A) args s rm_Uses_keep.cells rm_Uses_keep.slots A) (F0 m 143 ls [.int y0]) := by
  obtain ⟨hx, hb, hr, hlk, hml, hown, hts, hK, hA⟩ := id C
  intro x4 x7 y0 υ H locs ls hP hD hS hl h
  unfold wp_Uses_keep_143 at h
  refine lv_istore (lv' := [(8, .int y0), (0, .ref (gU 0)), (2, .int x2), (3, .ref (gJ 0)), (4, .int x4), (7, .int x7)]) hx hb d_Uses_keep_143 hl (by decide) rfl (fun ls hl => ?_)
  refine lv_aload_n hx hb d_Uses_keep_145 rfl (lv_at hl 1 rfl) ?_
  refine va_get (D := D) (ci := 6) (v := .ref (gU 1)) (C := R_Uses) (T := F_Uses) (N := 10) hx hb hts in_Uses hown hK hP 0 rfl rfl 0 (by decide) (hts _ kw_127) (fun _ h9 => h9) rfl d_Uses_keep_146 ?_
  refine lv_aload_n hx hb d_Uses_keep_149 rfl (lv_at hl 1 rfl) ?_
  refine va_get (D := D) (ci := 6) (v := .int (υ 9 0)) (C := R_Uses) (T := F_Uses) (N := 10) hx hb hts in_Uses hown hK hP 0 rfl rfl 9 (by decide) (hts _ kw_136) (fun _ h9 => h9) rfl d_Uses_keep_150 ?_
  refine lv_aload_n hx hb d_Uses_keep_153 rfl (lv_at hl 1 rfl) ?_
  refine lv_iload_n hx hb d_Uses_keep_154 rfl (lv_at hl 2 rfl) ?_
  refine call_i (wr := [(gT 0, .inr (5, [.ref (gT 1), .ref (gT 2)])), (gT 1, .inl (k 0, 12, .inl (τ 0))), (gT 2, .inl (k 3, 6, .inr (.inr (.inr (.inr f))))), (gO 0, .inr (1, [.int (ω 0 0), .int (ω 1 0), .int (ω 2 0), .int (ω 3 0), .int (ω 4 0), .ref (gO 1)])), (gO 1, .inl (k 0, 4, .inl (ω 5))), (gJ 0, .inl (k 0, 18, .inl (ϕ 0)))]) (wn := (fun u19 : Unit => wUses k gU υ ++ (wTariff k gT τ f ++ (wOffer k gO ω ++ (wIA18 k gJ ϕ))))) C hP hD hS [0, 1, 2, 3, 4, 5, 6, 7, 8] [9, 10, 11, 12, 13, 14] [6, 7, 8, 9, 10, 11, 12, 13, 14, 0, 1, 2, 3, 4, 5] rfl rfl (by decide) (by decide) (fun _ => rfl) (by decide) (runV (As := [.int x2]) (rest := [.int (υ 9 0), .ref (gU 1)]) C (hP.sub [0, 1, 2, 3, 4, 5, 6, 7, 8] rfl) (hD.sub [0, 1, 2, 3, 4, 5, 6, 7, 8] (by decide) rfl) (m_Uses_packTaken N gU υ x2  _ h H.size) kw_538 kw_540 kp_6 kw_7 kw_541 hd_Uses_packTaken ⟨Nat.le_of_ble_eq_true rfl, Nat.le_of_ble_eq_true rfl⟩ ⟨Nat.le_of_ble_eq_true rfl, Nat.le_of_ble_eq_true rfl⟩ 0 rfl rfl rfl rfl hl.1 (Nat.le_of_ble_eq_true rfl) d_Uses_keep_155) (fun r20 u19 H locs h hP hD hS => ?_)
  try dsimp only at h
  obtain ⟨hi21, h⟩ := h
  refine va_iast hx hb hK hP hD hS 1 0 rfl rfl hi21 d_Uses_keep_158 (fun H locs hP hD hS => ?_)
  obtain ⟨υ22, eυ22⟩ : ∃ z, z = s2 υ 0 (Int32.toNatClampNeg (υ 9 0)) r20 := ⟨_, rfl⟩
  replace hP : va_P D CL (wUses k gU υ22 ++ (wTariff k gT τ f ++ (wOffer k gO ω ++ (wIA18 k gJ ϕ)))) H := by rw [eυ22]; exact hP
  replace hD : va_D A (wUses k gU υ22 ++ (wTariff k gT τ f ++ (wOffer k gO ω ++ (wIA18 k gJ ϕ)))) := by rw [eυ22]; exact hD
  replace h := h υ22 eυ22
  refine lv_aload_n hx hb d_Uses_keep_159 rfl (lv_at hl 1 rfl) ?_
  refine va_get (D := D) (ci := 6) (v := .ref (gU 2)) (C := R_Uses) (T := F_Uses) (N := 10) hx hb hts in_Uses hown hK hP 0 rfl rfl 1 (by decide) (hts _ kw_128) (fun _ h9 => h9) rfl d_Uses_keep_160 ?_
  refine lv_aload_n hx hb d_Uses_keep_163 rfl (lv_at hl 1 rfl) ?_
  refine va_get (D := D) (ci := 6) (v := .int (υ22 9 0)) (C := R_Uses) (T := F_Uses) (N := 10) hx hb hts in_Uses hown hK hP 0 rfl rfl 9 (by decide) (hts _ kw_136) (fun _ h9 => h9) rfl d_Uses_keep_164 ?_
  refine lv_iload hx hb d_Uses_keep_167 (lv_at hl 5 rfl) ?_
  obtain ⟨hi23, h⟩ := h
  refine va_iast hx hb hK hP hD hS 2 0 rfl rfl hi23 d_Uses_keep_169 (fun H locs hP hD hS => ?_)
  obtain ⟨υ24, eυ24⟩ : ∃ z, z = s2 υ22 1 (Int32.toNatClampNeg (υ22 9 0)) x7 := ⟨_, rfl⟩
  replace hP : va_P D CL (wUses k gU υ24 ++ (wTariff k gT τ f ++ (wOffer k gO ω ++ (wIA18 k gJ ϕ)))) H := by rw [eυ24]; exact hP
  replace hD : va_D A (wUses k gU υ24 ++ (wTariff k gT τ f ++ (wOffer k gO ω ++ (wIA18 k gJ ϕ)))) := by rw [eυ24]; exact hD
  replace h := h υ24 eυ24
  refine lv_aload_n hx hb d_Uses_keep_170 rfl (lv_at hl 1 rfl) ?_
  refine va_get (D := D) (ci := 6) (v := .ref (gU 3)) (C := R_Uses) (T := F_Uses) (N := 10) hx hb hts in_Uses hown hK hP 0 rfl rfl 2 (by decide) (hts _ kw_129) (fun _ h9 => h9) rfl d_Uses_keep_171 ?_
  refine lv_aload_n hx hb d_Uses_keep_174 rfl (lv_at hl 1 rfl) ?_
  refine va_get (D := D) (ci := 6) (v := .int (υ24 9 0)) (C := R_Uses) (T := F_Uses) (N := 10) hx hb hts in_Uses hown hK hP 0 rfl rfl 9 (by decide) (hts _ kw_136) (fun _ h9 => h9) rfl d_Uses_keep_175 ?_
  refine lv_iload hx hb d_Uses_keep_178 (lv_at hl 0 rfl) ?_
  refine lv_if_eq (tgt := 195) hx hb d_Uses_keep_180 (by decide) (fun c25 => ?_) (fun c25 => ?_)
  · replace h := h.1 c25
    refine lv_iload hx hb d_Uses_keep_195 (lv_at hl 4 rfl) ?_
    exact t_Uses_keep_197 hno C N τ ω ϕ post x4 (υ24 9 0) υ24 _ _ _ hP hD hS (lv_sub hl [1] rfl) h
  · replace h := h.2 c25
    refine lv_iload hx hb d_Uses_keep_183 (lv_at hl 4 rfl) ?_
    refine lv_aload_n hx hb d_Uses_keep_185 rfl (lv_at hl 3 rfl) ?_
    refine lv_bipush (v := 12) hx hb d_Uses_keep_186 (by decide) ?_
    refine lv_iload_n hx hb d_Uses_keep_188 rfl (lv_at hl 2 rfl) ?_
    refine lv_iadd hx hb d_Uses_keep_189 ?_
    obtain ⟨hi26, h⟩ := h
    refine va_iald hx hb hK hP 14 0 rfl rfl hi26 d_Uses_keep_190 ?_
    refine lv_iadd hx hb d_Uses_keep_191 ?_
    refine lv_goto (tgt := 197) hx hb d_Uses_keep_192 (by decide) ?_
    exact t_Uses_keep_197 hno C N τ ω ϕ post (x4 + (ϕ 0 (Int32.toNatClampNeg (12 + x2)))) (υ24 9 0) υ24 _ _ _ hP hD hS (lv_sub hl [1] rfl) h
set_option maxHeartbeats 4000000 in
set_option maxRecDepth 100000 in
theorem t_Uses_keep_81 {p : Program} {l : Launch} {e : Env} {s : State} {m : MethodId} {args : Array Value} {below : List Frame} {meth : Method} {c : Code} {A : Nat → Prop} {D : va_G} {k : Nat → ClassId} {gU : Nat → Nat} {gT : Nat → Nat} {gO : Nat → Nat} {gJ : Nat → Nat} {f : Nat → Option Nat} {x2 : Int32} (hno : f (Int32.toNatClampNeg x2) = some (gO 0)) (C : Cx p s m args meth c D k "PromotionTill$Uses" b_Uses_keep 9 none A) (N : Nat) (τ : St) (ω : St) (ϕ : St) (post : ((St)) → Prop) (K_13 : Int32 → Int32 → Int32 → Int32 → (St) → Prop) (hK_13 : ∀ (x4 : Int32) (x5 : Int32) (x6 : Int32) (x7 : Int32) (υ : (St)) (H : Heap) (locs : List Loc) (ls : Array Slot), va_P D CL (wUses k gU υ ++ (wTariff k gT τ f ++ (wOffer k gO ω ++ (wIA18 k gJ ϕ)))) H → va_D A (wUses k gU υ ++ (wTariff k gT τ f ++ (wOffer k gO ω ++ (wIA18 k gJ ϕ)))) → va_S A s.heap H locs → lv_has ls 9 [(0, .ref (gU 0)), (1, .ref (gT 0)), (2, .int x2), (3, .ref (gJ 0)), (4, .int x4), (5, .int x5), (6, .int x6), (7, .int x7)] → K_13 x4 x5 x6 x7 υ → W p l e rm_Uses_keep s m args below meth c H locs 0 0 (MQ below (va_Qv post (fun (u : (St)) t => va_P D CL (wUses k gU u ++ (wTariff k gT τ f ++ (wOffer k gO ω ++ (wIA18 k gJ ϕ)))) t.heap ∧ va_D A (wUses k gU u ++ (wTariff k gT τ f ++ (wOffer k gO ω ++ (wIA18 k gJ ϕ))))) A) args s rm_Uses_keep.cells rm_Uses_keep.slots A) (F0 m 13 ls [])) :
    ∀ (x4 : Int32) (x5 : Int32) (x6 : Int32) (x7 : Int32) (υ : (St)) (H : Heap) (locs : List Loc) (ls : Array Slot), va_P D CL (wUses k gU υ ++ (wTariff k gT τ f ++ (wOffer k gO ω ++ (wIA18 k gJ ϕ)))) H → va_D A (wUses k gU υ ++ (wTariff k gT τ f ++ (wOffer k gO ω ++ (wIA18 k gJ ϕ)))) → va_S A s.heap H locs → lv_has ls 9 [(0, .ref (gU 0)), (1, .ref (gT 0)), (2, .int x2), (3, .ref (gJ 0)), (4, .int x4), (5, .int x5), (6, .int x6), (7, .int x7)] → wp_Uses_keep_81 N τ ω ϕ x2 post K_13 x4 x5 x6 x7 υ → W p l e rm_Uses_keep s m args below meth c H locs 0 0 (MQ below (va_Qv post (fun (u : (St)) t => va_P D CL (wUses k gU u ++ (wTariff k gT τ f ++ (wOffer k gO ω ++ (wIA18 k gJ ϕ)))) t.heap ∧ va_D A (wUses k gU u ++ (wTariff k gT τ f ++ (wOffer k gO ω ++ (wIA18 k gJ ϕ))))) A) args s rm_Uses_keep.cells rm_Uses_keep.slots A) (F0 m 81 ls []) := by
  obtain ⟨hx, hb, hr, hlk, hml, hown, hts, hK, hA⟩ := id C
  intro x4 x5 x6 x7 υ H locs ls hP hD hS hl h
  unfold wp_Uses_keep_81 at h
  refine lv_iinc (v := x7 + 1) (lv' := [(7, .int (x7 + 1)), (0, .ref (gU 0)), (1, .ref (gT 0)), (2, .int x2), (3, .ref (gJ 0)), (4, .int x4), (5, .int x5), (6, .int x6)]) hx hb d_Uses_keep_81 hl (k := 7) rfl rfl (by decide) rfl (fun ls hl => ?_)
  refine lv_goto (tgt := 13) hx hb d_Uses_keep_84 (by decide) ?_
  exact hK_13 x4 x5 x6 (x7 + 1) υ _ _ _ hP hD hS (lv_sub hl [1, 2, 3, 4, 5, 6, 7, 0] rfl) h
set_option maxHeartbeats 4000000 in
set_option maxRecDepth 100000 in
theorem t_Uses_keep_13 {p : Program} {l : Launch} {e : Env} {s : State} {m : MethodId} {args : Array Value} {below : List Frame} {meth : Method} {c : Code} {A : Nat → Prop} {D : va_G} {k : Nat → ClassId} {gU : Nat → Nat} {gT : Nat → Nat} {gO : Nat → Nat} {gJ : Nat → Nat} {f : Nat → Option Nat} {x2 : Int32} (hno : f (Int32.toNatClampNeg x2) = some (gO 0)) (C : Cx p s m args meth c D k "PromotionTill$Uses" b_Uses_keep 9 none A) (N : Nat) (τ : St) (ω : St) (ϕ : St) (post : ((St)) → Prop) :
    ∀ (n : Nat) (x4 : Int32) (x5 : Int32) (x6 : Int32) (x7 : Int32) (υ : (St)) (H : Heap) (locs : List Loc) (ls : Array Slot), va_P D CL (wUses k gU υ ++ (wTariff k gT τ f ++ (wOffer k gO ω ++ (wIA18 k gJ ϕ)))) H → va_D A (wUses k gU υ ++ (wTariff k gT τ f ++ (wOffer k gO ω ++ (wIA18 k gJ ϕ)))) → va_S A s.heap H locs → lv_has ls 9 [(0, .ref (gU 0)), (1, .ref (gT 0)), (2, .int x2), (3, .ref (gJ 0)), (4, .int x4), (5, .int x5), (6, .int x6), (7, .int x7)] → wp_Uses_keep_13 N τ ω ϕ x2 post n x4 x5 x6 x7 υ → W p l e rm_Uses_keep s m args below meth c H locs 0 0 (MQ below (va_Qv post (fun (u : (St)) t => va_P D CL (wUses k gU u ++ (wTariff k gT τ f ++ (wOffer k gO ω ++ (wIA18 k gJ ϕ)))) t.heap ∧ va_D A (wUses k gU u ++ (wTariff k gT τ f ++ (wOffer k gO ω ++ (wIA18 k gJ ϕ))))) A) args s rm_Uses_keep.cells rm_Uses_keep.slots A) (F0 m 13 ls []) := by
  obtain ⟨hx, hb, hr, hlk, hml, hown, hts, hK, hA⟩ := id C
  intro n
  induction n with
  | zero =>
    intro x4 x5 x6 x7 υ H locs ls hP hD hS hl h
    exact absurd h (by simp [wp_Uses_keep_13])
  | succ n ih =>
    intro x4 x5 x6 x7 υ H locs ls hP hD hS hl h
    rw [wp_Uses_keep_13] at h
    refine lv_iload hx hb d_Uses_keep_13 (lv_at hl 7 rfl) ?_
    refine lv_bipush (v := 12) hx hb d_Uses_keep_15 (by decide) ?_
    refine lv_icmp_ge (tgt := 87) hx hb d_Uses_keep_17 (by decide) (fun c1 => ?_) (fun c1 => ?_)
    · replace h := h.1 c1
      refine lv_aload_n hx hb d_Uses_keep_87 rfl (lv_at hl 1 rfl) ?_
      refine va_get (D := D) (ci := 5) (v := .ref (gT 2)) (C := R_Tariff) (T := F_Tariff) (N := 2) hx hb hts in_Tariff hown hK hP 9 rfl rfl 1 (by decide) (hts _ kw_87) (fun _ h9 => h9) rfl d_Uses_keep_88 ?_
      refine lv_iload_n hx hb d_Uses_keep_91 rfl (lv_at hl 2 rfl) ?_
      obtain ⟨hi2, h⟩ := h
      refine va_aldq hx hb hK hP 11 3 rfl rfl hi2 d_Uses_keep_92 ?_
      refine W.eq (g2 := F0 m 93 ls [.ref (gO 0)]) (by rw [hno]; rfl) ?_
      refine lv_iload hx hb d_Uses_keep_93 (lv_at hl 5 rfl) ?_
      refine lv_iload hx hb d_Uses_keep_95 (lv_at hl 6 rfl) ?_
      refine call_i (wr := [(gU 0, .inr (6, [.ref (gU 1), .ref (gU 2), .ref (gU 3), .ref (gU 4), .ref (gU 5), .ref (gU 6), .ref (gU 7), .ref (gU 8), .int (υ 8 0), .int (υ 9 0)])), (gU 1, .inl (k 0, 1260, .inl (υ 0))), (gU 2, .inl (k 0, 1260, .inl (υ 1))), (gU 3, .inl (k 0, 1260, .inl (υ 2))), (gU 4, .inl (k 0, 1260, .inl (υ 3))), (gU 5, .inl (k 0, 12, .inl (υ 4))), (gU 6, .inl (k 0, 12, .inl (υ 5))), (gU 7, .inl (k 0, 12, .inl (υ 6))), (gU 8, .inl (k 0, 1024, .inl (υ 7))), (gT 0, .inr (5, [.ref (gT 1), .ref (gT 2)])), (gT 1, .inl (k 0, 12, .inl (τ 0))), (gT 2, .inl (k 3, 6, .inr (.inr (.inr (.inr f))))), (gJ 0, .inl (k 0, 18, .inl (ϕ 0)))]) (wn := (fun u3 : Unit => wUses k gU υ ++ (wTariff k gT τ f ++ (wOffer k gO ω ++ (wIA18 k gJ ϕ))))) C hP hD hS [12, 13] [0, 1, 2, 3, 4, 5, 6, 7, 8, 9, 10, 11, 14] [0, 1, 2, 3, 4, 5, 6, 7, 8, 9, 10, 11, 13, 14, 12] rfl rfl (by decide) (by decide) (fun _ => rfl) (by decide) (runV (As := [.int x5, .int x6]) (rest := []) C (hP.sub [12, 13] rfl) (hD.sub [12, 13] (by decide) rfl) (m_Offer_savingOn N gO ω x5 x6  _ h H.size) kw_530 kw_531 kw_532 kw_4 kw_533 hd_Offer_savingOn ⟨Nat.le_of_ble_eq_true rfl, Nat.le_of_ble_eq_true rfl⟩ ⟨Nat.le_of_ble_eq_true rfl, Nat.le_of_ble_eq_true rfl⟩ 0 rfl rfl rfl rfl hl.1 (Nat.le_of_ble_eq_true rfl) d_Uses_keep_97) (fun r4 u3 H locs h hP hD hS => ?_)
      try dsimp only at h
      refine lv_istore (lv' := [(7, .int r4), (0, .ref (gU 0)), (1, .ref (gT 0)), (2, .int x2), (3, .ref (gJ 0)), (4, .int x4), (5, .int x5), (6, .int x6)]) hx hb d_Uses_keep_100 hl (by decide) rfl (fun ls hl => ?_)
      refine lv_iload hx hb d_Uses_keep_102 (lv_at hl 0 rfl) ?_
      refine lv_if_le (tgt := 224) hx hb d_Uses_keep_104 (by decide) (fun c5 => ?_) (fun c5 => ?_)
      · replace h := h.1 c5
        exact ret_v (u := υ) (wf := (fun u : (St) => wUses k gU u ++ (wTariff k gT τ f ++ (wOffer k gO ω ++ (wIA18 k gJ ϕ))))) C hP hD hS (Nat.zero_le _) (Nat.zero_le _) h d_Uses_keep_224
      · replace h := h.2 c5
        refine lv_aload_n hx hb d_Uses_keep_107 rfl (lv_at hl 1 rfl) ?_
        refine lv_iload hx hb d_Uses_keep_108 (lv_at hl 5 rfl) ?_
        refine call_i (wr := [(gT 0, .inr (5, [.ref (gT 1), .ref (gT 2)])), (gT 1, .inl (k 0, 12, .inl (τ 0))), (gT 2, .inl (k 3, 6, .inr (.inr (.inr (.inr f))))), (gO 0, .inr (1, [.int (ω 0 0), .int (ω 1 0), .int (ω 2 0), .int (ω 3 0), .int (ω 4 0), .ref (gO 1)])), (gO 1, .inl (k 0, 4, .inl (ω 5))), (gJ 0, .inl (k 0, 18, .inl (ϕ 0)))]) (wn := (fun u6 : (St) => wUses k gU u6 ++ (wTariff k gT τ f ++ (wOffer k gO ω ++ (wIA18 k gJ ϕ))))) C hP hD hS [0, 1, 2, 3, 4, 5, 6, 7, 8] [9, 10, 11, 12, 13, 14] [6, 7, 8, 9, 10, 11, 12, 13, 14, 0, 1, 2, 3, 4, 5] rfl rfl (by decide) (by decide) (fun _ => rfl) (by decide) (runV (As := [.int x4]) (rest := []) C (hP.sub [0, 1, 2, 3, 4, 5, 6, 7, 8] rfl) (hD.sub [0, 1, 2, 3, 4, 5, 6, 7, 8] (by decide) rfl) (m_Uses_isNew N gU υ x4  _ h H.size) kw_534 kw_536 kp_5 kw_7 kw_537 hd_Uses_isNew ⟨Nat.le_of_ble_eq_true rfl, Nat.le_of_ble_eq_true rfl⟩ ⟨Nat.le_of_ble_eq_true rfl, Nat.le_of_ble_eq_true rfl⟩ 0 rfl rfl rfl rfl hl.1 (Nat.le_of_ble_eq_true rfl) d_Uses_keep_110) (fun r7 u6 H locs h hP hD hS => ?_)
        try dsimp only at h
        refine lv_if_eq (tgt := 224) hx hb d_Uses_keep_113 (by decide) (fun c8 => ?_) (fun c8 => ?_)
        · replace h := h.1 c8
          exact ret_v (u := u6) (wf := (fun u : (St) => wUses k gU u ++ (wTariff k gT τ f ++ (wOffer k gO ω ++ (wIA18 k gJ ϕ))))) C hP hD hS (Nat.zero_le _) (Nat.zero_le _) h d_Uses_keep_224
        · replace h := h.2 c8
          refine lv_aload_n hx hb d_Uses_keep_116 rfl (lv_at hl 1 rfl) ?_
          refine va_get (D := D) (ci := 6) (v := .int (u6 9 0)) (C := R_Uses) (T := F_Uses) (N := 10) hx hb hts in_Uses hown hK hP 0 rfl rfl 9 (by decide) (hts _ kw_136) (fun _ h9 => h9) rfl d_Uses_keep_117 ?_
          refine lv_sipush (v := 1260) hx hb d_Uses_keep_120 (by decide) ?_
          refine lv_icmp_ge (tgt := 224) hx hb d_Uses_keep_123 (by decide) (fun c9 => ?_) (fun c9 => ?_)
          · replace h := h.1 c9
            exact ret_v (u := u6) (wf := (fun u : (St) => wUses k gU u ++ (wTariff k gT τ f ++ (wOffer k gO ω ++ (wIA18 k gJ ϕ))))) C hP hD hS (Nat.zero_le _) (Nat.zero_le _) h d_Uses_keep_224
          · replace h := h.2 c9
            refine lv_aload_n hx hb d_Uses_keep_126 rfl (lv_at hl 2 rfl) ?_
            refine va_get (D := D) (ci := 5) (v := .ref (gT 2)) (C := R_Tariff) (T := F_Tariff) (N := 2) hx hb hts in_Tariff hown hK hP 9 rfl rfl 1 (by decide) (hts _ kw_87) (fun _ h9 => h9) rfl d_Uses_keep_127 ?_
            refine lv_iload_n hx hb d_Uses_keep_130 rfl (lv_at hl 3 rfl) ?_
            obtain ⟨hi10, h⟩ := h
            refine va_aldq hx hb hK hP 11 3 rfl rfl hi10 d_Uses_keep_131 ?_
            refine W.eq (g2 := F0 m 132 ls [.ref (gO 0)]) (by rw [hno]; rfl) ?_
            refine va_get (D := D) (ci := 1) (v := .int (ω 3 0)) (C := R_Offer) (T := F_Offer) (N := 6) hx hb hts in_Offer hown hK hP 12 rfl rfl 3 (by decide) (hts _ kw_59) (fun _ h9 => h9) rfl d_Uses_keep_132 ?_
            refine lv_if_le (tgt := 142) hx hb d_Uses_keep_135 (by decide) (fun c11 => ?_) (fun c11 => ?_)
            · replace h := h.1 c11
              refine lv_iconst (v := 0) hx hb d_Uses_keep_142 (by decide) ?_
              exact t_Uses_keep_143 hno C N τ ω ϕ post x4 r4 0 u6 _ _ _ hP hD hS (lv_sub hl [1, 3, 4, 5, 0] rfl) h
            · replace h := h.2 c11
              refine lv_iconst (v := 1) hx hb d_Uses_keep_138 (by decide) ?_
              refine lv_goto (tgt := 143) hx hb d_Uses_keep_139 (by decide) ?_
              exact t_Uses_keep_143 hno C N τ ω ϕ post x4 r4 1 u6 _ _ _ hP hD hS (lv_sub hl [1, 3, 4, 5, 0] rfl) h
    · replace h := h.2 c1
      refine lv_aload_n hx hb d_Uses_keep_20 rfl (lv_at hl 0 rfl) ?_
      refine va_get (D := D) (ci := 6) (v := .ref (gU 7)) (C := R_Uses) (T := F_Uses) (N := 10) hx hb hts in_Uses hown hK hP 0 rfl rfl 6 (by decide) (hts _ kw_133) (fun _ h9 => h9) rfl d_Uses_keep_21 ?_
      refine lv_iload hx hb d_Uses_keep_24 (lv_at hl 7 rfl) ?_
      obtain ⟨hi12, h⟩ := h
      refine va_iald hx hb hK hP 7 0 rfl rfl hi12 d_Uses_keep_26 ?_
      refine lv_if_le (tgt := 81) hx hb d_Uses_keep_27 (by decide) (fun c13 => ?_) (fun c13 => ?_)
      · replace h := h.1 c13
        exact t_Uses_keep_81 hno C N τ ω ϕ post (wp_Uses_keep_13 N τ ω ϕ x2 post n) ih x4 x5 x6 x7 υ _ _ _ hP hD hS (lv_sub hl [0, 1, 2, 3, 4, 5, 6, 7] rfl) h
      · replace h := h.2 c13
        refine lv_iload hx hb d_Uses_keep_30 (lv_at hl 4 rfl) ?_
        refine lv_aload_n hx hb d_Uses_keep_32 rfl (lv_at hl 0 rfl) ?_
        refine va_get (D := D) (ci := 6) (v := .ref (gU 7)) (C := R_Uses) (T := F_Uses) (N := 10) hx hb hts in_Uses hown hK hP 0 rfl rfl 6 (by decide) (hts _ kw_133) (fun _ h9 => h9) rfl d_Uses_keep_33 ?_
        refine lv_iload hx hb d_Uses_keep_36 (lv_at hl 7 rfl) ?_
        obtain ⟨hi14, h⟩ := h
        refine va_iald hx hb hK hP 7 0 rfl rfl hi14 d_Uses_keep_38 ?_
        refine lv_aload_n hx hb d_Uses_keep_39 rfl (lv_at hl 3 rfl) ?_
        refine lv_iload hx hb d_Uses_keep_40 (lv_at hl 7 rfl) ?_
        obtain ⟨hi15, h⟩ := h
        refine va_iald hx hb hK hP 14 0 rfl rfl hi15 d_Uses_keep_42 ?_
        refine lv_imul hx hb d_Uses_keep_43 ?_
        refine lv_iadd hx hb d_Uses_keep_44 ?_
        refine lv_istore (lv' := [(4, .int (x4 + ((υ 6 (Int32.toNatClampNeg x7)) * (ϕ 0 (Int32.toNatClampNeg x7))))), (0, .ref (gU 0)), (1, .ref (gT 0)), (2, .int x2), (3, .ref (gJ 0)), (5, .int x5), (6, .int x6), (7, .int x7)]) hx hb d_Uses_keep_45 hl (by decide) rfl (fun ls hl => ?_)
        refine lv_iload hx hb d_Uses_keep_47 (lv_at hl 5 rfl) ?_
        refine lv_aload_n hx hb d_Uses_keep_49 rfl (lv_at hl 1 rfl) ?_
        refine va_get (D := D) (ci := 6) (v := .ref (gU 7)) (C := R_Uses) (T := F_Uses) (N := 10) hx hb hts in_Uses hown hK hP 0 rfl rfl 6 (by decide) (hts _ kw_133) (fun _ h9 => h9) rfl d_Uses_keep_50 ?_
        refine lv_iload hx hb d_Uses_keep_53 (lv_at hl 7 rfl) ?_
        obtain ⟨hi16, h⟩ := h
        refine va_iald hx hb hK hP 7 0 rfl rfl hi16 d_Uses_keep_55 ?_
        refine lv_aload_n hx hb d_Uses_keep_56 rfl (lv_at hl 2 rfl) ?_
        refine va_get (D := D) (ci := 5) (v := .ref (gT 1)) (C := R_Tariff) (T := F_Tariff) (N := 2) hx hb hts in_Tariff hown hK hP 9 rfl rfl 0 (by decide) (hts _ kw_85) (fun _ h9 => h9) rfl d_Uses_keep_57 ?_
        refine lv_iload hx hb d_Uses_keep_60 (lv_at hl 7 rfl) ?_
        obtain ⟨hi17, h⟩ := h
        refine va_iald hx hb hK hP 10 0 rfl rfl hi17 d_Uses_keep_62 ?_
        refine lv_imul hx hb d_Uses_keep_63 ?_
        refine lv_iadd hx hb d_Uses_keep_64 ?_
        refine lv_istore (lv' := [(5, .int (x5 + ((υ 6 (Int32.toNatClampNeg x7)) * (τ 0 (Int32.toNatClampNeg x7))))), (4, .int (x4 + ((υ 6 (Int32.toNatClampNeg x7)) * (ϕ 0 (Int32.toNatClampNeg x7))))), (0, .ref (gU 0)), (1, .ref (gT 0)), (2, .int x2), (3, .ref (gJ 0)), (6, .int x6), (7, .int x7)]) hx hb d_Uses_keep_65 hl (by decide) rfl (fun ls hl => ?_)
        refine lv_iload hx hb d_Uses_keep_67 (lv_at hl 6 rfl) ?_
        refine lv_aload_n hx hb d_Uses_keep_69 rfl (lv_at hl 3 rfl) ?_
        refine va_get (D := D) (ci := 5) (v := .ref (gT 1)) (C := R_Tariff) (T := F_Tariff) (N := 2) hx hb hts in_Tariff hown hK hP 9 rfl rfl 0 (by decide) (hts _ kw_85) (fun _ h9 => h9) rfl d_Uses_keep_70 ?_
        refine lv_iload hx hb d_Uses_keep_73 (lv_at hl 7 rfl) ?_
        obtain ⟨hi18, h⟩ := h
        refine va_iald hx hb hK hP 10 0 rfl rfl hi18 d_Uses_keep_75 ?_
        refine va_mmin hx hb (by rw [hml]; exact hl.1.symm) hown (hts _ kw_527) (hts _ kw_528) (hts _ kw_20) (hts _ kw_529) (Nat.le_of_ble_eq_true rfl) (Nat.le_of_ble_eq_true rfl) (Nat.zero_le _) (Nat.zero_le _) d_Uses_keep_76 ?_
        refine lv_istore (lv' := [(6, .int (if (τ 0 (Int32.toNatClampNeg x7)) < x6 then (τ 0 (Int32.toNatClampNeg x7)) else x6)), (5, .int (x5 + ((υ 6 (Int32.toNatClampNeg x7)) * (τ 0 (Int32.toNatClampNeg x7))))), (4, .int (x4 + ((υ 6 (Int32.toNatClampNeg x7)) * (ϕ 0 (Int32.toNatClampNeg x7))))), (0, .ref (gU 0)), (1, .ref (gT 0)), (2, .int x2), (3, .ref (gJ 0)), (7, .int x7)]) hx hb d_Uses_keep_79 hl (by decide) rfl (fun ls hl => ?_)
        exact t_Uses_keep_81 hno C N τ ω ϕ post (wp_Uses_keep_13 N τ ω ϕ x2 post n) ih (x4 + ((υ 6 (Int32.toNatClampNeg x7)) * (ϕ 0 (Int32.toNatClampNeg x7)))) (x5 + ((υ 6 (Int32.toNatClampNeg x7)) * (τ 0 (Int32.toNatClampNeg x7)))) (if (τ 0 (Int32.toNatClampNeg x7)) < x6 then (τ 0 (Int32.toNatClampNeg x7)) else x6) x7 υ _ _ _ hP hD hS (lv_sub hl [3, 4, 5, 6, 2, 1, 0, 7] rfl) h
set_option maxHeartbeats 4000000 in
set_option maxRecDepth 100000 in
theorem m_Uses_keep {l : Launch} {D : va_G} {k : Nat → ClassId} (N : Nat) (gU : Nat → Nat) (gT : Nat → Nat) (gO : Nat → Nat) (gJ : Nat → Nat) (f : Nat → Option Nat) (υ : St) (τ : St) (ω : St) (ϕ : St) (x2 : Int32) (hno : f (Int32.toNatClampNeg x2) = some (gO 0)) (post : ((St)) → Prop) (h : wp_Uses_keep N  υ τ ω ϕ x2 post) : Cv l D k y_Uses_keep b_Uses_keep 9 rm_Uses_keep [.ref (gU 0), .ref (gT 0), .int x2, .ref (gJ 0)] (wUses k gU υ ++ (wTariff k gT τ f ++ (wOffer k gO ω ++ (wIA18 k gJ ϕ)))) (fun u : (St) => wUses k gU u ++ (wTariff k gT τ f ++ (wOffer k gO ω ++ (wIA18 k gJ ϕ)))) post := by
  refine Cv.of (by decide) (Nat.le_of_ble_eq_true rfl) ?_
  intro p e s m below meth c A H locs ls C hP hD hS hl
  obtain ⟨hx, hb, hr, hlk, hml, hown, hts, hK, hA⟩ := id C
  replace hl : lv_has ls 9 [(0, .ref (gU 0)), (1, .ref (gT 0)), (2, .int x2), (3, .ref (gJ 0))] := hl
  unfold wp_Uses_keep at h
  refine lv_iconst (v := 0) hx hb d_Uses_keep_0 (by decide) ?_
  refine lv_istore (lv' := [(4, .int 0), (0, .ref (gU 0)), (1, .ref (gT 0)), (2, .int x2), (3, .ref (gJ 0))]) hx hb d_Uses_keep_1 hl (by decide) rfl (fun ls hl => ?_)
  refine lv_iconst (v := 0) hx hb d_Uses_keep_3 (by decide) ?_
  refine lv_istore (lv' := [(5, .int 0), (4, .int 0), (0, .ref (gU 0)), (1, .ref (gT 0)), (2, .int x2), (3, .ref (gJ 0))]) hx hb d_Uses_keep_4 hl (by decide) rfl (fun ls hl => ?_)
  refine lv_ldc (v := 100000) hx hb hown (hts _ kw_526) d_Uses_keep_6 ?_
  refine lv_istore (lv' := [(6, .int 100000), (5, .int 0), (4, .int 0), (0, .ref (gU 0)), (1, .ref (gT 0)), (2, .int x2), (3, .ref (gJ 0))]) hx hb d_Uses_keep_8 hl (by decide) rfl (fun ls hl => ?_)
  refine lv_iconst (v := 0) hx hb d_Uses_keep_10 (by decide) ?_
  refine lv_istore (lv' := [(7, .int 0), (6, .int 100000), (5, .int 0), (4, .int 0), (0, .ref (gU 0)), (1, .ref (gT 0)), (2, .int x2), (3, .ref (gJ 0))]) hx hb d_Uses_keep_11 hl (by decide) rfl (fun ls hl => ?_)
  exact t_Uses_keep_13 hno C N τ ω ϕ post   N 0 0 100000 0 υ _ _ _ hP hD hS (lv_sub hl [4, 5, 6, 7, 3, 2, 1, 0] rfl) h
set_option maxHeartbeats 4000000 in
set_option maxRecDepth 100000 in
theorem t_Uses_chooseBehind_45 {p : Program} {l : Launch} {e : Env} {s : State} {m : MethodId} {args : Array Value} {below : List Frame} {meth : Method} {c : Code} {A : Nat → Prop} {D : va_G} {k : Nat → ClassId} {gU : Nat → Nat} {gT : Nat → Nat} {gO : Nat → Nat} {gI : Nat → Nat} {gJ : Nat → Nat} {f : Nat → Option Nat} {x4 : Int32} {rX : Room} {d : Nat} (hno : f (Int32.toNatClampNeg x4) = some (gO 0)) (hrX : (rX.frames + 1 ≤ (rmB d).frames ∧ 8 + (9 + 11) + rX.locals ≤ (rmB d).locals) ∧ (0 + rX.cells ≤ (rmB d).cells ∧ 0 + rX.slots ≤ (rmB d).slots)) (C : Cx p s m args meth c D k "PromotionTill$Uses" b_Uses_chooseBehind 8 none A) (N : Nat) (cP : St → Int32 → Int32 → (St → Prop) → Prop) (τ : St) (ω : St) (ι : St) (ϕ : St) (hcP : ∀ (υ : St) (a b : Int32) (post : St → Prop), cP υ a b post → Cv l D k y_Uses_choosePlace b_Uses_choosePlace 9 rX [.ref (gU 0), .int a, .int b, .ref (gT 0), .int x4, .ref (gI 0), .ref (gJ 0)] (wUses k gU υ ++ (wTariff k gT τ f ++ (wOffer k gO ω ++ (wIA18 k gI ι ++ wIA18 k gJ ϕ)))) (fun u : St => wUses k gU u ++ (wTariff k gT τ f ++ (wOffer k gO ω ++ (wIA18 k gI ι ++ wIA18 k gJ ϕ)))) post) (post : ((St)) → Prop) :
    ∀ (x2 : Int32) (y0 : Int32) (y1 : Int32) (υ : (St)) (H : Heap) (locs : List Loc) (ls : Array Slot), va_P D CL (wUses k gU υ ++ (wTariff k gT τ f ++ (wOffer k gO ω ++ (wIA18 k gI ι ++ (wIA18 k gJ ϕ))))) H → va_D A (wUses k gU υ ++ (wTariff k gT τ f ++ (wOffer k gO ω ++ (wIA18 k gI ι ++ (wIA18 k gJ ϕ))))) → va_S A s.heap H locs → lv_has ls 8 [(0, .ref (gU 0)), (2, .int x2), (3, .ref (gT 0)), (4, .int x4), (5, .ref (gI 0)), (6, .ref (gJ 0))] → wp_Uses_chooseBehind_45 N cP τ ω ι ϕ x4 post x2 y0 y1 υ → W p l e (rmB d) s m args below meth c H locs 0 0 (MQ below (va_Qv post (fun (u : (St)) t => va_P D CL (wUses k gU u ++ (wTariff k gT τ f ++ (wOffer k gO ω ++ (wIA18 k gI ι ++ (wIA18 k gJ ϕ))))) t.heap ∧ va_D A (wUses k gU u ++ (wTariff k gT τ f ++ (wOffer k gO ω ++ (wIA18 k gI ι ++ (wIA18 k gJ ϕ)))))) A) args s (rmB d).cells (rmB d).slots A) (F0 m 45 ls [.int y0, .int y1, .ref (gU 0)]) := by
  obtain ⟨hx, hb, hr, hlk, hml, hown, hts, hK, hA⟩ := id C
  intro x2 y0 y1 υ H locs ls hP hD hS hl h
  unfold wp_Uses_chooseBehind_45 at h
  refine lv_aload_n hx hb d_Uses_chooseBehind_45 rfl (lv_at hl 2 rfl) ?_
  refine lv_iload hx hb d_Uses_chooseBehind_46 (lv_at hl 3 rfl) ?_
  refine lv_aload hx hb d_Uses_chooseBehind_48 (lv_at hl 4 rfl) ?_
  refine lv_aload hx hb d_Uses_chooseBehind_50 (lv_at hl 5 rfl) ?_
  refine same_v C hP hD hS (runV (As := [.int y1, .int y0, .ref (gT 0), .int x4, .ref (gI 0), .ref (gJ 0)]) (rest := []) C hP hD (hcP υ y1 y0 _ h H.size) kw_517 kw_519 kp_3 kw_7 kw_520 hd_Uses_choosePlace hrX.1 hrX.2 0 rfl rfl rfl rfl hl.1 (Nat.le_of_ble_eq_true rfl) d_Uses_chooseBehind_52) (fun u7 H locs h hP hD hS => ?_)
  replace hP : va_P D CL (wUses k gU u7 ++ (wTariff k gT τ f ++ (wOffer k gO ω ++ (wIA18 k gI ι ++ (wIA18 k gJ ϕ))))) H := hP
  replace hD : va_D A (wUses k gU u7 ++ (wTariff k gT τ f ++ (wOffer k gO ω ++ (wIA18 k gI ι ++ (wIA18 k gJ ϕ))))) := hD
  refine W.widen (k := 0) (n := 0) hrX.2.1 hrX.2.2 ?_
  try dsimp only at h
  refine lv_aload_n hx hb d_Uses_chooseBehind_55 rfl (lv_at hl 0 rfl) ?_
  refine va_get (D := D) (ci := 6) (v := .ref (gU 7)) (C := R_Uses) (T := F_Uses) (N := 10) hx hb hts in_Uses hown hK hP 0 rfl rfl 6 (by decide) (hts _ kw_133) (fun _ h9 => h9) rfl d_Uses_chooseBehind_56 ?_
  refine lv_iload_n hx hb d_Uses_chooseBehind_59 rfl (lv_at hl 1 rfl) ?_
  refine lv_dup2_11 hx hb d_Uses_chooseBehind_60 rfl rfl ?_
  obtain ⟨hi9, h⟩ := h
  refine va_iald hx hb hK hP 7 0 rfl rfl hi9 d_Uses_chooseBehind_61 ?_
  refine lv_iconst (v := 1) hx hb d_Uses_chooseBehind_62 (by decide) ?_
  refine lv_isub hx hb d_Uses_chooseBehind_63 ?_
  obtain ⟨hi10, h⟩ := h
  refine va_iast hx hb hK hP hD hS 7 0 rfl rfl hi10 d_Uses_chooseBehind_64 (fun H locs hP hD hS => ?_)
  obtain ⟨υ11, eυ11⟩ : ∃ z, z = s2 u7 6 (Int32.toNatClampNeg x2) ((u7 6 (Int32.toNatClampNeg x2)) - 1) := ⟨_, rfl⟩
  replace hP : va_P D CL (wUses k gU υ11 ++ (wTariff k gT τ f ++ (wOffer k gO ω ++ (wIA18 k gI ι ++ (wIA18 k gJ ϕ))))) H := by rw [eυ11]; exact hP
  replace hD : va_D A (wUses k gU υ11 ++ (wTariff k gT τ f ++ (wOffer k gO ω ++ (wIA18 k gI ι ++ (wIA18 k gJ ϕ))))) := by rw [eυ11]; exact hD
  replace h := h υ11 eυ11
  exact ret_v (u := υ11) (wf := (fun u : (St) => wUses k gU u ++ (wTariff k gT τ f ++ (wOffer k gO ω ++ (wIA18 k gI ι ++ (wIA18 k gJ ϕ)))))) C hP hD hS (Nat.zero_le _) (Nat.zero_le _) h d_Uses_chooseBehind_65
set_option maxHeartbeats 4000000 in
set_option maxRecDepth 100000 in
theorem t_Uses_chooseBehind_19 {p : Program} {l : Launch} {e : Env} {s : State} {m : MethodId} {args : Array Value} {below : List Frame} {meth : Method} {c : Code} {A : Nat → Prop} {D : va_G} {k : Nat → ClassId} {gU : Nat → Nat} {gT : Nat → Nat} {gO : Nat → Nat} {gI : Nat → Nat} {gJ : Nat → Nat} {f : Nat → Option Nat} {x4 : Int32} {rX : Room} {d : Nat} (hno : f (Int32.toNatClampNeg x4) = some (gO 0)) (hrX : (rX.frames + 1 ≤ (rmB d).frames ∧ 8 + (9 + 11) + rX.locals ≤ (rmB d).locals) ∧ (0 + rX.cells ≤ (rmB d).cells ∧ 0 + rX.slots ≤ (rmB d).slots)) (C : Cx p s m args meth c D k "PromotionTill$Uses" b_Uses_chooseBehind 8 none A) (N : Nat) (cP : St → Int32 → Int32 → (St → Prop) → Prop) (τ : St) (ω : St) (ι : St) (ϕ : St) (hcP : ∀ (υ : St) (a b : Int32) (post : St → Prop), cP υ a b post → Cv l D k y_Uses_choosePlace b_Uses_choosePlace 9 rX [.ref (gU 0), .int a, .int b, .ref (gT 0), .int x4, .ref (gI 0), .ref (gJ 0)] (wUses k gU υ ++ (wTariff k gT τ f ++ (wOffer k gO ω ++ (wIA18 k gI ι ++ wIA18 k gJ ϕ)))) (fun u : St => wUses k gU u ++ (wTariff k gT τ f ++ (wOffer k gO ω ++ (wIA18 k gI ι ++ wIA18 k gJ ϕ)))) post) (post : ((St)) → Prop) :
    ∀ (x1 : Int32) (x2 : Int32) (y0 : Int32) (υ : (St)) (H : Heap) (locs : List Loc) (ls : Array Slot), va_P D CL (wUses k gU υ ++ (wTariff k gT τ f ++ (wOffer k gO ω ++ (wIA18 k gI ι ++ (wIA18 k gJ ϕ))))) H → va_D A (wUses k gU υ ++ (wTariff k gT τ f ++ (wOffer k gO ω ++ (wIA18 k gI ι ++ (wIA18 k gJ ϕ))))) → va_S A s.heap H locs → lv_has ls 8 [(0, .ref (gU 0)), (1, .int x1), (2, .int x2), (3, .ref (gT 0)), (4, .int x4), (5, .ref (gI 0)), (6, .ref (gJ 0))] → wp_Uses_chooseBehind_19 N cP τ ω ι ϕ x4 post x1 x2 y0 υ → W p l e (rmB d) s m args below meth c H locs 0 0 (MQ below (va_Qv post (fun (u : (St)) t => va_P D CL (wUses k gU u ++ (wTariff k gT τ f ++ (wOffer k gO ω ++ (wIA18 k gI ι ++ (wIA18 k gJ ϕ))))) t.heap ∧ va_D A (wUses k gU u ++ (wTariff k gT τ f ++ (wOffer k gO ω ++ (wIA18 k gI ι ++ (wIA18 k gJ ϕ)))))) A) args s (rmB d).cells (rmB d).slots A) (F0 m 19 ls [.int y0]) := by
  obtain ⟨hx, hb, hr, hlk, hml, hown, hts, hK, hA⟩ := id C
  intro x1 x2 y0 υ H locs ls hP hD hS hl h
  unfold wp_Uses_chooseBehind_19 at h
  refine lv_istore (lv' := [(7, .int y0), (0, .ref (gU 0)), (1, .int x1), (2, .int x2), (3, .ref (gT 0)), (4, .int x4), (5, .ref (gI 0)), (6, .ref (gJ 0))]) hx hb d_Uses_chooseBehind_19 hl (by decide) rfl (fun ls hl => ?_)
  refine lv_aload_n hx hb d_Uses_chooseBehind_21 rfl (lv_at hl 1 rfl) ?_
  refine va_get (D := D) (ci := 6) (v := .ref (gU 7)) (C := R_Uses) (T := F_Uses) (N := 10) hx hb hts in_Uses hown hK hP 0 rfl rfl 6 (by decide) (hts _ kw_133) (fun _ h9 => h9) rfl d_Uses_chooseBehind_22 ?_
  refine lv_iload_n hx hb d_Uses_chooseBehind_25 rfl (lv_at hl 3 rfl) ?_
  refine lv_dup2_11 hx hb d_Uses_chooseBehind_26 rfl rfl ?_
  obtain ⟨hi3, h⟩ := h
  refine va_iald hx hb hK hP 7 0 rfl rfl hi3 d_Uses_chooseBehind_27 ?_
  refine lv_iconst (v := 1) hx hb d_Uses_chooseBehind_28 (by decide) ?_
  refine lv_iadd hx hb d_Uses_chooseBehind_29 ?_
  obtain ⟨hi4, h⟩ := h
  refine va_iast hx hb hK hP hD hS 7 0 rfl rfl hi4 d_Uses_chooseBehind_30 (fun H locs hP hD hS => ?_)
  obtain ⟨υ5, eυ5⟩ : ∃ z, z = s2 υ 6 (Int32.toNatClampNeg x2) ((υ 6 (Int32.toNatClampNeg x2)) + 1) := ⟨_, rfl⟩
  replace hP : va_P D CL (wUses k gU υ5 ++ (wTariff k gT τ f ++ (wOffer k gO ω ++ (wIA18 k gI ι ++ (wIA18 k gJ ϕ))))) H := by rw [eυ5]; exact hP
  replace hD : va_D A (wUses k gU υ5 ++ (wTariff k gT τ f ++ (wOffer k gO ω ++ (wIA18 k gI ι ++ (wIA18 k gJ ϕ))))) := by rw [eυ5]; exact hD
  replace h := h υ5 eυ5
  refine lv_aload_n hx hb d_Uses_chooseBehind_31 rfl (lv_at hl 1 rfl) ?_
  refine lv_iload_n hx hb d_Uses_chooseBehind_32 rfl (lv_at hl 2 rfl) ?_
  refine lv_iconst (v := 1) hx hb d_Uses_chooseBehind_33 (by decide) ?_
  refine lv_iadd hx hb d_Uses_chooseBehind_34 ?_
  refine lv_iload hx hb d_Uses_chooseBehind_35 (lv_at hl 0 rfl) ?_
  refine lv_if_eq (tgt := 44) hx hb d_Uses_chooseBehind_37 (by decide) (fun c6 => ?_) (fun c6 => ?_)
  · replace h := h.1 c6
    refine lv_iconst (v := 0) hx hb d_Uses_chooseBehind_44 (by decide) ?_
    exact t_Uses_chooseBehind_45 hno hrX C N cP τ ω ι ϕ hcP post x2 0 (x1 + 1) υ5 _ _ _ hP hD hS (lv_sub hl [1, 3, 4, 5, 6, 7] rfl) h
  · replace h := h.2 c6
    refine lv_iload_n hx hb d_Uses_chooseBehind_40 rfl (lv_at hl 3 rfl) ?_
    refine lv_goto (tgt := 45) hx hb d_Uses_chooseBehind_41 (by decide) ?_
    exact t_Uses_chooseBehind_45 hno hrX C N cP τ ω ι ϕ hcP post x2 x2 (x1 + 1) υ5 _ _ _ hP hD hS (lv_sub hl [1, 3, 4, 5, 6, 7] rfl) h
set_option maxHeartbeats 4000000 in
set_option maxRecDepth 100000 in
theorem m_Uses_chooseBehind {l : Launch} {D : va_G} {k : Nat → ClassId} (N : Nat) (cP : St → Int32 → Int32 → (St → Prop) → Prop) (gU : Nat → Nat) (gT : Nat → Nat) (gO : Nat → Nat) (gI : Nat → Nat) (gJ : Nat → Nat) (f : Nat → Option Nat) (υ : St) (τ : St) (ω : St) (ι : St) (ϕ : St) (x1 : Int32) (x2 : Int32) (x4 : Int32) (hno : f (Int32.toNatClampNeg x4) = some (gO 0)) {rX : Room} {d : Nat} (hrX : (rX.frames + 1 ≤ (rmB d).frames ∧ 8 + (9 + 11) + rX.locals ≤ (rmB d).locals) ∧ (0 + rX.cells ≤ (rmB d).cells ∧ 0 + rX.slots ≤ (rmB d).slots)) (hcP : ∀ (υ : St) (a b : Int32) (post : St → Prop), cP υ a b post → Cv l D k y_Uses_choosePlace b_Uses_choosePlace 9 rX [.ref (gU 0), .int a, .int b, .ref (gT 0), .int x4, .ref (gI 0), .ref (gJ 0)] (wUses k gU υ ++ (wTariff k gT τ f ++ (wOffer k gO ω ++ (wIA18 k gI ι ++ wIA18 k gJ ϕ)))) (fun u : St => wUses k gU u ++ (wTariff k gT τ f ++ (wOffer k gO ω ++ (wIA18 k gI ι ++ wIA18 k gJ ϕ)))) post) (post : ((St)) → Prop) (h : wp_Uses_chooseBehind N cP υ τ ω ι ϕ x1 x2 x4 post) : Cv l D k y_Uses_chooseBehind b_Uses_chooseBehind 8 (rmB d) [.ref (gU 0), .int x1, .int x2, .ref (gT 0), .int x4, .ref (gI 0), .ref (gJ 0)] (wUses k gU υ ++ (wTariff k gT τ f ++ (wOffer k gO ω ++ (wIA18 k gI ι ++ (wIA18 k gJ ϕ))))) (fun u : (St) => wUses k gU u ++ (wTariff k gT τ f ++ (wOffer k gO ω ++ (wIA18 k gI ι ++ (wIA18 k gJ ϕ))))) post := by
  refine Cv.of (by decide) (Nat.le_of_ble_eq_true rfl) ?_
  intro p e s m below meth c A H locs ls C hP hD hS hl
  obtain ⟨hx, hb, hr, hlk, hml, hown, hts, hK, hA⟩ := id C
  replace hl : lv_has ls 8 [(0, .ref (gU 0)), (1, .int x1), (2, .int x2), (3, .ref (gT 0)), (4, .int x4), (5, .ref (gI 0)), (6, .ref (gJ 0))] := hl
  unfold wp_Uses_chooseBehind at h
  refine lv_aload_n hx hb d_Uses_chooseBehind_0 rfl (lv_at hl 3 rfl) ?_
  refine va_get (D := D) (ci := 5) (v := .ref (gT 2)) (C := R_Tariff) (T := F_Tariff) (N := 2) hx hb hts in_Tariff hown hK hP 9 rfl rfl 1 (by decide) (hts _ kw_87) (fun _ h9 => h9) rfl d_Uses_chooseBehind_1 ?_
  refine lv_iload hx hb d_Uses_chooseBehind_4 (lv_at hl 4 rfl) ?_
  obtain ⟨hi1, h⟩ := h
  refine va_aldq hx hb hK hP 11 3 rfl rfl hi1 d_Uses_chooseBehind_6 ?_
  refine W.eq (g2 := F0 m 7 ls [.ref (gO 0)]) (by rw [hno]; rfl) ?_
  refine va_get (D := D) (ci := 1) (v := .int (ω 0 0)) (C := R_Offer) (T := F_Offer) (N := 6) hx hb hts in_Offer hown hK hP 12 rfl rfl 0 (by decide) (hts _ kw_52) (fun _ h9 => h9) rfl d_Uses_chooseBehind_7 ?_
  refine lv_iconst (v := 2) hx hb d_Uses_chooseBehind_10 (by decide) ?_
  refine lv_icmp_eq (tgt := 18) hx hb d_Uses_chooseBehind_11 (by decide) (fun c2 => ?_) (fun c2 => ?_)
  · replace h := h.1 c2
    refine lv_iconst (v := 0) hx hb d_Uses_chooseBehind_18 (by decide) ?_
    exact t_Uses_chooseBehind_19 hno hrX C N cP τ ω ι ϕ hcP post x1 x2 0 υ _ _ _ hP hD hS (lv_sub hl [0, 1, 2, 3, 4, 5, 6] rfl) h
  · replace h := h.2 c2
    refine lv_iconst (v := 1) hx hb d_Uses_chooseBehind_14 (by decide) ?_
    refine lv_goto (tgt := 19) hx hb d_Uses_chooseBehind_15 (by decide) ?_
    exact t_Uses_chooseBehind_19 hno hrX C N cP τ ω ι ϕ hcP post x1 x2 1 υ _ _ _ hP hD hS (lv_sub hl [0, 1, 2, 3, 4, 5, 6] rfl) h
set_option maxHeartbeats 4000000 in
set_option maxRecDepth 100000 in
theorem t_Uses_choosePlace_83 {p : Program} {l : Launch} {e : Env} {s : State} {m : MethodId} {args : Array Value} {below : List Frame} {meth : Method} {c : Code} {A : Nat → Prop} {D : va_G} {k : Nat → ClassId} {gU : Nat → Nat} {gT : Nat → Nat} {gO : Nat → Nat} {gI : Nat → Nat} {gJ : Nat → Nat} {f : Nat → Option Nat} {x4 : Int32} {rX : Room} {d : Nat} (hno : f (Int32.toNatClampNeg x4) = some (gO 0)) (hrX : (rX.frames + 1 ≤ (rmP d).frames ∧ 8 + (8 + 11) + rX.locals ≤ (rmP d).locals) ∧ (0 + rX.cells ≤ (rmP d).cells ∧ 0 + rX.slots ≤ (rmP d).slots)) (C : Cx p s m args meth c D k "PromotionTill$Uses" b_Uses_choosePlace 9 none A) (N : Nat) (cB : St → Int32 → Int32 → (St → Prop) → Prop) (τ : St) (ω : St) (ι : St) (ϕ : St) (hcB : ∀ (υ : St) (a b : Int32) (post : St → Prop), cB υ a b post → Cv l D k y_Uses_chooseBehind b_Uses_chooseBehind 8 rX [.ref (gU 0), .int a, .int b, .ref (gT 0), .int x4, .ref (gI 0), .ref (gJ 0)] (wUses k gU υ ++ (wTariff k gT τ f ++ (wOffer k gO ω ++ (wIA18 k gI ι ++ wIA18 k gJ ϕ)))) (fun u : St => wUses k gU u ++ (wTariff k gT τ f ++ (wOffer k gO ω ++ (wIA18 k gI ι ++ wIA18 k gJ ϕ)))) post) (post : ((St)) → Prop) (K_36 : Int32 → Int32 → (St) → Prop) (hK_36 : ∀ (x1 : Int32) (x8 : Int32) (υ : (St)) (H : Heap) (locs : List Loc) (ls : Array Slot), va_P D CL (wUses k gU υ ++ (wTariff k gT τ f ++ (wOffer k gO ω ++ (wIA18 k gI ι ++ (wIA18 k gJ ϕ))))) H → va_D A (wUses k gU υ ++ (wTariff k gT τ f ++ (wOffer k gO ω ++ (wIA18 k gI ι ++ (wIA18 k gJ ϕ))))) → va_S A s.heap H locs → lv_has ls 9 [(0, .ref (gU 0)), (1, .int x1), (3, .ref (gT 0)), (4, .int x4), (5, .ref (gI 0)), (6, .ref (gJ 0)), (7, .ref (gO 0)), (8, .int x8)] → K_36 x1 x8 υ → W p l e (rmP d) s m args below meth c H locs 0 0 (MQ below (va_Qv post (fun (u : (St)) t => va_P D CL (wUses k gU u ++ (wTariff k gT τ f ++ (wOffer k gO ω ++ (wIA18 k gI ι ++ (wIA18 k gJ ϕ))))) t.heap ∧ va_D A (wUses k gU u ++ (wTariff k gT τ f ++ (wOffer k gO ω ++ (wIA18 k gI ι ++ (wIA18 k gJ ϕ)))))) A) args s (rmP d).cells (rmP d).slots A) (F0 m 36 ls [])) :
    ∀ (x1 : Int32) (x8 : Int32) (υ : (St)) (H : Heap) (locs : List Loc) (ls : Array Slot), va_P D CL (wUses k gU υ ++ (wTariff k gT τ f ++ (wOffer k gO ω ++ (wIA18 k gI ι ++ (wIA18 k gJ ϕ))))) H → va_D A (wUses k gU υ ++ (wTariff k gT τ f ++ (wOffer k gO ω ++ (wIA18 k gI ι ++ (wIA18 k gJ ϕ))))) → va_S A s.heap H locs → lv_has ls 9 [(0, .ref (gU 0)), (1, .int x1), (3, .ref (gT 0)), (4, .int x4), (5, .ref (gI 0)), (6, .ref (gJ 0)), (7, .ref (gO 0)), (8, .int x8)] → wp_Uses_choosePlace_83 N cB τ ω ι ϕ x4 post K_36 x1 x8 υ → W p l e (rmP d) s m args below meth c H locs 0 0 (MQ below (va_Qv post (fun (u : (St)) t => va_P D CL (wUses k gU u ++ (wTariff k gT τ f ++ (wOffer k gO ω ++ (wIA18 k gI ι ++ (wIA18 k gJ ϕ))))) t.heap ∧ va_D A (wUses k gU u ++ (wTariff k gT τ f ++ (wOffer k gO ω ++ (wIA18 k gI ι ++ (wIA18 k gJ ϕ)))))) A) args s (rmP d).cells (rmP d).slots A) (F0 m 83 ls []) := by
  obtain ⟨hx, hb, hr, hlk, hml, hown, hts, hK, hA⟩ := id C
  intro x1 x8 υ H locs ls hP hD hS hl h
  unfold wp_Uses_choosePlace_83 at h
  refine lv_iinc (v := x8 + 1) (lv' := [(8, .int (x8 + 1)), (0, .ref (gU 0)), (1, .int x1), (3, .ref (gT 0)), (4, .int x4), (5, .ref (gI 0)), (6, .ref (gJ 0)), (7, .ref (gO 0))]) hx hb d_Uses_choosePlace_83 hl (k := 7) rfl rfl (by decide) rfl (fun ls hl => ?_)
  refine lv_goto (tgt := 36) hx hb d_Uses_choosePlace_86 (by decide) ?_
  exact hK_36 x1 (x8 + 1) υ _ _ _ hP hD hS (lv_sub hl [1, 2, 3, 4, 5, 6, 7, 0] rfl) h
set_option maxHeartbeats 4000000 in
set_option maxRecDepth 100000 in
theorem t_Uses_choosePlace_36 {p : Program} {l : Launch} {e : Env} {s : State} {m : MethodId} {args : Array Value} {below : List Frame} {meth : Method} {c : Code} {A : Nat → Prop} {D : va_G} {k : Nat → ClassId} {gU : Nat → Nat} {gT : Nat → Nat} {gO : Nat → Nat} {gI : Nat → Nat} {gJ : Nat → Nat} {f : Nat → Option Nat} {x4 : Int32} {rX : Room} {d : Nat} (hno : f (Int32.toNatClampNeg x4) = some (gO 0)) (hrX : (rX.frames + 1 ≤ (rmP d).frames ∧ 8 + (8 + 11) + rX.locals ≤ (rmP d).locals) ∧ (0 + rX.cells ≤ (rmP d).cells ∧ 0 + rX.slots ≤ (rmP d).slots)) (C : Cx p s m args meth c D k "PromotionTill$Uses" b_Uses_choosePlace 9 none A) (N : Nat) (cB : St → Int32 → Int32 → (St → Prop) → Prop) (τ : St) (ω : St) (ι : St) (ϕ : St) (hcB : ∀ (υ : St) (a b : Int32) (post : St → Prop), cB υ a b post → Cv l D k y_Uses_chooseBehind b_Uses_chooseBehind 8 rX [.ref (gU 0), .int a, .int b, .ref (gT 0), .int x4, .ref (gI 0), .ref (gJ 0)] (wUses k gU υ ++ (wTariff k gT τ f ++ (wOffer k gO ω ++ (wIA18 k gI ι ++ wIA18 k gJ ϕ)))) (fun u : St => wUses k gU u ++ (wTariff k gT τ f ++ (wOffer k gO ω ++ (wIA18 k gI ι ++ wIA18 k gJ ϕ)))) post) (post : ((St)) → Prop) :
    ∀ (n : Nat) (x1 : Int32) (x8 : Int32) (υ : (St)) (H : Heap) (locs : List Loc) (ls : Array Slot), va_P D CL (wUses k gU υ ++ (wTariff k gT τ f ++ (wOffer k gO ω ++ (wIA18 k gI ι ++ (wIA18 k gJ ϕ))))) H → va_D A (wUses k gU υ ++ (wTariff k gT τ f ++ (wOffer k gO ω ++ (wIA18 k gI ι ++ (wIA18 k gJ ϕ))))) → va_S A s.heap H locs → lv_has ls 9 [(0, .ref (gU 0)), (1, .int x1), (3, .ref (gT 0)), (4, .int x4), (5, .ref (gI 0)), (6, .ref (gJ 0)), (7, .ref (gO 0)), (8, .int x8)] → wp_Uses_choosePlace_36 N cB τ ω ι ϕ x4 post n x1 x8 υ → W p l e (rmP d) s m args below meth c H locs 0 0 (MQ below (va_Qv post (fun (u : (St)) t => va_P D CL (wUses k gU u ++ (wTariff k gT τ f ++ (wOffer k gO ω ++ (wIA18 k gI ι ++ (wIA18 k gJ ϕ))))) t.heap ∧ va_D A (wUses k gU u ++ (wTariff k gT τ f ++ (wOffer k gO ω ++ (wIA18 k gI ι ++ (wIA18 k gJ ϕ)))))) A) args s (rmP d).cells (rmP d).slots A) (F0 m 36 ls []) := by
  obtain ⟨hx, hb, hr, hlk, hml, hown, hts, hK, hA⟩ := id C
  intro n
  induction n with
  | zero =>
    intro x1 x8 υ H locs ls hP hD hS hl h
    exact absurd h (by simp [wp_Uses_choosePlace_36])
  | succ n ih =>
    intro x1 x8 υ H locs ls hP hD hS hl h
    rw [wp_Uses_choosePlace_36] at h
    refine lv_iload hx hb d_Uses_choosePlace_36 (lv_at hl 7 rfl) ?_
    refine lv_bipush (v := 12) hx hb d_Uses_choosePlace_38 (by decide) ?_
    refine lv_icmp_ge (tgt := 89) hx hb d_Uses_choosePlace_40 (by decide) (fun c6 => ?_) (fun c6 => ?_)
    · replace h := h.1 c6
      exact ret_v (u := υ) (wf := (fun u : (St) => wUses k gU u ++ (wTariff k gT τ f ++ (wOffer k gO ω ++ (wIA18 k gI ι ++ (wIA18 k gJ ϕ)))))) C hP hD hS (Nat.zero_le _) (Nat.zero_le _) h d_Uses_choosePlace_89
    · replace h := h.2 c6
      refine lv_aload_n hx hb d_Uses_choosePlace_43 rfl (lv_at hl 0 rfl) ?_
      refine va_get (D := D) (ci := 6) (v := .ref (gU 7)) (C := R_Uses) (T := F_Uses) (N := 10) hx hb hts in_Uses hown hK hP 0 rfl rfl 6 (by decide) (hts _ kw_133) (fun _ h9 => h9) rfl d_Uses_choosePlace_44 ?_
      refine lv_iload hx hb d_Uses_choosePlace_47 (lv_at hl 7 rfl) ?_
      obtain ⟨hi7, h⟩ := h
      refine va_iald hx hb hK hP 7 0 rfl rfl hi7 d_Uses_choosePlace_49 ?_
      refine lv_aload hx hb d_Uses_choosePlace_50 (lv_at hl 4 rfl) ?_
      refine lv_iload hx hb d_Uses_choosePlace_52 (lv_at hl 7 rfl) ?_
      obtain ⟨hi8, h⟩ := h
      refine va_iald hx hb hK hP 14 0 rfl rfl hi8 d_Uses_choosePlace_54 ?_
      refine lv_icmp_ge (tgt := 83) hx hb d_Uses_choosePlace_55 (by decide) (fun c9 => ?_) (fun c9 => ?_)
      · replace h := h.1 c9
        exact t_Uses_choosePlace_83 hno hrX C N cB τ ω ι ϕ hcB post (wp_Uses_choosePlace_36 N cB τ ω ι ϕ x4 post n) ih x1 x8 υ _ _ _ hP hD hS (lv_sub hl [0, 1, 2, 3, 4, 5, 6, 7] rfl) h
      · replace h := h.2 c9
        refine lv_aload hx hb d_Uses_choosePlace_58 (lv_at hl 6 rfl) ?_
        refine lv_iload_n hx hb d_Uses_choosePlace_60 rfl (lv_at hl 1 rfl) ?_
        refine lv_iload hx hb d_Uses_choosePlace_61 (lv_at hl 7 rfl) ?_
        refine call_i (wr := [(gU 0, .inr (6, [.ref (gU 1), .ref (gU 2), .ref (gU 3), .ref (gU 4), .ref (gU 5), .ref (gU 6), .ref (gU 7), .ref (gU 8), .int (υ 8 0), .int (υ 9 0)])), (gU 1, .inl (k 0, 1260, .inl (υ 0))), (gU 2, .inl (k 0, 1260, .inl (υ 1))), (gU 3, .inl (k 0, 1260, .inl (υ 2))), (gU 4, .inl (k 0, 1260, .inl (υ 3))), (gU 5, .inl (k 0, 12, .inl (υ 4))), (gU 6, .inl (k 0, 12, .inl (υ 5))), (gU 7, .inl (k 0, 12, .inl (υ 6))), (gU 8, .inl (k 0, 1024, .inl (υ 7))), (gT 0, .inr (5, [.ref (gT 1), .ref (gT 2)])), (gT 1, .inl (k 0, 12, .inl (τ 0))), (gT 2, .inl (k 3, 6, .inr (.inr (.inr (.inr f))))), (gI 0, .inl (k 0, 18, .inl (ι 0))), (gJ 0, .inl (k 0, 18, .inl (ϕ 0)))]) (wn := (fun u10 : Unit => wUses k gU υ ++ (wTariff k gT τ f ++ (wOffer k gO ω ++ (wIA18 k gI ι ++ (wIA18 k gJ ϕ)))))) C hP hD hS [12, 13] [0, 1, 2, 3, 4, 5, 6, 7, 8, 9, 10, 11, 14, 15] [0, 1, 2, 3, 4, 5, 6, 7, 8, 9, 10, 11, 14, 15, 12, 13] rfl rfl (by decide) (by decide) (fun _ => rfl) (by decide) (runV (As := [.int x1, .int x8]) (rest := []) C (hP.sub [12, 13] rfl) (hD.sub [12, 13] (by decide) rfl) (m_Offer_takesAt N gO ω x1 x8  _ h H.size) kw_546 kw_448 kw_449 kw_4 kw_450 hd_Offer_takesAt ⟨by simp only [rmP]; omega, by simp only [rmP]; omega⟩ ⟨Nat.le_of_ble_eq_true rfl, Nat.le_of_ble_eq_true rfl⟩ 0 rfl rfl rfl rfl hl.1 (Nat.le_of_ble_eq_true rfl) d_Uses_choosePlace_63) (fun r11 u10 H locs h hP hD hS => ?_)
        try dsimp only at h
        refine lv_if_eq (tgt := 83) hx hb d_Uses_choosePlace_66 (by decide) (fun c12 => ?_) (fun c12 => ?_)
        · replace h := h.1 c12
          exact t_Uses_choosePlace_83 hno hrX C N cB τ ω ι ϕ hcB post (wp_Uses_choosePlace_36 N cB τ ω ι ϕ x4 post n) ih x1 x8 υ _ _ _ hP hD hS (lv_sub hl [0, 1, 2, 3, 4, 5, 6, 7] rfl) h
        · replace h := h.2 c12
          refine lv_aload_n hx hb d_Uses_choosePlace_69 rfl (lv_at hl 0 rfl) ?_
          refine lv_iload_n hx hb d_Uses_choosePlace_70 rfl (lv_at hl 1 rfl) ?_
          refine lv_iload hx hb d_Uses_choosePlace_71 (lv_at hl 7 rfl) ?_
          refine lv_aload_n hx hb d_Uses_choosePlace_73 rfl (lv_at hl 2 rfl) ?_
          refine lv_iload hx hb d_Uses_choosePlace_74 (lv_at hl 3 rfl) ?_
          refine lv_aload hx hb d_Uses_choosePlace_76 (lv_at hl 4 rfl) ?_
          refine lv_aload hx hb d_Uses_choosePlace_78 (lv_at hl 5 rfl) ?_
          refine same_v C hP hD hS (runV (As := [.int x1, .int x8, .ref (gT 0), .int x4, .ref (gI 0), .ref (gJ 0)]) (rest := []) C hP hD (hcB υ x1 x8 _ h H.size) kw_547 kw_549 kp_8 kw_7 kw_550 hd_Uses_chooseBehind hrX.1 hrX.2 0 rfl rfl rfl rfl hl.1 (Nat.le_of_ble_eq_true rfl) d_Uses_choosePlace_80) (fun u13 H locs h hP hD hS => ?_)
          replace hP : va_P D CL (wUses k gU u13 ++ (wTariff k gT τ f ++ (wOffer k gO ω ++ (wIA18 k gI ι ++ (wIA18 k gJ ϕ))))) H := hP
          replace hD : va_D A (wUses k gU u13 ++ (wTariff k gT τ f ++ (wOffer k gO ω ++ (wIA18 k gI ι ++ (wIA18 k gJ ϕ))))) := hD
          refine W.widen (k := 0) (n := 0) hrX.2.1 hrX.2.2 ?_
          try dsimp only at h
          exact t_Uses_choosePlace_83 hno hrX C N cB τ ω ι ϕ hcB post (wp_Uses_choosePlace_36 N cB τ ω ι ϕ x4 post n) ih x1 x8 u13 _ _ _ hP hD hS (lv_sub hl [0, 1, 2, 3, 4, 5, 6, 7] rfl) h
set_option maxHeartbeats 4000000 in
set_option maxRecDepth 100000 in
theorem t_Uses_choosePlace_23 {p : Program} {l : Launch} {e : Env} {s : State} {m : MethodId} {args : Array Value} {below : List Frame} {meth : Method} {c : Code} {A : Nat → Prop} {D : va_G} {k : Nat → ClassId} {gU : Nat → Nat} {gT : Nat → Nat} {gO : Nat → Nat} {gI : Nat → Nat} {gJ : Nat → Nat} {f : Nat → Option Nat} {x4 : Int32} {rX : Room} {d : Nat} (hno : f (Int32.toNatClampNeg x4) = some (gO 0)) (hrX : (rX.frames + 1 ≤ (rmP d).frames ∧ 8 + (8 + 11) + rX.locals ≤ (rmP d).locals) ∧ (0 + rX.cells ≤ (rmP d).cells ∧ 0 + rX.slots ≤ (rmP d).slots)) (C : Cx p s m args meth c D k "PromotionTill$Uses" b_Uses_choosePlace 9 none A) (N : Nat) (cB : St → Int32 → Int32 → (St → Prop) → Prop) (τ : St) (ω : St) (ι : St) (ϕ : St) (hcB : ∀ (υ : St) (a b : Int32) (post : St → Prop), cB υ a b post → Cv l D k y_Uses_chooseBehind b_Uses_chooseBehind 8 rX [.ref (gU 0), .int a, .int b, .ref (gT 0), .int x4, .ref (gI 0), .ref (gJ 0)] (wUses k gU υ ++ (wTariff k gT τ f ++ (wOffer k gO ω ++ (wIA18 k gI ι ++ wIA18 k gJ ϕ)))) (fun u : St => wUses k gU u ++ (wTariff k gT τ f ++ (wOffer k gO ω ++ (wIA18 k gI ι ++ wIA18 k gJ ϕ)))) post) (post : ((St)) → Prop) :
    ∀ (υ : (St)) (H : Heap) (locs : List Loc) (ls : Array Slot), va_P D CL (wUses k gU υ ++ (wTariff k gT τ f ++ (wOffer k gO ω ++ (wIA18 k gI ι ++ (wIA18 k gJ ϕ))))) H → va_D A (wUses k gU υ ++ (wTariff k gT τ f ++ (wOffer k gO ω ++ (wIA18 k gI ι ++ (wIA18 k gJ ϕ))))) → va_S A s.heap H locs → lv_has ls 9 [(0, .ref (gU 0)), (3, .ref (gT 0)), (4, .int x4), (6, .ref (gJ 0))] → wp_Uses_choosePlace_23 N cB τ ω ι ϕ x4 post υ → W p l e (rmP d) s m args below meth c H locs 0 0 (MQ below (va_Qv post (fun (u : (St)) t => va_P D CL (wUses k gU u ++ (wTariff k gT τ f ++ (wOffer k gO ω ++ (wIA18 k gI ι ++ (wIA18 k gJ ϕ))))) t.heap ∧ va_D A (wUses k gU u ++ (wTariff k gT τ f ++ (wOffer k gO ω ++ (wIA18 k gI ι ++ (wIA18 k gJ ϕ)))))) A) args s (rmP d).cells (rmP d).slots A) (F0 m 23 ls []) := by
  obtain ⟨hx, hb, hr, hlk, hml, hown, hts, hK, hA⟩ := id C
  intro υ H locs ls hP hD hS hl h
  unfold wp_Uses_choosePlace_23 at h
  refine lv_aload_n hx hb d_Uses_choosePlace_23 rfl (lv_at hl 0 rfl) ?_
  refine lv_aload_n hx hb d_Uses_choosePlace_24 rfl (lv_at hl 1 rfl) ?_
  refine lv_iload hx hb d_Uses_choosePlace_25 (lv_at hl 2 rfl) ?_
  refine lv_aload hx hb d_Uses_choosePlace_27 (lv_at hl 3 rfl) ?_
  refine call_v (wr := [(gI 0, .inl (k 0, 18, .inl (ι 0)))]) (wn := (fun u15 : (St) => wUses k gU u15 ++ (wTariff k gT τ f ++ (wOffer k gO ω ++ (wIA18 k gI ι ++ (wIA18 k gJ ϕ)))))) C hP hD hS [0, 1, 2, 3, 4, 5, 6, 7, 8, 9, 10, 11, 12, 13, 15] [14] [1, 2, 3, 4, 5, 6, 7, 8, 9, 10, 11, 12, 13, 14, 0, 15] rfl rfl (by decide) (by decide) (fun _ => rfl) (by decide) (runV (As := [.ref (gT 0), .int x4, .ref (gJ 0)]) (rest := []) C (hP.sub [0, 1, 2, 3, 4, 5, 6, 7, 8, 9, 10, 11, 12, 13, 15] rfl) (hD.sub [0, 1, 2, 3, 4, 5, 6, 7, 8, 9, 10, 11, 12, 13, 15] (by decide) rfl) (m_Uses_keep N gU gT gO gJ f υ τ ω ϕ x4 hno _ h H.size) kw_522 kw_524 kp_4 kw_7 kw_525 hd_Uses_keep ⟨by simp only [rmP]; omega, by simp only [rmP]; omega⟩ ⟨Nat.le_of_ble_eq_true rfl, Nat.le_of_ble_eq_true rfl⟩ 0 rfl rfl rfl rfl hl.1 (Nat.le_of_ble_eq_true rfl) d_Uses_choosePlace_29) (fun u15 H locs h hP hD hS => ?_)
  try dsimp only at h
  exact ret_v (u := u15) (wf := (fun u : (St) => wUses k gU u ++ (wTariff k gT τ f ++ (wOffer k gO ω ++ (wIA18 k gI ι ++ (wIA18 k gJ ϕ)))))) C hP hD hS (Nat.zero_le _) (Nat.zero_le _) h d_Uses_choosePlace_32
set_option maxHeartbeats 4000000 in
set_option maxRecDepth 100000 in
theorem m_Uses_choosePlace {l : Launch} {D : va_G} {k : Nat → ClassId} (N : Nat) (cB : St → Int32 → Int32 → (St → Prop) → Prop) (gU : Nat → Nat) (gT : Nat → Nat) (gO : Nat → Nat) (gI : Nat → Nat) (gJ : Nat → Nat) (f : Nat → Option Nat) (υ : St) (τ : St) (ω : St) (ι : St) (ϕ : St) (x1 : Int32) (x2 : Int32) (x4 : Int32) (hno : f (Int32.toNatClampNeg x4) = some (gO 0)) {rX : Room} {d : Nat} (hrX : (rX.frames + 1 ≤ (rmP d).frames ∧ 8 + (8 + 11) + rX.locals ≤ (rmP d).locals) ∧ (0 + rX.cells ≤ (rmP d).cells ∧ 0 + rX.slots ≤ (rmP d).slots)) (hcB : ∀ (υ : St) (a b : Int32) (post : St → Prop), cB υ a b post → Cv l D k y_Uses_chooseBehind b_Uses_chooseBehind 8 rX [.ref (gU 0), .int a, .int b, .ref (gT 0), .int x4, .ref (gI 0), .ref (gJ 0)] (wUses k gU υ ++ (wTariff k gT τ f ++ (wOffer k gO ω ++ (wIA18 k gI ι ++ wIA18 k gJ ϕ)))) (fun u : St => wUses k gU u ++ (wTariff k gT τ f ++ (wOffer k gO ω ++ (wIA18 k gI ι ++ wIA18 k gJ ϕ)))) post) (post : ((St)) → Prop) (h : wp_Uses_choosePlace N cB υ τ ω ι ϕ x1 x2 x4 post) : Cv l D k y_Uses_choosePlace b_Uses_choosePlace 9 (rmP d) [.ref (gU 0), .int x1, .int x2, .ref (gT 0), .int x4, .ref (gI 0), .ref (gJ 0)] (wUses k gU υ ++ (wTariff k gT τ f ++ (wOffer k gO ω ++ (wIA18 k gI ι ++ (wIA18 k gJ ϕ))))) (fun u : (St) => wUses k gU u ++ (wTariff k gT τ f ++ (wOffer k gO ω ++ (wIA18 k gI ι ++ (wIA18 k gJ ϕ))))) post := by
  refine Cv.of (by decide) (Nat.le_of_ble_eq_true rfl) ?_
  intro p e s m below meth c A H locs ls C hP hD hS hl
  obtain ⟨hx, hb, hr, hlk, hml, hown, hts, hK, hA⟩ := id C
  replace hl : lv_has ls 9 [(0, .ref (gU 0)), (1, .int x1), (2, .int x2), (3, .ref (gT 0)), (4, .int x4), (5, .ref (gI 0)), (6, .ref (gJ 0))] := hl
  unfold wp_Uses_choosePlace at h
  refine lv_aload_n hx hb d_Uses_choosePlace_0 rfl (lv_at hl 3 rfl) ?_
  refine va_get (D := D) (ci := 5) (v := .ref (gT 2)) (C := R_Tariff) (T := F_Tariff) (N := 2) hx hb hts in_Tariff hown hK hP 9 rfl rfl 1 (by decide) (hts _ kw_87) (fun _ h9 => h9) rfl d_Uses_choosePlace_1 ?_
  refine lv_iload hx hb d_Uses_choosePlace_4 (lv_at hl 4 rfl) ?_
  obtain ⟨hi1, h⟩ := h
  refine va_aldq hx hb hK hP 11 3 rfl rfl hi1 d_Uses_choosePlace_6 ?_
  refine W.eq (g2 := F0 m 7 ls [.ref (gO 0)]) (by rw [hno]; rfl) ?_
  refine lv_astore (lv' := [(7, .ref (gO 0)), (0, .ref (gU 0)), (1, .int x1), (2, .int x2), (3, .ref (gT 0)), (4, .int x4), (5, .ref (gI 0)), (6, .ref (gJ 0))]) hx hb d_Uses_choosePlace_7 hl (by decide) rfl (fun ls hl => ?_)
  refine lv_iload_n hx hb d_Uses_choosePlace_9 rfl (lv_at hl 2 rfl) ?_
  refine lv_aload hx hb d_Uses_choosePlace_10 (lv_at hl 0 rfl) ?_
  refine call_i (wr := [(gU 0, .inr (6, [.ref (gU 1), .ref (gU 2), .ref (gU 3), .ref (gU 4), .ref (gU 5), .ref (gU 6), .ref (gU 7), .ref (gU 8), .int (υ 8 0), .int (υ 9 0)])), (gU 1, .inl (k 0, 1260, .inl (υ 0))), (gU 2, .inl (k 0, 1260, .inl (υ 1))), (gU 3, .inl (k 0, 1260, .inl (υ 2))), (gU 4, .inl (k 0, 1260, .inl (υ 3))), (gU 5, .inl (k 0, 12, .inl (υ 4))), (gU 6, .inl (k 0, 12, .inl (υ 5))), (gU 7, .inl (k 0, 12, .inl (υ 6))), (gU 8, .inl (k 0, 1024, .inl (υ 7))), (gT 0, .inr (5, [.ref (gT 1), .ref (gT 2)])), (gT 1, .inl (k 0, 12, .inl (τ 0))), (gT 2, .inl (k 3, 6, .inr (.inr (.inr (.inr f))))), (gI 0, .inl (k 0, 18, .inl (ι 0))), (gJ 0, .inl (k 0, 18, .inl (ϕ 0)))]) (wn := (fun u2 : Unit => wUses k gU υ ++ (wTariff k gT τ f ++ (wOffer k gO ω ++ (wIA18 k gI ι ++ (wIA18 k gJ ϕ)))))) C hP hD hS [12, 13] [0, 1, 2, 3, 4, 5, 6, 7, 8, 9, 10, 11, 14, 15] [0, 1, 2, 3, 4, 5, 6, 7, 8, 9, 10, 11, 14, 15, 12, 13] rfl rfl (by decide) (by decide) (fun _ => rfl) (by decide) (runV (As := []) (rest := [.int x1]) C (hP.sub [12, 13] rfl) (hD.sub [12, 13] (by decide) rfl) (m_Offer_unitsOfUse N gO ω   _ h H.size) kw_521 kw_444 kw_445 kw_4 kw_446 hd_Offer_unitsOfUse ⟨by simp only [rmP]; omega, by simp only [rmP]; omega⟩ ⟨Nat.le_of_ble_eq_true rfl, Nat.le_of_ble_eq_true rfl⟩ 0 rfl rfl rfl rfl hl.1 (Nat.le_of_ble_eq_true rfl) d_Uses_choosePlace_12) (fun r3 u2 H locs h hP hD hS => ?_)
  try dsimp only at h
  refine lv_icmp_ge (tgt := 23) hx hb d_Uses_choosePlace_15 (by decide) (fun c4 => ?_) (fun c4 => ?_)
  · replace h := h.1 c4
    exact t_Uses_choosePlace_23 hno hrX C N cB τ ω ι ϕ hcB post υ _ _ _ hP hD hS (lv_sub hl [1, 4, 5, 7] rfl) h
  · replace h := h.2 c4
    refine lv_iload_n hx hb d_Uses_choosePlace_18 rfl (lv_at hl 2 rfl) ?_
    refine lv_iconst (v := 4) hx hb d_Uses_choosePlace_19 (by decide) ?_
    refine lv_icmp_lt (tgt := 33) hx hb d_Uses_choosePlace_20 (by decide) (fun c5 => ?_) (fun c5 => ?_)
    · replace h := h.1 c5
      refine lv_iload_n hx hb d_Uses_choosePlace_33 rfl (lv_at hl 3 rfl) ?_
      refine lv_istore (lv' := [(8, .int x2), (7, .ref (gO 0)), (0, .ref (gU 0)), (1, .int x1), (2, .int x2), (3, .ref (gT 0)), (4, .int x4), (5, .ref (gI 0)), (6, .ref (gJ 0))]) hx hb d_Uses_choosePlace_34 hl (by decide) rfl (fun ls hl => ?_)
      exact t_Uses_choosePlace_36 hno hrX C N cB τ ω ι ϕ hcB post   N x1 x2 υ _ _ _ hP hD hS (lv_sub hl [2, 3, 5, 6, 7, 8, 1, 0] rfl) h
    · replace h := h.2 c5
      exact t_Uses_choosePlace_23 hno hrX C N cB τ ω ι ϕ hcB post υ _ _ _ hP hD hS (lv_sub hl [1, 4, 5, 7] rfl) h
/-- the recursion, to the depth d -/
def wp_cP (N : Nat) (τ ω ι ϕ : St) (x4 : Int32) : Nat → St → Int32 → Int32 → (St → Prop) → Prop
  | 0, υ, a, b, post => wp_Uses_choosePlace N (fun _ _ _ _ => False) υ τ ω ι ϕ a b x4 post
  | d + 1, υ, a, b, post => wp_Uses_choosePlace N (fun υ a b post => wp_Uses_chooseBehind N (fun υ a b post => wp_cP N τ ω ι ϕ x4 d υ a b post) υ τ ω ι ϕ a b x4 post) υ τ ω ι ϕ a b x4 post
set_option maxHeartbeats 4000000 in
theorem m_cP {l : Launch} {D : va_G} {k : Nat → ClassId} (N : Nat) (gU gT gO gI gJ : Nat → Nat) (f : Nat → Option Nat) (τ ω ι ϕ : St) (x4 : Int32) (hno : f (Int32.toNatClampNeg x4) = some (gO 0)) : ∀ (d : Nat) (υ : St) (a b : Int32) (post : St → Prop), wp_cP N τ ω ι ϕ x4 d υ a b post → Cv l D k y_Uses_choosePlace b_Uses_choosePlace 9 (rmP d) [.ref (gU 0), .int a, .int b, .ref (gT 0), .int x4, .ref (gI 0), .ref (gJ 0)] (wUses k gU υ ++ (wTariff k gT τ f ++ (wOffer k gO ω ++ (wIA18 k gI ι ++ wIA18 k gJ ϕ)))) (fun u : St => wUses k gU u ++ (wTariff k gT τ f ++ (wOffer k gO ω ++ (wIA18 k gI ι ++ wIA18 k gJ ϕ)))) post := by
  intro d
  induction d with
  | zero =>
    intro υ a b post h
    exact m_Uses_choosePlace N (fun _ _ _ _ => False) gU gT gO gI gJ f υ τ ω ι ϕ a b x4 hno (rX := { frames := 0, cells := 0, slots := 0, locals := 0 }) ⟨⟨by simp only [rmP]; omega, by simp only [rmP]; omega⟩, ⟨Nat.zero_le _, Nat.zero_le _⟩⟩ (fun _ _ _ _ h => h.elim) post h
  | succ d ih =>
    intro υ a b post h
    rw [wp_cP] at h
    exact m_Uses_choosePlace N _ gU gT gO gI gJ f υ τ ω ι ϕ a b x4 hno (rX := rmB d) ⟨⟨by simp only [rmP, rmB]; omega, by simp only [rmP, rmB]; omega⟩, ⟨Nat.zero_le _, Nat.zero_le _⟩⟩ (fun υ a b post h => m_Uses_chooseBehind N _ gU gT gO gI gJ f υ τ ω ι ϕ a b x4 hno (rX := rmP d) ⟨⟨by simp only [rmP, rmB]; omega, by simp only [rmP, rmB]; omega⟩, ⟨Nat.zero_le _, Nat.zero_le _⟩⟩ (fun υ a b post h => ih υ a b post h) post h) post h
